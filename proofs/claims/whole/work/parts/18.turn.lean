theorem dX7_begin_0 : decode cX7_begin 0 = .ok (.aload_n 0, 1) := by decide +kernel
theorem dX7_begin_1 : decode cX7_begin 1 = .ok (.getfield 12, 3) := by decide +kernel
theorem dX7_begin_4 : decode cX7_begin 4 = .ok (.invokevirtual 58, 3) := by decide +kernel
theorem dX7_begin_7 : decode cX7_begin 7 = .ok (.aload_n 0, 1) := by decide +kernel
theorem dX7_begin_8 : decode cX7_begin 8 = .ok (.getfield 21, 3) := by decide +kernel
theorem dX7_begin_11 : decode cX7_begin 11 = .ok (.invokevirtual 61, 3) := by decide +kernel
theorem dX7_begin_14 : decode cX7_begin 14 = .ok (.aload_n 0, 1) := by decide +kernel
theorem dX7_begin_15 : decode cX7_begin 15 = .ok (.iconst 0, 1) := by decide +kernel
theorem dX7_begin_16 : decode cX7_begin 16 = .ok (.putfield 36, 3) := by decide +kernel
theorem dX7_begin_19 : decode cX7_begin 19 = .ok (.aload_n 0, 1) := by decide +kernel
theorem dX7_begin_20 : decode cX7_begin 20 = .ok (.iconst 0, 1) := by decide +kernel
theorem dX7_begin_21 : decode cX7_begin 21 = .ok (.putfield 40, 3) := by decide +kernel
theorem dX7_begin_24 : decode cX7_begin 24 = .ok (.aload_n 0, 1) := by decide +kernel
theorem dX7_begin_25 : decode cX7_begin 25 = .ok (.iconst 0, 1) := by decide +kernel
theorem dX7_begin_26 : decode cX7_begin 26 = .ok (.putfield 46, 3) := by decide +kernel
theorem dX7_begin_29 : decode cX7_begin 29 = .ok (.iconst 0, 1) := by decide +kernel
theorem dX7_begin_30 : decode cX7_begin 30 = .ok (.istore_n 1, 1) := by decide +kernel
theorem dX7_begin_31 : decode cX7_begin 31 = .ok (.iload_n 1, 1) := by decide +kernel
theorem dX7_begin_32 : decode cX7_begin 32 = .ok (.sipush 1661, 3) := by decide +kernel
theorem dX7_begin_35 : decode cX7_begin 35 = .ok (.if_icmp .ge 16, 3) := by decide +kernel
theorem dX7_begin_38 : decode cX7_begin 38 = .ok (.aload_n 0, 1) := by decide +kernel
theorem dX7_begin_39 : decode cX7_begin 39 = .ok (.getfield 32, 3) := by decide +kernel
theorem dX7_begin_42 : decode cX7_begin 42 = .ok (.iload_n 1, 1) := by decide +kernel
theorem dX7_begin_43 : decode cX7_begin 43 = .ok (.iconst 0, 1) := by decide +kernel
theorem dX7_begin_44 : decode cX7_begin 44 = .ok (.bastore, 1) := by decide +kernel
theorem dX7_begin_45 : decode cX7_begin 45 = .ok (.iinc 1 1, 3) := by decide +kernel
theorem dX7_begin_48 : decode cX7_begin 48 = .ok (.goto (-17), 3) := by decide +kernel
theorem dX7_begin_51 : decode cX7_begin 51 = .ok (.aload_n 0, 1) := by decide +kernel
theorem dX7_begin_52 : decode cX7_begin 52 = .ok (.getfield 54, 3) := by decide +kernel
theorem dX7_begin_55 : decode cX7_begin 55 = .ok (.invokevirtual 62, 3) := by decide +kernel
theorem dX7_begin_58 : decode cX7_begin 58 = .ok (.istore_n 1, 1) := by decide +kernel
theorem dX7_begin_59 : decode cX7_begin 59 = .ok (.iconst 0, 1) := by decide +kernel
theorem dX7_begin_60 : decode cX7_begin 60 = .ok (.istore_n 2, 1) := by decide +kernel
theorem dX7_begin_61 : decode cX7_begin 61 = .ok (.iload_n 2, 1) := by decide +kernel
theorem dX7_begin_62 : decode cX7_begin 62 = .ok (.iload_n 1, 1) := by decide +kernel
theorem dX7_begin_63 : decode cX7_begin 63 = .ok (.if_icmp .ge 33, 3) := by decide +kernel
theorem dX7_begin_66 : decode cX7_begin 66 = .ok (.aload_n 0, 1) := by decide +kernel
theorem dX7_begin_67 : decode cX7_begin 67 = .ok (.aload_n 0, 1) := by decide +kernel
theorem dX7_begin_68 : decode cX7_begin 68 = .ok (.getfield 54, 3) := by decide +kernel
theorem dX7_begin_71 : decode cX7_begin 71 = .ok (.iload_n 2, 1) := by decide +kernel
theorem dX7_begin_72 : decode cX7_begin 72 = .ok (.bipush 8, 2) := by decide +kernel
theorem dX7_begin_74 : decode cX7_begin 74 = .ok (.invokevirtual 67, 3) := by decide +kernel
theorem dX7_begin_77 : decode cX7_begin 77 = .ok (.aload_n 0, 1) := by decide +kernel
theorem dX7_begin_78 : decode cX7_begin 78 = .ok (.getfield 54, 3) := by decide +kernel
theorem dX7_begin_81 : decode cX7_begin 81 = .ok (.iload_n 2, 1) := by decide +kernel
theorem dX7_begin_82 : decode cX7_begin 82 = .ok (.bipush 9, 2) := by decide +kernel
theorem dX7_begin_84 : decode cX7_begin 84 = .ok (.invokevirtual 67, 3) := by decide +kernel
theorem dX7_begin_87 : decode cX7_begin 87 = .ok (.invokevirtual 71, 3) := by decide +kernel
theorem dX7_begin_90 : decode cX7_begin 90 = .ok (.iinc 2 1, 3) := by decide +kernel
theorem dX7_begin_93 : decode cX7_begin 93 = .ok (.goto (-32), 3) := by decide +kernel
theorem dX7_begin_96 : decode cX7_begin 96 = .ok (.return_, 1) := by decide +kernel
theorem dX7_chunks_0 : decode cX7_chunks 0 = .ok (.aload_n 0, 1) := by decide +kernel
theorem dX7_chunks_1 : decode cX7_chunks 1 = .ok (.getfield 36, 3) := by decide +kernel
theorem dX7_chunks_4 : decode cX7_chunks 4 = .ok (.ireturn, 1) := by decide +kernel
theorem dX7_chunksMade_0 : decode cX7_chunksMade 0 = .ok (.aload_n 0, 1) := by decide +kernel
theorem dX7_chunksMade_1 : decode cX7_chunksMade 1 = .ok (.getfield 40, 3) := by decide +kernel
theorem dX7_chunksMade_4 : decode cX7_chunksMade 4 = .ok (.ireturn, 1) := by decide +kernel
theorem dX7_lacksSpace_0 : decode cX7_lacksSpace 0 = .ok (.aload_n 0, 1) := by decide +kernel
theorem dX7_lacksSpace_1 : decode cX7_lacksSpace 1 = .ok (.getfield 46, 3) := by decide +kernel
theorem dX7_lacksSpace_4 : decode cX7_lacksSpace 4 = .ok (.ireturn, 1) := by decide +kernel
theorem dX7_pointsOpen_0 : decode cX7_pointsOpen 0 = .ok (.aload_n 0, 1) := by decide +kernel
theorem dX7_pointsOpen_1 : decode cX7_pointsOpen 1 = .ok (.getfield 21, 3) := by decide +kernel
theorem dX7_pointsOpen_4 : decode cX7_pointsOpen 4 = .ok (.getfield 75, 3) := by decide +kernel
theorem dX7_pointsOpen_7 : decode cX7_pointsOpen 7 = .ok (.ireturn, 1) := by decide +kernel
theorem dX7_keep_0 : decode cX7_keep 0 = .ok (.aload_n 0, 1) := by decide +kernel
theorem dX7_keep_1 : decode cX7_keep 1 = .ok (.getfield 36, 3) := by decide +kernel
theorem dX7_keep_4 : decode cX7_keep 4 = .ok (.bipush 96, 2) := by decide +kernel
theorem dX7_keep_6 : decode cX7_keep 6 = .ok (.if_icmp .lt 9, 3) := by decide +kernel
theorem dX7_keep_9 : decode cX7_keep 9 = .ok (.aload_n 0, 1) := by decide +kernel
theorem dX7_keep_10 : decode cX7_keep 10 = .ok (.iconst 1, 1) := by decide +kernel
theorem dX7_keep_11 : decode cX7_keep 11 = .ok (.putfield 46, 3) := by decide +kernel
theorem dX7_keep_14 : decode cX7_keep 14 = .ok (.return_, 1) := by decide +kernel
theorem dX7_keep_15 : decode cX7_keep 15 = .ok (.iconst 0, 1) := by decide +kernel
theorem dX7_keep_16 : decode cX7_keep 16 = .ok (.istore_n 2, 1) := by decide +kernel
theorem dX7_keep_17 : decode cX7_keep 17 = .ok (.iload_n 2, 1) := by decide +kernel
theorem dX7_keep_18 : decode cX7_keep 18 = .ok (.bipush 10, 2) := by decide +kernel
theorem dX7_keep_20 : decode cX7_keep 20 = .ok (.if_icmp .ge 34, 3) := by decide +kernel
theorem dX7_keep_23 : decode cX7_keep 23 = .ok (.aload_n 0, 1) := by decide +kernel
theorem dX7_keep_24 : decode cX7_keep 24 = .ok (.getfield 25, 3) := by decide +kernel
theorem dX7_keep_27 : decode cX7_keep 27 = .ok (.iconst 1, 1) := by decide +kernel
theorem dX7_keep_28 : decode cX7_keep 28 = .ok (.aload_n 0, 1) := by decide +kernel
theorem dX7_keep_29 : decode cX7_keep 29 = .ok (.getfield 36, 3) := by decide +kernel
theorem dX7_keep_32 : decode cX7_keep 32 = .ok (.bipush 10, 2) := by decide +kernel
theorem dX7_keep_34 : decode cX7_keep 34 = .ok (.imul, 1) := by decide +kernel
theorem dX7_keep_35 : decode cX7_keep 35 = .ok (.iadd, 1) := by decide +kernel
theorem dX7_keep_36 : decode cX7_keep 36 = .ok (.iload_n 2, 1) := by decide +kernel
theorem dX7_keep_37 : decode cX7_keep 37 = .ok (.iadd, 1) := by decide +kernel
theorem dX7_keep_38 : decode cX7_keep 38 = .ok (.aload_n 0, 1) := by decide +kernel
theorem dX7_keep_39 : decode cX7_keep 39 = .ok (.getfield 54, 3) := by decide +kernel
theorem dX7_keep_42 : decode cX7_keep 42 = .ok (.iload_n 1, 1) := by decide +kernel
theorem dX7_keep_43 : decode cX7_keep 43 = .ok (.iload_n 2, 1) := by decide +kernel
theorem dX7_keep_44 : decode cX7_keep 44 = .ok (.invokevirtual 67, 3) := by decide +kernel
theorem dX7_keep_47 : decode cX7_keep 47 = .ok (.iastore, 1) := by decide +kernel
theorem dX7_keep_48 : decode cX7_keep 48 = .ok (.iinc 2 1, 3) := by decide +kernel
theorem dX7_keep_51 : decode cX7_keep 51 = .ok (.goto (-34), 3) := by decide +kernel
theorem dX7_keep_54 : decode cX7_keep 54 = .ok (.aload_n 0, 1) := by decide +kernel
theorem dX7_keep_55 : decode cX7_keep 55 = .ok (.getfield 29, 3) := by decide +kernel
theorem dX7_keep_58 : decode cX7_keep 58 = .ok (.aload_n 0, 1) := by decide +kernel
theorem dX7_keep_59 : decode cX7_keep 59 = .ok (.getfield 36, 3) := by decide +kernel
theorem dX7_keep_62 : decode cX7_keep 62 = .ok (.iconst (-1), 1) := by decide +kernel
theorem dX7_keep_63 : decode cX7_keep 63 = .ok (.iastore, 1) := by decide +kernel
theorem dX7_keep_64 : decode cX7_keep 64 = .ok (.aload_n 0, 1) := by decide +kernel
theorem dX7_keep_65 : decode cX7_keep 65 = .ok (.dup, 1) := by decide +kernel
theorem dX7_keep_66 : decode cX7_keep 66 = .ok (.getfield 36, 3) := by decide +kernel
theorem dX7_keep_69 : decode cX7_keep 69 = .ok (.iconst 1, 1) := by decide +kernel
theorem dX7_keep_70 : decode cX7_keep 70 = .ok (.iadd, 1) := by decide +kernel
theorem dX7_keep_71 : decode cX7_keep 71 = .ok (.putfield 36, 3) := by decide +kernel
theorem dX7_keep_74 : decode cX7_keep 74 = .ok (.return_, 1) := by decide +kernel
theorem dX7_pack_0 : decode cX7_pack 0 = .ok (.aload_n 0, 1) := by decide +kernel
theorem dX7_pack_1 : decode cX7_pack 1 = .ok (.getfield 21, 3) := by decide +kernel
theorem dX7_pack_4 : decode cX7_pack 4 = .ok (.getfield 75, 3) := by decide +kernel
theorem dX7_pack_7 : decode cX7_pack 7 = .ok (.ifCond .ne 26, 3) := by decide +kernel
theorem dX7_pack_10 : decode cX7_pack 10 = .ok (.aload_n 0, 1) := by decide +kernel
theorem dX7_pack_11 : decode cX7_pack 11 = .ok (.aload_n 0, 1) := by decide +kernel
theorem dX7_pack_12 : decode cX7_pack 12 = .ok (.getfield 12, 3) := by decide +kernel
theorem dX7_pack_15 : decode cX7_pack 15 = .ok (.invokevirtual 78, 3) := by decide +kernel
theorem dX7_pack_18 : decode cX7_pack 18 = .ok (.putfield 43, 3) := by decide +kernel
theorem dX7_pack_21 : decode cX7_pack 21 = .ok (.aload_n 0, 1) := by decide +kernel
theorem dX7_pack_22 : decode cX7_pack 22 = .ok (.getfield 12, 3) := by decide +kernel
theorem dX7_pack_25 : decode cX7_pack 25 = .ok (.iload_n 1, 1) := by decide +kernel
theorem dX7_pack_26 : decode cX7_pack 26 = .ok (.iload_n 2, 1) := by decide +kernel
theorem dX7_pack_27 : decode cX7_pack 27 = .ok (.invokevirtual 81, 3) := by decide +kernel
theorem dX7_pack_30 : decode cX7_pack 30 = .ok (.goto 12, 3) := by decide +kernel
theorem dX7_pack_33 : decode cX7_pack 33 = .ok (.aload_n 0, 1) := by decide +kernel
theorem dX7_pack_34 : decode cX7_pack 34 = .ok (.getfield 12, 3) := by decide +kernel
theorem dX7_pack_37 : decode cX7_pack 37 = .ok (.iload_n 1, 1) := by decide +kernel
theorem dX7_pack_38 : decode cX7_pack 38 = .ok (.iload_n 2, 1) := by decide +kernel
theorem dX7_pack_39 : decode cX7_pack 39 = .ok (.invokevirtual 84, 3) := by decide +kernel
theorem dX7_pack_42 : decode cX7_pack 42 = .ok (.aload_n 0, 1) := by decide +kernel
theorem dX7_pack_43 : decode cX7_pack 43 = .ok (.getfield 21, 3) := by decide +kernel
theorem dX7_pack_46 : decode cX7_pack 46 = .ok (.iload_n 1, 1) := by decide +kernel
theorem dX7_pack_47 : decode cX7_pack 47 = .ok (.iload_n 2, 1) := by decide +kernel
theorem dX7_pack_48 : decode cX7_pack 48 = .ok (.invokevirtual 87, 3) := by decide +kernel
theorem dX7_pack_51 : decode cX7_pack 51 = .ok (.return_, 1) := by decide +kernel
theorem dX7_seal_0 : decode cX7_seal 0 = .ok (.aload_n 0, 1) := by decide +kernel
theorem dX7_seal_1 : decode cX7_seal 1 = .ok (.getfield 21, 3) := by decide +kernel
theorem dX7_seal_4 : decode cX7_seal 4 = .ok (.getfield 75, 3) := by decide +kernel
theorem dX7_seal_7 : decode cX7_seal 7 = .ok (.ifCond .ne 4, 3) := by decide +kernel
theorem dX7_seal_10 : decode cX7_seal 10 = .ok (.return_, 1) := by decide +kernel
theorem dX7_seal_11 : decode cX7_seal 11 = .ok (.aload_n 0, 1) := by decide +kernel
theorem dX7_seal_12 : decode cX7_seal 12 = .ok (.getfield 12, 3) := by decide +kernel
theorem dX7_seal_15 : decode cX7_seal 15 = .ok (.invokevirtual 78, 3) := by decide +kernel
theorem dX7_seal_18 : decode cX7_seal 18 = .ok (.aload_n 0, 1) := by decide +kernel
theorem dX7_seal_19 : decode cX7_seal 19 = .ok (.getfield 43, 3) := by decide +kernel
theorem dX7_seal_22 : decode cX7_seal 22 = .ok (.isub, 1) := by decide +kernel
theorem dX7_seal_23 : decode cX7_seal 23 = .ok (.istore_n 2, 1) := by decide +kernel
theorem dX7_seal_24 : decode cX7_seal 24 = .ok (.aload_n 0, 1) := by decide +kernel
theorem dX7_seal_25 : decode cX7_seal 25 = .ok (.iload_n 2, 1) := by decide +kernel
theorem dX7_seal_26 : decode cX7_seal 26 = .ok (.invokevirtual 90, 3) := by decide +kernel
theorem dX7_seal_29 : decode cX7_seal 29 = .ok (.istore_n 3, 1) := by decide +kernel
theorem dX7_seal_30 : decode cX7_seal 30 = .ok (.aload_n 0, 1) := by decide +kernel
theorem dX7_seal_31 : decode cX7_seal 31 = .ok (.getfield 12, 3) := by decide +kernel
theorem dX7_seal_34 : decode cX7_seal 34 = .ok (.invokevirtual 94, 3) := by decide +kernel
theorem dX7_seal_37 : decode cX7_seal 37 = .ok (.ifCond .ne 17, 3) := by decide +kernel
theorem dX7_seal_40 : decode cX7_seal 40 = .ok (.iload_n 3, 1) := by decide +kernel
theorem dX7_seal_41 : decode cX7_seal 41 = .ok (.iconst (-1), 1) := by decide +kernel
theorem dX7_seal_42 : decode cX7_seal 42 = .ok (.if_icmp .eq 12, 3) := by decide +kernel
theorem dX7_seal_45 : decode cX7_seal 45 = .ok (.aload_n 0, 1) := by decide +kernel
theorem dX7_seal_46 : decode cX7_seal 46 = .ok (.getfield 36, 3) := by decide +kernel
theorem dX7_seal_49 : decode cX7_seal 49 = .ok (.bipush 96, 2) := by decide +kernel
theorem dX7_seal_51 : decode cX7_seal 51 = .ok (.if_icmp .lt 11, 3) := by decide +kernel
theorem dX7_seal_54 : decode cX7_seal 54 = .ok (.aload_n 0, 1) := by decide +kernel
theorem dX7_seal_55 : decode cX7_seal 55 = .ok (.iconst 1, 1) := by decide +kernel
theorem dX7_seal_56 : decode cX7_seal 56 = .ok (.putfield 46, 3) := by decide +kernel
theorem dX7_seal_59 : decode cX7_seal 59 = .ok (.goto 16, 3) := by decide +kernel
theorem dX7_seal_62 : decode cX7_seal 62 = .ok (.aload_n 0, 1) := by decide +kernel
theorem dX7_seal_63 : decode cX7_seal 63 = .ok (.iload_n 3, 1) := by decide +kernel
theorem dX7_seal_64 : decode cX7_seal 64 = .ok (.iload_n 2, 1) := by decide +kernel
theorem dX7_seal_65 : decode cX7_seal 65 = .ok (.invokevirtual 71, 3) := by decide +kernel
theorem dX7_seal_68 : decode cX7_seal 68 = .ok (.aload_n 0, 1) := by decide +kernel
theorem dX7_seal_69 : decode cX7_seal 69 = .ok (.iload_n 1, 1) := by decide +kernel
theorem dX7_seal_70 : decode cX7_seal 70 = .ok (.iload_n 3, 1) := by decide +kernel
theorem dX7_seal_71 : decode cX7_seal 71 = .ok (.iload_n 2, 1) := by decide +kernel
theorem dX7_seal_72 : decode cX7_seal 72 = .ok (.invokevirtual 98, 3) := by decide +kernel
theorem dX7_seal_75 : decode cX7_seal 75 = .ok (.aload_n 0, 1) := by decide +kernel
theorem dX7_seal_76 : decode cX7_seal 76 = .ok (.dup, 1) := by decide +kernel
theorem dX7_seal_77 : decode cX7_seal 77 = .ok (.getfield 40, 3) := by decide +kernel
theorem dX7_seal_80 : decode cX7_seal 80 = .ok (.iconst 1, 1) := by decide +kernel
theorem dX7_seal_81 : decode cX7_seal 81 = .ok (.iadd, 1) := by decide +kernel
theorem dX7_seal_82 : decode cX7_seal 82 = .ok (.putfield 40, 3) := by decide +kernel
theorem dX7_seal_85 : decode cX7_seal 85 = .ok (.aload_n 0, 1) := by decide +kernel
theorem dX7_seal_86 : decode cX7_seal 86 = .ok (.getfield 21, 3) := by decide +kernel
theorem dX7_seal_89 : decode cX7_seal 89 = .ok (.invokevirtual 61, 3) := by decide +kernel
theorem dX7_seal_92 : decode cX7_seal 92 = .ok (.return_, 1) := by decide +kernel
theorem dX7_writeOut_0 : decode cX7_writeOut 0 = .ok (.iconst 1, 1) := by decide +kernel
theorem dX7_writeOut_1 : decode cX7_writeOut 1 = .ok (.aload_n 0, 1) := by decide +kernel
theorem dX7_writeOut_2 : decode cX7_writeOut 2 = .ok (.getfield 50, 3) := by decide +kernel
theorem dX7_writeOut_5 : decode cX7_writeOut 5 = .ok (.invokevirtual 102, 3) := by decide +kernel
theorem dX7_writeOut_8 : decode cX7_writeOut 8 = .ok (.isub, 1) := by decide +kernel
theorem dX7_writeOut_9 : decode cX7_writeOut 9 = .ok (.istore_n 2, 1) := by decide +kernel
theorem dX7_writeOut_10 : decode cX7_writeOut 10 = .ok (.aload_n 0, 1) := by decide +kernel
theorem dX7_writeOut_11 : decode cX7_writeOut 11 = .ok (.invokevirtual 107, 3) := by decide +kernel
theorem dX7_writeOut_14 : decode cX7_writeOut 14 = .ok (.ifCond .eq 34, 3) := by decide +kernel
theorem dX7_writeOut_17 : decode cX7_writeOut 17 = .ok (.aload_n 0, 1) := by decide +kernel
theorem dX7_writeOut_18 : decode cX7_writeOut 18 = .ok (.iload_n 2, 1) := by decide +kernel
theorem dX7_writeOut_19 : decode cX7_writeOut 19 = .ok (.invokestatic 110, 3) := by decide +kernel
theorem dX7_writeOut_22 : decode cX7_writeOut 22 = .ok (.invokevirtual 113, 3) := by decide +kernel
theorem dX7_writeOut_25 : decode cX7_writeOut 25 = .ok (.ifCond .eq 23, 3) := by decide +kernel
theorem dX7_writeOut_28 : decode cX7_writeOut 28 = .ok (.aload_n 0, 1) := by decide +kernel
theorem dX7_writeOut_29 : decode cX7_writeOut 29 = .ok (.getfield 50, 3) := by decide +kernel
theorem dX7_writeOut_32 : decode cX7_writeOut 32 = .ok (.iconst 0, 1) := by decide +kernel
theorem dX7_writeOut_33 : decode cX7_writeOut 33 = .ok (.iconst 2, 1) := by decide +kernel
theorem dX7_writeOut_34 : decode cX7_writeOut 34 = .ok (.iload_n 1, 1) := by decide +kernel
theorem dX7_writeOut_35 : decode cX7_writeOut 35 = .ok (.imul, 1) := by decide +kernel
theorem dX7_writeOut_36 : decode cX7_writeOut 36 = .ok (.iload_n 2, 1) := by decide +kernel
theorem dX7_writeOut_37 : decode cX7_writeOut 37 = .ok (.iadd, 1) := by decide +kernel
theorem dX7_writeOut_38 : decode cX7_writeOut 38 = .ok (.invokevirtual 117, 3) := by decide +kernel
theorem dX7_writeOut_41 : decode cX7_writeOut 41 = .ok (.ifCond .eq 7, 3) := by decide +kernel
theorem dX7_writeOut_44 : decode cX7_writeOut 44 = .ok (.iconst 1, 1) := by decide +kernel
theorem dX7_writeOut_45 : decode cX7_writeOut 45 = .ok (.goto 4, 3) := by decide +kernel
theorem dX7_writeOut_48 : decode cX7_writeOut 48 = .ok (.iconst 0, 1) := by decide +kernel
theorem dX7_writeOut_49 : decode cX7_writeOut 49 = .ok (.ireturn, 1) := by decide +kernel
theorem dX7_addEntry_0 : decode cX7_addEntry 0 = .ok (.iconst 1, 1) := by decide +kernel
theorem dX7_addEntry_1 : decode cX7_addEntry 1 = .ok (.aload_n 0, 1) := by decide +kernel
theorem dX7_addEntry_2 : decode cX7_addEntry 2 = .ok (.getfield 36, 3) := by decide +kernel
theorem dX7_addEntry_5 : decode cX7_addEntry 5 = .ok (.bipush 10, 2) := by decide +kernel
theorem dX7_addEntry_7 : decode cX7_addEntry 7 = .ok (.imul, 1) := by decide +kernel
theorem dX7_addEntry_8 : decode cX7_addEntry 8 = .ok (.iadd, 1) := by decide +kernel
theorem dX7_addEntry_9 : decode cX7_addEntry 9 = .ok (.istore 4, 2) := by decide +kernel
theorem dX7_addEntry_11 : decode cX7_addEntry 11 = .ok (.aload_n 0, 1) := by decide +kernel
theorem dX7_addEntry_12 : decode cX7_addEntry 12 = .ok (.getfield 25, 3) := by decide +kernel
theorem dX7_addEntry_15 : decode cX7_addEntry 15 = .ok (.iload 4, 2) := by decide +kernel
theorem dX7_addEntry_17 : decode cX7_addEntry 17 = .ok (.iconst 0, 1) := by decide +kernel
theorem dX7_addEntry_18 : decode cX7_addEntry 18 = .ok (.iadd, 1) := by decide +kernel
theorem dX7_addEntry_19 : decode cX7_addEntry 19 = .ok (.iload_n 1, 1) := by decide +kernel
theorem dX7_addEntry_20 : decode cX7_addEntry 20 = .ok (.iastore, 1) := by decide +kernel
theorem dX7_addEntry_21 : decode cX7_addEntry 21 = .ok (.aload_n 0, 1) := by decide +kernel
theorem dX7_addEntry_22 : decode cX7_addEntry 22 = .ok (.getfield 25, 3) := by decide +kernel
theorem dX7_addEntry_25 : decode cX7_addEntry 25 = .ok (.iload 4, 2) := by decide +kernel
theorem dX7_addEntry_27 : decode cX7_addEntry 27 = .ok (.iconst 1, 1) := by decide +kernel
theorem dX7_addEntry_28 : decode cX7_addEntry 28 = .ok (.iadd, 1) := by decide +kernel
theorem dX7_addEntry_29 : decode cX7_addEntry 29 = .ok (.aload_n 0, 1) := by decide +kernel
theorem dX7_addEntry_30 : decode cX7_addEntry 30 = .ok (.getfield 21, 3) := by decide +kernel
theorem dX7_addEntry_33 : decode cX7_addEntry 33 = .ok (.getfield 121, 3) := by decide +kernel
theorem dX7_addEntry_36 : decode cX7_addEntry 36 = .ok (.iastore, 1) := by decide +kernel
theorem dX7_addEntry_37 : decode cX7_addEntry 37 = .ok (.aload_n 0, 1) := by decide +kernel
theorem dX7_addEntry_38 : decode cX7_addEntry 38 = .ok (.getfield 25, 3) := by decide +kernel
theorem dX7_addEntry_41 : decode cX7_addEntry 41 = .ok (.iload 4, 2) := by decide +kernel
theorem dX7_addEntry_43 : decode cX7_addEntry 43 = .ok (.iconst 2, 1) := by decide +kernel
theorem dX7_addEntry_44 : decode cX7_addEntry 44 = .ok (.iadd, 1) := by decide +kernel
theorem dX7_addEntry_45 : decode cX7_addEntry 45 = .ok (.aload_n 0, 1) := by decide +kernel
theorem dX7_addEntry_46 : decode cX7_addEntry 46 = .ok (.getfield 21, 3) := by decide +kernel
theorem dX7_addEntry_49 : decode cX7_addEntry 49 = .ok (.getfield 124, 3) := by decide +kernel
theorem dX7_addEntry_52 : decode cX7_addEntry 52 = .ok (.iastore, 1) := by decide +kernel
theorem dX7_addEntry_53 : decode cX7_addEntry 53 = .ok (.aload_n 0, 1) := by decide +kernel
theorem dX7_addEntry_54 : decode cX7_addEntry 54 = .ok (.getfield 25, 3) := by decide +kernel
theorem dX7_addEntry_57 : decode cX7_addEntry 57 = .ok (.iload 4, 2) := by decide +kernel
theorem dX7_addEntry_59 : decode cX7_addEntry 59 = .ok (.iconst 3, 1) := by decide +kernel
theorem dX7_addEntry_60 : decode cX7_addEntry 60 = .ok (.iadd, 1) := by decide +kernel
theorem dX7_addEntry_61 : decode cX7_addEntry 61 = .ok (.aload_n 0, 1) := by decide +kernel
theorem dX7_addEntry_62 : decode cX7_addEntry 62 = .ok (.getfield 21, 3) := by decide +kernel
theorem dX7_addEntry_65 : decode cX7_addEntry 65 = .ok (.getfield 75, 3) := by decide +kernel
theorem dX7_addEntry_68 : decode cX7_addEntry 68 = .ok (.iastore, 1) := by decide +kernel
theorem dX7_addEntry_69 : decode cX7_addEntry 69 = .ok (.aload_n 0, 1) := by decide +kernel
theorem dX7_addEntry_70 : decode cX7_addEntry 70 = .ok (.getfield 25, 3) := by decide +kernel
theorem dX7_addEntry_73 : decode cX7_addEntry 73 = .ok (.iload 4, 2) := by decide +kernel
theorem dX7_addEntry_75 : decode cX7_addEntry 75 = .ok (.iconst 4, 1) := by decide +kernel
theorem dX7_addEntry_76 : decode cX7_addEntry 76 = .ok (.iadd, 1) := by decide +kernel
theorem dX7_addEntry_77 : decode cX7_addEntry 77 = .ok (.aload_n 0, 1) := by decide +kernel
theorem dX7_addEntry_78 : decode cX7_addEntry 78 = .ok (.getfield 21, 3) := by decide +kernel
theorem dX7_addEntry_81 : decode cX7_addEntry 81 = .ok (.getfield 127, 3) := by decide +kernel
theorem dX7_addEntry_84 : decode cX7_addEntry 84 = .ok (.iastore, 1) := by decide +kernel
theorem dX7_addEntry_85 : decode cX7_addEntry 85 = .ok (.aload_n 0, 1) := by decide +kernel
theorem dX7_addEntry_86 : decode cX7_addEntry 86 = .ok (.getfield 25, 3) := by decide +kernel
theorem dX7_addEntry_89 : decode cX7_addEntry 89 = .ok (.iload 4, 2) := by decide +kernel
theorem dX7_addEntry_91 : decode cX7_addEntry 91 = .ok (.iconst 5, 1) := by decide +kernel
theorem dX7_addEntry_92 : decode cX7_addEntry 92 = .ok (.iadd, 1) := by decide +kernel
theorem dX7_addEntry_93 : decode cX7_addEntry 93 = .ok (.aload_n 0, 1) := by decide +kernel
theorem dX7_addEntry_94 : decode cX7_addEntry 94 = .ok (.getfield 21, 3) := by decide +kernel
theorem dX7_addEntry_97 : decode cX7_addEntry 97 = .ok (.getfield 130, 3) := by decide +kernel
theorem dX7_addEntry_100 : decode cX7_addEntry 100 = .ok (.iastore, 1) := by decide +kernel
theorem dX7_addEntry_101 : decode cX7_addEntry 101 = .ok (.aload_n 0, 1) := by decide +kernel
theorem dX7_addEntry_102 : decode cX7_addEntry 102 = .ok (.getfield 25, 3) := by decide +kernel
theorem dX7_addEntry_105 : decode cX7_addEntry 105 = .ok (.iload 4, 2) := by decide +kernel
theorem dX7_addEntry_107 : decode cX7_addEntry 107 = .ok (.bipush 6, 2) := by decide +kernel
theorem dX7_addEntry_109 : decode cX7_addEntry 109 = .ok (.iadd, 1) := by decide +kernel
theorem dX7_addEntry_110 : decode cX7_addEntry 110 = .ok (.aload_n 0, 1) := by decide +kernel
theorem dX7_addEntry_111 : decode cX7_addEntry 111 = .ok (.getfield 21, 3) := by decide +kernel
theorem dX7_addEntry_114 : decode cX7_addEntry 114 = .ok (.getfield 133, 3) := by decide +kernel
theorem dX7_addEntry_117 : decode cX7_addEntry 117 = .ok (.bipush 32, 2) := by decide +kernel
theorem dX7_addEntry_119 : decode cX7_addEntry 119 = .ok (.lshr, 1) := by decide +kernel
theorem dX7_addEntry_120 : decode cX7_addEntry 120 = .ok (.l2i, 1) := by decide +kernel
theorem dX7_addEntry_121 : decode cX7_addEntry 121 = .ok (.iastore, 1) := by decide +kernel
theorem dX7_addEntry_122 : decode cX7_addEntry 122 = .ok (.aload_n 0, 1) := by decide +kernel
theorem dX7_addEntry_123 : decode cX7_addEntry 123 = .ok (.getfield 25, 3) := by decide +kernel
theorem dX7_addEntry_126 : decode cX7_addEntry 126 = .ok (.iload 4, 2) := by decide +kernel
theorem dX7_addEntry_128 : decode cX7_addEntry 128 = .ok (.bipush 7, 2) := by decide +kernel
theorem dX7_addEntry_130 : decode cX7_addEntry 130 = .ok (.iadd, 1) := by decide +kernel
theorem dX7_addEntry_131 : decode cX7_addEntry 131 = .ok (.aload_n 0, 1) := by decide +kernel
theorem dX7_addEntry_132 : decode cX7_addEntry 132 = .ok (.getfield 21, 3) := by decide +kernel
theorem dX7_addEntry_135 : decode cX7_addEntry 135 = .ok (.getfield 133, 3) := by decide +kernel
theorem dX7_addEntry_138 : decode cX7_addEntry 138 = .ok (.l2i, 1) := by decide +kernel
theorem dX7_addEntry_139 : decode cX7_addEntry 139 = .ok (.iastore, 1) := by decide +kernel
theorem dX7_addEntry_140 : decode cX7_addEntry 140 = .ok (.aload_n 0, 1) := by decide +kernel
theorem dX7_addEntry_141 : decode cX7_addEntry 141 = .ok (.getfield 25, 3) := by decide +kernel
theorem dX7_addEntry_144 : decode cX7_addEntry 144 = .ok (.iload 4, 2) := by decide +kernel
theorem dX7_addEntry_146 : decode cX7_addEntry 146 = .ok (.bipush 8, 2) := by decide +kernel
theorem dX7_addEntry_148 : decode cX7_addEntry 148 = .ok (.iadd, 1) := by decide +kernel
theorem dX7_addEntry_149 : decode cX7_addEntry 149 = .ok (.iload_n 2, 1) := by decide +kernel
theorem dX7_addEntry_150 : decode cX7_addEntry 150 = .ok (.iastore, 1) := by decide +kernel
theorem dX7_addEntry_151 : decode cX7_addEntry 151 = .ok (.aload_n 0, 1) := by decide +kernel
theorem dX7_addEntry_152 : decode cX7_addEntry 152 = .ok (.getfield 25, 3) := by decide +kernel
theorem dX7_addEntry_155 : decode cX7_addEntry 155 = .ok (.iload 4, 2) := by decide +kernel
theorem dX7_addEntry_157 : decode cX7_addEntry 157 = .ok (.bipush 9, 2) := by decide +kernel
theorem dX7_addEntry_159 : decode cX7_addEntry 159 = .ok (.iadd, 1) := by decide +kernel
theorem dX7_addEntry_160 : decode cX7_addEntry 160 = .ok (.iload_n 3, 1) := by decide +kernel
theorem dX7_addEntry_161 : decode cX7_addEntry 161 = .ok (.iastore, 1) := by decide +kernel
theorem dX7_addEntry_162 : decode cX7_addEntry 162 = .ok (.aload_n 0, 1) := by decide +kernel
theorem dX7_addEntry_163 : decode cX7_addEntry 163 = .ok (.getfield 29, 3) := by decide +kernel
theorem dX7_addEntry_166 : decode cX7_addEntry 166 = .ok (.aload_n 0, 1) := by decide +kernel
theorem dX7_addEntry_167 : decode cX7_addEntry 167 = .ok (.getfield 36, 3) := by decide +kernel
theorem dX7_addEntry_170 : decode cX7_addEntry 170 = .ok (.aload_n 0, 1) := by decide +kernel
theorem dX7_addEntry_171 : decode cX7_addEntry 171 = .ok (.getfield 43, 3) := by decide +kernel
theorem dX7_addEntry_174 : decode cX7_addEntry 174 = .ok (.iastore, 1) := by decide +kernel
theorem dX7_addEntry_175 : decode cX7_addEntry 175 = .ok (.aload_n 0, 1) := by decide +kernel
theorem dX7_addEntry_176 : decode cX7_addEntry 176 = .ok (.dup, 1) := by decide +kernel
theorem dX7_addEntry_177 : decode cX7_addEntry 177 = .ok (.getfield 36, 3) := by decide +kernel
theorem dX7_addEntry_180 : decode cX7_addEntry 180 = .ok (.iconst 1, 1) := by decide +kernel
theorem dX7_addEntry_181 : decode cX7_addEntry 181 = .ok (.iadd, 1) := by decide +kernel
theorem dX7_addEntry_182 : decode cX7_addEntry 182 = .ok (.putfield 36, 3) := by decide +kernel
theorem dX7_addEntry_185 : decode cX7_addEntry 185 = .ok (.return_, 1) := by decide +kernel
theorem dX7_findPlace_0 : decode cX7_findPlace 0 = .ok (.iconst 0, 1) := by decide +kernel
theorem dX7_findPlace_1 : decode cX7_findPlace 1 = .ok (.istore_n 2, 1) := by decide +kernel
theorem dX7_findPlace_2 : decode cX7_findPlace 2 = .ok (.iconst 0, 1) := by decide +kernel
theorem dX7_findPlace_3 : decode cX7_findPlace 3 = .ok (.istore_n 3, 1) := by decide +kernel
theorem dX7_findPlace_4 : decode cX7_findPlace 4 = .ok (.iload_n 3, 1) := by decide +kernel
theorem dX7_findPlace_5 : decode cX7_findPlace 5 = .ok (.sipush 1661, 3) := by decide +kernel
theorem dX7_findPlace_8 : decode cX7_findPlace 8 = .ok (.if_icmp .ge 41, 3) := by decide +kernel
theorem dX7_findPlace_11 : decode cX7_findPlace 11 = .ok (.aload_n 0, 1) := by decide +kernel
theorem dX7_findPlace_12 : decode cX7_findPlace 12 = .ok (.getfield 32, 3) := by decide +kernel
theorem dX7_findPlace_15 : decode cX7_findPlace 15 = .ok (.iload_n 3, 1) := by decide +kernel
theorem dX7_findPlace_16 : decode cX7_findPlace 16 = .ok (.baload, 1) := by decide +kernel
theorem dX7_findPlace_17 : decode cX7_findPlace 17 = .ok (.ifCond .eq 7, 3) := by decide +kernel
theorem dX7_findPlace_20 : decode cX7_findPlace 20 = .ok (.iconst 0, 1) := by decide +kernel
theorem dX7_findPlace_21 : decode cX7_findPlace 21 = .ok (.goto 6, 3) := by decide +kernel
theorem dX7_findPlace_24 : decode cX7_findPlace 24 = .ok (.iload_n 2, 1) := by decide +kernel
theorem dX7_findPlace_25 : decode cX7_findPlace 25 = .ok (.iconst 1, 1) := by decide +kernel
theorem dX7_findPlace_26 : decode cX7_findPlace 26 = .ok (.iadd, 1) := by decide +kernel
theorem dX7_findPlace_27 : decode cX7_findPlace 27 = .ok (.istore_n 2, 1) := by decide +kernel
theorem dX7_findPlace_28 : decode cX7_findPlace 28 = .ok (.iload_n 2, 1) := by decide +kernel
theorem dX7_findPlace_29 : decode cX7_findPlace 29 = .ok (.iload_n 1, 1) := by decide +kernel
theorem dX7_findPlace_30 : decode cX7_findPlace 30 = .ok (.if_icmp .ne 13, 3) := by decide +kernel
theorem dX7_findPlace_33 : decode cX7_findPlace 33 = .ok (.sipush 2435, 3) := by decide +kernel
theorem dX7_findPlace_36 : decode cX7_findPlace 36 = .ok (.iload_n 3, 1) := by decide +kernel
theorem dX7_findPlace_37 : decode cX7_findPlace 37 = .ok (.iadd, 1) := by decide +kernel
theorem dX7_findPlace_38 : decode cX7_findPlace 38 = .ok (.iconst 1, 1) := by decide +kernel
theorem dX7_findPlace_39 : decode cX7_findPlace 39 = .ok (.iadd, 1) := by decide +kernel
theorem dX7_findPlace_40 : decode cX7_findPlace 40 = .ok (.iload_n 1, 1) := by decide +kernel
theorem dX7_findPlace_41 : decode cX7_findPlace 41 = .ok (.isub, 1) := by decide +kernel
theorem dX7_findPlace_42 : decode cX7_findPlace 42 = .ok (.ireturn, 1) := by decide +kernel
theorem dX7_findPlace_43 : decode cX7_findPlace 43 = .ok (.iinc 3 1, 3) := by decide +kernel
theorem dX7_findPlace_46 : decode cX7_findPlace 46 = .ok (.goto (-42), 3) := by decide +kernel
theorem dX7_findPlace_49 : decode cX7_findPlace 49 = .ok (.iconst (-1), 1) := by decide +kernel
theorem dX7_findPlace_50 : decode cX7_findPlace 50 = .ok (.ireturn, 1) := by decide +kernel
theorem dX7_take_0 : decode cX7_take 0 = .ok (.iload_n 1, 1) := by decide +kernel
theorem dX7_take_1 : decode cX7_take 1 = .ok (.sipush 2435, 3) := by decide +kernel
theorem dX7_take_4 : decode cX7_take 4 = .ok (.isub, 1) := by decide +kernel
theorem dX7_take_5 : decode cX7_take 5 = .ok (.istore_n 3, 1) := by decide +kernel
theorem dX7_take_6 : decode cX7_take 6 = .ok (.iload_n 3, 1) := by decide +kernel
theorem dX7_take_7 : decode cX7_take 7 = .ok (.iload_n 1, 1) := by decide +kernel
theorem dX7_take_8 : decode cX7_take 8 = .ok (.sipush 2435, 3) := by decide +kernel
theorem dX7_take_11 : decode cX7_take 11 = .ok (.isub, 1) := by decide +kernel
theorem dX7_take_12 : decode cX7_take 12 = .ok (.iload_n 2, 1) := by decide +kernel
theorem dX7_take_13 : decode cX7_take 13 = .ok (.iadd, 1) := by decide +kernel
theorem dX7_take_14 : decode cX7_take 14 = .ok (.if_icmp .ge 27, 3) := by decide +kernel
theorem dX7_take_17 : decode cX7_take 17 = .ok (.iload_n 3, 1) := by decide +kernel
theorem dX7_take_18 : decode cX7_take 18 = .ok (.ifCond .lt 17, 3) := by decide +kernel
theorem dX7_take_21 : decode cX7_take 21 = .ok (.iload_n 3, 1) := by decide +kernel
theorem dX7_take_22 : decode cX7_take 22 = .ok (.sipush 1661, 3) := by decide +kernel
theorem dX7_take_25 : decode cX7_take 25 = .ok (.if_icmp .ge 10, 3) := by decide +kernel
theorem dX7_take_28 : decode cX7_take 28 = .ok (.aload_n 0, 1) := by decide +kernel
theorem dX7_take_29 : decode cX7_take 29 = .ok (.getfield 32, 3) := by decide +kernel
theorem dX7_take_32 : decode cX7_take 32 = .ok (.iload_n 3, 1) := by decide +kernel
theorem dX7_take_33 : decode cX7_take 33 = .ok (.iconst 1, 1) := by decide +kernel
theorem dX7_take_34 : decode cX7_take 34 = .ok (.bastore, 1) := by decide +kernel
theorem dX7_take_35 : decode cX7_take 35 = .ok (.iinc 3 1, 3) := by decide +kernel
theorem dX7_take_38 : decode cX7_take 38 = .ok (.goto (-32), 3) := by decide +kernel
theorem dX7_take_41 : decode cX7_take 41 = .ok (.return_, 1) := by decide +kernel
theorem dX7_writeChunks_0 : decode cX7_writeChunks 0 = .ok (.iconst 0, 1) := by decide +kernel
theorem dX7_writeChunks_1 : decode cX7_writeChunks 1 = .ok (.istore_n 1, 1) := by decide +kernel
theorem dX7_writeChunks_2 : decode cX7_writeChunks 2 = .ok (.iload_n 1, 1) := by decide +kernel
theorem dX7_writeChunks_3 : decode cX7_writeChunks 3 = .ok (.aload_n 0, 1) := by decide +kernel
theorem dX7_writeChunks_4 : decode cX7_writeChunks 4 = .ok (.getfield 36, 3) := by decide +kernel
theorem dX7_writeChunks_7 : decode cX7_writeChunks 7 = .ok (.if_icmp .ge 29, 3) := by decide +kernel
theorem dX7_writeChunks_10 : decode cX7_writeChunks 10 = .ok (.aload_n 0, 1) := by decide +kernel
theorem dX7_writeChunks_11 : decode cX7_writeChunks 11 = .ok (.getfield 29, 3) := by decide +kernel
theorem dX7_writeChunks_14 : decode cX7_writeChunks 14 = .ok (.iload_n 1, 1) := by decide +kernel
theorem dX7_writeChunks_15 : decode cX7_writeChunks 15 = .ok (.iaload, 1) := by decide +kernel
theorem dX7_writeChunks_16 : decode cX7_writeChunks 16 = .ok (.iconst (-1), 1) := by decide +kernel
theorem dX7_writeChunks_17 : decode cX7_writeChunks 17 = .ok (.if_icmp .eq 13, 3) := by decide +kernel
theorem dX7_writeChunks_20 : decode cX7_writeChunks 20 = .ok (.aload_n 0, 1) := by decide +kernel
theorem dX7_writeChunks_21 : decode cX7_writeChunks 21 = .ok (.iload_n 1, 1) := by decide +kernel
theorem dX7_writeChunks_22 : decode cX7_writeChunks 22 = .ok (.invokevirtual 137, 3) := by decide +kernel
theorem dX7_writeChunks_25 : decode cX7_writeChunks 25 = .ok (.ifCond .ne 5, 3) := by decide +kernel
theorem dX7_writeChunks_28 : decode cX7_writeChunks 28 = .ok (.iconst 0, 1) := by decide +kernel
theorem dX7_writeChunks_29 : decode cX7_writeChunks 29 = .ok (.ireturn, 1) := by decide +kernel
theorem dX7_writeChunks_30 : decode cX7_writeChunks 30 = .ok (.iinc 1 1, 3) := by decide +kernel
theorem dX7_writeChunks_33 : decode cX7_writeChunks 33 = .ok (.goto (-31), 3) := by decide +kernel
theorem dX7_writeChunks_36 : decode cX7_writeChunks 36 = .ok (.iconst 1, 1) := by decide +kernel
theorem dX7_writeChunks_37 : decode cX7_writeChunks 37 = .ok (.ireturn, 1) := by decide +kernel
theorem dX7_writeCellsOf_0 : decode cX7_writeCellsOf 0 = .ok (.iconst 1, 1) := by decide +kernel
theorem dX7_writeCellsOf_1 : decode cX7_writeCellsOf 1 = .ok (.iload_n 1, 1) := by decide +kernel
theorem dX7_writeCellsOf_2 : decode cX7_writeCellsOf 2 = .ok (.bipush 10, 2) := by decide +kernel
theorem dX7_writeCellsOf_4 : decode cX7_writeCellsOf 4 = .ok (.imul, 1) := by decide +kernel
theorem dX7_writeCellsOf_5 : decode cX7_writeCellsOf 5 = .ok (.iadd, 1) := by decide +kernel
theorem dX7_writeCellsOf_6 : decode cX7_writeCellsOf 6 = .ok (.istore_n 2, 1) := by decide +kernel
theorem dX7_writeCellsOf_7 : decode cX7_writeCellsOf 7 = .ok (.aload_n 0, 1) := by decide +kernel
theorem dX7_writeCellsOf_8 : decode cX7_writeCellsOf 8 = .ok (.getfield 25, 3) := by decide +kernel
theorem dX7_writeCellsOf_11 : decode cX7_writeCellsOf 11 = .ok (.iload_n 2, 1) := by decide +kernel
theorem dX7_writeCellsOf_12 : decode cX7_writeCellsOf 12 = .ok (.bipush 8, 2) := by decide +kernel
theorem dX7_writeCellsOf_14 : decode cX7_writeCellsOf 14 = .ok (.iadd, 1) := by decide +kernel
theorem dX7_writeCellsOf_15 : decode cX7_writeCellsOf 15 = .ok (.iaload, 1) := by decide +kernel
theorem dX7_writeCellsOf_16 : decode cX7_writeCellsOf 16 = .ok (.istore_n 3, 1) := by decide +kernel
theorem dX7_writeCellsOf_17 : decode cX7_writeCellsOf 17 = .ok (.aload_n 0, 1) := by decide +kernel
theorem dX7_writeCellsOf_18 : decode cX7_writeCellsOf 18 = .ok (.getfield 25, 3) := by decide +kernel
theorem dX7_writeCellsOf_21 : decode cX7_writeCellsOf 21 = .ok (.iload_n 2, 1) := by decide +kernel
theorem dX7_writeCellsOf_22 : decode cX7_writeCellsOf 22 = .ok (.bipush 9, 2) := by decide +kernel
theorem dX7_writeCellsOf_24 : decode cX7_writeCellsOf 24 = .ok (.iadd, 1) := by decide +kernel
theorem dX7_writeCellsOf_25 : decode cX7_writeCellsOf 25 = .ok (.iaload, 1) := by decide +kernel
theorem dX7_writeCellsOf_26 : decode cX7_writeCellsOf 26 = .ok (.istore 4, 2) := by decide +kernel
theorem dX7_writeCellsOf_28 : decode cX7_writeCellsOf 28 = .ok (.iconst 0, 1) := by decide +kernel
theorem dX7_writeCellsOf_29 : decode cX7_writeCellsOf 29 = .ok (.istore 5, 2) := by decide +kernel
theorem dX7_writeCellsOf_31 : decode cX7_writeCellsOf 31 = .ok (.iload 5, 2) := by decide +kernel
theorem dX7_writeCellsOf_33 : decode cX7_writeCellsOf 33 = .ok (.iload 4, 2) := by decide +kernel
theorem dX7_writeCellsOf_35 : decode cX7_writeCellsOf 35 = .ok (.if_icmp .ge 41, 3) := by decide +kernel
theorem dX7_writeCellsOf_38 : decode cX7_writeCellsOf 38 = .ok (.aload_n 0, 1) := by decide +kernel
theorem dX7_writeCellsOf_39 : decode cX7_writeCellsOf 39 = .ok (.getfield 50, 3) := by decide +kernel
theorem dX7_writeCellsOf_42 : decode cX7_writeCellsOf 42 = .ok (.iload_n 3, 1) := by decide +kernel
theorem dX7_writeCellsOf_43 : decode cX7_writeCellsOf 43 = .ok (.iload 5, 2) := by decide +kernel
theorem dX7_writeCellsOf_45 : decode cX7_writeCellsOf 45 = .ok (.iadd, 1) := by decide +kernel
theorem dX7_writeCellsOf_46 : decode cX7_writeCellsOf 46 = .ok (.aload_n 0, 1) := by decide +kernel
theorem dX7_writeCellsOf_47 : decode cX7_writeCellsOf 47 = .ok (.getfield 12, 3) := by decide +kernel
theorem dX7_writeCellsOf_50 : decode cX7_writeCellsOf 50 = .ok (.aload_n 0, 1) := by decide +kernel
theorem dX7_writeCellsOf_51 : decode cX7_writeCellsOf 51 = .ok (.getfield 29, 3) := by decide +kernel
theorem dX7_writeCellsOf_54 : decode cX7_writeCellsOf 54 = .ok (.iload_n 1, 1) := by decide +kernel
theorem dX7_writeCellsOf_55 : decode cX7_writeCellsOf 55 = .ok (.iaload, 1) := by decide +kernel
theorem dX7_writeCellsOf_56 : decode cX7_writeCellsOf 56 = .ok (.iload 5, 2) := by decide +kernel
theorem dX7_writeCellsOf_58 : decode cX7_writeCellsOf 58 = .ok (.iadd, 1) := by decide +kernel
theorem dX7_writeCellsOf_59 : decode cX7_writeCellsOf 59 = .ok (.invokevirtual 140, 3) := by decide +kernel
theorem dX7_writeCellsOf_62 : decode cX7_writeCellsOf 62 = .ok (.invokevirtual 117, 3) := by decide +kernel
theorem dX7_writeCellsOf_65 : decode cX7_writeCellsOf 65 = .ok (.ifCond .ne 5, 3) := by decide +kernel
theorem dX7_writeCellsOf_68 : decode cX7_writeCellsOf 68 = .ok (.iconst 0, 1) := by decide +kernel
theorem dX7_writeCellsOf_69 : decode cX7_writeCellsOf 69 = .ok (.ireturn, 1) := by decide +kernel
theorem dX7_writeCellsOf_70 : decode cX7_writeCellsOf 70 = .ok (.iinc 5 1, 3) := by decide +kernel
theorem dX7_writeCellsOf_73 : decode cX7_writeCellsOf 73 = .ok (.goto (-42), 3) := by decide +kernel
theorem dX7_writeCellsOf_76 : decode cX7_writeCellsOf 76 = .ok (.iconst 1, 1) := by decide +kernel
theorem dX7_writeCellsOf_77 : decode cX7_writeCellsOf 77 = .ok (.ireturn, 1) := by decide +kernel
theorem dX7_writeIndex_0 : decode cX7_writeIndex 0 = .ok (.aload_n 0, 1) := by decide +kernel
theorem dX7_writeIndex_1 : decode cX7_writeIndex 1 = .ok (.getfield 25, 3) := by decide +kernel
theorem dX7_writeIndex_4 : decode cX7_writeIndex 4 = .ok (.iconst 0, 1) := by decide +kernel
theorem dX7_writeIndex_5 : decode cX7_writeIndex 5 = .ok (.aload_n 0, 1) := by decide +kernel
theorem dX7_writeIndex_6 : decode cX7_writeIndex 6 = .ok (.getfield 36, 3) := by decide +kernel
theorem dX7_writeIndex_9 : decode cX7_writeIndex 9 = .ok (.iastore, 1) := by decide +kernel
theorem dX7_writeIndex_10 : decode cX7_writeIndex 10 = .ok (.iconst 0, 1) := by decide +kernel
theorem dX7_writeIndex_11 : decode cX7_writeIndex 11 = .ok (.istore_n 2, 1) := by decide +kernel
theorem dX7_writeIndex_12 : decode cX7_writeIndex 12 = .ok (.iload_n 2, 1) := by decide +kernel
theorem dX7_writeIndex_13 : decode cX7_writeIndex 13 = .ok (.iconst 1, 1) := by decide +kernel
theorem dX7_writeIndex_14 : decode cX7_writeIndex 14 = .ok (.aload_n 0, 1) := by decide +kernel
theorem dX7_writeIndex_15 : decode cX7_writeIndex 15 = .ok (.getfield 36, 3) := by decide +kernel
theorem dX7_writeIndex_18 : decode cX7_writeIndex 18 = .ok (.bipush 10, 2) := by decide +kernel
theorem dX7_writeIndex_20 : decode cX7_writeIndex 20 = .ok (.imul, 1) := by decide +kernel
theorem dX7_writeIndex_21 : decode cX7_writeIndex 21 = .ok (.iadd, 1) := by decide +kernel
theorem dX7_writeIndex_22 : decode cX7_writeIndex 22 = .ok (.if_icmp .ge 30, 3) := by decide +kernel
theorem dX7_writeIndex_25 : decode cX7_writeIndex 25 = .ok (.aload_n 0, 1) := by decide +kernel
theorem dX7_writeIndex_26 : decode cX7_writeIndex 26 = .ok (.getfield 50, 3) := by decide +kernel
theorem dX7_writeIndex_29 : decode cX7_writeIndex 29 = .ok (.iload_n 1, 1) := by decide +kernel
theorem dX7_writeIndex_30 : decode cX7_writeIndex 30 = .ok (.iload_n 2, 1) := by decide +kernel
theorem dX7_writeIndex_31 : decode cX7_writeIndex 31 = .ok (.iadd, 1) := by decide +kernel
theorem dX7_writeIndex_32 : decode cX7_writeIndex 32 = .ok (.aload_n 0, 1) := by decide +kernel
theorem dX7_writeIndex_33 : decode cX7_writeIndex 33 = .ok (.getfield 25, 3) := by decide +kernel
theorem dX7_writeIndex_36 : decode cX7_writeIndex 36 = .ok (.iload_n 2, 1) := by decide +kernel
theorem dX7_writeIndex_37 : decode cX7_writeIndex 37 = .ok (.iaload, 1) := by decide +kernel
theorem dX7_writeIndex_38 : decode cX7_writeIndex 38 = .ok (.invokevirtual 117, 3) := by decide +kernel
theorem dX7_writeIndex_41 : decode cX7_writeIndex 41 = .ok (.ifCond .ne 5, 3) := by decide +kernel
theorem dX7_writeIndex_44 : decode cX7_writeIndex 44 = .ok (.iconst 0, 1) := by decide +kernel
theorem dX7_writeIndex_45 : decode cX7_writeIndex 45 = .ok (.ireturn, 1) := by decide +kernel
theorem dX7_writeIndex_46 : decode cX7_writeIndex 46 = .ok (.iinc 2 1, 3) := by decide +kernel
theorem dX7_writeIndex_49 : decode cX7_writeIndex 49 = .ok (.goto (-37), 3) := by decide +kernel
theorem dX7_writeIndex_52 : decode cX7_writeIndex 52 = .ok (.iconst 1, 1) := by decide +kernel
theorem dX7_writeIndex_53 : decode cX7_writeIndex 53 = .ok (.ireturn, 1) := by decide +kernel
def lp_X7_take_6 (p0 : Int32) (p1 : Int32) : Nat → Int32 → (Nat → Int32) → Option ((Nat → Int32))
  | 0, _, _ => none
  | n + 1, v3_1, T_taken_2 =>
    if ((p0 - (2435 : Int32)) + p1) ≤ v3_1 then (
      some (T_taken_2)) else (
      ob1 (
        if v3_1 < 0 then (
          some (T_taken_2)) else (
          if (1661 : Int32) ≤ v3_1 then (
            some (T_taken_2)) else (
            ckb v3_1 1661 <|
            some ((upd T_taken_2 (Int32.toNatClampNeg v3_1) (vp_nar .boolean (1 : Int32))))))) fun T_taken_9 =>
      lp_X7_take_6 p0 p1 n (v3_1 + (1 : Int32)) T_taken_9)
def m_X7_take (T_taken : Nat → Int32) (p0 : Int32) (p1 : Int32) : Option ((Nat → Int32)) :=
  ob1 (lp_X7_take_6 p0 p1 NN (p0 - (2435 : Int32)) T_taken) fun T_taken_7 =>
  some (T_taken_7)
abbrev rm_X7_take : Room := { frames := 0, cells := 0, slots := 0, locals := 0 }
theorem hd_X7_take : yX7_take.cls = RX7 ∧ yX7_take.cls ≠ "java/lang/invoke/MethodHandle" ∧ yX7_take.cls ≠ "java/lang/invoke/VarHandle" ∧ (parseMethodDescriptor yX7_take.desc).map (fun d => d.parameters.length) = some 2 := by decide +kernel
set_option maxHeartbeats 4000000 in
set_option maxRecDepth 100000 in
theorem c_X7_take (l : Launch) (G : va_G) (cI cZ cJ : ClassId) (aT aD aI aK aO aTi aTp aTt : Nat) (T_chunks : Int32) (T_chunksMade : Int32) (T_openFrom : Int32) (T_lacksSpace : Int32) (T_taken : Nat → Int32) (p0 : Int32) (p1 : Int32) {o_T_taken : Nat → Int32} (hfin : m_X7_take T_taken p0 p1 = some (o_T_taken)) : CT l yX7_take cX7_take 4 none rm_X7_take G (tyC cI cZ cJ) [.ref aT, .int p0, .int p1] [(aT, .inr (7, [.ref aD, .ref aI, .ref aK, .ref aO, .ref aTi, .ref aTp, .ref aTt, .int T_chunks, .int T_chunksMade, .int T_openFrom, .int T_lacksSpace])), (aTt, .inl (cZ, 1661, .inl T_taken))] none [(aT, .inr (7, [.ref aD, .ref aI, .ref aK, .ref aO, .ref aTi, .ref aTp, .ref aTt, .int T_chunks, .int T_chunksMade, .int T_openFrom, .int T_lacksSpace])), (aTt, .inl (cZ, 1661, .inl o_T_taken))] := by
  refine CT.ofW (lvl := [(0, .ref aT), (1, .int p0), (2, .int p1)]) (by decide) (Nat.le_of_ble_eq_true rfl) rfl ?_
  intro p e s m args below meth c A ls QQ hQQ hx hb hml hr hlocks htc hN hown hK hA hP hD hS hl
  rw [m_X7_take] at hfin
  refine lv_iload_n hx hb dX7_take_0 rfl (lv_at hl 1 rfl) ?_
  refine lv_sipush (v := (2435 : Int32)) hx hb dX7_take_1 (by decide) ?_
  refine lv_isub hx hb dX7_take_4 ?_
  refine lv_istore_n (lv' := [(3, .int (p0 - (2435 : Int32))), (0, .ref aT), (1, .int p0), (2, .int p1)]) hx hb dX7_take_5 rfl hl (by decide) rfl (fun ls hl => ?_)
  obtain ⟨T_taken_7, hL_3, hfin⟩ := ob1_some hfin
  have kx_4 : ∀ (H : Heap) (locs : List Loc) (ls : Array Slot), va_P G classes [(aT, .inr (7, [.ref aD, .ref aI, .ref aK, .ref aO, .ref aTi, .ref aTp, .ref aTt, .int T_chunks, .int T_chunksMade, .int T_openFrom, .int T_lacksSpace])), (aTt, .inl (cZ, 1661, .inl T_taken_7))] H → va_D A [(aT, .inr (7, [.ref aD, .ref aI, .ref aK, .ref aO, .ref aTi, .ref aTp, .ref aTt, .int T_chunks, .int T_chunksMade, .int T_openFrom, .int T_lacksSpace])), (aTt, .inl (cZ, 1661, .inl T_taken_7))] → va_S A s.heap H locs → lv_has ls 4 [] → W p l e rm_X7_take s m args below meth c H locs 0 0 QQ (F0 m 41 ls []) := by
    intro H locs ls hP hD hS hl
    cases hfin
    rw [hQQ]
    exact ct_vret hx hb hr hlocks hP hD hS dX7_take_41
  have lp_5 : ∀ (n : Nat) (v3_1 : Int32) (T_taken_2 : Nat → Int32), lp_X7_take_6 p0 p1 n v3_1 T_taken_2 = some (T_taken_7) → ∀ (H : Heap) (locs : List Loc) (ls : Array Slot), va_P G classes [(aT, .inr (7, [.ref aD, .ref aI, .ref aK, .ref aO, .ref aTi, .ref aTp, .ref aTt, .int T_chunks, .int T_chunksMade, .int T_openFrom, .int T_lacksSpace])), (aTt, .inl (cZ, 1661, .inl T_taken_2))] H → va_D A [(aT, .inr (7, [.ref aD, .ref aI, .ref aK, .ref aO, .ref aTi, .ref aTp, .ref aTt, .int T_chunks, .int T_chunksMade, .int T_openFrom, .int T_lacksSpace])), (aTt, .inl (cZ, 1661, .inl T_taken_2))] → va_S A s.heap H locs → lv_has ls 4 [(0, .ref aT), (1, .int p0), (2, .int p1), (3, .int v3_1)] → W p l e rm_X7_take s m args below meth c H locs 0 0 QQ (F0 m 6 ls []) := by
    intro n
    induction n with
    | zero =>
      intro v3_1 T_taken_2 hB_6
      exact absurd hB_6 (by rw [lp_X7_take_6]; exact fun h9 => nomatch h9)
    | succ n ih =>
      intro v3_1 T_taken_2 hB_6 H locs ls hP hD hS hl
      rw [lp_X7_take_6] at hB_6
      refine lv_iload_n hx hb dX7_take_6 rfl (lv_at hl 3 rfl) ?_
      refine lv_iload_n hx hb dX7_take_7 rfl (lv_at hl 1 rfl) ?_
      refine lv_sipush (v := (2435 : Int32)) hx hb dX7_take_8 (by decide) ?_
      refine lv_isub hx hb dX7_take_11 ?_
      refine lv_iload_n hx hb dX7_take_12 rfl (lv_at hl 2 rfl) ?_
      refine lv_iadd hx hb dX7_take_13 ?_
      refine lv_icmp_ge (tgt := 41) hx hb dX7_take_14 (by decide) (fun c_8 => ?_) (fun c_8 => ?_)
      · have hB_6 := it_t c_8 hB_6
        cases hB_6
        exact kx_4 _ _ _ hP hD hS (lv_sub hl [] rfl)
      · have hB_6 := it_f c_8 hB_6
        refine lv_iload_n hx hb dX7_take_17 rfl (lv_at hl 3 rfl) ?_
        obtain ⟨T_taken_9, hJ_10, hB_6⟩ := ob1_some hB_6
        have kj_11 : ∀ (H : Heap) (locs : List Loc) (ls : Array Slot), va_P G classes [(aT, .inr (7, [.ref aD, .ref aI, .ref aK, .ref aO, .ref aTi, .ref aTp, .ref aTt, .int T_chunks, .int T_chunksMade, .int T_openFrom, .int T_lacksSpace])), (aTt, .inl (cZ, 1661, .inl T_taken_9))] H → va_D A [(aT, .inr (7, [.ref aD, .ref aI, .ref aK, .ref aO, .ref aTi, .ref aTp, .ref aTt, .int T_chunks, .int T_chunksMade, .int T_openFrom, .int T_lacksSpace])), (aTt, .inl (cZ, 1661, .inl T_taken_9))] → va_S A s.heap H locs → lv_has ls 4 [(0, .ref aT), (1, .int p0), (2, .int p1), (3, .int v3_1)] → W p l e rm_X7_take s m args below meth c H locs 0 0 QQ (F0 m 35 ls []) := by
          intro H locs ls hP hD hS hl
          refine lv_iinc (v := (v3_1 + (1 : Int32))) (lv' := [(3, .int (v3_1 + (1 : Int32))), (0, .ref aT), (1, .int p0), (2, .int p1)]) hx hb dX7_take_35 hl (k := 3) rfl rfl (by decide) rfl (fun ls hl => ?_)
          refine lv_goto (tgt := 6) hx hb dX7_take_38 (by decide) ?_
          exact ih (v3_1 + (1 : Int32)) T_taken_9 hB_6 _ _ _ hP hD hS (lv_sub hl [1, 2, 3, 0] rfl)
        refine lv_if_lt (tgt := 35) hx hb dX7_take_18 (by decide) (fun c_12 => ?_) (fun c_12 => ?_)
        · have hJ_10 := it_t c_12 hJ_10
          cases hJ_10
          exact kj_11 _ _ _ hP hD hS (lv_sub hl [0, 1, 2, 3] rfl)
        · have hJ_10 := it_f c_12 hJ_10
          refine lv_iload_n hx hb dX7_take_21 rfl (lv_at hl 3 rfl) ?_
          refine lv_sipush (v := (1661 : Int32)) hx hb dX7_take_22 (by decide) ?_
          refine lv_icmp_ge (tgt := 35) hx hb dX7_take_25 (by decide) (fun c_13 => ?_) (fun c_13 => ?_)
          · have hJ_10 := it_t c_13 hJ_10
            cases hJ_10
            exact kj_11 _ _ _ hP hD hS (lv_sub hl [0, 1, 2, 3] rfl)
          · have hJ_10 := it_f c_13 hJ_10
            refine lv_aload_n hx hb dX7_take_28 rfl (lv_at hl 0 rfl) ?_
            refine va_get (D := G) (ci := 7) (v := .ref aTt) (C := RX7) (T := TX7) (N := 11) hx hb htc iX7 hown hK hP 0 rfl rfl 6 (by decide) (htc _ mw_191) (fun _ h9 => h9) rfl dX7_take_29 ?_
            refine lv_iload_n hx hb dX7_take_32 rfl (lv_at hl 3 rfl) ?_
            refine lv_iconst (v := (1 : Int32)) hx hb dX7_take_33 (by decide) ?_
            obtain ⟨hin_14, hJ_10⟩ := ckb_some hJ_10
            refine va_zast hx hb hK hP hD hS 1 1 rfl rfl hin_14 dX7_take_34 (fun H locs hP hD hS => ?_)
            have hP : va_P G classes [(aT, .inr (7, [.ref aD, .ref aI, .ref aK, .ref aO, .ref aTi, .ref aTp, .ref aTt, .int T_chunks, .int T_chunksMade, .int T_openFrom, .int T_lacksSpace])), (aTt, .inl (cZ, 1661, .inl (upd T_taken_2 (Int32.toNatClampNeg v3_1) (vp_nar .boolean (1 : Int32)))))] H := hP
            have hD : va_D A [(aT, .inr (7, [.ref aD, .ref aI, .ref aK, .ref aO, .ref aTi, .ref aTp, .ref aTt, .int T_chunks, .int T_chunksMade, .int T_openFrom, .int T_lacksSpace])), (aTt, .inl (cZ, 1661, .inl (upd T_taken_2 (Int32.toNatClampNeg v3_1) (vp_nar .boolean (1 : Int32)))))] := hD
            cases hJ_10
            exact kj_11 _ _ _ hP hD hS (lv_sub hl [0, 1, 2, 3] rfl)
  exact lp_5 NN (p0 - (2435 : Int32)) T_taken hL_3 _ _ _ hP hD hS (lv_sub hl [1, 2, 3, 0] rfl)
def lp_X7_begin_31 : Nat → Int32 → (Nat → Int32) → Option ((Nat → Int32))
  | 0, _, _ => none
  | n + 1, v1_12, T_taken_13 =>
    if (1661 : Int32) ≤ v1_12 then (
      some (T_taken_13)) else (
      ckb v1_12 1661 <|
      lp_X7_begin_31 n (v1_12 + (1 : Int32)) (upd T_taken_13 (Int32.toNatClampNeg v1_12) (vp_nar .boolean (0 : Int32))))
def lp_X7_begin_61 (D_cells : Nat → Int32) (r_22 : Int32) : Nat → Int32 → (Nat → Int32) → Option ((Nat → Int32))
  | 0, _, _ => none
  | n + 1, v2_23, T_taken_24 =>
    if r_22 ≤ v2_23 then (
      some (T_taken_24)) else (
      ob1 (m_X3_at D_cells v2_23 (8 : Int32)) fun r_32 =>
      ob1 (m_X3_at D_cells v2_23 (9 : Int32)) fun r_34 =>
      ob1 (m_X7_take T_taken_24 r_32 r_34) fun T_taken_36 =>
      lp_X7_begin_61 D_cells r_22 n (v2_23 + (1 : Int32)) T_taken_36)
def m_X7_begin (D_cells : Nat → Int32) (T_chunks : Int32) (T_chunksMade : Int32) (T_lacksSpace : Int32) (K_used : Int32) (K_bitsFree : Int32) (K_full : Int32) (O_first : Int32) (O_last : Int32) (O_points : Int32) (O_least : Int32) (O_greatest : Int32) (O_sum : Int64) (T_taken : Nat → Int32) : Option (Int32 × Int32 × Int32 × Int32 × Int32 × Int32 × Int32 × Int32 × Int32 × Int32 × Int32 × Int64 × (Nat → Int32)) :=
  ob3 (m_X5_clear K_used K_bitsFree K_full) fun K_used_2 K_bitsFree_3 K_full_4 =>
  ob6 (m_X6_clear O_first O_last O_points O_least O_greatest O_sum) fun O_first_6 O_last_7 O_points_8 O_least_9 O_greatest_10 O_sum_11 =>
  ob1 (lp_X7_begin_31 NN (0 : Int32) T_taken) fun T_taken_18 =>
  ob1 (m_X3_chunks D_cells) fun r_22 =>
  ob1 (lp_X7_begin_61 D_cells r_22 NN (0 : Int32) T_taken_18) fun T_taken_29 =>
  some ((0 : Int32), (0 : Int32), (0 : Int32), K_used_2, K_bitsFree_3, K_full_4, O_first_6, O_last_7, O_points_8, O_least_9, O_greatest_10, O_sum_11, T_taken_29)
abbrev rm_X7_begin : Room := { frames := 2, cells := 0, slots := 0, locals := 43 }
theorem hd_X7_begin : yX7_begin.cls = RX7 ∧ yX7_begin.cls ≠ "java/lang/invoke/MethodHandle" ∧ yX7_begin.cls ≠ "java/lang/invoke/VarHandle" ∧ (parseMethodDescriptor yX7_begin.desc).map (fun d => d.parameters.length) = some 0 := by decide +kernel
set_option maxHeartbeats 4000000 in
set_option maxRecDepth 100000 in
theorem c_X7_begin (l : Launch) (G : va_G) (cI cZ cJ : ClassId) (aD aDc aI aT aK aO aTi aTp aTt aKc : Nat) (D_writesDone : Int32) (D_writesLeft : Int32) (D_down : Int32) (D_cells : Nat → Int32) (T_chunks : Int32) (T_chunksMade : Int32) (T_openFrom : Int32) (T_lacksSpace : Int32) (K_used : Int32) (K_bitsFree : Int32) (K_full : Int32) (K_time : Int32) (K_value : Int32) (K_rise : Int64) (O_first : Int32) (O_last : Int32) (O_points : Int32) (O_least : Int32) (O_greatest : Int32) (O_sum : Int64) (T_taken : Nat → Int32)  {o_T_chunks : Int32} {o_T_chunksMade : Int32} {o_T_lacksSpace : Int32} {o_K_used : Int32} {o_K_bitsFree : Int32} {o_K_full : Int32} {o_O_first : Int32} {o_O_last : Int32} {o_O_points : Int32} {o_O_least : Int32} {o_O_greatest : Int32} {o_O_sum : Int64} {o_T_taken : Nat → Int32} (hfin : m_X7_begin D_cells T_chunks T_chunksMade T_lacksSpace K_used K_bitsFree K_full O_first O_last O_points O_least O_greatest O_sum T_taken = some (o_T_chunks, o_T_chunksMade, o_T_lacksSpace, o_K_used, o_K_bitsFree, o_K_full, o_O_first, o_O_last, o_O_points, o_O_least, o_O_greatest, o_O_sum, o_T_taken)) : CT l yX7_begin cX7_begin 3 none rm_X7_begin G (tyC cI cZ cJ) [.ref aT] [(aD, .inr (2, [.ref aDc, .int D_writesDone, .int D_writesLeft, .int D_down])), (aDc, .inl (cI, 4096, .inl D_cells)), (aI, .inr (3, [.ref aD])), (aT, .inr (7, [.ref aD, .ref aI, .ref aK, .ref aO, .ref aTi, .ref aTp, .ref aTt, .int T_chunks, .int T_chunksMade, .int T_openFrom, .int T_lacksSpace])), (aK, .inr (5, [.ref aKc, .int K_used, .int K_bitsFree, .int K_full, .int K_time, .int K_value, .long K_rise])), (aO, .inr (6, [.int O_first, .int O_last, .int O_points, .int O_least, .int O_greatest, .long O_sum])), (aTt, .inl (cZ, 1661, .inl T_taken))] none [(aD, .inr (2, [.ref aDc, .int D_writesDone, .int D_writesLeft, .int D_down])), (aDc, .inl (cI, 4096, .inl D_cells)), (aI, .inr (3, [.ref aD])), (aT, .inr (7, [.ref aD, .ref aI, .ref aK, .ref aO, .ref aTi, .ref aTp, .ref aTt, .int o_T_chunks, .int o_T_chunksMade, .int T_openFrom, .int o_T_lacksSpace])), (aK, .inr (5, [.ref aKc, .int o_K_used, .int o_K_bitsFree, .int o_K_full, .int K_time, .int K_value, .long K_rise])), (aO, .inr (6, [.int o_O_first, .int o_O_last, .int o_O_points, .int o_O_least, .int o_O_greatest, .long o_O_sum])), (aTt, .inl (cZ, 1661, .inl o_T_taken))] := by
  refine CT.ofW (lvl := [(0, .ref aT)]) (by decide) (Nat.le_of_ble_eq_true rfl) rfl ?_
  intro p e s m args below meth c A ls QQ hQQ hx hb hml hr hlocks htc hN hown hK hA hP hD hS hl
  rw [m_X7_begin] at hfin
  refine lv_aload_n hx hb dX7_begin_0 rfl (lv_at hl 0 rfl) ?_
  refine va_get (D := G) (ci := 7) (v := .ref aK) (C := RX7) (T := TX7) (N := 11) hx hb htc iX7 hown hK hP 3 rfl rfl 2 (by decide) (htc _ mw_187) (fun _ h9 => h9) rfl dX7_begin_1 ?_
  obtain ⟨K_used_2, K_bitsFree_3, K_full_4, hE_1, hfin⟩ := ob3_some hfin
  refine ctV (a := aK) (As := []) (rest := []) (st1 := []) (wc := [(aK, .inr (5, [.ref aKc, .int K_used, .int K_bitsFree, .int K_full, .int K_time, .int K_value, .long K_rise]))]) (w1 := [(aK, .inr (5, [.ref aKc, .int K_used_2, .int K_bitsFree_3, .int K_full_4, .int K_time, .int K_value, .long K_rise]))]) (wr := [(aD, .inr (2, [.ref aDc, .int D_writesDone, .int D_writesLeft, .int D_down])), (aDc, .inl (cI, 4096, .inl D_cells)), (aI, .inr (3, [.ref aD])), (aT, .inr (7, [.ref aD, .ref aI, .ref aK, .ref aO, .ref aTi, .ref aTp, .ref aTt, .int T_chunks, .int T_chunksMade, .int T_openFrom, .int T_lacksSpace])), (aO, .inr (6, [.int O_first, .int O_last, .int O_points, .int O_least, .int O_greatest, .long O_sum])), (aTt, .inl (cZ, 1661, .inl T_taken))]) (wb := [(aD, .inr (2, [.ref aDc, .int D_writesDone, .int D_writesLeft, .int D_down])), (aDc, .inl (cI, 4096, .inl D_cells)), (aI, .inr (3, [.ref aD])), (aT, .inr (7, [.ref aD, .ref aI, .ref aK, .ref aO, .ref aTi, .ref aTp, .ref aTt, .int T_chunks, .int T_chunksMade, .int T_openFrom, .int T_lacksSpace])), (aK, .inr (5, [.ref aKc, .int K_used_2, .int K_bitsFree_3, .int K_full_4, .int K_time, .int K_value, .long K_rise])), (aO, .inr (6, [.int O_first, .int O_last, .int O_points, .int O_least, .int O_greatest, .long O_sum])), (aTt, .inl (cZ, 1661, .inl T_taken))]) (v := none) hx hb hml hown htc hN (c_X5_clear l G cI cZ cJ aK aKc K_used K_bitsFree K_full K_time K_value K_rise  hE_1) mw_424 mw_425 mw_426 mw_8 mw_427 hd_X5_clear ⟨rfl, rfl⟩ ⟨Nat.le_of_ble_eq_true rfl, Nat.le_of_ble_eq_true rfl⟩ hK hP hD hS hA [4] [0, 1, 2, 3, 5, 6] [0, 1, 2, 3, 6, 4, 5] rfl rfl rfl rfl rfl (by decide) rfl rfl rfl 0 rfl rfl rfl rfl hl.1 rfl rfl (Nat.le_of_ble_eq_true rfl) dX7_begin_4 ⟨Nat.zero_le _, Nat.zero_le _⟩ (fun H locs hP hD hS => ?_)
  refine lv_aload_n hx hb dX7_begin_7 rfl (lv_at hl 0 rfl) ?_
  refine va_get (D := G) (ci := 7) (v := .ref aO) (C := RX7) (T := TX7) (N := 11) hx hb htc iX7 hown hK hP 3 rfl rfl 3 (by decide) (htc _ mw_188) (fun _ h9 => h9) rfl dX7_begin_8 ?_
  obtain ⟨O_first_6, O_last_7, O_points_8, O_least_9, O_greatest_10, O_sum_11, hE_5, hfin⟩ := ob6_some hfin
  refine ctV (a := aO) (As := []) (rest := []) (st1 := []) (wc := [(aO, .inr (6, [.int O_first, .int O_last, .int O_points, .int O_least, .int O_greatest, .long O_sum]))]) (w1 := [(aO, .inr (6, [.int O_first_6, .int O_last_7, .int O_points_8, .int O_least_9, .int O_greatest_10, .long O_sum_11]))]) (wr := [(aD, .inr (2, [.ref aDc, .int D_writesDone, .int D_writesLeft, .int D_down])), (aDc, .inl (cI, 4096, .inl D_cells)), (aI, .inr (3, [.ref aD])), (aT, .inr (7, [.ref aD, .ref aI, .ref aK, .ref aO, .ref aTi, .ref aTp, .ref aTt, .int T_chunks, .int T_chunksMade, .int T_openFrom, .int T_lacksSpace])), (aK, .inr (5, [.ref aKc, .int K_used_2, .int K_bitsFree_3, .int K_full_4, .int K_time, .int K_value, .long K_rise])), (aTt, .inl (cZ, 1661, .inl T_taken))]) (wb := [(aD, .inr (2, [.ref aDc, .int D_writesDone, .int D_writesLeft, .int D_down])), (aDc, .inl (cI, 4096, .inl D_cells)), (aI, .inr (3, [.ref aD])), (aT, .inr (7, [.ref aD, .ref aI, .ref aK, .ref aO, .ref aTi, .ref aTp, .ref aTt, .int T_chunks, .int T_chunksMade, .int T_openFrom, .int T_lacksSpace])), (aK, .inr (5, [.ref aKc, .int K_used_2, .int K_bitsFree_3, .int K_full_4, .int K_time, .int K_value, .long K_rise])), (aO, .inr (6, [.int O_first_6, .int O_last_7, .int O_points_8, .int O_least_9, .int O_greatest_10, .long O_sum_11])), (aTt, .inl (cZ, 1661, .inl T_taken))]) (v := none) hx hb hml hown htc hN (c_X6_clear l G cI cZ cJ aO O_first O_last O_points O_least O_greatest O_sum  hE_5) mw_428 mw_429 mw_430 mw_9 mw_431 hd_X6_clear ⟨rfl, rfl⟩ ⟨Nat.le_of_ble_eq_true rfl, Nat.le_of_ble_eq_true rfl⟩ hK hP hD hS hA [5] [0, 1, 2, 3, 4, 6] [0, 1, 2, 3, 4, 6, 5] rfl rfl rfl rfl rfl (by decide) rfl rfl rfl 0 rfl rfl rfl rfl hl.1 rfl rfl (Nat.le_of_ble_eq_true rfl) dX7_begin_11 ⟨Nat.zero_le _, Nat.zero_le _⟩ (fun H locs hP hD hS => ?_)
  refine lv_aload_n hx hb dX7_begin_14 rfl (lv_at hl 0 rfl) ?_
  refine lv_iconst (v := (0 : Int32)) hx hb dX7_begin_15 (by decide) ?_
  refine va_put (D := G) (ci := 7) (v := .int (0 : Int32)) (ty := .int) (C := RX7) (T := TX7) (N := 11) hx hb htc iX7 tyX7 tyX7_ok nmX7 hown hK hP hD hS 3 rfl rfl 7 (by decide) (htc _ mw_192) (fun _ h9 => h9) rfl (tyX7_ok 7 (by decide)) rfl rfl (Nat.le_of_ble_eq_true rfl) dX7_begin_16 (fun H locs hP hD hS => ?_)
  have hP : va_P G classes [(aD, .inr (2, [.ref aDc, .int D_writesDone, .int D_writesLeft, .int D_down])), (aDc, .inl (cI, 4096, .inl D_cells)), (aI, .inr (3, [.ref aD])), (aT, .inr (7, [.ref aD, .ref aI, .ref aK, .ref aO, .ref aTi, .ref aTp, .ref aTt, .int (0 : Int32), .int T_chunksMade, .int T_openFrom, .int T_lacksSpace])), (aK, .inr (5, [.ref aKc, .int K_used_2, .int K_bitsFree_3, .int K_full_4, .int K_time, .int K_value, .long K_rise])), (aO, .inr (6, [.int O_first_6, .int O_last_7, .int O_points_8, .int O_least_9, .int O_greatest_10, .long O_sum_11])), (aTt, .inl (cZ, 1661, .inl T_taken))] H := hP
  have hD : va_D A [(aD, .inr (2, [.ref aDc, .int D_writesDone, .int D_writesLeft, .int D_down])), (aDc, .inl (cI, 4096, .inl D_cells)), (aI, .inr (3, [.ref aD])), (aT, .inr (7, [.ref aD, .ref aI, .ref aK, .ref aO, .ref aTi, .ref aTp, .ref aTt, .int (0 : Int32), .int T_chunksMade, .int T_openFrom, .int T_lacksSpace])), (aK, .inr (5, [.ref aKc, .int K_used_2, .int K_bitsFree_3, .int K_full_4, .int K_time, .int K_value, .long K_rise])), (aO, .inr (6, [.int O_first_6, .int O_last_7, .int O_points_8, .int O_least_9, .int O_greatest_10, .long O_sum_11])), (aTt, .inl (cZ, 1661, .inl T_taken))] := hD
  refine lv_aload_n hx hb dX7_begin_19 rfl (lv_at hl 0 rfl) ?_
  refine lv_iconst (v := (0 : Int32)) hx hb dX7_begin_20 (by decide) ?_
  refine va_put (D := G) (ci := 7) (v := .int (0 : Int32)) (ty := .int) (C := RX7) (T := TX7) (N := 11) hx hb htc iX7 tyX7 tyX7_ok nmX7 hown hK hP hD hS 3 rfl rfl 8 (by decide) (htc _ mw_193) (fun _ h9 => h9) rfl (tyX7_ok 8 (by decide)) rfl rfl (Nat.le_of_ble_eq_true rfl) dX7_begin_21 (fun H locs hP hD hS => ?_)
  have hP : va_P G classes [(aD, .inr (2, [.ref aDc, .int D_writesDone, .int D_writesLeft, .int D_down])), (aDc, .inl (cI, 4096, .inl D_cells)), (aI, .inr (3, [.ref aD])), (aT, .inr (7, [.ref aD, .ref aI, .ref aK, .ref aO, .ref aTi, .ref aTp, .ref aTt, .int (0 : Int32), .int (0 : Int32), .int T_openFrom, .int T_lacksSpace])), (aK, .inr (5, [.ref aKc, .int K_used_2, .int K_bitsFree_3, .int K_full_4, .int K_time, .int K_value, .long K_rise])), (aO, .inr (6, [.int O_first_6, .int O_last_7, .int O_points_8, .int O_least_9, .int O_greatest_10, .long O_sum_11])), (aTt, .inl (cZ, 1661, .inl T_taken))] H := hP
  have hD : va_D A [(aD, .inr (2, [.ref aDc, .int D_writesDone, .int D_writesLeft, .int D_down])), (aDc, .inl (cI, 4096, .inl D_cells)), (aI, .inr (3, [.ref aD])), (aT, .inr (7, [.ref aD, .ref aI, .ref aK, .ref aO, .ref aTi, .ref aTp, .ref aTt, .int (0 : Int32), .int (0 : Int32), .int T_openFrom, .int T_lacksSpace])), (aK, .inr (5, [.ref aKc, .int K_used_2, .int K_bitsFree_3, .int K_full_4, .int K_time, .int K_value, .long K_rise])), (aO, .inr (6, [.int O_first_6, .int O_last_7, .int O_points_8, .int O_least_9, .int O_greatest_10, .long O_sum_11])), (aTt, .inl (cZ, 1661, .inl T_taken))] := hD
  refine lv_aload_n hx hb dX7_begin_24 rfl (lv_at hl 0 rfl) ?_
  refine lv_iconst (v := (0 : Int32)) hx hb dX7_begin_25 (by decide) ?_
  refine va_put (D := G) (ci := 7) (v := .int (0 : Int32)) (ty := .boolean) (C := RX7) (T := TX7) (N := 11) hx hb htc iX7 tyX7 tyX7_ok nmX7 hown hK hP hD hS 3 rfl rfl 10 (by decide) (htc _ mw_195) (fun _ h9 => h9) rfl (tyX7_ok 10 (by decide)) rfl rfl (Nat.le_of_ble_eq_true rfl) dX7_begin_26 (fun H locs hP hD hS => ?_)
  have hP : va_P G classes [(aD, .inr (2, [.ref aDc, .int D_writesDone, .int D_writesLeft, .int D_down])), (aDc, .inl (cI, 4096, .inl D_cells)), (aI, .inr (3, [.ref aD])), (aT, .inr (7, [.ref aD, .ref aI, .ref aK, .ref aO, .ref aTi, .ref aTp, .ref aTt, .int (0 : Int32), .int (0 : Int32), .int T_openFrom, .int (0 : Int32)])), (aK, .inr (5, [.ref aKc, .int K_used_2, .int K_bitsFree_3, .int K_full_4, .int K_time, .int K_value, .long K_rise])), (aO, .inr (6, [.int O_first_6, .int O_last_7, .int O_points_8, .int O_least_9, .int O_greatest_10, .long O_sum_11])), (aTt, .inl (cZ, 1661, .inl T_taken))] H := hP
  have hD : va_D A [(aD, .inr (2, [.ref aDc, .int D_writesDone, .int D_writesLeft, .int D_down])), (aDc, .inl (cI, 4096, .inl D_cells)), (aI, .inr (3, [.ref aD])), (aT, .inr (7, [.ref aD, .ref aI, .ref aK, .ref aO, .ref aTi, .ref aTp, .ref aTt, .int (0 : Int32), .int (0 : Int32), .int T_openFrom, .int (0 : Int32)])), (aK, .inr (5, [.ref aKc, .int K_used_2, .int K_bitsFree_3, .int K_full_4, .int K_time, .int K_value, .long K_rise])), (aO, .inr (6, [.int O_first_6, .int O_last_7, .int O_points_8, .int O_least_9, .int O_greatest_10, .long O_sum_11])), (aTt, .inl (cZ, 1661, .inl T_taken))] := hD
  refine lv_iconst (v := (0 : Int32)) hx hb dX7_begin_29 (by decide) ?_
  refine lv_istore_n (lv' := [(1, .int (0 : Int32)), (0, .ref aT)]) hx hb dX7_begin_30 rfl hl (by decide) rfl (fun ls hl => ?_)
  obtain ⟨T_taken_18, hL_14, hfin⟩ := ob1_some hfin
  have kx_15 : ∀ (H : Heap) (locs : List Loc) (ls : Array Slot), va_P G classes [(aD, .inr (2, [.ref aDc, .int D_writesDone, .int D_writesLeft, .int D_down])), (aDc, .inl (cI, 4096, .inl D_cells)), (aI, .inr (3, [.ref aD])), (aT, .inr (7, [.ref aD, .ref aI, .ref aK, .ref aO, .ref aTi, .ref aTp, .ref aTt, .int (0 : Int32), .int (0 : Int32), .int T_openFrom, .int (0 : Int32)])), (aK, .inr (5, [.ref aKc, .int K_used_2, .int K_bitsFree_3, .int K_full_4, .int K_time, .int K_value, .long K_rise])), (aO, .inr (6, [.int O_first_6, .int O_last_7, .int O_points_8, .int O_least_9, .int O_greatest_10, .long O_sum_11])), (aTt, .inl (cZ, 1661, .inl T_taken_18))] H → va_D A [(aD, .inr (2, [.ref aDc, .int D_writesDone, .int D_writesLeft, .int D_down])), (aDc, .inl (cI, 4096, .inl D_cells)), (aI, .inr (3, [.ref aD])), (aT, .inr (7, [.ref aD, .ref aI, .ref aK, .ref aO, .ref aTi, .ref aTp, .ref aTt, .int (0 : Int32), .int (0 : Int32), .int T_openFrom, .int (0 : Int32)])), (aK, .inr (5, [.ref aKc, .int K_used_2, .int K_bitsFree_3, .int K_full_4, .int K_time, .int K_value, .long K_rise])), (aO, .inr (6, [.int O_first_6, .int O_last_7, .int O_points_8, .int O_least_9, .int O_greatest_10, .long O_sum_11])), (aTt, .inl (cZ, 1661, .inl T_taken_18))] → va_S A s.heap H locs → lv_has ls 3 [(0, .ref aT)] → W p l e rm_X7_begin s m args below meth c H locs 0 0 QQ (F0 m 51 ls []) := by
    intro H locs ls hP hD hS hl
    refine lv_aload_n hx hb dX7_begin_51 rfl (lv_at hl 0 rfl) ?_
    refine va_get (D := G) (ci := 7) (v := .ref aI) (C := RX7) (T := TX7) (N := 11) hx hb htc iX7 hown hK hP 3 rfl rfl 1 (by decide) (htc _ mw_186) (fun _ h9 => h9) rfl dX7_begin_52 ?_
    obtain ⟨r_22, hE_21, hfin⟩ := ob1_some hfin
    refine ctV (a := aI) (As := []) (rest := []) (st1 := [.int r_22]) (wc := [(aD, .inr (2, [.ref aDc, .int D_writesDone, .int D_writesLeft, .int D_down])), (aDc, .inl (cI, 4096, .inl D_cells)), (aI, .inr (3, [.ref aD]))]) (w1 := [(aD, .inr (2, [.ref aDc, .int D_writesDone, .int D_writesLeft, .int D_down])), (aDc, .inl (cI, 4096, .inl D_cells)), (aI, .inr (3, [.ref aD]))]) (wr := [(aT, .inr (7, [.ref aD, .ref aI, .ref aK, .ref aO, .ref aTi, .ref aTp, .ref aTt, .int (0 : Int32), .int (0 : Int32), .int T_openFrom, .int (0 : Int32)])), (aK, .inr (5, [.ref aKc, .int K_used_2, .int K_bitsFree_3, .int K_full_4, .int K_time, .int K_value, .long K_rise])), (aO, .inr (6, [.int O_first_6, .int O_last_7, .int O_points_8, .int O_least_9, .int O_greatest_10, .long O_sum_11])), (aTt, .inl (cZ, 1661, .inl T_taken_18))]) (wb := [(aD, .inr (2, [.ref aDc, .int D_writesDone, .int D_writesLeft, .int D_down])), (aDc, .inl (cI, 4096, .inl D_cells)), (aI, .inr (3, [.ref aD])), (aT, .inr (7, [.ref aD, .ref aI, .ref aK, .ref aO, .ref aTi, .ref aTp, .ref aTt, .int (0 : Int32), .int (0 : Int32), .int T_openFrom, .int (0 : Int32)])), (aK, .inr (5, [.ref aKc, .int K_used_2, .int K_bitsFree_3, .int K_full_4, .int K_time, .int K_value, .long K_rise])), (aO, .inr (6, [.int O_first_6, .int O_last_7, .int O_points_8, .int O_least_9, .int O_greatest_10, .long O_sum_11])), (aTt, .inl (cZ, 1661, .inl T_taken_18))]) (v := (some (.int r_22))) hx hb hml hown htc hN (c_X3_chunks l G cI cZ cJ aD aDc aI D_writesDone D_writesLeft D_down D_cells  hE_21) mw_432 mw_379 mw_380 mw_4 mw_381 hd_X3_chunks ⟨rfl, rfl⟩ ⟨Nat.le_of_ble_eq_true rfl, Nat.le_of_ble_eq_true rfl⟩ hK hP hD hS hA [0, 1, 2] [3, 4, 5, 6] [4, 5, 6, 0, 1, 2, 3] rfl rfl rfl rfl rfl (by decide) rfl rfl rfl 2 rfl rfl rfl rfl hl.1 rfl rfl (Nat.le_of_ble_eq_true rfl) dX7_begin_55 ⟨Nat.zero_le _, Nat.zero_le _⟩ (fun H locs hP hD hS => ?_)
    refine lv_istore_n (lv' := [(1, .int r_22), (0, .ref aT)]) hx hb dX7_begin_58 rfl hl (by decide) rfl (fun ls hl => ?_)
    refine lv_iconst (v := (0 : Int32)) hx hb dX7_begin_59 (by decide) ?_
    refine lv_istore_n (lv' := [(2, .int (0 : Int32)), (1, .int r_22), (0, .ref aT)]) hx hb dX7_begin_60 rfl hl (by decide) rfl (fun ls hl => ?_)
    obtain ⟨T_taken_29, hL_25, hfin⟩ := ob1_some hfin
    have kx_26 : ∀ (H : Heap) (locs : List Loc) (ls : Array Slot), va_P G classes [(aD, .inr (2, [.ref aDc, .int D_writesDone, .int D_writesLeft, .int D_down])), (aDc, .inl (cI, 4096, .inl D_cells)), (aI, .inr (3, [.ref aD])), (aT, .inr (7, [.ref aD, .ref aI, .ref aK, .ref aO, .ref aTi, .ref aTp, .ref aTt, .int (0 : Int32), .int (0 : Int32), .int T_openFrom, .int (0 : Int32)])), (aK, .inr (5, [.ref aKc, .int K_used_2, .int K_bitsFree_3, .int K_full_4, .int K_time, .int K_value, .long K_rise])), (aO, .inr (6, [.int O_first_6, .int O_last_7, .int O_points_8, .int O_least_9, .int O_greatest_10, .long O_sum_11])), (aTt, .inl (cZ, 1661, .inl T_taken_29))] H → va_D A [(aD, .inr (2, [.ref aDc, .int D_writesDone, .int D_writesLeft, .int D_down])), (aDc, .inl (cI, 4096, .inl D_cells)), (aI, .inr (3, [.ref aD])), (aT, .inr (7, [.ref aD, .ref aI, .ref aK, .ref aO, .ref aTi, .ref aTp, .ref aTt, .int (0 : Int32), .int (0 : Int32), .int T_openFrom, .int (0 : Int32)])), (aK, .inr (5, [.ref aKc, .int K_used_2, .int K_bitsFree_3, .int K_full_4, .int K_time, .int K_value, .long K_rise])), (aO, .inr (6, [.int O_first_6, .int O_last_7, .int O_points_8, .int O_least_9, .int O_greatest_10, .long O_sum_11])), (aTt, .inl (cZ, 1661, .inl T_taken_29))] → va_S A s.heap H locs → lv_has ls 3 [] → W p l e rm_X7_begin s m args below meth c H locs 0 0 QQ (F0 m 96 ls []) := by
      intro H locs ls hP hD hS hl
      cases hfin
      rw [hQQ]
      exact ct_vret hx hb hr hlocks hP hD hS dX7_begin_96
    have lp_27 : ∀ (n : Nat) (v2_23 : Int32) (T_taken_24 : Nat → Int32), lp_X7_begin_61 D_cells r_22 n v2_23 T_taken_24 = some (T_taken_29) → ∀ (H : Heap) (locs : List Loc) (ls : Array Slot), va_P G classes [(aD, .inr (2, [.ref aDc, .int D_writesDone, .int D_writesLeft, .int D_down])), (aDc, .inl (cI, 4096, .inl D_cells)), (aI, .inr (3, [.ref aD])), (aT, .inr (7, [.ref aD, .ref aI, .ref aK, .ref aO, .ref aTi, .ref aTp, .ref aTt, .int (0 : Int32), .int (0 : Int32), .int T_openFrom, .int (0 : Int32)])), (aK, .inr (5, [.ref aKc, .int K_used_2, .int K_bitsFree_3, .int K_full_4, .int K_time, .int K_value, .long K_rise])), (aO, .inr (6, [.int O_first_6, .int O_last_7, .int O_points_8, .int O_least_9, .int O_greatest_10, .long O_sum_11])), (aTt, .inl (cZ, 1661, .inl T_taken_24))] H → va_D A [(aD, .inr (2, [.ref aDc, .int D_writesDone, .int D_writesLeft, .int D_down])), (aDc, .inl (cI, 4096, .inl D_cells)), (aI, .inr (3, [.ref aD])), (aT, .inr (7, [.ref aD, .ref aI, .ref aK, .ref aO, .ref aTi, .ref aTp, .ref aTt, .int (0 : Int32), .int (0 : Int32), .int T_openFrom, .int (0 : Int32)])), (aK, .inr (5, [.ref aKc, .int K_used_2, .int K_bitsFree_3, .int K_full_4, .int K_time, .int K_value, .long K_rise])), (aO, .inr (6, [.int O_first_6, .int O_last_7, .int O_points_8, .int O_least_9, .int O_greatest_10, .long O_sum_11])), (aTt, .inl (cZ, 1661, .inl T_taken_24))] → va_S A s.heap H locs → lv_has ls 3 [(0, .ref aT), (1, .int r_22), (2, .int v2_23)] → W p l e rm_X7_begin s m args below meth c H locs 0 0 QQ (F0 m 61 ls []) := by
      intro n
      induction n with
      | zero =>
        intro v2_23 T_taken_24 hB_28
        exact absurd hB_28 (by rw [lp_X7_begin_61]; exact fun h9 => nomatch h9)
      | succ n ih =>
        intro v2_23 T_taken_24 hB_28 H locs ls hP hD hS hl
        rw [lp_X7_begin_61] at hB_28
        refine lv_iload_n hx hb dX7_begin_61 rfl (lv_at hl 2 rfl) ?_
        refine lv_iload_n hx hb dX7_begin_62 rfl (lv_at hl 1 rfl) ?_
        refine lv_icmp_ge (tgt := 96) hx hb dX7_begin_63 (by decide) (fun c_30 => ?_) (fun c_30 => ?_)
        · have hB_28 := it_t c_30 hB_28
          cases hB_28
          exact kx_26 _ _ _ hP hD hS (lv_sub hl [] rfl)
        · have hB_28 := it_f c_30 hB_28
          refine lv_aload_n hx hb dX7_begin_66 rfl (lv_at hl 0 rfl) ?_
          refine lv_aload_n hx hb dX7_begin_67 rfl (lv_at hl 0 rfl) ?_
          refine va_get (D := G) (ci := 7) (v := .ref aI) (C := RX7) (T := TX7) (N := 11) hx hb htc iX7 hown hK hP 3 rfl rfl 1 (by decide) (htc _ mw_186) (fun _ h9 => h9) rfl dX7_begin_68 ?_
          refine lv_iload_n hx hb dX7_begin_71 rfl (lv_at hl 2 rfl) ?_
          refine lv_bipush (v := (8 : Int32)) hx hb dX7_begin_72 (by decide) ?_
          obtain ⟨r_32, hE_31, hB_28⟩ := ob1_some hB_28
          refine ctV (a := aI) (As := [.int v2_23, .int (8 : Int32)]) (rest := [.ref aT]) (st1 := [.int r_32, .ref aT]) (wc := [(aD, .inr (2, [.ref aDc, .int D_writesDone, .int D_writesLeft, .int D_down])), (aDc, .inl (cI, 4096, .inl D_cells)), (aI, .inr (3, [.ref aD]))]) (w1 := [(aD, .inr (2, [.ref aDc, .int D_writesDone, .int D_writesLeft, .int D_down])), (aDc, .inl (cI, 4096, .inl D_cells)), (aI, .inr (3, [.ref aD]))]) (wr := [(aT, .inr (7, [.ref aD, .ref aI, .ref aK, .ref aO, .ref aTi, .ref aTp, .ref aTt, .int (0 : Int32), .int (0 : Int32), .int T_openFrom, .int (0 : Int32)])), (aK, .inr (5, [.ref aKc, .int K_used_2, .int K_bitsFree_3, .int K_full_4, .int K_time, .int K_value, .long K_rise])), (aO, .inr (6, [.int O_first_6, .int O_last_7, .int O_points_8, .int O_least_9, .int O_greatest_10, .long O_sum_11])), (aTt, .inl (cZ, 1661, .inl T_taken_24))]) (wb := [(aD, .inr (2, [.ref aDc, .int D_writesDone, .int D_writesLeft, .int D_down])), (aDc, .inl (cI, 4096, .inl D_cells)), (aI, .inr (3, [.ref aD])), (aT, .inr (7, [.ref aD, .ref aI, .ref aK, .ref aO, .ref aTi, .ref aTp, .ref aTt, .int (0 : Int32), .int (0 : Int32), .int T_openFrom, .int (0 : Int32)])), (aK, .inr (5, [.ref aKc, .int K_used_2, .int K_bitsFree_3, .int K_full_4, .int K_time, .int K_value, .long K_rise])), (aO, .inr (6, [.int O_first_6, .int O_last_7, .int O_points_8, .int O_least_9, .int O_greatest_10, .long O_sum_11])), (aTt, .inl (cZ, 1661, .inl T_taken_24))]) (v := (some (.int r_32))) hx hb hml hown htc hN (c_X3_at l G cI cZ cJ aD aDc aI D_writesDone D_writesLeft D_down D_cells v2_23 (8 : Int32) hE_31) mw_433 mw_391 mw_392 mw_4 mw_393 hd_X3_at ⟨rfl, rfl⟩ ⟨Nat.le_of_ble_eq_true rfl, Nat.le_of_ble_eq_true rfl⟩ hK hP hD hS hA [0, 1, 2] [3, 4, 5, 6] [4, 5, 6, 0, 1, 2, 3] rfl rfl rfl rfl rfl (by decide) rfl rfl rfl 2 rfl rfl rfl rfl hl.1 rfl rfl (Nat.le_of_ble_eq_true rfl) dX7_begin_74 ⟨Nat.zero_le _, Nat.zero_le _⟩ (fun H locs hP hD hS => ?_)
          refine lv_aload_n hx hb dX7_begin_77 rfl (lv_at hl 0 rfl) ?_
          refine va_get (D := G) (ci := 7) (v := .ref aI) (C := RX7) (T := TX7) (N := 11) hx hb htc iX7 hown hK hP 3 rfl rfl 1 (by decide) (htc _ mw_186) (fun _ h9 => h9) rfl dX7_begin_78 ?_
          refine lv_iload_n hx hb dX7_begin_81 rfl (lv_at hl 2 rfl) ?_
          refine lv_bipush (v := (9 : Int32)) hx hb dX7_begin_82 (by decide) ?_
          obtain ⟨r_34, hE_33, hB_28⟩ := ob1_some hB_28
          refine ctV (a := aI) (As := [.int v2_23, .int (9 : Int32)]) (rest := [.int r_32, .ref aT]) (st1 := [.int r_34, .int r_32, .ref aT]) (wc := [(aD, .inr (2, [.ref aDc, .int D_writesDone, .int D_writesLeft, .int D_down])), (aDc, .inl (cI, 4096, .inl D_cells)), (aI, .inr (3, [.ref aD]))]) (w1 := [(aD, .inr (2, [.ref aDc, .int D_writesDone, .int D_writesLeft, .int D_down])), (aDc, .inl (cI, 4096, .inl D_cells)), (aI, .inr (3, [.ref aD]))]) (wr := [(aT, .inr (7, [.ref aD, .ref aI, .ref aK, .ref aO, .ref aTi, .ref aTp, .ref aTt, .int (0 : Int32), .int (0 : Int32), .int T_openFrom, .int (0 : Int32)])), (aK, .inr (5, [.ref aKc, .int K_used_2, .int K_bitsFree_3, .int K_full_4, .int K_time, .int K_value, .long K_rise])), (aO, .inr (6, [.int O_first_6, .int O_last_7, .int O_points_8, .int O_least_9, .int O_greatest_10, .long O_sum_11])), (aTt, .inl (cZ, 1661, .inl T_taken_24))]) (wb := [(aD, .inr (2, [.ref aDc, .int D_writesDone, .int D_writesLeft, .int D_down])), (aDc, .inl (cI, 4096, .inl D_cells)), (aI, .inr (3, [.ref aD])), (aT, .inr (7, [.ref aD, .ref aI, .ref aK, .ref aO, .ref aTi, .ref aTp, .ref aTt, .int (0 : Int32), .int (0 : Int32), .int T_openFrom, .int (0 : Int32)])), (aK, .inr (5, [.ref aKc, .int K_used_2, .int K_bitsFree_3, .int K_full_4, .int K_time, .int K_value, .long K_rise])), (aO, .inr (6, [.int O_first_6, .int O_last_7, .int O_points_8, .int O_least_9, .int O_greatest_10, .long O_sum_11])), (aTt, .inl (cZ, 1661, .inl T_taken_24))]) (v := (some (.int r_34))) hx hb hml hown htc hN (c_X3_at l G cI cZ cJ aD aDc aI D_writesDone D_writesLeft D_down D_cells v2_23 (9 : Int32) hE_33) mw_433 mw_391 mw_392 mw_4 mw_393 hd_X3_at ⟨rfl, rfl⟩ ⟨Nat.le_of_ble_eq_true rfl, Nat.le_of_ble_eq_true rfl⟩ hK hP hD hS hA [0, 1, 2] [3, 4, 5, 6] [4, 5, 6, 0, 1, 2, 3] rfl rfl rfl rfl rfl (by decide) rfl rfl rfl 2 rfl rfl rfl rfl hl.1 rfl rfl (Nat.le_of_ble_eq_true rfl) dX7_begin_84 ⟨Nat.zero_le _, Nat.zero_le _⟩ (fun H locs hP hD hS => ?_)
          obtain ⟨T_taken_36, hE_35, hB_28⟩ := ob1_some hB_28
          refine ctV (a := aT) (As := [.int r_32, .int r_34]) (rest := []) (st1 := []) (wc := [(aT, .inr (7, [.ref aD, .ref aI, .ref aK, .ref aO, .ref aTi, .ref aTp, .ref aTt, .int (0 : Int32), .int (0 : Int32), .int T_openFrom, .int (0 : Int32)])), (aTt, .inl (cZ, 1661, .inl T_taken_24))]) (w1 := [(aT, .inr (7, [.ref aD, .ref aI, .ref aK, .ref aO, .ref aTi, .ref aTp, .ref aTt, .int (0 : Int32), .int (0 : Int32), .int T_openFrom, .int (0 : Int32)])), (aTt, .inl (cZ, 1661, .inl T_taken_36))]) (wr := [(aD, .inr (2, [.ref aDc, .int D_writesDone, .int D_writesLeft, .int D_down])), (aDc, .inl (cI, 4096, .inl D_cells)), (aI, .inr (3, [.ref aD])), (aK, .inr (5, [.ref aKc, .int K_used_2, .int K_bitsFree_3, .int K_full_4, .int K_time, .int K_value, .long K_rise])), (aO, .inr (6, [.int O_first_6, .int O_last_7, .int O_points_8, .int O_least_9, .int O_greatest_10, .long O_sum_11]))]) (wb := [(aD, .inr (2, [.ref aDc, .int D_writesDone, .int D_writesLeft, .int D_down])), (aDc, .inl (cI, 4096, .inl D_cells)), (aI, .inr (3, [.ref aD])), (aT, .inr (7, [.ref aD, .ref aI, .ref aK, .ref aO, .ref aTi, .ref aTp, .ref aTt, .int (0 : Int32), .int (0 : Int32), .int T_openFrom, .int (0 : Int32)])), (aK, .inr (5, [.ref aKc, .int K_used_2, .int K_bitsFree_3, .int K_full_4, .int K_time, .int K_value, .long K_rise])), (aO, .inr (6, [.int O_first_6, .int O_last_7, .int O_points_8, .int O_least_9, .int O_greatest_10, .long O_sum_11])), (aTt, .inl (cZ, 1661, .inl T_taken_36))]) (v := none) hx hb hml hown htc hN (c_X7_take l G cI cZ cJ aT aD aI aK aO aTi aTp aTt (0 : Int32) (0 : Int32) T_openFrom (0 : Int32) T_taken_24 r_32 r_34 hE_35) mw_434 mw_436 mp_2 mw_7 mw_437 hd_X7_take ⟨rfl, rfl⟩ ⟨Nat.le_of_ble_eq_true rfl, Nat.le_of_ble_eq_true rfl⟩ hK hP hD hS hA [3, 6] [0, 1, 2, 4, 5] [0, 1, 2, 5, 3, 4, 6] rfl rfl rfl rfl rfl (by decide) rfl rfl rfl 0 rfl rfl rfl rfl hl.1 rfl rfl (Nat.le_of_ble_eq_true rfl) dX7_begin_87 ⟨Nat.zero_le _, Nat.zero_le _⟩ (fun H locs hP hD hS => ?_)
          refine lv_iinc (v := (v2_23 + (1 : Int32))) (lv' := [(2, .int (v2_23 + (1 : Int32))), (0, .ref aT), (1, .int r_22)]) hx hb dX7_begin_90 hl (k := 2) rfl rfl (by decide) rfl (fun ls hl => ?_)
          refine lv_goto (tgt := 61) hx hb dX7_begin_93 (by decide) ?_
          exact ih (v2_23 + (1 : Int32)) T_taken_36 hB_28 _ _ _ hP hD hS (lv_sub hl [1, 2, 0] rfl)
    exact lp_27 NN (0 : Int32) T_taken_18 hL_25 _ _ _ hP hD hS (lv_sub hl [2, 1, 0] rfl)
  have lp_16 : ∀ (n : Nat) (v1_12 : Int32) (T_taken_13 : Nat → Int32), lp_X7_begin_31 n v1_12 T_taken_13 = some (T_taken_18) → ∀ (H : Heap) (locs : List Loc) (ls : Array Slot), va_P G classes [(aD, .inr (2, [.ref aDc, .int D_writesDone, .int D_writesLeft, .int D_down])), (aDc, .inl (cI, 4096, .inl D_cells)), (aI, .inr (3, [.ref aD])), (aT, .inr (7, [.ref aD, .ref aI, .ref aK, .ref aO, .ref aTi, .ref aTp, .ref aTt, .int (0 : Int32), .int (0 : Int32), .int T_openFrom, .int (0 : Int32)])), (aK, .inr (5, [.ref aKc, .int K_used_2, .int K_bitsFree_3, .int K_full_4, .int K_time, .int K_value, .long K_rise])), (aO, .inr (6, [.int O_first_6, .int O_last_7, .int O_points_8, .int O_least_9, .int O_greatest_10, .long O_sum_11])), (aTt, .inl (cZ, 1661, .inl T_taken_13))] H → va_D A [(aD, .inr (2, [.ref aDc, .int D_writesDone, .int D_writesLeft, .int D_down])), (aDc, .inl (cI, 4096, .inl D_cells)), (aI, .inr (3, [.ref aD])), (aT, .inr (7, [.ref aD, .ref aI, .ref aK, .ref aO, .ref aTi, .ref aTp, .ref aTt, .int (0 : Int32), .int (0 : Int32), .int T_openFrom, .int (0 : Int32)])), (aK, .inr (5, [.ref aKc, .int K_used_2, .int K_bitsFree_3, .int K_full_4, .int K_time, .int K_value, .long K_rise])), (aO, .inr (6, [.int O_first_6, .int O_last_7, .int O_points_8, .int O_least_9, .int O_greatest_10, .long O_sum_11])), (aTt, .inl (cZ, 1661, .inl T_taken_13))] → va_S A s.heap H locs → lv_has ls 3 [(0, .ref aT), (1, .int v1_12)] → W p l e rm_X7_begin s m args below meth c H locs 0 0 QQ (F0 m 31 ls []) := by
    intro n
    induction n with
    | zero =>
      intro v1_12 T_taken_13 hB_17
      exact absurd hB_17 (by rw [lp_X7_begin_31]; exact fun h9 => nomatch h9)
    | succ n ih =>
      intro v1_12 T_taken_13 hB_17 H locs ls hP hD hS hl
      rw [lp_X7_begin_31] at hB_17
      refine lv_iload_n hx hb dX7_begin_31 rfl (lv_at hl 1 rfl) ?_
      refine lv_sipush (v := (1661 : Int32)) hx hb dX7_begin_32 (by decide) ?_
      refine lv_icmp_ge (tgt := 51) hx hb dX7_begin_35 (by decide) (fun c_19 => ?_) (fun c_19 => ?_)
      · have hB_17 := it_t c_19 hB_17
        cases hB_17
        exact kx_15 _ _ _ hP hD hS (lv_sub hl [0] rfl)
      · have hB_17 := it_f c_19 hB_17
        refine lv_aload_n hx hb dX7_begin_38 rfl (lv_at hl 0 rfl) ?_
        refine va_get (D := G) (ci := 7) (v := .ref aTt) (C := RX7) (T := TX7) (N := 11) hx hb htc iX7 hown hK hP 3 rfl rfl 6 (by decide) (htc _ mw_191) (fun _ h9 => h9) rfl dX7_begin_39 ?_
        refine lv_iload_n hx hb dX7_begin_42 rfl (lv_at hl 1 rfl) ?_
        refine lv_iconst (v := (0 : Int32)) hx hb dX7_begin_43 (by decide) ?_
        obtain ⟨hin_20, hB_17⟩ := ckb_some hB_17
        refine va_zast hx hb hK hP hD hS 6 1 rfl rfl hin_20 dX7_begin_44 (fun H locs hP hD hS => ?_)
        have hP : va_P G classes [(aD, .inr (2, [.ref aDc, .int D_writesDone, .int D_writesLeft, .int D_down])), (aDc, .inl (cI, 4096, .inl D_cells)), (aI, .inr (3, [.ref aD])), (aT, .inr (7, [.ref aD, .ref aI, .ref aK, .ref aO, .ref aTi, .ref aTp, .ref aTt, .int (0 : Int32), .int (0 : Int32), .int T_openFrom, .int (0 : Int32)])), (aK, .inr (5, [.ref aKc, .int K_used_2, .int K_bitsFree_3, .int K_full_4, .int K_time, .int K_value, .long K_rise])), (aO, .inr (6, [.int O_first_6, .int O_last_7, .int O_points_8, .int O_least_9, .int O_greatest_10, .long O_sum_11])), (aTt, .inl (cZ, 1661, .inl (upd T_taken_13 (Int32.toNatClampNeg v1_12) (vp_nar .boolean (0 : Int32)))))] H := hP
        have hD : va_D A [(aD, .inr (2, [.ref aDc, .int D_writesDone, .int D_writesLeft, .int D_down])), (aDc, .inl (cI, 4096, .inl D_cells)), (aI, .inr (3, [.ref aD])), (aT, .inr (7, [.ref aD, .ref aI, .ref aK, .ref aO, .ref aTi, .ref aTp, .ref aTt, .int (0 : Int32), .int (0 : Int32), .int T_openFrom, .int (0 : Int32)])), (aK, .inr (5, [.ref aKc, .int K_used_2, .int K_bitsFree_3, .int K_full_4, .int K_time, .int K_value, .long K_rise])), (aO, .inr (6, [.int O_first_6, .int O_last_7, .int O_points_8, .int O_least_9, .int O_greatest_10, .long O_sum_11])), (aTt, .inl (cZ, 1661, .inl (upd T_taken_13 (Int32.toNatClampNeg v1_12) (vp_nar .boolean (0 : Int32)))))] := hD
        refine lv_iinc (v := (v1_12 + (1 : Int32))) (lv' := [(1, .int (v1_12 + (1 : Int32))), (0, .ref aT)]) hx hb dX7_begin_45 hl (k := 1) rfl rfl (by decide) rfl (fun ls hl => ?_)
        refine lv_goto (tgt := 31) hx hb dX7_begin_48 (by decide) ?_
        exact ih (v1_12 + (1 : Int32)) (upd T_taken_13 (Int32.toNatClampNeg v1_12) (vp_nar .boolean (0 : Int32))) hB_17 _ _ _ hP hD hS (lv_sub hl [1, 0] rfl)
  exact lp_16 NN (0 : Int32) T_taken hL_14 _ _ _ hP hD hS (lv_sub hl [1, 0] rfl)
def lp_X7_keep_17 (D_cells : Nat → Int32) (T_chunks : Int32) (p0 : Int32) : Nat → Int32 → (Nat → Int32) → Option ((Nat → Int32))
  | 0, _, _ => none
  | n + 1, v2_2, T_image_3 =>
    if (10 : Int32) ≤ v2_2 then (
      some (T_image_3)) else (
      ob1 (m_X3_at D_cells p0 v2_2) fun r_11 =>
      ckb (((1 : Int32) + (T_chunks * (10 : Int32))) + v2_2) 961 <|
      lp_X7_keep_17 D_cells T_chunks p0 n (v2_2 + (1 : Int32)) (upd T_image_3 (Int32.toNatClampNeg (((1 : Int32) + (T_chunks * (10 : Int32))) + v2_2)) r_11))
def m_X7_keep (D_cells : Nat → Int32) (T_chunks : Int32) (T_lacksSpace : Int32) (T_image : Nat → Int32) (T_packedFrom : Nat → Int32) (p0 : Int32) : Option (Int32 × Int32 × (Nat → Int32) × (Nat → Int32)) :=
  if T_chunks < (96 : Int32) then (
    ob1 (lp_X7_keep_17 D_cells T_chunks p0 NN (0 : Int32) T_image) fun T_image_8 =>
    ckb T_chunks 96 <|
    some ((T_chunks + (1 : Int32)), T_lacksSpace, T_image_8, (upd T_packedFrom (Int32.toNatClampNeg T_chunks) (-1 : Int32)))) else (
    some (T_chunks, (1 : Int32), T_image, T_packedFrom))
abbrev rm_X7_keep : Room := { frames := 2, cells := 0, slots := 0, locals := 43 }
theorem hd_X7_keep : yX7_keep.cls = RX7 ∧ yX7_keep.cls ≠ "java/lang/invoke/MethodHandle" ∧ yX7_keep.cls ≠ "java/lang/invoke/VarHandle" ∧ (parseMethodDescriptor yX7_keep.desc).map (fun d => d.parameters.length) = some 1 := by decide +kernel
set_option maxHeartbeats 4000000 in
set_option maxRecDepth 100000 in
theorem c_X7_keep (l : Launch) (G : va_G) (cI cZ cJ : ClassId) (aD aDc aI aT aK aO aTi aTp aTt : Nat) (D_writesDone : Int32) (D_writesLeft : Int32) (D_down : Int32) (D_cells : Nat → Int32) (T_chunks : Int32) (T_chunksMade : Int32) (T_openFrom : Int32) (T_lacksSpace : Int32) (T_image : Nat → Int32) (T_packedFrom : Nat → Int32) (p0 : Int32) {o_T_chunks : Int32} {o_T_lacksSpace : Int32} {o_T_image : Nat → Int32} {o_T_packedFrom : Nat → Int32} (hfin : m_X7_keep D_cells T_chunks T_lacksSpace T_image T_packedFrom p0 = some (o_T_chunks, o_T_lacksSpace, o_T_image, o_T_packedFrom)) : CT l yX7_keep cX7_keep 3 none rm_X7_keep G (tyC cI cZ cJ) [.ref aT, .int p0] [(aD, .inr (2, [.ref aDc, .int D_writesDone, .int D_writesLeft, .int D_down])), (aDc, .inl (cI, 4096, .inl D_cells)), (aI, .inr (3, [.ref aD])), (aT, .inr (7, [.ref aD, .ref aI, .ref aK, .ref aO, .ref aTi, .ref aTp, .ref aTt, .int T_chunks, .int T_chunksMade, .int T_openFrom, .int T_lacksSpace])), (aTi, .inl (cI, 961, .inl T_image)), (aTp, .inl (cI, 96, .inl T_packedFrom))] none [(aD, .inr (2, [.ref aDc, .int D_writesDone, .int D_writesLeft, .int D_down])), (aDc, .inl (cI, 4096, .inl D_cells)), (aI, .inr (3, [.ref aD])), (aT, .inr (7, [.ref aD, .ref aI, .ref aK, .ref aO, .ref aTi, .ref aTp, .ref aTt, .int o_T_chunks, .int T_chunksMade, .int T_openFrom, .int o_T_lacksSpace])), (aTi, .inl (cI, 961, .inl o_T_image)), (aTp, .inl (cI, 96, .inl o_T_packedFrom))] := by
  refine CT.ofW (lvl := [(0, .ref aT), (1, .int p0)]) (by decide) (Nat.le_of_ble_eq_true rfl) rfl ?_
  intro p e s m args below meth c A ls QQ hQQ hx hb hml hr hlocks htc hN hown hK hA hP hD hS hl
  rw [m_X7_keep] at hfin
  refine lv_aload_n hx hb dX7_keep_0 rfl (lv_at hl 0 rfl) ?_
  refine va_get (D := G) (ci := 7) (v := .int T_chunks) (C := RX7) (T := TX7) (N := 11) hx hb htc iX7 hown hK hP 3 rfl rfl 7 (by decide) (htc _ mw_192) (fun _ h9 => h9) rfl dX7_keep_1 ?_
  refine lv_bipush (v := (96 : Int32)) hx hb dX7_keep_4 (by decide) ?_
  refine lv_icmp_lt (tgt := 15) hx hb dX7_keep_6 (by decide) (fun c_1 => ?_) (fun c_1 => ?_)
  · have hfin := it_t c_1 hfin
    refine lv_iconst (v := (0 : Int32)) hx hb dX7_keep_15 (by decide) ?_
    refine lv_istore_n (lv' := [(2, .int (0 : Int32)), (0, .ref aT), (1, .int p0)]) hx hb dX7_keep_16 rfl hl (by decide) rfl (fun ls hl => ?_)
    obtain ⟨T_image_8, hL_4, hfin⟩ := ob1_some hfin
    have kx_5 : ∀ (H : Heap) (locs : List Loc) (ls : Array Slot), va_P G classes [(aD, .inr (2, [.ref aDc, .int D_writesDone, .int D_writesLeft, .int D_down])), (aDc, .inl (cI, 4096, .inl D_cells)), (aI, .inr (3, [.ref aD])), (aT, .inr (7, [.ref aD, .ref aI, .ref aK, .ref aO, .ref aTi, .ref aTp, .ref aTt, .int T_chunks, .int T_chunksMade, .int T_openFrom, .int T_lacksSpace])), (aTi, .inl (cI, 961, .inl T_image_8)), (aTp, .inl (cI, 96, .inl T_packedFrom))] H → va_D A [(aD, .inr (2, [.ref aDc, .int D_writesDone, .int D_writesLeft, .int D_down])), (aDc, .inl (cI, 4096, .inl D_cells)), (aI, .inr (3, [.ref aD])), (aT, .inr (7, [.ref aD, .ref aI, .ref aK, .ref aO, .ref aTi, .ref aTp, .ref aTt, .int T_chunks, .int T_chunksMade, .int T_openFrom, .int T_lacksSpace])), (aTi, .inl (cI, 961, .inl T_image_8)), (aTp, .inl (cI, 96, .inl T_packedFrom))] → va_S A s.heap H locs → lv_has ls 3 [(0, .ref aT)] → W p l e rm_X7_keep s m args below meth c H locs 0 0 QQ (F0 m 54 ls []) := by
      intro H locs ls hP hD hS hl
      refine lv_aload_n hx hb dX7_keep_54 rfl (lv_at hl 0 rfl) ?_
      refine va_get (D := G) (ci := 7) (v := .ref aTp) (C := RX7) (T := TX7) (N := 11) hx hb htc iX7 hown hK hP 3 rfl rfl 5 (by decide) (htc _ mw_190) (fun _ h9 => h9) rfl dX7_keep_55 ?_
      refine lv_aload_n hx hb dX7_keep_58 rfl (lv_at hl 0 rfl) ?_
      refine va_get (D := G) (ci := 7) (v := .int T_chunks) (C := RX7) (T := TX7) (N := 11) hx hb htc iX7 hown hK hP 3 rfl rfl 7 (by decide) (htc _ mw_192) (fun _ h9 => h9) rfl dX7_keep_59 ?_
      refine lv_iconst (v := (-1 : Int32)) hx hb dX7_keep_62 (by decide) ?_
      obtain ⟨hin_13, hfin⟩ := ckb_some hfin
      refine va_iast hx hb hK hP hD hS 5 0 rfl rfl hin_13 dX7_keep_63 (fun H locs hP hD hS => ?_)
      have hP : va_P G classes [(aD, .inr (2, [.ref aDc, .int D_writesDone, .int D_writesLeft, .int D_down])), (aDc, .inl (cI, 4096, .inl D_cells)), (aI, .inr (3, [.ref aD])), (aT, .inr (7, [.ref aD, .ref aI, .ref aK, .ref aO, .ref aTi, .ref aTp, .ref aTt, .int T_chunks, .int T_chunksMade, .int T_openFrom, .int T_lacksSpace])), (aTi, .inl (cI, 961, .inl T_image_8)), (aTp, .inl (cI, 96, .inl (upd T_packedFrom (Int32.toNatClampNeg T_chunks) (-1 : Int32))))] H := hP
      have hD : va_D A [(aD, .inr (2, [.ref aDc, .int D_writesDone, .int D_writesLeft, .int D_down])), (aDc, .inl (cI, 4096, .inl D_cells)), (aI, .inr (3, [.ref aD])), (aT, .inr (7, [.ref aD, .ref aI, .ref aK, .ref aO, .ref aTi, .ref aTp, .ref aTt, .int T_chunks, .int T_chunksMade, .int T_openFrom, .int T_lacksSpace])), (aTi, .inl (cI, 961, .inl T_image_8)), (aTp, .inl (cI, 96, .inl (upd T_packedFrom (Int32.toNatClampNeg T_chunks) (-1 : Int32))))] := hD
      refine lv_aload_n hx hb dX7_keep_64 rfl (lv_at hl 0 rfl) ?_
      refine lv_dup hx hb dX7_keep_65 rfl ?_
      refine va_get (D := G) (ci := 7) (v := .int T_chunks) (C := RX7) (T := TX7) (N := 11) hx hb htc iX7 hown hK hP 3 rfl rfl 7 (by decide) (htc _ mw_192) (fun _ h9 => h9) rfl dX7_keep_66 ?_
      refine lv_iconst (v := (1 : Int32)) hx hb dX7_keep_69 (by decide) ?_
      refine lv_iadd hx hb dX7_keep_70 ?_
      refine va_put (D := G) (ci := 7) (v := .int (T_chunks + (1 : Int32))) (ty := .int) (C := RX7) (T := TX7) (N := 11) hx hb htc iX7 tyX7 tyX7_ok nmX7 hown hK hP hD hS 3 rfl rfl 7 (by decide) (htc _ mw_192) (fun _ h9 => h9) rfl (tyX7_ok 7 (by decide)) rfl rfl (Nat.le_of_ble_eq_true rfl) dX7_keep_71 (fun H locs hP hD hS => ?_)
      have hP : va_P G classes [(aD, .inr (2, [.ref aDc, .int D_writesDone, .int D_writesLeft, .int D_down])), (aDc, .inl (cI, 4096, .inl D_cells)), (aI, .inr (3, [.ref aD])), (aT, .inr (7, [.ref aD, .ref aI, .ref aK, .ref aO, .ref aTi, .ref aTp, .ref aTt, .int (T_chunks + (1 : Int32)), .int T_chunksMade, .int T_openFrom, .int T_lacksSpace])), (aTi, .inl (cI, 961, .inl T_image_8)), (aTp, .inl (cI, 96, .inl (upd T_packedFrom (Int32.toNatClampNeg T_chunks) (-1 : Int32))))] H := hP
      have hD : va_D A [(aD, .inr (2, [.ref aDc, .int D_writesDone, .int D_writesLeft, .int D_down])), (aDc, .inl (cI, 4096, .inl D_cells)), (aI, .inr (3, [.ref aD])), (aT, .inr (7, [.ref aD, .ref aI, .ref aK, .ref aO, .ref aTi, .ref aTp, .ref aTt, .int (T_chunks + (1 : Int32)), .int T_chunksMade, .int T_openFrom, .int T_lacksSpace])), (aTi, .inl (cI, 961, .inl T_image_8)), (aTp, .inl (cI, 96, .inl (upd T_packedFrom (Int32.toNatClampNeg T_chunks) (-1 : Int32))))] := hD
      cases hfin
      rw [hQQ]
      exact ct_vret hx hb hr hlocks hP hD hS dX7_keep_74
    have lp_6 : ∀ (n : Nat) (v2_2 : Int32) (T_image_3 : Nat → Int32), lp_X7_keep_17 D_cells T_chunks p0 n v2_2 T_image_3 = some (T_image_8) → ∀ (H : Heap) (locs : List Loc) (ls : Array Slot), va_P G classes [(aD, .inr (2, [.ref aDc, .int D_writesDone, .int D_writesLeft, .int D_down])), (aDc, .inl (cI, 4096, .inl D_cells)), (aI, .inr (3, [.ref aD])), (aT, .inr (7, [.ref aD, .ref aI, .ref aK, .ref aO, .ref aTi, .ref aTp, .ref aTt, .int T_chunks, .int T_chunksMade, .int T_openFrom, .int T_lacksSpace])), (aTi, .inl (cI, 961, .inl T_image_3)), (aTp, .inl (cI, 96, .inl T_packedFrom))] H → va_D A [(aD, .inr (2, [.ref aDc, .int D_writesDone, .int D_writesLeft, .int D_down])), (aDc, .inl (cI, 4096, .inl D_cells)), (aI, .inr (3, [.ref aD])), (aT, .inr (7, [.ref aD, .ref aI, .ref aK, .ref aO, .ref aTi, .ref aTp, .ref aTt, .int T_chunks, .int T_chunksMade, .int T_openFrom, .int T_lacksSpace])), (aTi, .inl (cI, 961, .inl T_image_3)), (aTp, .inl (cI, 96, .inl T_packedFrom))] → va_S A s.heap H locs → lv_has ls 3 [(0, .ref aT), (1, .int p0), (2, .int v2_2)] → W p l e rm_X7_keep s m args below meth c H locs 0 0 QQ (F0 m 17 ls []) := by
      intro n
      induction n with
      | zero =>
        intro v2_2 T_image_3 hB_7
        exact absurd hB_7 (by rw [lp_X7_keep_17]; exact fun h9 => nomatch h9)
      | succ n ih =>
        intro v2_2 T_image_3 hB_7 H locs ls hP hD hS hl
        rw [lp_X7_keep_17] at hB_7
        refine lv_iload_n hx hb dX7_keep_17 rfl (lv_at hl 2 rfl) ?_
        refine lv_bipush (v := (10 : Int32)) hx hb dX7_keep_18 (by decide) ?_
        refine lv_icmp_ge (tgt := 54) hx hb dX7_keep_20 (by decide) (fun c_9 => ?_) (fun c_9 => ?_)
        · have hB_7 := it_t c_9 hB_7
          cases hB_7
          exact kx_5 _ _ _ hP hD hS (lv_sub hl [0] rfl)
        · have hB_7 := it_f c_9 hB_7
          refine lv_aload_n hx hb dX7_keep_23 rfl (lv_at hl 0 rfl) ?_
          refine va_get (D := G) (ci := 7) (v := .ref aTi) (C := RX7) (T := TX7) (N := 11) hx hb htc iX7 hown hK hP 3 rfl rfl 4 (by decide) (htc _ mw_189) (fun _ h9 => h9) rfl dX7_keep_24 ?_
          refine lv_iconst (v := (1 : Int32)) hx hb dX7_keep_27 (by decide) ?_
          refine lv_aload_n hx hb dX7_keep_28 rfl (lv_at hl 0 rfl) ?_
          refine va_get (D := G) (ci := 7) (v := .int T_chunks) (C := RX7) (T := TX7) (N := 11) hx hb htc iX7 hown hK hP 3 rfl rfl 7 (by decide) (htc _ mw_192) (fun _ h9 => h9) rfl dX7_keep_29 ?_
          refine lv_bipush (v := (10 : Int32)) hx hb dX7_keep_32 (by decide) ?_
          refine lv_imul hx hb dX7_keep_34 ?_
          refine lv_iadd hx hb dX7_keep_35 ?_
          refine lv_iload_n hx hb dX7_keep_36 rfl (lv_at hl 2 rfl) ?_
          refine lv_iadd hx hb dX7_keep_37 ?_
          refine lv_aload_n hx hb dX7_keep_38 rfl (lv_at hl 0 rfl) ?_
          refine va_get (D := G) (ci := 7) (v := .ref aI) (C := RX7) (T := TX7) (N := 11) hx hb htc iX7 hown hK hP 3 rfl rfl 1 (by decide) (htc _ mw_186) (fun _ h9 => h9) rfl dX7_keep_39 ?_
          refine lv_iload_n hx hb dX7_keep_42 rfl (lv_at hl 1 rfl) ?_
          refine lv_iload_n hx hb dX7_keep_43 rfl (lv_at hl 2 rfl) ?_
          obtain ⟨r_11, hE_10, hB_7⟩ := ob1_some hB_7
          refine ctV (a := aI) (As := [.int p0, .int v2_2]) (rest := [.int (((1 : Int32) + (T_chunks * (10 : Int32))) + v2_2), .ref aTi]) (st1 := [.int r_11, .int (((1 : Int32) + (T_chunks * (10 : Int32))) + v2_2), .ref aTi]) (wc := [(aD, .inr (2, [.ref aDc, .int D_writesDone, .int D_writesLeft, .int D_down])), (aDc, .inl (cI, 4096, .inl D_cells)), (aI, .inr (3, [.ref aD]))]) (w1 := [(aD, .inr (2, [.ref aDc, .int D_writesDone, .int D_writesLeft, .int D_down])), (aDc, .inl (cI, 4096, .inl D_cells)), (aI, .inr (3, [.ref aD]))]) (wr := [(aT, .inr (7, [.ref aD, .ref aI, .ref aK, .ref aO, .ref aTi, .ref aTp, .ref aTt, .int T_chunks, .int T_chunksMade, .int T_openFrom, .int T_lacksSpace])), (aTi, .inl (cI, 961, .inl T_image_3)), (aTp, .inl (cI, 96, .inl T_packedFrom))]) (wb := [(aD, .inr (2, [.ref aDc, .int D_writesDone, .int D_writesLeft, .int D_down])), (aDc, .inl (cI, 4096, .inl D_cells)), (aI, .inr (3, [.ref aD])), (aT, .inr (7, [.ref aD, .ref aI, .ref aK, .ref aO, .ref aTi, .ref aTp, .ref aTt, .int T_chunks, .int T_chunksMade, .int T_openFrom, .int T_lacksSpace])), (aTi, .inl (cI, 961, .inl T_image_3)), (aTp, .inl (cI, 96, .inl T_packedFrom))]) (v := (some (.int r_11))) hx hb hml hown htc hN (c_X3_at l G cI cZ cJ aD aDc aI D_writesDone D_writesLeft D_down D_cells p0 v2_2 hE_10) mw_433 mw_391 mw_392 mw_4 mw_393 hd_X3_at ⟨rfl, rfl⟩ ⟨Nat.le_of_ble_eq_true rfl, Nat.le_of_ble_eq_true rfl⟩ hK hP hD hS hA [0, 1, 2] [3, 4, 5] [3, 4, 5, 0, 1, 2] rfl rfl rfl rfl rfl (by decide) rfl rfl rfl 2 rfl rfl rfl rfl hl.1 rfl rfl (Nat.le_of_ble_eq_true rfl) dX7_keep_44 ⟨Nat.zero_le _, Nat.zero_le _⟩ (fun H locs hP hD hS => ?_)
          obtain ⟨hin_12, hB_7⟩ := ckb_some hB_7
          refine va_iast hx hb hK hP hD hS 4 0 rfl rfl hin_12 dX7_keep_47 (fun H locs hP hD hS => ?_)
          have hP : va_P G classes [(aD, .inr (2, [.ref aDc, .int D_writesDone, .int D_writesLeft, .int D_down])), (aDc, .inl (cI, 4096, .inl D_cells)), (aI, .inr (3, [.ref aD])), (aT, .inr (7, [.ref aD, .ref aI, .ref aK, .ref aO, .ref aTi, .ref aTp, .ref aTt, .int T_chunks, .int T_chunksMade, .int T_openFrom, .int T_lacksSpace])), (aTi, .inl (cI, 961, .inl (upd T_image_3 (Int32.toNatClampNeg (((1 : Int32) + (T_chunks * (10 : Int32))) + v2_2)) r_11))), (aTp, .inl (cI, 96, .inl T_packedFrom))] H := hP
          have hD : va_D A [(aD, .inr (2, [.ref aDc, .int D_writesDone, .int D_writesLeft, .int D_down])), (aDc, .inl (cI, 4096, .inl D_cells)), (aI, .inr (3, [.ref aD])), (aT, .inr (7, [.ref aD, .ref aI, .ref aK, .ref aO, .ref aTi, .ref aTp, .ref aTt, .int T_chunks, .int T_chunksMade, .int T_openFrom, .int T_lacksSpace])), (aTi, .inl (cI, 961, .inl (upd T_image_3 (Int32.toNatClampNeg (((1 : Int32) + (T_chunks * (10 : Int32))) + v2_2)) r_11))), (aTp, .inl (cI, 96, .inl T_packedFrom))] := hD
          refine lv_iinc (v := (v2_2 + (1 : Int32))) (lv' := [(2, .int (v2_2 + (1 : Int32))), (0, .ref aT), (1, .int p0)]) hx hb dX7_keep_48 hl (k := 2) rfl rfl (by decide) rfl (fun ls hl => ?_)
          refine lv_goto (tgt := 17) hx hb dX7_keep_51 (by decide) ?_
          exact ih (v2_2 + (1 : Int32)) (upd T_image_3 (Int32.toNatClampNeg (((1 : Int32) + (T_chunks * (10 : Int32))) + v2_2)) r_11) hB_7 _ _ _ hP hD hS (lv_sub hl [1, 2, 0] rfl)
    exact lp_6 NN (0 : Int32) T_image hL_4 _ _ _ hP hD hS (lv_sub hl [1, 2, 0] rfl)
  · have hfin := it_f c_1 hfin
    refine lv_aload_n hx hb dX7_keep_9 rfl (lv_at hl 0 rfl) ?_
    refine lv_iconst (v := (1 : Int32)) hx hb dX7_keep_10 (by decide) ?_
    refine va_put (D := G) (ci := 7) (v := .int (1 : Int32)) (ty := .boolean) (C := RX7) (T := TX7) (N := 11) hx hb htc iX7 tyX7 tyX7_ok nmX7 hown hK hP hD hS 3 rfl rfl 10 (by decide) (htc _ mw_195) (fun _ h9 => h9) rfl (tyX7_ok 10 (by decide)) rfl rfl (Nat.le_of_ble_eq_true rfl) dX7_keep_11 (fun H locs hP hD hS => ?_)
    have hP : va_P G classes [(aD, .inr (2, [.ref aDc, .int D_writesDone, .int D_writesLeft, .int D_down])), (aDc, .inl (cI, 4096, .inl D_cells)), (aI, .inr (3, [.ref aD])), (aT, .inr (7, [.ref aD, .ref aI, .ref aK, .ref aO, .ref aTi, .ref aTp, .ref aTt, .int T_chunks, .int T_chunksMade, .int T_openFrom, .int (1 : Int32)])), (aTi, .inl (cI, 961, .inl T_image)), (aTp, .inl (cI, 96, .inl T_packedFrom))] H := hP
    have hD : va_D A [(aD, .inr (2, [.ref aDc, .int D_writesDone, .int D_writesLeft, .int D_down])), (aDc, .inl (cI, 4096, .inl D_cells)), (aI, .inr (3, [.ref aD])), (aT, .inr (7, [.ref aD, .ref aI, .ref aK, .ref aO, .ref aTi, .ref aTp, .ref aTt, .int T_chunks, .int T_chunksMade, .int T_openFrom, .int (1 : Int32)])), (aTi, .inl (cI, 961, .inl T_image)), (aTp, .inl (cI, 96, .inl T_packedFrom))] := hD
    cases hfin
    rw [hQQ]
    exact ct_vret hx hb hr hlocks hP hD hS dX7_keep_14
def m_X7_pointsOpen (O_points : Int32) : Option (Int32) :=
  some (O_points)
abbrev rm_X7_pointsOpen : Room := { frames := 0, cells := 0, slots := 0, locals := 0 }
theorem hd_X7_pointsOpen : yX7_pointsOpen.cls = RX7 ∧ yX7_pointsOpen.cls ≠ "java/lang/invoke/MethodHandle" ∧ yX7_pointsOpen.cls ≠ "java/lang/invoke/VarHandle" ∧ (parseMethodDescriptor yX7_pointsOpen.desc).map (fun d => d.parameters.length) = some 0 := by decide +kernel
set_option maxHeartbeats 4000000 in
set_option maxRecDepth 100000 in
theorem c_X7_pointsOpen (l : Launch) (G : va_G) (cI cZ cJ : ClassId) (aT aD aI aK aO aTi aTp aTt : Nat) (T_chunks : Int32) (T_chunksMade : Int32) (T_openFrom : Int32) (T_lacksSpace : Int32) (O_first : Int32) (O_last : Int32) (O_points : Int32) (O_least : Int32) (O_greatest : Int32) (O_sum : Int64)  {r : Int32} (hfin : m_X7_pointsOpen O_points = some (r)) : CT l yX7_pointsOpen cX7_pointsOpen 1 (some .int) rm_X7_pointsOpen G (tyC cI cZ cJ) [.ref aT] [(aT, .inr (7, [.ref aD, .ref aI, .ref aK, .ref aO, .ref aTi, .ref aTp, .ref aTt, .int T_chunks, .int T_chunksMade, .int T_openFrom, .int T_lacksSpace])), (aO, .inr (6, [.int O_first, .int O_last, .int O_points, .int O_least, .int O_greatest, .long O_sum]))] (some (.int r)) [(aT, .inr (7, [.ref aD, .ref aI, .ref aK, .ref aO, .ref aTi, .ref aTp, .ref aTt, .int T_chunks, .int T_chunksMade, .int T_openFrom, .int T_lacksSpace])), (aO, .inr (6, [.int O_first, .int O_last, .int O_points, .int O_least, .int O_greatest, .long O_sum]))] := by
  refine CT.ofW (lvl := [(0, .ref aT)]) (by decide) (Nat.le_of_ble_eq_true rfl) rfl ?_
  intro p e s m args below meth c A ls QQ hQQ hx hb hml hr hlocks htc hN hown hK hA hP hD hS hl
  rw [m_X7_pointsOpen] at hfin
  refine lv_aload_n hx hb dX7_pointsOpen_0 rfl (lv_at hl 0 rfl) ?_
  refine va_get (D := G) (ci := 7) (v := .ref aO) (C := RX7) (T := TX7) (N := 11) hx hb htc iX7 hown hK hP 0 rfl rfl 3 (by decide) (htc _ mw_188) (fun _ h9 => h9) rfl dX7_pointsOpen_1 ?_
  refine va_getN (D := G) (ci := 6) (v := .int O_points) (C := RX6) (T := TX6) (N := 6) hx hb htc iX6 hown hK hP 1 rfl rfl 2 (by decide) (va_Nw.use rfl (hN _ mn_13)) (fun _ h9 => h9) rfl dX7_pointsOpen_4 ?_
  cases hfin
  rw [hQQ]
  exact ct_iret hx hb hr hlocks hP hD hS dX7_pointsOpen_7
def lp_X7_findPlace_4 (T_taken : Nat → Int32) (p0 : Int32) : Nat → Int32 → Int32 → Option (Int32)
  | 0, _, _ => none
  | n + 1, v2_1, v3_2 =>
    if (1661 : Int32) ≤ v3_2 then (
      some ((-1 : Int32))) else (
      ckb v3_2 1661 <|
      ob1 (
        if (T_taken (Int32.toNatClampNeg v3_2)) = 0 then (
          some ((v2_1 + (1 : Int32)))) else (
          some ((0 : Int32)))) fun s_9 =>
      if s_9 = p0 then (
        some (((((2435 : Int32) + v3_2) + (1 : Int32)) - p0))) else (
        lp_X7_findPlace_4 T_taken p0 n s_9 (v3_2 + (1 : Int32))))
def m_X7_findPlace (T_taken : Nat → Int32) (p0 : Int32) : Option (Int32) :=
  lp_X7_findPlace_4 T_taken p0 NN (0 : Int32) (0 : Int32)
abbrev rm_X7_findPlace : Room := { frames := 0, cells := 0, slots := 0, locals := 0 }
theorem hd_X7_findPlace : yX7_findPlace.cls = RX7 ∧ yX7_findPlace.cls ≠ "java/lang/invoke/MethodHandle" ∧ yX7_findPlace.cls ≠ "java/lang/invoke/VarHandle" ∧ (parseMethodDescriptor yX7_findPlace.desc).map (fun d => d.parameters.length) = some 1 := by decide +kernel
set_option maxHeartbeats 4000000 in
set_option maxRecDepth 100000 in
theorem c_X7_findPlace (l : Launch) (G : va_G) (cI cZ cJ : ClassId) (aT aD aI aK aO aTi aTp aTt : Nat) (T_chunks : Int32) (T_chunksMade : Int32) (T_openFrom : Int32) (T_lacksSpace : Int32) (T_taken : Nat → Int32) (p0 : Int32) {r : Int32} (hfin : m_X7_findPlace T_taken p0 = some (r)) : CT l yX7_findPlace cX7_findPlace 4 (some .int) rm_X7_findPlace G (tyC cI cZ cJ) [.ref aT, .int p0] [(aT, .inr (7, [.ref aD, .ref aI, .ref aK, .ref aO, .ref aTi, .ref aTp, .ref aTt, .int T_chunks, .int T_chunksMade, .int T_openFrom, .int T_lacksSpace])), (aTt, .inl (cZ, 1661, .inl T_taken))] (some (.int r)) [(aT, .inr (7, [.ref aD, .ref aI, .ref aK, .ref aO, .ref aTi, .ref aTp, .ref aTt, .int T_chunks, .int T_chunksMade, .int T_openFrom, .int T_lacksSpace])), (aTt, .inl (cZ, 1661, .inl T_taken))] := by
  refine CT.ofW (lvl := [(0, .ref aT), (1, .int p0)]) (by decide) (Nat.le_of_ble_eq_true rfl) rfl ?_
  intro p e s m args below meth c A ls QQ hQQ hx hb hml hr hlocks htc hN hown hK hA hP hD hS hl
  rw [m_X7_findPlace] at hfin
  refine lv_iconst (v := (0 : Int32)) hx hb dX7_findPlace_0 (by decide) ?_
  refine lv_istore_n (lv' := [(2, .int (0 : Int32)), (0, .ref aT), (1, .int p0)]) hx hb dX7_findPlace_1 rfl hl (by decide) rfl (fun ls hl => ?_)
  refine lv_iconst (v := (0 : Int32)) hx hb dX7_findPlace_2 (by decide) ?_
  refine lv_istore_n (lv' := [(3, .int (0 : Int32)), (2, .int (0 : Int32)), (0, .ref aT), (1, .int p0)]) hx hb dX7_findPlace_3 rfl hl (by decide) rfl (fun ls hl => ?_)
  have lp_5 : ∀ (n : Nat) (v2_1 : Int32) (v3_2 : Int32), lp_X7_findPlace_4 T_taken p0 n v2_1 v3_2 = some (r) → ∀ (H : Heap) (locs : List Loc) (ls : Array Slot), va_P G classes [(aT, .inr (7, [.ref aD, .ref aI, .ref aK, .ref aO, .ref aTi, .ref aTp, .ref aTt, .int T_chunks, .int T_chunksMade, .int T_openFrom, .int T_lacksSpace])), (aTt, .inl (cZ, 1661, .inl T_taken))] H → va_D A [(aT, .inr (7, [.ref aD, .ref aI, .ref aK, .ref aO, .ref aTi, .ref aTp, .ref aTt, .int T_chunks, .int T_chunksMade, .int T_openFrom, .int T_lacksSpace])), (aTt, .inl (cZ, 1661, .inl T_taken))] → va_S A s.heap H locs → lv_has ls 4 [(0, .ref aT), (1, .int p0), (2, .int v2_1), (3, .int v3_2)] → W p l e rm_X7_findPlace s m args below meth c H locs 0 0 QQ (F0 m 4 ls []) := by
    intro n
    induction n with
    | zero =>
      intro v2_1 v3_2 hB_6
      exact absurd hB_6 (by rw [lp_X7_findPlace_4]; exact fun h9 => nomatch h9)
    | succ n ih =>
      intro v2_1 v3_2 hB_6 H locs ls hP hD hS hl
      rw [lp_X7_findPlace_4] at hB_6
      refine lv_iload_n hx hb dX7_findPlace_4 rfl (lv_at hl 3 rfl) ?_
      refine lv_sipush (v := (1661 : Int32)) hx hb dX7_findPlace_5 (by decide) ?_
      refine lv_icmp_ge (tgt := 49) hx hb dX7_findPlace_8 (by decide) (fun c_7 => ?_) (fun c_7 => ?_)
      · have hB_6 := it_t c_7 hB_6
        refine lv_iconst (v := (-1 : Int32)) hx hb dX7_findPlace_49 (by decide) ?_
        cases hB_6
        rw [hQQ]
        exact ct_iret hx hb hr hlocks hP hD hS dX7_findPlace_50
      · have hB_6 := it_f c_7 hB_6
        refine lv_aload_n hx hb dX7_findPlace_11 rfl (lv_at hl 0 rfl) ?_
        refine va_get (D := G) (ci := 7) (v := .ref aTt) (C := RX7) (T := TX7) (N := 11) hx hb htc iX7 hown hK hP 0 rfl rfl 6 (by decide) (htc _ mw_191) (fun _ h9 => h9) rfl dX7_findPlace_12 ?_
        refine lv_iload_n hx hb dX7_findPlace_15 rfl (lv_at hl 3 rfl) ?_
        obtain ⟨hin_8, hB_6⟩ := ckb_some hB_6
        refine va_zald hx hb hK hP 1 1 rfl rfl hin_8 dX7_findPlace_16 ?_
        obtain ⟨s_9, hJ_10, hB_6⟩ := ob1_some hB_6
        have kj_11 : ∀ (H : Heap) (locs : List Loc) (ls : Array Slot), va_P G classes [(aT, .inr (7, [.ref aD, .ref aI, .ref aK, .ref aO, .ref aTi, .ref aTp, .ref aTt, .int T_chunks, .int T_chunksMade, .int T_openFrom, .int T_lacksSpace])), (aTt, .inl (cZ, 1661, .inl T_taken))] H → va_D A [(aT, .inr (7, [.ref aD, .ref aI, .ref aK, .ref aO, .ref aTi, .ref aTp, .ref aTt, .int T_chunks, .int T_chunksMade, .int T_openFrom, .int T_lacksSpace])), (aTt, .inl (cZ, 1661, .inl T_taken))] → va_S A s.heap H locs → lv_has ls 4 [(0, .ref aT), (1, .int p0), (3, .int v3_2)] → W p l e rm_X7_findPlace s m args below meth c H locs 0 0 QQ (F0 m 27 ls [.int s_9]) := by
          intro H locs ls hP hD hS hl
          refine lv_istore_n (lv' := [(2, .int s_9), (0, .ref aT), (1, .int p0), (3, .int v3_2)]) hx hb dX7_findPlace_27 rfl hl (by decide) rfl (fun ls hl => ?_)
          refine lv_iload_n hx hb dX7_findPlace_28 rfl (lv_at hl 0 rfl) ?_
          refine lv_iload_n hx hb dX7_findPlace_29 rfl (lv_at hl 2 rfl) ?_
          refine lv_icmp_ne (tgt := 43) hx hb dX7_findPlace_30 (by decide) (fun c_13 => ?_) (fun c_13 => ?_)
          · have hB_6 := it_f c_13 hB_6
            refine lv_iinc (v := (v3_2 + (1 : Int32))) (lv' := [(3, .int (v3_2 + (1 : Int32))), (2, .int s_9), (0, .ref aT), (1, .int p0)]) hx hb dX7_findPlace_43 hl (k := 3) rfl rfl (by decide) rfl (fun ls hl => ?_)
            refine lv_goto (tgt := 4) hx hb dX7_findPlace_46 (by decide) ?_
            exact ih s_9 (v3_2 + (1 : Int32)) hB_6 _ _ _ hP hD hS (lv_sub hl [2, 3, 1, 0] rfl)
          · have hB_6 := it_t c_13 hB_6
            refine lv_sipush (v := (2435 : Int32)) hx hb dX7_findPlace_33 (by decide) ?_
            refine lv_iload_n hx hb dX7_findPlace_36 rfl (lv_at hl 3 rfl) ?_
            refine lv_iadd hx hb dX7_findPlace_37 ?_
            refine lv_iconst (v := (1 : Int32)) hx hb dX7_findPlace_38 (by decide) ?_
            refine lv_iadd hx hb dX7_findPlace_39 ?_
            refine lv_iload_n hx hb dX7_findPlace_40 rfl (lv_at hl 2 rfl) ?_
            refine lv_isub hx hb dX7_findPlace_41 ?_
            cases hB_6
            rw [hQQ]
            exact ct_iret hx hb hr hlocks hP hD hS dX7_findPlace_42
        refine lv_if_eq (tgt := 24) hx hb dX7_findPlace_17 (by decide) (fun c_12 => ?_) (fun c_12 => ?_)
        · have hJ_10 := it_t c_12 hJ_10
          refine lv_iload_n hx hb dX7_findPlace_24 rfl (lv_at hl 2 rfl) ?_
          refine lv_iconst (v := (1 : Int32)) hx hb dX7_findPlace_25 (by decide) ?_
          refine lv_iadd hx hb dX7_findPlace_26 ?_
          cases hJ_10
          exact kj_11 _ _ _ hP hD hS (lv_sub hl [0, 1, 3] rfl)
        · have hJ_10 := it_f c_12 hJ_10
          refine lv_iconst (v := (0 : Int32)) hx hb dX7_findPlace_20 (by decide) ?_
          refine lv_goto (tgt := 27) hx hb dX7_findPlace_21 (by decide) ?_
          cases hJ_10
          exact kj_11 _ _ _ hP hD hS (lv_sub hl [0, 1, 3] rfl)
  exact lp_5 NN (0 : Int32) (0 : Int32) hfin _ _ _ hP hD hS (lv_sub hl [2, 3, 1, 0] rfl)
def m_X7_addEntry (T_chunks : Int32) (T_openFrom : Int32) (O_first : Int32) (O_last : Int32) (O_points : Int32) (O_least : Int32) (O_greatest : Int32) (O_sum : Int64) (T_image : Nat → Int32) (T_packedFrom : Nat → Int32) (p0 : Int32) (p1 : Int32) (p2 : Int32) : Option (Int32 × (Nat → Int32) × (Nat → Int32)) :=
  ckb (((1 : Int32) + (T_chunks * (10 : Int32))) + (0 : Int32)) 961 <|
  ckb (((1 : Int32) + (T_chunks * (10 : Int32))) + (1 : Int32)) 961 <|
  ckb (((1 : Int32) + (T_chunks * (10 : Int32))) + (2 : Int32)) 961 <|
  ckb (((1 : Int32) + (T_chunks * (10 : Int32))) + (3 : Int32)) 961 <|
  ckb (((1 : Int32) + (T_chunks * (10 : Int32))) + (4 : Int32)) 961 <|
  ckb (((1 : Int32) + (T_chunks * (10 : Int32))) + (5 : Int32)) 961 <|
  ckb (((1 : Int32) + (T_chunks * (10 : Int32))) + (6 : Int32)) 961 <|
  ckb (((1 : Int32) + (T_chunks * (10 : Int32))) + (7 : Int32)) 961 <|
  ckb (((1 : Int32) + (T_chunks * (10 : Int32))) + (8 : Int32)) 961 <|
  ckb (((1 : Int32) + (T_chunks * (10 : Int32))) + (9 : Int32)) 961 <|
  ckb T_chunks 96 <|
  some ((T_chunks + (1 : Int32)), (upd (upd (upd (upd (upd (upd (upd (upd (upd (upd T_image (Int32.toNatClampNeg (((1 : Int32) + (T_chunks * (10 : Int32))) + (0 : Int32))) p0) (Int32.toNatClampNeg (((1 : Int32) + (T_chunks * (10 : Int32))) + (1 : Int32))) O_first) (Int32.toNatClampNeg (((1 : Int32) + (T_chunks * (10 : Int32))) + (2 : Int32))) O_last) (Int32.toNatClampNeg (((1 : Int32) + (T_chunks * (10 : Int32))) + (3 : Int32))) O_points) (Int32.toNatClampNeg (((1 : Int32) + (T_chunks * (10 : Int32))) + (4 : Int32))) O_least) (Int32.toNatClampNeg (((1 : Int32) + (T_chunks * (10 : Int32))) + (5 : Int32))) O_greatest) (Int32.toNatClampNeg (((1 : Int32) + (T_chunks * (10 : Int32))) + (6 : Int32))) (Int64.toInt32 (O_sum >>> (Int32.toInt64 (32 : Int32) &&& 63)))) (Int32.toNatClampNeg (((1 : Int32) + (T_chunks * (10 : Int32))) + (7 : Int32))) (Int64.toInt32 O_sum)) (Int32.toNatClampNeg (((1 : Int32) + (T_chunks * (10 : Int32))) + (8 : Int32))) p1) (Int32.toNatClampNeg (((1 : Int32) + (T_chunks * (10 : Int32))) + (9 : Int32))) p2), (upd T_packedFrom (Int32.toNatClampNeg T_chunks) T_openFrom))
abbrev rm_X7_addEntry : Room := { frames := 0, cells := 0, slots := 0, locals := 0 }
theorem hd_X7_addEntry : yX7_addEntry.cls = RX7 ∧ yX7_addEntry.cls ≠ "java/lang/invoke/MethodHandle" ∧ yX7_addEntry.cls ≠ "java/lang/invoke/VarHandle" ∧ (parseMethodDescriptor yX7_addEntry.desc).map (fun d => d.parameters.length) = some 3 := by decide +kernel
set_option maxHeartbeats 4000000 in
set_option maxRecDepth 100000 in
theorem c_X7_addEntry (l : Launch) (G : va_G) (cI cZ cJ : ClassId) (aT aD aI aK aO aTi aTp aTt : Nat) (T_chunks : Int32) (T_chunksMade : Int32) (T_openFrom : Int32) (T_lacksSpace : Int32) (O_first : Int32) (O_last : Int32) (O_points : Int32) (O_least : Int32) (O_greatest : Int32) (O_sum : Int64) (T_image : Nat → Int32) (T_packedFrom : Nat → Int32) (p0 : Int32) (p1 : Int32) (p2 : Int32) {o_T_chunks : Int32} {o_T_image : Nat → Int32} {o_T_packedFrom : Nat → Int32} (hfin : m_X7_addEntry T_chunks T_openFrom O_first O_last O_points O_least O_greatest O_sum T_image T_packedFrom p0 p1 p2 = some (o_T_chunks, o_T_image, o_T_packedFrom)) : CT l yX7_addEntry cX7_addEntry 5 none rm_X7_addEntry G (tyC cI cZ cJ) [.ref aT, .int p0, .int p1, .int p2] [(aT, .inr (7, [.ref aD, .ref aI, .ref aK, .ref aO, .ref aTi, .ref aTp, .ref aTt, .int T_chunks, .int T_chunksMade, .int T_openFrom, .int T_lacksSpace])), (aO, .inr (6, [.int O_first, .int O_last, .int O_points, .int O_least, .int O_greatest, .long O_sum])), (aTi, .inl (cI, 961, .inl T_image)), (aTp, .inl (cI, 96, .inl T_packedFrom))] none [(aT, .inr (7, [.ref aD, .ref aI, .ref aK, .ref aO, .ref aTi, .ref aTp, .ref aTt, .int o_T_chunks, .int T_chunksMade, .int T_openFrom, .int T_lacksSpace])), (aO, .inr (6, [.int O_first, .int O_last, .int O_points, .int O_least, .int O_greatest, .long O_sum])), (aTi, .inl (cI, 961, .inl o_T_image)), (aTp, .inl (cI, 96, .inl o_T_packedFrom))] := by
  refine CT.ofW (lvl := [(0, .ref aT), (1, .int p0), (2, .int p1), (3, .int p2)]) (by decide) (Nat.le_of_ble_eq_true rfl) rfl ?_
  intro p e s m args below meth c A ls QQ hQQ hx hb hml hr hlocks htc hN hown hK hA hP hD hS hl
  rw [m_X7_addEntry] at hfin
  refine lv_iconst (v := (1 : Int32)) hx hb dX7_addEntry_0 (by decide) ?_
  refine lv_aload_n hx hb dX7_addEntry_1 rfl (lv_at hl 0 rfl) ?_
  refine va_get (D := G) (ci := 7) (v := .int T_chunks) (C := RX7) (T := TX7) (N := 11) hx hb htc iX7 hown hK hP 0 rfl rfl 7 (by decide) (htc _ mw_192) (fun _ h9 => h9) rfl dX7_addEntry_2 ?_
  refine lv_bipush (v := (10 : Int32)) hx hb dX7_addEntry_5 (by decide) ?_
  refine lv_imul hx hb dX7_addEntry_7 ?_
  refine lv_iadd hx hb dX7_addEntry_8 ?_
  refine lv_istore (lv' := [(4, .int ((1 : Int32) + (T_chunks * (10 : Int32)))), (0, .ref aT), (1, .int p0), (2, .int p1), (3, .int p2)]) hx hb dX7_addEntry_9 hl (by decide) rfl (fun ls hl => ?_)
  refine lv_aload_n hx hb dX7_addEntry_11 rfl (lv_at hl 1 rfl) ?_
  refine va_get (D := G) (ci := 7) (v := .ref aTi) (C := RX7) (T := TX7) (N := 11) hx hb htc iX7 hown hK hP 0 rfl rfl 4 (by decide) (htc _ mw_189) (fun _ h9 => h9) rfl dX7_addEntry_12 ?_
  refine lv_iload hx hb dX7_addEntry_15 (lv_at hl 0 rfl) ?_
  refine lv_iconst (v := (0 : Int32)) hx hb dX7_addEntry_17 (by decide) ?_
  refine lv_iadd hx hb dX7_addEntry_18 ?_
  refine lv_iload_n hx hb dX7_addEntry_19 rfl (lv_at hl 2 rfl) ?_
  obtain ⟨hin_1, hfin⟩ := ckb_some hfin
  refine va_iast hx hb hK hP hD hS 2 0 rfl rfl hin_1 dX7_addEntry_20 (fun H locs hP hD hS => ?_)
  have hP : va_P G classes [(aT, .inr (7, [.ref aD, .ref aI, .ref aK, .ref aO, .ref aTi, .ref aTp, .ref aTt, .int T_chunks, .int T_chunksMade, .int T_openFrom, .int T_lacksSpace])), (aO, .inr (6, [.int O_first, .int O_last, .int O_points, .int O_least, .int O_greatest, .long O_sum])), (aTi, .inl (cI, 961, .inl (upd T_image (Int32.toNatClampNeg (((1 : Int32) + (T_chunks * (10 : Int32))) + (0 : Int32))) p0))), (aTp, .inl (cI, 96, .inl T_packedFrom))] H := hP
  have hD : va_D A [(aT, .inr (7, [.ref aD, .ref aI, .ref aK, .ref aO, .ref aTi, .ref aTp, .ref aTt, .int T_chunks, .int T_chunksMade, .int T_openFrom, .int T_lacksSpace])), (aO, .inr (6, [.int O_first, .int O_last, .int O_points, .int O_least, .int O_greatest, .long O_sum])), (aTi, .inl (cI, 961, .inl (upd T_image (Int32.toNatClampNeg (((1 : Int32) + (T_chunks * (10 : Int32))) + (0 : Int32))) p0))), (aTp, .inl (cI, 96, .inl T_packedFrom))] := hD
  refine lv_aload_n hx hb dX7_addEntry_21 rfl (lv_at hl 1 rfl) ?_
  refine va_get (D := G) (ci := 7) (v := .ref aTi) (C := RX7) (T := TX7) (N := 11) hx hb htc iX7 hown hK hP 0 rfl rfl 4 (by decide) (htc _ mw_189) (fun _ h9 => h9) rfl dX7_addEntry_22 ?_
  refine lv_iload hx hb dX7_addEntry_25 (lv_at hl 0 rfl) ?_
  refine lv_iconst (v := (1 : Int32)) hx hb dX7_addEntry_27 (by decide) ?_
  refine lv_iadd hx hb dX7_addEntry_28 ?_
  refine lv_aload_n hx hb dX7_addEntry_29 rfl (lv_at hl 1 rfl) ?_
  refine va_get (D := G) (ci := 7) (v := .ref aO) (C := RX7) (T := TX7) (N := 11) hx hb htc iX7 hown hK hP 0 rfl rfl 3 (by decide) (htc _ mw_188) (fun _ h9 => h9) rfl dX7_addEntry_30 ?_
  refine va_getN (D := G) (ci := 6) (v := .int O_first) (C := RX6) (T := TX6) (N := 6) hx hb htc iX6 hown hK hP 1 rfl rfl 0 (by decide) (va_Nw.use rfl (hN _ mn_9)) (fun _ h9 => h9) rfl dX7_addEntry_33 ?_
  obtain ⟨hin_2, hfin⟩ := ckb_some hfin
  refine va_iast hx hb hK hP hD hS 2 0 rfl rfl hin_2 dX7_addEntry_36 (fun H locs hP hD hS => ?_)
  have hP : va_P G classes [(aT, .inr (7, [.ref aD, .ref aI, .ref aK, .ref aO, .ref aTi, .ref aTp, .ref aTt, .int T_chunks, .int T_chunksMade, .int T_openFrom, .int T_lacksSpace])), (aO, .inr (6, [.int O_first, .int O_last, .int O_points, .int O_least, .int O_greatest, .long O_sum])), (aTi, .inl (cI, 961, .inl (upd (upd T_image (Int32.toNatClampNeg (((1 : Int32) + (T_chunks * (10 : Int32))) + (0 : Int32))) p0) (Int32.toNatClampNeg (((1 : Int32) + (T_chunks * (10 : Int32))) + (1 : Int32))) O_first))), (aTp, .inl (cI, 96, .inl T_packedFrom))] H := hP
  have hD : va_D A [(aT, .inr (7, [.ref aD, .ref aI, .ref aK, .ref aO, .ref aTi, .ref aTp, .ref aTt, .int T_chunks, .int T_chunksMade, .int T_openFrom, .int T_lacksSpace])), (aO, .inr (6, [.int O_first, .int O_last, .int O_points, .int O_least, .int O_greatest, .long O_sum])), (aTi, .inl (cI, 961, .inl (upd (upd T_image (Int32.toNatClampNeg (((1 : Int32) + (T_chunks * (10 : Int32))) + (0 : Int32))) p0) (Int32.toNatClampNeg (((1 : Int32) + (T_chunks * (10 : Int32))) + (1 : Int32))) O_first))), (aTp, .inl (cI, 96, .inl T_packedFrom))] := hD
  refine lv_aload_n hx hb dX7_addEntry_37 rfl (lv_at hl 1 rfl) ?_
  refine va_get (D := G) (ci := 7) (v := .ref aTi) (C := RX7) (T := TX7) (N := 11) hx hb htc iX7 hown hK hP 0 rfl rfl 4 (by decide) (htc _ mw_189) (fun _ h9 => h9) rfl dX7_addEntry_38 ?_
  refine lv_iload hx hb dX7_addEntry_41 (lv_at hl 0 rfl) ?_
  refine lv_iconst (v := (2 : Int32)) hx hb dX7_addEntry_43 (by decide) ?_
  refine lv_iadd hx hb dX7_addEntry_44 ?_
  refine lv_aload_n hx hb dX7_addEntry_45 rfl (lv_at hl 1 rfl) ?_
  refine va_get (D := G) (ci := 7) (v := .ref aO) (C := RX7) (T := TX7) (N := 11) hx hb htc iX7 hown hK hP 0 rfl rfl 3 (by decide) (htc _ mw_188) (fun _ h9 => h9) rfl dX7_addEntry_46 ?_
  refine va_getN (D := G) (ci := 6) (v := .int O_last) (C := RX6) (T := TX6) (N := 6) hx hb htc iX6 hown hK hP 1 rfl rfl 1 (by decide) (va_Nw.use rfl (hN _ mn_11)) (fun _ h9 => h9) rfl dX7_addEntry_49 ?_
  obtain ⟨hin_3, hfin⟩ := ckb_some hfin
  refine va_iast hx hb hK hP hD hS 2 0 rfl rfl hin_3 dX7_addEntry_52 (fun H locs hP hD hS => ?_)
  have hP : va_P G classes [(aT, .inr (7, [.ref aD, .ref aI, .ref aK, .ref aO, .ref aTi, .ref aTp, .ref aTt, .int T_chunks, .int T_chunksMade, .int T_openFrom, .int T_lacksSpace])), (aO, .inr (6, [.int O_first, .int O_last, .int O_points, .int O_least, .int O_greatest, .long O_sum])), (aTi, .inl (cI, 961, .inl (upd (upd (upd T_image (Int32.toNatClampNeg (((1 : Int32) + (T_chunks * (10 : Int32))) + (0 : Int32))) p0) (Int32.toNatClampNeg (((1 : Int32) + (T_chunks * (10 : Int32))) + (1 : Int32))) O_first) (Int32.toNatClampNeg (((1 : Int32) + (T_chunks * (10 : Int32))) + (2 : Int32))) O_last))), (aTp, .inl (cI, 96, .inl T_packedFrom))] H := hP
  have hD : va_D A [(aT, .inr (7, [.ref aD, .ref aI, .ref aK, .ref aO, .ref aTi, .ref aTp, .ref aTt, .int T_chunks, .int T_chunksMade, .int T_openFrom, .int T_lacksSpace])), (aO, .inr (6, [.int O_first, .int O_last, .int O_points, .int O_least, .int O_greatest, .long O_sum])), (aTi, .inl (cI, 961, .inl (upd (upd (upd T_image (Int32.toNatClampNeg (((1 : Int32) + (T_chunks * (10 : Int32))) + (0 : Int32))) p0) (Int32.toNatClampNeg (((1 : Int32) + (T_chunks * (10 : Int32))) + (1 : Int32))) O_first) (Int32.toNatClampNeg (((1 : Int32) + (T_chunks * (10 : Int32))) + (2 : Int32))) O_last))), (aTp, .inl (cI, 96, .inl T_packedFrom))] := hD
  refine lv_aload_n hx hb dX7_addEntry_53 rfl (lv_at hl 1 rfl) ?_
  refine va_get (D := G) (ci := 7) (v := .ref aTi) (C := RX7) (T := TX7) (N := 11) hx hb htc iX7 hown hK hP 0 rfl rfl 4 (by decide) (htc _ mw_189) (fun _ h9 => h9) rfl dX7_addEntry_54 ?_
  refine lv_iload hx hb dX7_addEntry_57 (lv_at hl 0 rfl) ?_
  refine lv_iconst (v := (3 : Int32)) hx hb dX7_addEntry_59 (by decide) ?_
  refine lv_iadd hx hb dX7_addEntry_60 ?_
  refine lv_aload_n hx hb dX7_addEntry_61 rfl (lv_at hl 1 rfl) ?_
  refine va_get (D := G) (ci := 7) (v := .ref aO) (C := RX7) (T := TX7) (N := 11) hx hb htc iX7 hown hK hP 0 rfl rfl 3 (by decide) (htc _ mw_188) (fun _ h9 => h9) rfl dX7_addEntry_62 ?_
  refine va_getN (D := G) (ci := 6) (v := .int O_points) (C := RX6) (T := TX6) (N := 6) hx hb htc iX6 hown hK hP 1 rfl rfl 2 (by decide) (va_Nw.use rfl (hN _ mn_13)) (fun _ h9 => h9) rfl dX7_addEntry_65 ?_
  obtain ⟨hin_4, hfin⟩ := ckb_some hfin
  refine va_iast hx hb hK hP hD hS 2 0 rfl rfl hin_4 dX7_addEntry_68 (fun H locs hP hD hS => ?_)
  have hP : va_P G classes [(aT, .inr (7, [.ref aD, .ref aI, .ref aK, .ref aO, .ref aTi, .ref aTp, .ref aTt, .int T_chunks, .int T_chunksMade, .int T_openFrom, .int T_lacksSpace])), (aO, .inr (6, [.int O_first, .int O_last, .int O_points, .int O_least, .int O_greatest, .long O_sum])), (aTi, .inl (cI, 961, .inl (upd (upd (upd (upd T_image (Int32.toNatClampNeg (((1 : Int32) + (T_chunks * (10 : Int32))) + (0 : Int32))) p0) (Int32.toNatClampNeg (((1 : Int32) + (T_chunks * (10 : Int32))) + (1 : Int32))) O_first) (Int32.toNatClampNeg (((1 : Int32) + (T_chunks * (10 : Int32))) + (2 : Int32))) O_last) (Int32.toNatClampNeg (((1 : Int32) + (T_chunks * (10 : Int32))) + (3 : Int32))) O_points))), (aTp, .inl (cI, 96, .inl T_packedFrom))] H := hP
  have hD : va_D A [(aT, .inr (7, [.ref aD, .ref aI, .ref aK, .ref aO, .ref aTi, .ref aTp, .ref aTt, .int T_chunks, .int T_chunksMade, .int T_openFrom, .int T_lacksSpace])), (aO, .inr (6, [.int O_first, .int O_last, .int O_points, .int O_least, .int O_greatest, .long O_sum])), (aTi, .inl (cI, 961, .inl (upd (upd (upd (upd T_image (Int32.toNatClampNeg (((1 : Int32) + (T_chunks * (10 : Int32))) + (0 : Int32))) p0) (Int32.toNatClampNeg (((1 : Int32) + (T_chunks * (10 : Int32))) + (1 : Int32))) O_first) (Int32.toNatClampNeg (((1 : Int32) + (T_chunks * (10 : Int32))) + (2 : Int32))) O_last) (Int32.toNatClampNeg (((1 : Int32) + (T_chunks * (10 : Int32))) + (3 : Int32))) O_points))), (aTp, .inl (cI, 96, .inl T_packedFrom))] := hD
  refine lv_aload_n hx hb dX7_addEntry_69 rfl (lv_at hl 1 rfl) ?_
  refine va_get (D := G) (ci := 7) (v := .ref aTi) (C := RX7) (T := TX7) (N := 11) hx hb htc iX7 hown hK hP 0 rfl rfl 4 (by decide) (htc _ mw_189) (fun _ h9 => h9) rfl dX7_addEntry_70 ?_
  refine lv_iload hx hb dX7_addEntry_73 (lv_at hl 0 rfl) ?_
  refine lv_iconst (v := (4 : Int32)) hx hb dX7_addEntry_75 (by decide) ?_
  refine lv_iadd hx hb dX7_addEntry_76 ?_
  refine lv_aload_n hx hb dX7_addEntry_77 rfl (lv_at hl 1 rfl) ?_
  refine va_get (D := G) (ci := 7) (v := .ref aO) (C := RX7) (T := TX7) (N := 11) hx hb htc iX7 hown hK hP 0 rfl rfl 3 (by decide) (htc _ mw_188) (fun _ h9 => h9) rfl dX7_addEntry_78 ?_
  refine va_getN (D := G) (ci := 6) (v := .int O_least) (C := RX6) (T := TX6) (N := 6) hx hb htc iX6 hown hK hP 1 rfl rfl 3 (by decide) (va_Nw.use rfl (hN _ mn_17)) (fun _ h9 => h9) rfl dX7_addEntry_81 ?_
  obtain ⟨hin_5, hfin⟩ := ckb_some hfin
  refine va_iast hx hb hK hP hD hS 2 0 rfl rfl hin_5 dX7_addEntry_84 (fun H locs hP hD hS => ?_)
  have hP : va_P G classes [(aT, .inr (7, [.ref aD, .ref aI, .ref aK, .ref aO, .ref aTi, .ref aTp, .ref aTt, .int T_chunks, .int T_chunksMade, .int T_openFrom, .int T_lacksSpace])), (aO, .inr (6, [.int O_first, .int O_last, .int O_points, .int O_least, .int O_greatest, .long O_sum])), (aTi, .inl (cI, 961, .inl (upd (upd (upd (upd (upd T_image (Int32.toNatClampNeg (((1 : Int32) + (T_chunks * (10 : Int32))) + (0 : Int32))) p0) (Int32.toNatClampNeg (((1 : Int32) + (T_chunks * (10 : Int32))) + (1 : Int32))) O_first) (Int32.toNatClampNeg (((1 : Int32) + (T_chunks * (10 : Int32))) + (2 : Int32))) O_last) (Int32.toNatClampNeg (((1 : Int32) + (T_chunks * (10 : Int32))) + (3 : Int32))) O_points) (Int32.toNatClampNeg (((1 : Int32) + (T_chunks * (10 : Int32))) + (4 : Int32))) O_least))), (aTp, .inl (cI, 96, .inl T_packedFrom))] H := hP
  have hD : va_D A [(aT, .inr (7, [.ref aD, .ref aI, .ref aK, .ref aO, .ref aTi, .ref aTp, .ref aTt, .int T_chunks, .int T_chunksMade, .int T_openFrom, .int T_lacksSpace])), (aO, .inr (6, [.int O_first, .int O_last, .int O_points, .int O_least, .int O_greatest, .long O_sum])), (aTi, .inl (cI, 961, .inl (upd (upd (upd (upd (upd T_image (Int32.toNatClampNeg (((1 : Int32) + (T_chunks * (10 : Int32))) + (0 : Int32))) p0) (Int32.toNatClampNeg (((1 : Int32) + (T_chunks * (10 : Int32))) + (1 : Int32))) O_first) (Int32.toNatClampNeg (((1 : Int32) + (T_chunks * (10 : Int32))) + (2 : Int32))) O_last) (Int32.toNatClampNeg (((1 : Int32) + (T_chunks * (10 : Int32))) + (3 : Int32))) O_points) (Int32.toNatClampNeg (((1 : Int32) + (T_chunks * (10 : Int32))) + (4 : Int32))) O_least))), (aTp, .inl (cI, 96, .inl T_packedFrom))] := hD
  refine lv_aload_n hx hb dX7_addEntry_85 rfl (lv_at hl 1 rfl) ?_
  refine va_get (D := G) (ci := 7) (v := .ref aTi) (C := RX7) (T := TX7) (N := 11) hx hb htc iX7 hown hK hP 0 rfl rfl 4 (by decide) (htc _ mw_189) (fun _ h9 => h9) rfl dX7_addEntry_86 ?_
  refine lv_iload hx hb dX7_addEntry_89 (lv_at hl 0 rfl) ?_
  refine lv_iconst (v := (5 : Int32)) hx hb dX7_addEntry_91 (by decide) ?_
  refine lv_iadd hx hb dX7_addEntry_92 ?_
  refine lv_aload_n hx hb dX7_addEntry_93 rfl (lv_at hl 1 rfl) ?_
  refine va_get (D := G) (ci := 7) (v := .ref aO) (C := RX7) (T := TX7) (N := 11) hx hb htc iX7 hown hK hP 0 rfl rfl 3 (by decide) (htc _ mw_188) (fun _ h9 => h9) rfl dX7_addEntry_94 ?_
  refine va_getN (D := G) (ci := 6) (v := .int O_greatest) (C := RX6) (T := TX6) (N := 6) hx hb htc iX6 hown hK hP 1 rfl rfl 4 (by decide) (va_Nw.use rfl (hN _ mn_18)) (fun _ h9 => h9) rfl dX7_addEntry_97 ?_
  obtain ⟨hin_6, hfin⟩ := ckb_some hfin
  refine va_iast hx hb hK hP hD hS 2 0 rfl rfl hin_6 dX7_addEntry_100 (fun H locs hP hD hS => ?_)
  have hP : va_P G classes [(aT, .inr (7, [.ref aD, .ref aI, .ref aK, .ref aO, .ref aTi, .ref aTp, .ref aTt, .int T_chunks, .int T_chunksMade, .int T_openFrom, .int T_lacksSpace])), (aO, .inr (6, [.int O_first, .int O_last, .int O_points, .int O_least, .int O_greatest, .long O_sum])), (aTi, .inl (cI, 961, .inl (upd (upd (upd (upd (upd (upd T_image (Int32.toNatClampNeg (((1 : Int32) + (T_chunks * (10 : Int32))) + (0 : Int32))) p0) (Int32.toNatClampNeg (((1 : Int32) + (T_chunks * (10 : Int32))) + (1 : Int32))) O_first) (Int32.toNatClampNeg (((1 : Int32) + (T_chunks * (10 : Int32))) + (2 : Int32))) O_last) (Int32.toNatClampNeg (((1 : Int32) + (T_chunks * (10 : Int32))) + (3 : Int32))) O_points) (Int32.toNatClampNeg (((1 : Int32) + (T_chunks * (10 : Int32))) + (4 : Int32))) O_least) (Int32.toNatClampNeg (((1 : Int32) + (T_chunks * (10 : Int32))) + (5 : Int32))) O_greatest))), (aTp, .inl (cI, 96, .inl T_packedFrom))] H := hP
  have hD : va_D A [(aT, .inr (7, [.ref aD, .ref aI, .ref aK, .ref aO, .ref aTi, .ref aTp, .ref aTt, .int T_chunks, .int T_chunksMade, .int T_openFrom, .int T_lacksSpace])), (aO, .inr (6, [.int O_first, .int O_last, .int O_points, .int O_least, .int O_greatest, .long O_sum])), (aTi, .inl (cI, 961, .inl (upd (upd (upd (upd (upd (upd T_image (Int32.toNatClampNeg (((1 : Int32) + (T_chunks * (10 : Int32))) + (0 : Int32))) p0) (Int32.toNatClampNeg (((1 : Int32) + (T_chunks * (10 : Int32))) + (1 : Int32))) O_first) (Int32.toNatClampNeg (((1 : Int32) + (T_chunks * (10 : Int32))) + (2 : Int32))) O_last) (Int32.toNatClampNeg (((1 : Int32) + (T_chunks * (10 : Int32))) + (3 : Int32))) O_points) (Int32.toNatClampNeg (((1 : Int32) + (T_chunks * (10 : Int32))) + (4 : Int32))) O_least) (Int32.toNatClampNeg (((1 : Int32) + (T_chunks * (10 : Int32))) + (5 : Int32))) O_greatest))), (aTp, .inl (cI, 96, .inl T_packedFrom))] := hD
  refine lv_aload_n hx hb dX7_addEntry_101 rfl (lv_at hl 1 rfl) ?_
  refine va_get (D := G) (ci := 7) (v := .ref aTi) (C := RX7) (T := TX7) (N := 11) hx hb htc iX7 hown hK hP 0 rfl rfl 4 (by decide) (htc _ mw_189) (fun _ h9 => h9) rfl dX7_addEntry_102 ?_
  refine lv_iload hx hb dX7_addEntry_105 (lv_at hl 0 rfl) ?_
  refine lv_bipush (v := (6 : Int32)) hx hb dX7_addEntry_107 (by decide) ?_
  refine lv_iadd hx hb dX7_addEntry_109 ?_
  refine lv_aload_n hx hb dX7_addEntry_110 rfl (lv_at hl 1 rfl) ?_
  refine va_get (D := G) (ci := 7) (v := .ref aO) (C := RX7) (T := TX7) (N := 11) hx hb htc iX7 hown hK hP 0 rfl rfl 3 (by decide) (htc _ mw_188) (fun _ h9 => h9) rfl dX7_addEntry_111 ?_
  refine va_getN (D := G) (ci := 6) (v := .long O_sum) (C := RX6) (T := TX6) (N := 6) hx hb htc iX6 hown hK hP 1 rfl rfl 5 (by decide) (va_Nw.use rfl (hN _ mn_20)) (fun _ h9 => h9) rfl dX7_addEntry_114 ?_
  refine lv_bipush (v := (32 : Int32)) hx hb dX7_addEntry_117 (by decide) ?_
  refine lv_lshr hx hb dX7_addEntry_119 rfl ?_
  refine lv_l2i hx hb dX7_addEntry_120 rfl ?_
  obtain ⟨hin_7, hfin⟩ := ckb_some hfin
  refine va_iast hx hb hK hP hD hS 2 0 rfl rfl hin_7 dX7_addEntry_121 (fun H locs hP hD hS => ?_)
  have hP : va_P G classes [(aT, .inr (7, [.ref aD, .ref aI, .ref aK, .ref aO, .ref aTi, .ref aTp, .ref aTt, .int T_chunks, .int T_chunksMade, .int T_openFrom, .int T_lacksSpace])), (aO, .inr (6, [.int O_first, .int O_last, .int O_points, .int O_least, .int O_greatest, .long O_sum])), (aTi, .inl (cI, 961, .inl (upd (upd (upd (upd (upd (upd (upd T_image (Int32.toNatClampNeg (((1 : Int32) + (T_chunks * (10 : Int32))) + (0 : Int32))) p0) (Int32.toNatClampNeg (((1 : Int32) + (T_chunks * (10 : Int32))) + (1 : Int32))) O_first) (Int32.toNatClampNeg (((1 : Int32) + (T_chunks * (10 : Int32))) + (2 : Int32))) O_last) (Int32.toNatClampNeg (((1 : Int32) + (T_chunks * (10 : Int32))) + (3 : Int32))) O_points) (Int32.toNatClampNeg (((1 : Int32) + (T_chunks * (10 : Int32))) + (4 : Int32))) O_least) (Int32.toNatClampNeg (((1 : Int32) + (T_chunks * (10 : Int32))) + (5 : Int32))) O_greatest) (Int32.toNatClampNeg (((1 : Int32) + (T_chunks * (10 : Int32))) + (6 : Int32))) (Int64.toInt32 (O_sum >>> (Int32.toInt64 (32 : Int32) &&& 63)))))), (aTp, .inl (cI, 96, .inl T_packedFrom))] H := hP
  have hD : va_D A [(aT, .inr (7, [.ref aD, .ref aI, .ref aK, .ref aO, .ref aTi, .ref aTp, .ref aTt, .int T_chunks, .int T_chunksMade, .int T_openFrom, .int T_lacksSpace])), (aO, .inr (6, [.int O_first, .int O_last, .int O_points, .int O_least, .int O_greatest, .long O_sum])), (aTi, .inl (cI, 961, .inl (upd (upd (upd (upd (upd (upd (upd T_image (Int32.toNatClampNeg (((1 : Int32) + (T_chunks * (10 : Int32))) + (0 : Int32))) p0) (Int32.toNatClampNeg (((1 : Int32) + (T_chunks * (10 : Int32))) + (1 : Int32))) O_first) (Int32.toNatClampNeg (((1 : Int32) + (T_chunks * (10 : Int32))) + (2 : Int32))) O_last) (Int32.toNatClampNeg (((1 : Int32) + (T_chunks * (10 : Int32))) + (3 : Int32))) O_points) (Int32.toNatClampNeg (((1 : Int32) + (T_chunks * (10 : Int32))) + (4 : Int32))) O_least) (Int32.toNatClampNeg (((1 : Int32) + (T_chunks * (10 : Int32))) + (5 : Int32))) O_greatest) (Int32.toNatClampNeg (((1 : Int32) + (T_chunks * (10 : Int32))) + (6 : Int32))) (Int64.toInt32 (O_sum >>> (Int32.toInt64 (32 : Int32) &&& 63)))))), (aTp, .inl (cI, 96, .inl T_packedFrom))] := hD
  refine lv_aload_n hx hb dX7_addEntry_122 rfl (lv_at hl 1 rfl) ?_
  refine va_get (D := G) (ci := 7) (v := .ref aTi) (C := RX7) (T := TX7) (N := 11) hx hb htc iX7 hown hK hP 0 rfl rfl 4 (by decide) (htc _ mw_189) (fun _ h9 => h9) rfl dX7_addEntry_123 ?_
  refine lv_iload hx hb dX7_addEntry_126 (lv_at hl 0 rfl) ?_
  refine lv_bipush (v := (7 : Int32)) hx hb dX7_addEntry_128 (by decide) ?_
  refine lv_iadd hx hb dX7_addEntry_130 ?_
  refine lv_aload_n hx hb dX7_addEntry_131 rfl (lv_at hl 1 rfl) ?_
  refine va_get (D := G) (ci := 7) (v := .ref aO) (C := RX7) (T := TX7) (N := 11) hx hb htc iX7 hown hK hP 0 rfl rfl 3 (by decide) (htc _ mw_188) (fun _ h9 => h9) rfl dX7_addEntry_132 ?_
  refine va_getN (D := G) (ci := 6) (v := .long O_sum) (C := RX6) (T := TX6) (N := 6) hx hb htc iX6 hown hK hP 1 rfl rfl 5 (by decide) (va_Nw.use rfl (hN _ mn_20)) (fun _ h9 => h9) rfl dX7_addEntry_135 ?_
  refine lv_l2i hx hb dX7_addEntry_138 rfl ?_
  obtain ⟨hin_8, hfin⟩ := ckb_some hfin
  refine va_iast hx hb hK hP hD hS 2 0 rfl rfl hin_8 dX7_addEntry_139 (fun H locs hP hD hS => ?_)
  have hP : va_P G classes [(aT, .inr (7, [.ref aD, .ref aI, .ref aK, .ref aO, .ref aTi, .ref aTp, .ref aTt, .int T_chunks, .int T_chunksMade, .int T_openFrom, .int T_lacksSpace])), (aO, .inr (6, [.int O_first, .int O_last, .int O_points, .int O_least, .int O_greatest, .long O_sum])), (aTi, .inl (cI, 961, .inl (upd (upd (upd (upd (upd (upd (upd (upd T_image (Int32.toNatClampNeg (((1 : Int32) + (T_chunks * (10 : Int32))) + (0 : Int32))) p0) (Int32.toNatClampNeg (((1 : Int32) + (T_chunks * (10 : Int32))) + (1 : Int32))) O_first) (Int32.toNatClampNeg (((1 : Int32) + (T_chunks * (10 : Int32))) + (2 : Int32))) O_last) (Int32.toNatClampNeg (((1 : Int32) + (T_chunks * (10 : Int32))) + (3 : Int32))) O_points) (Int32.toNatClampNeg (((1 : Int32) + (T_chunks * (10 : Int32))) + (4 : Int32))) O_least) (Int32.toNatClampNeg (((1 : Int32) + (T_chunks * (10 : Int32))) + (5 : Int32))) O_greatest) (Int32.toNatClampNeg (((1 : Int32) + (T_chunks * (10 : Int32))) + (6 : Int32))) (Int64.toInt32 (O_sum >>> (Int32.toInt64 (32 : Int32) &&& 63)))) (Int32.toNatClampNeg (((1 : Int32) + (T_chunks * (10 : Int32))) + (7 : Int32))) (Int64.toInt32 O_sum)))), (aTp, .inl (cI, 96, .inl T_packedFrom))] H := hP
  have hD : va_D A [(aT, .inr (7, [.ref aD, .ref aI, .ref aK, .ref aO, .ref aTi, .ref aTp, .ref aTt, .int T_chunks, .int T_chunksMade, .int T_openFrom, .int T_lacksSpace])), (aO, .inr (6, [.int O_first, .int O_last, .int O_points, .int O_least, .int O_greatest, .long O_sum])), (aTi, .inl (cI, 961, .inl (upd (upd (upd (upd (upd (upd (upd (upd T_image (Int32.toNatClampNeg (((1 : Int32) + (T_chunks * (10 : Int32))) + (0 : Int32))) p0) (Int32.toNatClampNeg (((1 : Int32) + (T_chunks * (10 : Int32))) + (1 : Int32))) O_first) (Int32.toNatClampNeg (((1 : Int32) + (T_chunks * (10 : Int32))) + (2 : Int32))) O_last) (Int32.toNatClampNeg (((1 : Int32) + (T_chunks * (10 : Int32))) + (3 : Int32))) O_points) (Int32.toNatClampNeg (((1 : Int32) + (T_chunks * (10 : Int32))) + (4 : Int32))) O_least) (Int32.toNatClampNeg (((1 : Int32) + (T_chunks * (10 : Int32))) + (5 : Int32))) O_greatest) (Int32.toNatClampNeg (((1 : Int32) + (T_chunks * (10 : Int32))) + (6 : Int32))) (Int64.toInt32 (O_sum >>> (Int32.toInt64 (32 : Int32) &&& 63)))) (Int32.toNatClampNeg (((1 : Int32) + (T_chunks * (10 : Int32))) + (7 : Int32))) (Int64.toInt32 O_sum)))), (aTp, .inl (cI, 96, .inl T_packedFrom))] := hD
  refine lv_aload_n hx hb dX7_addEntry_140 rfl (lv_at hl 1 rfl) ?_
  refine va_get (D := G) (ci := 7) (v := .ref aTi) (C := RX7) (T := TX7) (N := 11) hx hb htc iX7 hown hK hP 0 rfl rfl 4 (by decide) (htc _ mw_189) (fun _ h9 => h9) rfl dX7_addEntry_141 ?_
  refine lv_iload hx hb dX7_addEntry_144 (lv_at hl 0 rfl) ?_
  refine lv_bipush (v := (8 : Int32)) hx hb dX7_addEntry_146 (by decide) ?_
  refine lv_iadd hx hb dX7_addEntry_148 ?_
  refine lv_iload_n hx hb dX7_addEntry_149 rfl (lv_at hl 3 rfl) ?_
  obtain ⟨hin_9, hfin⟩ := ckb_some hfin
  refine va_iast hx hb hK hP hD hS 2 0 rfl rfl hin_9 dX7_addEntry_150 (fun H locs hP hD hS => ?_)
  have hP : va_P G classes [(aT, .inr (7, [.ref aD, .ref aI, .ref aK, .ref aO, .ref aTi, .ref aTp, .ref aTt, .int T_chunks, .int T_chunksMade, .int T_openFrom, .int T_lacksSpace])), (aO, .inr (6, [.int O_first, .int O_last, .int O_points, .int O_least, .int O_greatest, .long O_sum])), (aTi, .inl (cI, 961, .inl (upd (upd (upd (upd (upd (upd (upd (upd (upd T_image (Int32.toNatClampNeg (((1 : Int32) + (T_chunks * (10 : Int32))) + (0 : Int32))) p0) (Int32.toNatClampNeg (((1 : Int32) + (T_chunks * (10 : Int32))) + (1 : Int32))) O_first) (Int32.toNatClampNeg (((1 : Int32) + (T_chunks * (10 : Int32))) + (2 : Int32))) O_last) (Int32.toNatClampNeg (((1 : Int32) + (T_chunks * (10 : Int32))) + (3 : Int32))) O_points) (Int32.toNatClampNeg (((1 : Int32) + (T_chunks * (10 : Int32))) + (4 : Int32))) O_least) (Int32.toNatClampNeg (((1 : Int32) + (T_chunks * (10 : Int32))) + (5 : Int32))) O_greatest) (Int32.toNatClampNeg (((1 : Int32) + (T_chunks * (10 : Int32))) + (6 : Int32))) (Int64.toInt32 (O_sum >>> (Int32.toInt64 (32 : Int32) &&& 63)))) (Int32.toNatClampNeg (((1 : Int32) + (T_chunks * (10 : Int32))) + (7 : Int32))) (Int64.toInt32 O_sum)) (Int32.toNatClampNeg (((1 : Int32) + (T_chunks * (10 : Int32))) + (8 : Int32))) p1))), (aTp, .inl (cI, 96, .inl T_packedFrom))] H := hP
  have hD : va_D A [(aT, .inr (7, [.ref aD, .ref aI, .ref aK, .ref aO, .ref aTi, .ref aTp, .ref aTt, .int T_chunks, .int T_chunksMade, .int T_openFrom, .int T_lacksSpace])), (aO, .inr (6, [.int O_first, .int O_last, .int O_points, .int O_least, .int O_greatest, .long O_sum])), (aTi, .inl (cI, 961, .inl (upd (upd (upd (upd (upd (upd (upd (upd (upd T_image (Int32.toNatClampNeg (((1 : Int32) + (T_chunks * (10 : Int32))) + (0 : Int32))) p0) (Int32.toNatClampNeg (((1 : Int32) + (T_chunks * (10 : Int32))) + (1 : Int32))) O_first) (Int32.toNatClampNeg (((1 : Int32) + (T_chunks * (10 : Int32))) + (2 : Int32))) O_last) (Int32.toNatClampNeg (((1 : Int32) + (T_chunks * (10 : Int32))) + (3 : Int32))) O_points) (Int32.toNatClampNeg (((1 : Int32) + (T_chunks * (10 : Int32))) + (4 : Int32))) O_least) (Int32.toNatClampNeg (((1 : Int32) + (T_chunks * (10 : Int32))) + (5 : Int32))) O_greatest) (Int32.toNatClampNeg (((1 : Int32) + (T_chunks * (10 : Int32))) + (6 : Int32))) (Int64.toInt32 (O_sum >>> (Int32.toInt64 (32 : Int32) &&& 63)))) (Int32.toNatClampNeg (((1 : Int32) + (T_chunks * (10 : Int32))) + (7 : Int32))) (Int64.toInt32 O_sum)) (Int32.toNatClampNeg (((1 : Int32) + (T_chunks * (10 : Int32))) + (8 : Int32))) p1))), (aTp, .inl (cI, 96, .inl T_packedFrom))] := hD
  refine lv_aload_n hx hb dX7_addEntry_151 rfl (lv_at hl 1 rfl) ?_
  refine va_get (D := G) (ci := 7) (v := .ref aTi) (C := RX7) (T := TX7) (N := 11) hx hb htc iX7 hown hK hP 0 rfl rfl 4 (by decide) (htc _ mw_189) (fun _ h9 => h9) rfl dX7_addEntry_152 ?_
  refine lv_iload hx hb dX7_addEntry_155 (lv_at hl 0 rfl) ?_
  refine lv_bipush (v := (9 : Int32)) hx hb dX7_addEntry_157 (by decide) ?_
  refine lv_iadd hx hb dX7_addEntry_159 ?_
  refine lv_iload_n hx hb dX7_addEntry_160 rfl (lv_at hl 4 rfl) ?_
  obtain ⟨hin_10, hfin⟩ := ckb_some hfin
  refine va_iast hx hb hK hP hD hS 2 0 rfl rfl hin_10 dX7_addEntry_161 (fun H locs hP hD hS => ?_)
  have hP : va_P G classes [(aT, .inr (7, [.ref aD, .ref aI, .ref aK, .ref aO, .ref aTi, .ref aTp, .ref aTt, .int T_chunks, .int T_chunksMade, .int T_openFrom, .int T_lacksSpace])), (aO, .inr (6, [.int O_first, .int O_last, .int O_points, .int O_least, .int O_greatest, .long O_sum])), (aTi, .inl (cI, 961, .inl (upd (upd (upd (upd (upd (upd (upd (upd (upd (upd T_image (Int32.toNatClampNeg (((1 : Int32) + (T_chunks * (10 : Int32))) + (0 : Int32))) p0) (Int32.toNatClampNeg (((1 : Int32) + (T_chunks * (10 : Int32))) + (1 : Int32))) O_first) (Int32.toNatClampNeg (((1 : Int32) + (T_chunks * (10 : Int32))) + (2 : Int32))) O_last) (Int32.toNatClampNeg (((1 : Int32) + (T_chunks * (10 : Int32))) + (3 : Int32))) O_points) (Int32.toNatClampNeg (((1 : Int32) + (T_chunks * (10 : Int32))) + (4 : Int32))) O_least) (Int32.toNatClampNeg (((1 : Int32) + (T_chunks * (10 : Int32))) + (5 : Int32))) O_greatest) (Int32.toNatClampNeg (((1 : Int32) + (T_chunks * (10 : Int32))) + (6 : Int32))) (Int64.toInt32 (O_sum >>> (Int32.toInt64 (32 : Int32) &&& 63)))) (Int32.toNatClampNeg (((1 : Int32) + (T_chunks * (10 : Int32))) + (7 : Int32))) (Int64.toInt32 O_sum)) (Int32.toNatClampNeg (((1 : Int32) + (T_chunks * (10 : Int32))) + (8 : Int32))) p1) (Int32.toNatClampNeg (((1 : Int32) + (T_chunks * (10 : Int32))) + (9 : Int32))) p2))), (aTp, .inl (cI, 96, .inl T_packedFrom))] H := hP
  have hD : va_D A [(aT, .inr (7, [.ref aD, .ref aI, .ref aK, .ref aO, .ref aTi, .ref aTp, .ref aTt, .int T_chunks, .int T_chunksMade, .int T_openFrom, .int T_lacksSpace])), (aO, .inr (6, [.int O_first, .int O_last, .int O_points, .int O_least, .int O_greatest, .long O_sum])), (aTi, .inl (cI, 961, .inl (upd (upd (upd (upd (upd (upd (upd (upd (upd (upd T_image (Int32.toNatClampNeg (((1 : Int32) + (T_chunks * (10 : Int32))) + (0 : Int32))) p0) (Int32.toNatClampNeg (((1 : Int32) + (T_chunks * (10 : Int32))) + (1 : Int32))) O_first) (Int32.toNatClampNeg (((1 : Int32) + (T_chunks * (10 : Int32))) + (2 : Int32))) O_last) (Int32.toNatClampNeg (((1 : Int32) + (T_chunks * (10 : Int32))) + (3 : Int32))) O_points) (Int32.toNatClampNeg (((1 : Int32) + (T_chunks * (10 : Int32))) + (4 : Int32))) O_least) (Int32.toNatClampNeg (((1 : Int32) + (T_chunks * (10 : Int32))) + (5 : Int32))) O_greatest) (Int32.toNatClampNeg (((1 : Int32) + (T_chunks * (10 : Int32))) + (6 : Int32))) (Int64.toInt32 (O_sum >>> (Int32.toInt64 (32 : Int32) &&& 63)))) (Int32.toNatClampNeg (((1 : Int32) + (T_chunks * (10 : Int32))) + (7 : Int32))) (Int64.toInt32 O_sum)) (Int32.toNatClampNeg (((1 : Int32) + (T_chunks * (10 : Int32))) + (8 : Int32))) p1) (Int32.toNatClampNeg (((1 : Int32) + (T_chunks * (10 : Int32))) + (9 : Int32))) p2))), (aTp, .inl (cI, 96, .inl T_packedFrom))] := hD
  refine lv_aload_n hx hb dX7_addEntry_162 rfl (lv_at hl 1 rfl) ?_
  refine va_get (D := G) (ci := 7) (v := .ref aTp) (C := RX7) (T := TX7) (N := 11) hx hb htc iX7 hown hK hP 0 rfl rfl 5 (by decide) (htc _ mw_190) (fun _ h9 => h9) rfl dX7_addEntry_163 ?_
  refine lv_aload_n hx hb dX7_addEntry_166 rfl (lv_at hl 1 rfl) ?_
  refine va_get (D := G) (ci := 7) (v := .int T_chunks) (C := RX7) (T := TX7) (N := 11) hx hb htc iX7 hown hK hP 0 rfl rfl 7 (by decide) (htc _ mw_192) (fun _ h9 => h9) rfl dX7_addEntry_167 ?_
  refine lv_aload_n hx hb dX7_addEntry_170 rfl (lv_at hl 1 rfl) ?_
  refine va_get (D := G) (ci := 7) (v := .int T_openFrom) (C := RX7) (T := TX7) (N := 11) hx hb htc iX7 hown hK hP 0 rfl rfl 9 (by decide) (htc _ mw_194) (fun _ h9 => h9) rfl dX7_addEntry_171 ?_
  obtain ⟨hin_11, hfin⟩ := ckb_some hfin
  refine va_iast hx hb hK hP hD hS 3 0 rfl rfl hin_11 dX7_addEntry_174 (fun H locs hP hD hS => ?_)
  have hP : va_P G classes [(aT, .inr (7, [.ref aD, .ref aI, .ref aK, .ref aO, .ref aTi, .ref aTp, .ref aTt, .int T_chunks, .int T_chunksMade, .int T_openFrom, .int T_lacksSpace])), (aO, .inr (6, [.int O_first, .int O_last, .int O_points, .int O_least, .int O_greatest, .long O_sum])), (aTi, .inl (cI, 961, .inl (upd (upd (upd (upd (upd (upd (upd (upd (upd (upd T_image (Int32.toNatClampNeg (((1 : Int32) + (T_chunks * (10 : Int32))) + (0 : Int32))) p0) (Int32.toNatClampNeg (((1 : Int32) + (T_chunks * (10 : Int32))) + (1 : Int32))) O_first) (Int32.toNatClampNeg (((1 : Int32) + (T_chunks * (10 : Int32))) + (2 : Int32))) O_last) (Int32.toNatClampNeg (((1 : Int32) + (T_chunks * (10 : Int32))) + (3 : Int32))) O_points) (Int32.toNatClampNeg (((1 : Int32) + (T_chunks * (10 : Int32))) + (4 : Int32))) O_least) (Int32.toNatClampNeg (((1 : Int32) + (T_chunks * (10 : Int32))) + (5 : Int32))) O_greatest) (Int32.toNatClampNeg (((1 : Int32) + (T_chunks * (10 : Int32))) + (6 : Int32))) (Int64.toInt32 (O_sum >>> (Int32.toInt64 (32 : Int32) &&& 63)))) (Int32.toNatClampNeg (((1 : Int32) + (T_chunks * (10 : Int32))) + (7 : Int32))) (Int64.toInt32 O_sum)) (Int32.toNatClampNeg (((1 : Int32) + (T_chunks * (10 : Int32))) + (8 : Int32))) p1) (Int32.toNatClampNeg (((1 : Int32) + (T_chunks * (10 : Int32))) + (9 : Int32))) p2))), (aTp, .inl (cI, 96, .inl (upd T_packedFrom (Int32.toNatClampNeg T_chunks) T_openFrom)))] H := hP
  have hD : va_D A [(aT, .inr (7, [.ref aD, .ref aI, .ref aK, .ref aO, .ref aTi, .ref aTp, .ref aTt, .int T_chunks, .int T_chunksMade, .int T_openFrom, .int T_lacksSpace])), (aO, .inr (6, [.int O_first, .int O_last, .int O_points, .int O_least, .int O_greatest, .long O_sum])), (aTi, .inl (cI, 961, .inl (upd (upd (upd (upd (upd (upd (upd (upd (upd (upd T_image (Int32.toNatClampNeg (((1 : Int32) + (T_chunks * (10 : Int32))) + (0 : Int32))) p0) (Int32.toNatClampNeg (((1 : Int32) + (T_chunks * (10 : Int32))) + (1 : Int32))) O_first) (Int32.toNatClampNeg (((1 : Int32) + (T_chunks * (10 : Int32))) + (2 : Int32))) O_last) (Int32.toNatClampNeg (((1 : Int32) + (T_chunks * (10 : Int32))) + (3 : Int32))) O_points) (Int32.toNatClampNeg (((1 : Int32) + (T_chunks * (10 : Int32))) + (4 : Int32))) O_least) (Int32.toNatClampNeg (((1 : Int32) + (T_chunks * (10 : Int32))) + (5 : Int32))) O_greatest) (Int32.toNatClampNeg (((1 : Int32) + (T_chunks * (10 : Int32))) + (6 : Int32))) (Int64.toInt32 (O_sum >>> (Int32.toInt64 (32 : Int32) &&& 63)))) (Int32.toNatClampNeg (((1 : Int32) + (T_chunks * (10 : Int32))) + (7 : Int32))) (Int64.toInt32 O_sum)) (Int32.toNatClampNeg (((1 : Int32) + (T_chunks * (10 : Int32))) + (8 : Int32))) p1) (Int32.toNatClampNeg (((1 : Int32) + (T_chunks * (10 : Int32))) + (9 : Int32))) p2))), (aTp, .inl (cI, 96, .inl (upd T_packedFrom (Int32.toNatClampNeg T_chunks) T_openFrom)))] := hD
  refine lv_aload_n hx hb dX7_addEntry_175 rfl (lv_at hl 1 rfl) ?_
  refine lv_dup hx hb dX7_addEntry_176 rfl ?_
  refine va_get (D := G) (ci := 7) (v := .int T_chunks) (C := RX7) (T := TX7) (N := 11) hx hb htc iX7 hown hK hP 0 rfl rfl 7 (by decide) (htc _ mw_192) (fun _ h9 => h9) rfl dX7_addEntry_177 ?_
  refine lv_iconst (v := (1 : Int32)) hx hb dX7_addEntry_180 (by decide) ?_
  refine lv_iadd hx hb dX7_addEntry_181 ?_
  refine va_put (D := G) (ci := 7) (v := .int (T_chunks + (1 : Int32))) (ty := .int) (C := RX7) (T := TX7) (N := 11) hx hb htc iX7 tyX7 tyX7_ok nmX7 hown hK hP hD hS 0 rfl rfl 7 (by decide) (htc _ mw_192) (fun _ h9 => h9) rfl (tyX7_ok 7 (by decide)) rfl rfl (Nat.le_of_ble_eq_true rfl) dX7_addEntry_182 (fun H locs hP hD hS => ?_)
  have hP : va_P G classes [(aT, .inr (7, [.ref aD, .ref aI, .ref aK, .ref aO, .ref aTi, .ref aTp, .ref aTt, .int (T_chunks + (1 : Int32)), .int T_chunksMade, .int T_openFrom, .int T_lacksSpace])), (aO, .inr (6, [.int O_first, .int O_last, .int O_points, .int O_least, .int O_greatest, .long O_sum])), (aTi, .inl (cI, 961, .inl (upd (upd (upd (upd (upd (upd (upd (upd (upd (upd T_image (Int32.toNatClampNeg (((1 : Int32) + (T_chunks * (10 : Int32))) + (0 : Int32))) p0) (Int32.toNatClampNeg (((1 : Int32) + (T_chunks * (10 : Int32))) + (1 : Int32))) O_first) (Int32.toNatClampNeg (((1 : Int32) + (T_chunks * (10 : Int32))) + (2 : Int32))) O_last) (Int32.toNatClampNeg (((1 : Int32) + (T_chunks * (10 : Int32))) + (3 : Int32))) O_points) (Int32.toNatClampNeg (((1 : Int32) + (T_chunks * (10 : Int32))) + (4 : Int32))) O_least) (Int32.toNatClampNeg (((1 : Int32) + (T_chunks * (10 : Int32))) + (5 : Int32))) O_greatest) (Int32.toNatClampNeg (((1 : Int32) + (T_chunks * (10 : Int32))) + (6 : Int32))) (Int64.toInt32 (O_sum >>> (Int32.toInt64 (32 : Int32) &&& 63)))) (Int32.toNatClampNeg (((1 : Int32) + (T_chunks * (10 : Int32))) + (7 : Int32))) (Int64.toInt32 O_sum)) (Int32.toNatClampNeg (((1 : Int32) + (T_chunks * (10 : Int32))) + (8 : Int32))) p1) (Int32.toNatClampNeg (((1 : Int32) + (T_chunks * (10 : Int32))) + (9 : Int32))) p2))), (aTp, .inl (cI, 96, .inl (upd T_packedFrom (Int32.toNatClampNeg T_chunks) T_openFrom)))] H := hP
  have hD : va_D A [(aT, .inr (7, [.ref aD, .ref aI, .ref aK, .ref aO, .ref aTi, .ref aTp, .ref aTt, .int (T_chunks + (1 : Int32)), .int T_chunksMade, .int T_openFrom, .int T_lacksSpace])), (aO, .inr (6, [.int O_first, .int O_last, .int O_points, .int O_least, .int O_greatest, .long O_sum])), (aTi, .inl (cI, 961, .inl (upd (upd (upd (upd (upd (upd (upd (upd (upd (upd T_image (Int32.toNatClampNeg (((1 : Int32) + (T_chunks * (10 : Int32))) + (0 : Int32))) p0) (Int32.toNatClampNeg (((1 : Int32) + (T_chunks * (10 : Int32))) + (1 : Int32))) O_first) (Int32.toNatClampNeg (((1 : Int32) + (T_chunks * (10 : Int32))) + (2 : Int32))) O_last) (Int32.toNatClampNeg (((1 : Int32) + (T_chunks * (10 : Int32))) + (3 : Int32))) O_points) (Int32.toNatClampNeg (((1 : Int32) + (T_chunks * (10 : Int32))) + (4 : Int32))) O_least) (Int32.toNatClampNeg (((1 : Int32) + (T_chunks * (10 : Int32))) + (5 : Int32))) O_greatest) (Int32.toNatClampNeg (((1 : Int32) + (T_chunks * (10 : Int32))) + (6 : Int32))) (Int64.toInt32 (O_sum >>> (Int32.toInt64 (32 : Int32) &&& 63)))) (Int32.toNatClampNeg (((1 : Int32) + (T_chunks * (10 : Int32))) + (7 : Int32))) (Int64.toInt32 O_sum)) (Int32.toNatClampNeg (((1 : Int32) + (T_chunks * (10 : Int32))) + (8 : Int32))) p1) (Int32.toNatClampNeg (((1 : Int32) + (T_chunks * (10 : Int32))) + (9 : Int32))) p2))), (aTp, .inl (cI, 96, .inl (upd T_packedFrom (Int32.toNatClampNeg T_chunks) T_openFrom)))] := hD
  cases hfin
  rw [hQQ]
  exact ct_vret hx hb hr hlocks hP hD hS dX7_addEntry_185
def m_X7_seal (T_chunks : Int32) (T_chunksMade : Int32) (T_openFrom : Int32) (T_lacksSpace : Int32) (K_used : Int32) (K_full : Int32) (O_first : Int32) (O_last : Int32) (O_points : Int32) (O_least : Int32) (O_greatest : Int32) (O_sum : Int64) (T_image : Nat → Int32) (T_packedFrom : Nat → Int32) (T_taken : Nat → Int32) (p0 : Int32) : Option (Int32 × Int32 × Int32 × Int32 × Int32 × Int32 × Int32 × Int32 × Int64 × (Nat → Int32) × (Nat → Int32) × (Nat → Int32)) :=
  if O_points = 0 then (
    some (T_chunks, T_chunksMade, T_lacksSpace, O_first, O_last, O_points, O_least, O_greatest, O_sum, T_image, T_packedFrom, T_taken)) else (
    ob1 (m_X5_used K_used) fun r_3 =>
    ob1 (m_X7_findPlace T_taken (r_3 - T_openFrom)) fun r_5 =>
    ob1 (m_X5_isFull K_full) fun r_7 =>
    ob5 (
      if r_7 = 0 then (
        if r_5 = (-1 : Int32) then (
          some (T_chunks, (1 : Int32), T_image, T_packedFrom, T_taken)) else (
          if T_chunks < (96 : Int32) then (
            ob1 (m_X7_take T_taken r_5 (r_3 - T_openFrom)) fun T_taken_19 =>
            ob3 (m_X7_addEntry T_chunks T_openFrom O_first O_last O_points O_least O_greatest O_sum T_image T_packedFrom p0 r_5 (r_3 - T_openFrom)) fun T_chunks_21 T_image_22 T_packedFrom_23 =>
            some (T_chunks_21, T_lacksSpace, T_image_22, T_packedFrom_23, T_taken_19)) else (
            some (T_chunks, (1 : Int32), T_image, T_packedFrom, T_taken)))) else (
        some (T_chunks, (1 : Int32), T_image, T_packedFrom, T_taken))) fun T_chunks_8 T_lacksSpace_9 T_image_10 T_packedFrom_11 T_taken_12 =>
    ob6 (m_X6_clear O_first O_last O_points O_least O_greatest O_sum) fun O_first_25 O_last_26 O_points_27 O_least_28 O_greatest_29 O_sum_30 =>
    some (T_chunks_8, (T_chunksMade + (1 : Int32)), T_lacksSpace_9, O_first_25, O_last_26, O_points_27, O_least_28, O_greatest_29, O_sum_30, T_image_10, T_packedFrom_11, T_taken_12))
abbrev rm_X7_seal : Room := { frames := 1, cells := 0, slots := 0, locals := 24 }
theorem hd_X7_seal : yX7_seal.cls = RX7 ∧ yX7_seal.cls ≠ "java/lang/invoke/MethodHandle" ∧ yX7_seal.cls ≠ "java/lang/invoke/VarHandle" ∧ (parseMethodDescriptor yX7_seal.desc).map (fun d => d.parameters.length) = some 1 := by decide +kernel
set_option maxHeartbeats 4000000 in
set_option maxRecDepth 100000 in
theorem c_X7_seal (l : Launch) (G : va_G) (cI cZ cJ : ClassId) (aT aD aI aK aO aTi aTp aTt aKc : Nat) (T_chunks : Int32) (T_chunksMade : Int32) (T_openFrom : Int32) (T_lacksSpace : Int32) (K_used : Int32) (K_bitsFree : Int32) (K_full : Int32) (K_time : Int32) (K_value : Int32) (K_rise : Int64) (O_first : Int32) (O_last : Int32) (O_points : Int32) (O_least : Int32) (O_greatest : Int32) (O_sum : Int64) (T_image : Nat → Int32) (T_packedFrom : Nat → Int32) (T_taken : Nat → Int32) (p0 : Int32) {o_T_chunks : Int32} {o_T_chunksMade : Int32} {o_T_lacksSpace : Int32} {o_O_first : Int32} {o_O_last : Int32} {o_O_points : Int32} {o_O_least : Int32} {o_O_greatest : Int32} {o_O_sum : Int64} {o_T_image : Nat → Int32} {o_T_packedFrom : Nat → Int32} {o_T_taken : Nat → Int32} (hfin : m_X7_seal T_chunks T_chunksMade T_openFrom T_lacksSpace K_used K_full O_first O_last O_points O_least O_greatest O_sum T_image T_packedFrom T_taken p0 = some (o_T_chunks, o_T_chunksMade, o_T_lacksSpace, o_O_first, o_O_last, o_O_points, o_O_least, o_O_greatest, o_O_sum, o_T_image, o_T_packedFrom, o_T_taken)) : CT l yX7_seal cX7_seal 4 none rm_X7_seal G (tyC cI cZ cJ) [.ref aT, .int p0] [(aT, .inr (7, [.ref aD, .ref aI, .ref aK, .ref aO, .ref aTi, .ref aTp, .ref aTt, .int T_chunks, .int T_chunksMade, .int T_openFrom, .int T_lacksSpace])), (aK, .inr (5, [.ref aKc, .int K_used, .int K_bitsFree, .int K_full, .int K_time, .int K_value, .long K_rise])), (aO, .inr (6, [.int O_first, .int O_last, .int O_points, .int O_least, .int O_greatest, .long O_sum])), (aTi, .inl (cI, 961, .inl T_image)), (aTp, .inl (cI, 96, .inl T_packedFrom)), (aTt, .inl (cZ, 1661, .inl T_taken))] none [(aT, .inr (7, [.ref aD, .ref aI, .ref aK, .ref aO, .ref aTi, .ref aTp, .ref aTt, .int o_T_chunks, .int o_T_chunksMade, .int T_openFrom, .int o_T_lacksSpace])), (aK, .inr (5, [.ref aKc, .int K_used, .int K_bitsFree, .int K_full, .int K_time, .int K_value, .long K_rise])), (aO, .inr (6, [.int o_O_first, .int o_O_last, .int o_O_points, .int o_O_least, .int o_O_greatest, .long o_O_sum])), (aTi, .inl (cI, 961, .inl o_T_image)), (aTp, .inl (cI, 96, .inl o_T_packedFrom)), (aTt, .inl (cZ, 1661, .inl o_T_taken))] := by
  refine CT.ofW (lvl := [(0, .ref aT), (1, .int p0)]) (by decide) (Nat.le_of_ble_eq_true rfl) rfl ?_
  intro p e s m args below meth c A ls QQ hQQ hx hb hml hr hlocks htc hN hown hK hA hP hD hS hl
  rw [m_X7_seal] at hfin
  refine lv_aload_n hx hb dX7_seal_0 rfl (lv_at hl 0 rfl) ?_
  refine va_get (D := G) (ci := 7) (v := .ref aO) (C := RX7) (T := TX7) (N := 11) hx hb htc iX7 hown hK hP 0 rfl rfl 3 (by decide) (htc _ mw_188) (fun _ h9 => h9) rfl dX7_seal_1 ?_
  refine va_getN (D := G) (ci := 6) (v := .int O_points) (C := RX6) (T := TX6) (N := 6) hx hb htc iX6 hown hK hP 2 rfl rfl 2 (by decide) (va_Nw.use rfl (hN _ mn_13)) (fun _ h9 => h9) rfl dX7_seal_4 ?_
  refine lv_if_ne (tgt := 11) hx hb dX7_seal_7 (by decide) (fun c_1 => ?_) (fun c_1 => ?_)
  · have hfin := it_f c_1 hfin
    refine lv_aload_n hx hb dX7_seal_11 rfl (lv_at hl 0 rfl) ?_
    refine va_get (D := G) (ci := 7) (v := .ref aK) (C := RX7) (T := TX7) (N := 11) hx hb htc iX7 hown hK hP 0 rfl rfl 2 (by decide) (htc _ mw_187) (fun _ h9 => h9) rfl dX7_seal_12 ?_
    obtain ⟨r_3, hE_2, hfin⟩ := ob1_some hfin
    refine ctV (a := aK) (As := []) (rest := []) (st1 := [.int r_3]) (wc := [(aK, .inr (5, [.ref aKc, .int K_used, .int K_bitsFree, .int K_full, .int K_time, .int K_value, .long K_rise]))]) (w1 := [(aK, .inr (5, [.ref aKc, .int K_used, .int K_bitsFree, .int K_full, .int K_time, .int K_value, .long K_rise]))]) (wr := [(aT, .inr (7, [.ref aD, .ref aI, .ref aK, .ref aO, .ref aTi, .ref aTp, .ref aTt, .int T_chunks, .int T_chunksMade, .int T_openFrom, .int T_lacksSpace])), (aO, .inr (6, [.int O_first, .int O_last, .int O_points, .int O_least, .int O_greatest, .long O_sum])), (aTi, .inl (cI, 961, .inl T_image)), (aTp, .inl (cI, 96, .inl T_packedFrom)), (aTt, .inl (cZ, 1661, .inl T_taken))]) (wb := [(aT, .inr (7, [.ref aD, .ref aI, .ref aK, .ref aO, .ref aTi, .ref aTp, .ref aTt, .int T_chunks, .int T_chunksMade, .int T_openFrom, .int T_lacksSpace])), (aK, .inr (5, [.ref aKc, .int K_used, .int K_bitsFree, .int K_full, .int K_time, .int K_value, .long K_rise])), (aO, .inr (6, [.int O_first, .int O_last, .int O_points, .int O_least, .int O_greatest, .long O_sum])), (aTi, .inl (cI, 961, .inl T_image)), (aTp, .inl (cI, 96, .inl T_packedFrom)), (aTt, .inl (cZ, 1661, .inl T_taken))]) (v := (some (.int r_3))) hx hb hml hown htc hN (c_X5_used l G cI cZ cJ aK aKc K_used K_bitsFree K_full K_time K_value K_rise  hE_2) mw_458 mw_459 mw_460 mw_8 mw_461 hd_X5_used ⟨rfl, rfl⟩ ⟨Nat.le_of_ble_eq_true rfl, Nat.le_of_ble_eq_true rfl⟩ hK hP hD hS hA [1] [0, 2, 3, 4, 5] [0, 5, 1, 2, 3, 4] rfl rfl rfl rfl rfl (by decide) rfl rfl rfl 0 rfl rfl rfl rfl hl.1 rfl rfl (Nat.le_of_ble_eq_true rfl) dX7_seal_15 ⟨Nat.zero_le _, Nat.zero_le _⟩ (fun H locs hP hD hS => ?_)
    refine lv_aload_n hx hb dX7_seal_18 rfl (lv_at hl 0 rfl) ?_
    refine va_get (D := G) (ci := 7) (v := .int T_openFrom) (C := RX7) (T := TX7) (N := 11) hx hb htc iX7 hown hK hP 0 rfl rfl 9 (by decide) (htc _ mw_194) (fun _ h9 => h9) rfl dX7_seal_19 ?_
    refine lv_isub hx hb dX7_seal_22 ?_
    refine lv_istore_n (lv' := [(2, .int (r_3 - T_openFrom)), (0, .ref aT), (1, .int p0)]) hx hb dX7_seal_23 rfl hl (by decide) rfl (fun ls hl => ?_)
    refine lv_aload_n hx hb dX7_seal_24 rfl (lv_at hl 1 rfl) ?_
    refine lv_iload_n hx hb dX7_seal_25 rfl (lv_at hl 0 rfl) ?_
    obtain ⟨r_5, hE_4, hfin⟩ := ob1_some hfin
    refine ctV (a := aT) (As := [.int (r_3 - T_openFrom)]) (rest := []) (st1 := [.int r_5]) (wc := [(aT, .inr (7, [.ref aD, .ref aI, .ref aK, .ref aO, .ref aTi, .ref aTp, .ref aTt, .int T_chunks, .int T_chunksMade, .int T_openFrom, .int T_lacksSpace])), (aTt, .inl (cZ, 1661, .inl T_taken))]) (w1 := [(aT, .inr (7, [.ref aD, .ref aI, .ref aK, .ref aO, .ref aTi, .ref aTp, .ref aTt, .int T_chunks, .int T_chunksMade, .int T_openFrom, .int T_lacksSpace])), (aTt, .inl (cZ, 1661, .inl T_taken))]) (wr := [(aK, .inr (5, [.ref aKc, .int K_used, .int K_bitsFree, .int K_full, .int K_time, .int K_value, .long K_rise])), (aO, .inr (6, [.int O_first, .int O_last, .int O_points, .int O_least, .int O_greatest, .long O_sum])), (aTi, .inl (cI, 961, .inl T_image)), (aTp, .inl (cI, 96, .inl T_packedFrom))]) (wb := [(aT, .inr (7, [.ref aD, .ref aI, .ref aK, .ref aO, .ref aTi, .ref aTp, .ref aTt, .int T_chunks, .int T_chunksMade, .int T_openFrom, .int T_lacksSpace])), (aK, .inr (5, [.ref aKc, .int K_used, .int K_bitsFree, .int K_full, .int K_time, .int K_value, .long K_rise])), (aO, .inr (6, [.int O_first, .int O_last, .int O_points, .int O_least, .int O_greatest, .long O_sum])), (aTi, .inl (cI, 961, .inl T_image)), (aTp, .inl (cI, 96, .inl T_packedFrom)), (aTt, .inl (cZ, 1661, .inl T_taken))]) (v := (some (.int r_5))) hx hb hml hown htc hN (c_X7_findPlace l G cI cZ cJ aT aD aI aK aO aTi aTp aTt T_chunks T_chunksMade T_openFrom T_lacksSpace T_taken (r_3 - T_openFrom) hE_4) mw_462 mw_464 mp_5 mw_7 mw_465 hd_X7_findPlace ⟨rfl, rfl⟩ ⟨Nat.le_of_ble_eq_true rfl, Nat.le_of_ble_eq_true rfl⟩ hK hP hD hS hA [0, 5] [1, 2, 3, 4] [4, 0, 1, 2, 3, 5] rfl rfl rfl rfl rfl (by decide) rfl rfl rfl 0 rfl rfl rfl rfl hl.1 rfl rfl (Nat.le_of_ble_eq_true rfl) dX7_seal_26 ⟨Nat.zero_le _, Nat.zero_le _⟩ (fun H locs hP hD hS => ?_)
    refine lv_istore_n (lv' := [(3, .int r_5), (2, .int (r_3 - T_openFrom)), (0, .ref aT), (1, .int p0)]) hx hb dX7_seal_29 rfl hl (by decide) rfl (fun ls hl => ?_)
    refine lv_aload_n hx hb dX7_seal_30 rfl (lv_at hl 2 rfl) ?_
    refine va_get (D := G) (ci := 7) (v := .ref aK) (C := RX7) (T := TX7) (N := 11) hx hb htc iX7 hown hK hP 0 rfl rfl 2 (by decide) (htc _ mw_187) (fun _ h9 => h9) rfl dX7_seal_31 ?_
    obtain ⟨r_7, hE_6, hfin⟩ := ob1_some hfin
    refine ctV (a := aK) (As := []) (rest := []) (st1 := [.int r_7]) (wc := [(aK, .inr (5, [.ref aKc, .int K_used, .int K_bitsFree, .int K_full, .int K_time, .int K_value, .long K_rise]))]) (w1 := [(aK, .inr (5, [.ref aKc, .int K_used, .int K_bitsFree, .int K_full, .int K_time, .int K_value, .long K_rise]))]) (wr := [(aT, .inr (7, [.ref aD, .ref aI, .ref aK, .ref aO, .ref aTi, .ref aTp, .ref aTt, .int T_chunks, .int T_chunksMade, .int T_openFrom, .int T_lacksSpace])), (aO, .inr (6, [.int O_first, .int O_last, .int O_points, .int O_least, .int O_greatest, .long O_sum])), (aTi, .inl (cI, 961, .inl T_image)), (aTp, .inl (cI, 96, .inl T_packedFrom)), (aTt, .inl (cZ, 1661, .inl T_taken))]) (wb := [(aT, .inr (7, [.ref aD, .ref aI, .ref aK, .ref aO, .ref aTi, .ref aTp, .ref aTt, .int T_chunks, .int T_chunksMade, .int T_openFrom, .int T_lacksSpace])), (aK, .inr (5, [.ref aKc, .int K_used, .int K_bitsFree, .int K_full, .int K_time, .int K_value, .long K_rise])), (aO, .inr (6, [.int O_first, .int O_last, .int O_points, .int O_least, .int O_greatest, .long O_sum])), (aTi, .inl (cI, 961, .inl T_image)), (aTp, .inl (cI, 96, .inl T_packedFrom)), (aTt, .inl (cZ, 1661, .inl T_taken))]) (v := (some (.int r_7))) hx hb hml hown htc hN (c_X5_isFull l G cI cZ cJ aK aKc K_used K_bitsFree K_full K_time K_value K_rise  hE_6) mw_466 mw_467 mw_468 mw_8 mw_469 hd_X5_isFull ⟨rfl, rfl⟩ ⟨Nat.le_of_ble_eq_true rfl, Nat.le_of_ble_eq_true rfl⟩ hK hP hD hS hA [1] [0, 2, 3, 4, 5] [0, 5, 1, 2, 3, 4] rfl rfl rfl rfl rfl (by decide) rfl rfl rfl 0 rfl rfl rfl rfl hl.1 rfl rfl (Nat.le_of_ble_eq_true rfl) dX7_seal_34 ⟨Nat.zero_le _, Nat.zero_le _⟩ (fun H locs hP hD hS => ?_)
    obtain ⟨T_chunks_8, T_lacksSpace_9, T_image_10, T_packedFrom_11, T_taken_12, hJ_13, hfin⟩ := ob5_some hfin
    have kj_14 : ∀ (H : Heap) (locs : List Loc) (ls : Array Slot), va_P G classes [(aT, .inr (7, [.ref aD, .ref aI, .ref aK, .ref aO, .ref aTi, .ref aTp, .ref aTt, .int T_chunks_8, .int T_chunksMade, .int T_openFrom, .int T_lacksSpace_9])), (aK, .inr (5, [.ref aKc, .int K_used, .int K_bitsFree, .int K_full, .int K_time, .int K_value, .long K_rise])), (aO, .inr (6, [.int O_first, .int O_last, .int O_points, .int O_least, .int O_greatest, .long O_sum])), (aTi, .inl (cI, 961, .inl T_image_10)), (aTp, .inl (cI, 96, .inl T_packedFrom_11)), (aTt, .inl (cZ, 1661, .inl T_taken_12))] H → va_D A [(aT, .inr (7, [.ref aD, .ref aI, .ref aK, .ref aO, .ref aTi, .ref aTp, .ref aTt, .int T_chunks_8, .int T_chunksMade, .int T_openFrom, .int T_lacksSpace_9])), (aK, .inr (5, [.ref aKc, .int K_used, .int K_bitsFree, .int K_full, .int K_time, .int K_value, .long K_rise])), (aO, .inr (6, [.int O_first, .int O_last, .int O_points, .int O_least, .int O_greatest, .long O_sum])), (aTi, .inl (cI, 961, .inl T_image_10)), (aTp, .inl (cI, 96, .inl T_packedFrom_11)), (aTt, .inl (cZ, 1661, .inl T_taken_12))] → va_S A s.heap H locs → lv_has ls 4 [(0, .ref aT)] → W p l e rm_X7_seal s m args below meth c H locs 0 0 QQ (F0 m 75 ls []) := by
      intro H locs ls hP hD hS hl
      refine lv_aload_n hx hb dX7_seal_75 rfl (lv_at hl 0 rfl) ?_
      refine lv_dup hx hb dX7_seal_76 rfl ?_
      refine va_get (D := G) (ci := 7) (v := .int T_chunksMade) (C := RX7) (T := TX7) (N := 11) hx hb htc iX7 hown hK hP 0 rfl rfl 8 (by decide) (htc _ mw_193) (fun _ h9 => h9) rfl dX7_seal_77 ?_
      refine lv_iconst (v := (1 : Int32)) hx hb dX7_seal_80 (by decide) ?_
      refine lv_iadd hx hb dX7_seal_81 ?_
      refine va_put (D := G) (ci := 7) (v := .int (T_chunksMade + (1 : Int32))) (ty := .int) (C := RX7) (T := TX7) (N := 11) hx hb htc iX7 tyX7 tyX7_ok nmX7 hown hK hP hD hS 0 rfl rfl 8 (by decide) (htc _ mw_193) (fun _ h9 => h9) rfl (tyX7_ok 8 (by decide)) rfl rfl (Nat.le_of_ble_eq_true rfl) dX7_seal_82 (fun H locs hP hD hS => ?_)
      have hP : va_P G classes [(aT, .inr (7, [.ref aD, .ref aI, .ref aK, .ref aO, .ref aTi, .ref aTp, .ref aTt, .int T_chunks_8, .int (T_chunksMade + (1 : Int32)), .int T_openFrom, .int T_lacksSpace_9])), (aK, .inr (5, [.ref aKc, .int K_used, .int K_bitsFree, .int K_full, .int K_time, .int K_value, .long K_rise])), (aO, .inr (6, [.int O_first, .int O_last, .int O_points, .int O_least, .int O_greatest, .long O_sum])), (aTi, .inl (cI, 961, .inl T_image_10)), (aTp, .inl (cI, 96, .inl T_packedFrom_11)), (aTt, .inl (cZ, 1661, .inl T_taken_12))] H := hP
      have hD : va_D A [(aT, .inr (7, [.ref aD, .ref aI, .ref aK, .ref aO, .ref aTi, .ref aTp, .ref aTt, .int T_chunks_8, .int (T_chunksMade + (1 : Int32)), .int T_openFrom, .int T_lacksSpace_9])), (aK, .inr (5, [.ref aKc, .int K_used, .int K_bitsFree, .int K_full, .int K_time, .int K_value, .long K_rise])), (aO, .inr (6, [.int O_first, .int O_last, .int O_points, .int O_least, .int O_greatest, .long O_sum])), (aTi, .inl (cI, 961, .inl T_image_10)), (aTp, .inl (cI, 96, .inl T_packedFrom_11)), (aTt, .inl (cZ, 1661, .inl T_taken_12))] := hD
      refine lv_aload_n hx hb dX7_seal_85 rfl (lv_at hl 0 rfl) ?_
      refine va_get (D := G) (ci := 7) (v := .ref aO) (C := RX7) (T := TX7) (N := 11) hx hb htc iX7 hown hK hP 0 rfl rfl 3 (by decide) (htc _ mw_188) (fun _ h9 => h9) rfl dX7_seal_86 ?_
      obtain ⟨O_first_25, O_last_26, O_points_27, O_least_28, O_greatest_29, O_sum_30, hE_24, hfin⟩ := ob6_some hfin
      refine ctV (a := aO) (As := []) (rest := []) (st1 := []) (wc := [(aO, .inr (6, [.int O_first, .int O_last, .int O_points, .int O_least, .int O_greatest, .long O_sum]))]) (w1 := [(aO, .inr (6, [.int O_first_25, .int O_last_26, .int O_points_27, .int O_least_28, .int O_greatest_29, .long O_sum_30]))]) (wr := [(aT, .inr (7, [.ref aD, .ref aI, .ref aK, .ref aO, .ref aTi, .ref aTp, .ref aTt, .int T_chunks_8, .int (T_chunksMade + (1 : Int32)), .int T_openFrom, .int T_lacksSpace_9])), (aK, .inr (5, [.ref aKc, .int K_used, .int K_bitsFree, .int K_full, .int K_time, .int K_value, .long K_rise])), (aTi, .inl (cI, 961, .inl T_image_10)), (aTp, .inl (cI, 96, .inl T_packedFrom_11)), (aTt, .inl (cZ, 1661, .inl T_taken_12))]) (wb := [(aT, .inr (7, [.ref aD, .ref aI, .ref aK, .ref aO, .ref aTi, .ref aTp, .ref aTt, .int T_chunks_8, .int (T_chunksMade + (1 : Int32)), .int T_openFrom, .int T_lacksSpace_9])), (aK, .inr (5, [.ref aKc, .int K_used, .int K_bitsFree, .int K_full, .int K_time, .int K_value, .long K_rise])), (aO, .inr (6, [.int O_first_25, .int O_last_26, .int O_points_27, .int O_least_28, .int O_greatest_29, .long O_sum_30])), (aTi, .inl (cI, 961, .inl T_image_10)), (aTp, .inl (cI, 96, .inl T_packedFrom_11)), (aTt, .inl (cZ, 1661, .inl T_taken_12))]) (v := none) hx hb hml hown htc hN (c_X6_clear l G cI cZ cJ aO O_first O_last O_points O_least O_greatest O_sum  hE_24) mw_428 mw_429 mw_430 mw_9 mw_431 hd_X6_clear ⟨rfl, rfl⟩ ⟨Nat.le_of_ble_eq_true rfl, Nat.le_of_ble_eq_true rfl⟩ hK hP hD hS hA [2] [0, 1, 3, 4, 5] [0, 1, 5, 2, 3, 4] rfl rfl rfl rfl rfl (by decide) rfl rfl rfl 0 rfl rfl rfl rfl hl.1 rfl rfl (Nat.le_of_ble_eq_true rfl) dX7_seal_89 ⟨Nat.zero_le _, Nat.zero_le _⟩ (fun H locs hP hD hS => ?_)
      cases hfin
      rw [hQQ]
      exact ct_vret hx hb hr hlocks hP hD hS dX7_seal_92
    refine lv_if_ne (tgt := 54) hx hb dX7_seal_37 (by decide) (fun c_15 => ?_) (fun c_15 => ?_)
    · have hJ_13 := it_f c_15 hJ_13
      refine lv_aload_n hx hb dX7_seal_54 rfl (lv_at hl 2 rfl) ?_
      refine lv_iconst (v := (1 : Int32)) hx hb dX7_seal_55 (by decide) ?_
      refine va_put (D := G) (ci := 7) (v := .int (1 : Int32)) (ty := .boolean) (C := RX7) (T := TX7) (N := 11) hx hb htc iX7 tyX7 tyX7_ok nmX7 hown hK hP hD hS 0 rfl rfl 10 (by decide) (htc _ mw_195) (fun _ h9 => h9) rfl (tyX7_ok 10 (by decide)) rfl rfl (Nat.le_of_ble_eq_true rfl) dX7_seal_56 (fun H locs hP hD hS => ?_)
      have hP : va_P G classes [(aT, .inr (7, [.ref aD, .ref aI, .ref aK, .ref aO, .ref aTi, .ref aTp, .ref aTt, .int T_chunks, .int T_chunksMade, .int T_openFrom, .int (1 : Int32)])), (aK, .inr (5, [.ref aKc, .int K_used, .int K_bitsFree, .int K_full, .int K_time, .int K_value, .long K_rise])), (aO, .inr (6, [.int O_first, .int O_last, .int O_points, .int O_least, .int O_greatest, .long O_sum])), (aTi, .inl (cI, 961, .inl T_image)), (aTp, .inl (cI, 96, .inl T_packedFrom)), (aTt, .inl (cZ, 1661, .inl T_taken))] H := hP
      have hD : va_D A [(aT, .inr (7, [.ref aD, .ref aI, .ref aK, .ref aO, .ref aTi, .ref aTp, .ref aTt, .int T_chunks, .int T_chunksMade, .int T_openFrom, .int (1 : Int32)])), (aK, .inr (5, [.ref aKc, .int K_used, .int K_bitsFree, .int K_full, .int K_time, .int K_value, .long K_rise])), (aO, .inr (6, [.int O_first, .int O_last, .int O_points, .int O_least, .int O_greatest, .long O_sum])), (aTi, .inl (cI, 961, .inl T_image)), (aTp, .inl (cI, 96, .inl T_packedFrom)), (aTt, .inl (cZ, 1661, .inl T_taken))] := hD
      refine lv_goto (tgt := 75) hx hb dX7_seal_59 (by decide) ?_
      cases hJ_13
      exact kj_14 _ _ _ hP hD hS (lv_sub hl [2] rfl)
    · have hJ_13 := it_t c_15 hJ_13
      refine lv_iload_n hx hb dX7_seal_40 rfl (lv_at hl 0 rfl) ?_
      refine lv_iconst (v := (-1 : Int32)) hx hb dX7_seal_41 (by decide) ?_
      refine lv_icmp_eq (tgt := 54) hx hb dX7_seal_42 (by decide) (fun c_16 => ?_) (fun c_16 => ?_)
      · have hJ_13 := it_t c_16 hJ_13
        refine lv_aload_n hx hb dX7_seal_54 rfl (lv_at hl 2 rfl) ?_
        refine lv_iconst (v := (1 : Int32)) hx hb dX7_seal_55 (by decide) ?_
        refine va_put (D := G) (ci := 7) (v := .int (1 : Int32)) (ty := .boolean) (C := RX7) (T := TX7) (N := 11) hx hb htc iX7 tyX7 tyX7_ok nmX7 hown hK hP hD hS 0 rfl rfl 10 (by decide) (htc _ mw_195) (fun _ h9 => h9) rfl (tyX7_ok 10 (by decide)) rfl rfl (Nat.le_of_ble_eq_true rfl) dX7_seal_56 (fun H locs hP hD hS => ?_)
        have hP : va_P G classes [(aT, .inr (7, [.ref aD, .ref aI, .ref aK, .ref aO, .ref aTi, .ref aTp, .ref aTt, .int T_chunks, .int T_chunksMade, .int T_openFrom, .int (1 : Int32)])), (aK, .inr (5, [.ref aKc, .int K_used, .int K_bitsFree, .int K_full, .int K_time, .int K_value, .long K_rise])), (aO, .inr (6, [.int O_first, .int O_last, .int O_points, .int O_least, .int O_greatest, .long O_sum])), (aTi, .inl (cI, 961, .inl T_image)), (aTp, .inl (cI, 96, .inl T_packedFrom)), (aTt, .inl (cZ, 1661, .inl T_taken))] H := hP
        have hD : va_D A [(aT, .inr (7, [.ref aD, .ref aI, .ref aK, .ref aO, .ref aTi, .ref aTp, .ref aTt, .int T_chunks, .int T_chunksMade, .int T_openFrom, .int (1 : Int32)])), (aK, .inr (5, [.ref aKc, .int K_used, .int K_bitsFree, .int K_full, .int K_time, .int K_value, .long K_rise])), (aO, .inr (6, [.int O_first, .int O_last, .int O_points, .int O_least, .int O_greatest, .long O_sum])), (aTi, .inl (cI, 961, .inl T_image)), (aTp, .inl (cI, 96, .inl T_packedFrom)), (aTt, .inl (cZ, 1661, .inl T_taken))] := hD
        refine lv_goto (tgt := 75) hx hb dX7_seal_59 (by decide) ?_
        cases hJ_13
        exact kj_14 _ _ _ hP hD hS (lv_sub hl [2] rfl)
      · have hJ_13 := it_f c_16 hJ_13
        refine lv_aload_n hx hb dX7_seal_45 rfl (lv_at hl 2 rfl) ?_
        refine va_get (D := G) (ci := 7) (v := .int T_chunks) (C := RX7) (T := TX7) (N := 11) hx hb htc iX7 hown hK hP 0 rfl rfl 7 (by decide) (htc _ mw_192) (fun _ h9 => h9) rfl dX7_seal_46 ?_
        refine lv_bipush (v := (96 : Int32)) hx hb dX7_seal_49 (by decide) ?_
        refine lv_icmp_lt (tgt := 62) hx hb dX7_seal_51 (by decide) (fun c_17 => ?_) (fun c_17 => ?_)
        · have hJ_13 := it_t c_17 hJ_13
          refine lv_aload_n hx hb dX7_seal_62 rfl (lv_at hl 2 rfl) ?_
          refine lv_iload_n hx hb dX7_seal_63 rfl (lv_at hl 0 rfl) ?_
          refine lv_iload_n hx hb dX7_seal_64 rfl (lv_at hl 1 rfl) ?_
          obtain ⟨T_taken_19, hE_18, hJ_13⟩ := ob1_some hJ_13
          refine ctV (a := aT) (As := [.int r_5, .int (r_3 - T_openFrom)]) (rest := []) (st1 := []) (wc := [(aT, .inr (7, [.ref aD, .ref aI, .ref aK, .ref aO, .ref aTi, .ref aTp, .ref aTt, .int T_chunks, .int T_chunksMade, .int T_openFrom, .int T_lacksSpace])), (aTt, .inl (cZ, 1661, .inl T_taken))]) (w1 := [(aT, .inr (7, [.ref aD, .ref aI, .ref aK, .ref aO, .ref aTi, .ref aTp, .ref aTt, .int T_chunks, .int T_chunksMade, .int T_openFrom, .int T_lacksSpace])), (aTt, .inl (cZ, 1661, .inl T_taken_19))]) (wr := [(aK, .inr (5, [.ref aKc, .int K_used, .int K_bitsFree, .int K_full, .int K_time, .int K_value, .long K_rise])), (aO, .inr (6, [.int O_first, .int O_last, .int O_points, .int O_least, .int O_greatest, .long O_sum])), (aTi, .inl (cI, 961, .inl T_image)), (aTp, .inl (cI, 96, .inl T_packedFrom))]) (wb := [(aT, .inr (7, [.ref aD, .ref aI, .ref aK, .ref aO, .ref aTi, .ref aTp, .ref aTt, .int T_chunks, .int T_chunksMade, .int T_openFrom, .int T_lacksSpace])), (aK, .inr (5, [.ref aKc, .int K_used, .int K_bitsFree, .int K_full, .int K_time, .int K_value, .long K_rise])), (aO, .inr (6, [.int O_first, .int O_last, .int O_points, .int O_least, .int O_greatest, .long O_sum])), (aTi, .inl (cI, 961, .inl T_image)), (aTp, .inl (cI, 96, .inl T_packedFrom)), (aTt, .inl (cZ, 1661, .inl T_taken_19))]) (v := none) hx hb hml hown htc hN (c_X7_take l G cI cZ cJ aT aD aI aK aO aTi aTp aTt T_chunks T_chunksMade T_openFrom T_lacksSpace T_taken r_5 (r_3 - T_openFrom) hE_18) mw_434 mw_436 mp_2 mw_7 mw_437 hd_X7_take ⟨rfl, rfl⟩ ⟨Nat.le_of_ble_eq_true rfl, Nat.le_of_ble_eq_true rfl⟩ hK hP hD hS hA [0, 5] [1, 2, 3, 4] [4, 0, 1, 2, 3, 5] rfl rfl rfl rfl rfl (by decide) rfl rfl rfl 0 rfl rfl rfl rfl hl.1 rfl rfl (Nat.le_of_ble_eq_true rfl) dX7_seal_65 ⟨Nat.zero_le _, Nat.zero_le _⟩ (fun H locs hP hD hS => ?_)
          refine lv_aload_n hx hb dX7_seal_68 rfl (lv_at hl 2 rfl) ?_
          refine lv_iload_n hx hb dX7_seal_69 rfl (lv_at hl 3 rfl) ?_
          refine lv_iload_n hx hb dX7_seal_70 rfl (lv_at hl 0 rfl) ?_
          refine lv_iload_n hx hb dX7_seal_71 rfl (lv_at hl 1 rfl) ?_
          obtain ⟨T_chunks_21, T_image_22, T_packedFrom_23, hE_20, hJ_13⟩ := ob3_some hJ_13
          refine ctV (a := aT) (As := [.int p0, .int r_5, .int (r_3 - T_openFrom)]) (rest := []) (st1 := []) (wc := [(aT, .inr (7, [.ref aD, .ref aI, .ref aK, .ref aO, .ref aTi, .ref aTp, .ref aTt, .int T_chunks, .int T_chunksMade, .int T_openFrom, .int T_lacksSpace])), (aO, .inr (6, [.int O_first, .int O_last, .int O_points, .int O_least, .int O_greatest, .long O_sum])), (aTi, .inl (cI, 961, .inl T_image)), (aTp, .inl (cI, 96, .inl T_packedFrom))]) (w1 := [(aT, .inr (7, [.ref aD, .ref aI, .ref aK, .ref aO, .ref aTi, .ref aTp, .ref aTt, .int T_chunks_21, .int T_chunksMade, .int T_openFrom, .int T_lacksSpace])), (aO, .inr (6, [.int O_first, .int O_last, .int O_points, .int O_least, .int O_greatest, .long O_sum])), (aTi, .inl (cI, 961, .inl T_image_22)), (aTp, .inl (cI, 96, .inl T_packedFrom_23))]) (wr := [(aK, .inr (5, [.ref aKc, .int K_used, .int K_bitsFree, .int K_full, .int K_time, .int K_value, .long K_rise])), (aTt, .inl (cZ, 1661, .inl T_taken_19))]) (wb := [(aT, .inr (7, [.ref aD, .ref aI, .ref aK, .ref aO, .ref aTi, .ref aTp, .ref aTt, .int T_chunks_21, .int T_chunksMade, .int T_openFrom, .int T_lacksSpace])), (aK, .inr (5, [.ref aKc, .int K_used, .int K_bitsFree, .int K_full, .int K_time, .int K_value, .long K_rise])), (aO, .inr (6, [.int O_first, .int O_last, .int O_points, .int O_least, .int O_greatest, .long O_sum])), (aTi, .inl (cI, 961, .inl T_image_22)), (aTp, .inl (cI, 96, .inl T_packedFrom_23)), (aTt, .inl (cZ, 1661, .inl T_taken_19))]) (v := none) hx hb hml hown htc hN (c_X7_addEntry l G cI cZ cJ aT aD aI aK aO aTi aTp aTt T_chunks T_chunksMade T_openFrom T_lacksSpace O_first O_last O_points O_least O_greatest O_sum T_image T_packedFrom p0 r_5 (r_3 - T_openFrom) hE_20) mw_470 mw_472 mp_6 mw_7 mw_473 hd_X7_addEntry ⟨rfl, rfl⟩ ⟨Nat.le_of_ble_eq_true rfl, Nat.le_of_ble_eq_true rfl⟩ hK hP hD hS hA [0, 2, 3, 4] [1, 5] [2, 0, 3, 4, 5, 1] rfl rfl rfl rfl rfl (by decide) rfl rfl rfl 0 rfl rfl rfl rfl hl.1 rfl rfl (Nat.le_of_ble_eq_true rfl) dX7_seal_72 ⟨Nat.zero_le _, Nat.zero_le _⟩ (fun H locs hP hD hS => ?_)
          cases hJ_13
          exact kj_14 _ _ _ hP hD hS (lv_sub hl [2] rfl)
        · have hJ_13 := it_f c_17 hJ_13
          refine lv_aload_n hx hb dX7_seal_54 rfl (lv_at hl 2 rfl) ?_
          refine lv_iconst (v := (1 : Int32)) hx hb dX7_seal_55 (by decide) ?_
          refine va_put (D := G) (ci := 7) (v := .int (1 : Int32)) (ty := .boolean) (C := RX7) (T := TX7) (N := 11) hx hb htc iX7 tyX7 tyX7_ok nmX7 hown hK hP hD hS 0 rfl rfl 10 (by decide) (htc _ mw_195) (fun _ h9 => h9) rfl (tyX7_ok 10 (by decide)) rfl rfl (Nat.le_of_ble_eq_true rfl) dX7_seal_56 (fun H locs hP hD hS => ?_)
          have hP : va_P G classes [(aT, .inr (7, [.ref aD, .ref aI, .ref aK, .ref aO, .ref aTi, .ref aTp, .ref aTt, .int T_chunks, .int T_chunksMade, .int T_openFrom, .int (1 : Int32)])), (aK, .inr (5, [.ref aKc, .int K_used, .int K_bitsFree, .int K_full, .int K_time, .int K_value, .long K_rise])), (aO, .inr (6, [.int O_first, .int O_last, .int O_points, .int O_least, .int O_greatest, .long O_sum])), (aTi, .inl (cI, 961, .inl T_image)), (aTp, .inl (cI, 96, .inl T_packedFrom)), (aTt, .inl (cZ, 1661, .inl T_taken))] H := hP
          have hD : va_D A [(aT, .inr (7, [.ref aD, .ref aI, .ref aK, .ref aO, .ref aTi, .ref aTp, .ref aTt, .int T_chunks, .int T_chunksMade, .int T_openFrom, .int (1 : Int32)])), (aK, .inr (5, [.ref aKc, .int K_used, .int K_bitsFree, .int K_full, .int K_time, .int K_value, .long K_rise])), (aO, .inr (6, [.int O_first, .int O_last, .int O_points, .int O_least, .int O_greatest, .long O_sum])), (aTi, .inl (cI, 961, .inl T_image)), (aTp, .inl (cI, 96, .inl T_packedFrom)), (aTt, .inl (cZ, 1661, .inl T_taken))] := hD
          refine lv_goto (tgt := 75) hx hb dX7_seal_59 (by decide) ?_
          cases hJ_13
          exact kj_14 _ _ _ hP hD hS (lv_sub hl [2] rfl)
  · have hfin := it_t c_1 hfin
    cases hfin
    rw [hQQ]
    exact ct_vret hx hb hr hlocks hP hD hS dX7_seal_10
def m_X7_pack (T_openFrom : Int32) (K_used : Int32) (K_bitsFree : Int32) (K_full : Int32) (K_time : Int32) (K_value : Int32) (K_rise : Int64) (K_cells : Nat → Int32) (O_first : Int32) (O_last : Int32) (O_points : Int32) (O_least : Int32) (O_greatest : Int32) (O_sum : Int64) (p0 : Int32) (p1 : Int32) : Option (Int32 × Int32 × Int32 × Int32 × Int32 × Int32 × Int64 × (Nat → Int32) × Int32 × Int32 × Int32 × Int32 × Int32 × Int64) :=
  ob8 (
    if O_points = 0 then (
      ob1 (m_X5_used K_used) fun r_21 =>
      ob7 (m_X5_packFirst K_used K_bitsFree K_full K_time K_value K_rise K_cells p0 p1) fun K_used_23 K_bitsFree_24 K_full_25 K_time_26 K_value_27 K_rise_28 K_cells_29 =>
      some (r_21, K_used_23, K_bitsFree_24, K_full_25, K_time_26, K_value_27, K_rise_28, K_cells_29)) else (
      ob7 (m_X5_packFurther K_used K_bitsFree K_full K_time K_value K_rise K_cells p0 p1) fun K_used_13 K_bitsFree_14 K_full_15 K_time_16 K_value_17 K_rise_18 K_cells_19 =>
      some (T_openFrom, K_used_13, K_bitsFree_14, K_full_15, K_time_16, K_value_17, K_rise_18, K_cells_19))) fun T_openFrom_1 K_used_2 K_bitsFree_3 K_full_4 K_time_5 K_value_6 K_rise_7 K_cells_8 =>
  ob6 (m_X6_addPoint O_first O_last O_points O_least O_greatest O_sum p0 p1) fun O_first_31 O_last_32 O_points_33 O_least_34 O_greatest_35 O_sum_36 =>
  some (T_openFrom_1, K_used_2, K_bitsFree_3, K_full_4, K_time_5, K_value_6, K_rise_7, K_cells_8, O_first_31, O_last_32, O_points_33, O_least_34, O_greatest_35, O_sum_36)
abbrev rm_X7_pack : Room := { frames := 4, cells := 0, slots := 0, locals := 92 }
theorem hd_X7_pack : yX7_pack.cls = RX7 ∧ yX7_pack.cls ≠ "java/lang/invoke/MethodHandle" ∧ yX7_pack.cls ≠ "java/lang/invoke/VarHandle" ∧ (parseMethodDescriptor yX7_pack.desc).map (fun d => d.parameters.length) = some 2 := by decide +kernel
set_option maxHeartbeats 4000000 in
set_option maxRecDepth 100000 in
theorem c_X7_pack (l : Launch) (G : va_G) (cI cZ cJ : ClassId) (aT aD aI aK aO aTi aTp aTt aKc : Nat) (T_chunks : Int32) (T_chunksMade : Int32) (T_openFrom : Int32) (T_lacksSpace : Int32) (K_used : Int32) (K_bitsFree : Int32) (K_full : Int32) (K_time : Int32) (K_value : Int32) (K_rise : Int64) (K_cells : Nat → Int32) (O_first : Int32) (O_last : Int32) (O_points : Int32) (O_least : Int32) (O_greatest : Int32) (O_sum : Int64) (p0 : Int32) (p1 : Int32) {o_T_openFrom : Int32} {o_K_used : Int32} {o_K_bitsFree : Int32} {o_K_full : Int32} {o_K_time : Int32} {o_K_value : Int32} {o_K_rise : Int64} {o_K_cells : Nat → Int32} {o_O_first : Int32} {o_O_last : Int32} {o_O_points : Int32} {o_O_least : Int32} {o_O_greatest : Int32} {o_O_sum : Int64} (hfin : m_X7_pack T_openFrom K_used K_bitsFree K_full K_time K_value K_rise K_cells O_first O_last O_points O_least O_greatest O_sum p0 p1 = some (o_T_openFrom, o_K_used, o_K_bitsFree, o_K_full, o_K_time, o_K_value, o_K_rise, o_K_cells, o_O_first, o_O_last, o_O_points, o_O_least, o_O_greatest, o_O_sum)) : CT l yX7_pack cX7_pack 3 none rm_X7_pack G (tyC cI cZ cJ) [.ref aT, .int p0, .int p1] [(aT, .inr (7, [.ref aD, .ref aI, .ref aK, .ref aO, .ref aTi, .ref aTp, .ref aTt, .int T_chunks, .int T_chunksMade, .int T_openFrom, .int T_lacksSpace])), (aK, .inr (5, [.ref aKc, .int K_used, .int K_bitsFree, .int K_full, .int K_time, .int K_value, .long K_rise])), (aKc, .inl (cI, 1661, .inl K_cells)), (aO, .inr (6, [.int O_first, .int O_last, .int O_points, .int O_least, .int O_greatest, .long O_sum]))] none [(aT, .inr (7, [.ref aD, .ref aI, .ref aK, .ref aO, .ref aTi, .ref aTp, .ref aTt, .int T_chunks, .int T_chunksMade, .int o_T_openFrom, .int T_lacksSpace])), (aK, .inr (5, [.ref aKc, .int o_K_used, .int o_K_bitsFree, .int o_K_full, .int o_K_time, .int o_K_value, .long o_K_rise])), (aKc, .inl (cI, 1661, .inl o_K_cells)), (aO, .inr (6, [.int o_O_first, .int o_O_last, .int o_O_points, .int o_O_least, .int o_O_greatest, .long o_O_sum]))] := by
  refine CT.ofW (lvl := [(0, .ref aT), (1, .int p0), (2, .int p1)]) (by decide) (Nat.le_of_ble_eq_true rfl) rfl ?_
  intro p e s m args below meth c A ls QQ hQQ hx hb hml hr hlocks htc hN hown hK hA hP hD hS hl
  rw [m_X7_pack] at hfin
  refine lv_aload_n hx hb dX7_pack_0 rfl (lv_at hl 0 rfl) ?_
  refine va_get (D := G) (ci := 7) (v := .ref aO) (C := RX7) (T := TX7) (N := 11) hx hb htc iX7 hown hK hP 0 rfl rfl 3 (by decide) (htc _ mw_188) (fun _ h9 => h9) rfl dX7_pack_1 ?_
  refine va_getN (D := G) (ci := 6) (v := .int O_points) (C := RX6) (T := TX6) (N := 6) hx hb htc iX6 hown hK hP 3 rfl rfl 2 (by decide) (va_Nw.use rfl (hN _ mn_13)) (fun _ h9 => h9) rfl dX7_pack_4 ?_
  obtain ⟨T_openFrom_1, K_used_2, K_bitsFree_3, K_full_4, K_time_5, K_value_6, K_rise_7, K_cells_8, hJ_9, hfin⟩ := ob8_some hfin
  have kj_10 : ∀ (H : Heap) (locs : List Loc) (ls : Array Slot), va_P G classes [(aT, .inr (7, [.ref aD, .ref aI, .ref aK, .ref aO, .ref aTi, .ref aTp, .ref aTt, .int T_chunks, .int T_chunksMade, .int T_openFrom_1, .int T_lacksSpace])), (aK, .inr (5, [.ref aKc, .int K_used_2, .int K_bitsFree_3, .int K_full_4, .int K_time_5, .int K_value_6, .long K_rise_7])), (aKc, .inl (cI, 1661, .inl K_cells_8)), (aO, .inr (6, [.int O_first, .int O_last, .int O_points, .int O_least, .int O_greatest, .long O_sum]))] H → va_D A [(aT, .inr (7, [.ref aD, .ref aI, .ref aK, .ref aO, .ref aTi, .ref aTp, .ref aTt, .int T_chunks, .int T_chunksMade, .int T_openFrom_1, .int T_lacksSpace])), (aK, .inr (5, [.ref aKc, .int K_used_2, .int K_bitsFree_3, .int K_full_4, .int K_time_5, .int K_value_6, .long K_rise_7])), (aKc, .inl (cI, 1661, .inl K_cells_8)), (aO, .inr (6, [.int O_first, .int O_last, .int O_points, .int O_least, .int O_greatest, .long O_sum]))] → va_S A s.heap H locs → lv_has ls 3 [(0, .ref aT), (1, .int p0), (2, .int p1)] → W p l e rm_X7_pack s m args below meth c H locs 0 0 QQ (F0 m 42 ls []) := by
    intro H locs ls hP hD hS hl
    refine lv_aload_n hx hb dX7_pack_42 rfl (lv_at hl 0 rfl) ?_
    refine va_get (D := G) (ci := 7) (v := .ref aO) (C := RX7) (T := TX7) (N := 11) hx hb htc iX7 hown hK hP 0 rfl rfl 3 (by decide) (htc _ mw_188) (fun _ h9 => h9) rfl dX7_pack_43 ?_
    refine lv_iload_n hx hb dX7_pack_46 rfl (lv_at hl 1 rfl) ?_
    refine lv_iload_n hx hb dX7_pack_47 rfl (lv_at hl 2 rfl) ?_
    obtain ⟨O_first_31, O_last_32, O_points_33, O_least_34, O_greatest_35, O_sum_36, hE_30, hfin⟩ := ob6_some hfin
    refine ctV (a := aO) (As := [.int p0, .int p1]) (rest := []) (st1 := []) (wc := [(aO, .inr (6, [.int O_first, .int O_last, .int O_points, .int O_least, .int O_greatest, .long O_sum]))]) (w1 := [(aO, .inr (6, [.int O_first_31, .int O_last_32, .int O_points_33, .int O_least_34, .int O_greatest_35, .long O_sum_36]))]) (wr := [(aT, .inr (7, [.ref aD, .ref aI, .ref aK, .ref aO, .ref aTi, .ref aTp, .ref aTt, .int T_chunks, .int T_chunksMade, .int T_openFrom_1, .int T_lacksSpace])), (aK, .inr (5, [.ref aKc, .int K_used_2, .int K_bitsFree_3, .int K_full_4, .int K_time_5, .int K_value_6, .long K_rise_7])), (aKc, .inl (cI, 1661, .inl K_cells_8))]) (wb := [(aT, .inr (7, [.ref aD, .ref aI, .ref aK, .ref aO, .ref aTi, .ref aTp, .ref aTt, .int T_chunks, .int T_chunksMade, .int T_openFrom_1, .int T_lacksSpace])), (aK, .inr (5, [.ref aKc, .int K_used_2, .int K_bitsFree_3, .int K_full_4, .int K_time_5, .int K_value_6, .long K_rise_7])), (aKc, .inl (cI, 1661, .inl K_cells_8)), (aO, .inr (6, [.int O_first_31, .int O_last_32, .int O_points_33, .int O_least_34, .int O_greatest_35, .long O_sum_36]))]) (v := none) hx hb hml hown htc hN (c_X6_addPoint l G cI cZ cJ aO O_first O_last O_points O_least O_greatest O_sum p0 p1 hE_30) mw_513 mw_514 mw_515 mw_9 mw_516 hd_X6_addPoint ⟨rfl, rfl⟩ ⟨Nat.le_of_ble_eq_true rfl, Nat.le_of_ble_eq_true rfl⟩ hK hP hD hS hA [3] [0, 1, 2] [0, 1, 2, 3] rfl rfl rfl rfl rfl (by decide) rfl rfl rfl 0 rfl rfl rfl rfl hl.1 rfl rfl (Nat.le_of_ble_eq_true rfl) dX7_pack_48 ⟨Nat.zero_le _, Nat.zero_le _⟩ (fun H locs hP hD hS => ?_)
    cases hfin
    rw [hQQ]
    exact ct_vret hx hb hr hlocks hP hD hS dX7_pack_51
  refine lv_if_ne (tgt := 33) hx hb dX7_pack_7 (by decide) (fun c_11 => ?_) (fun c_11 => ?_)
  · have hJ_9 := it_f c_11 hJ_9
    refine lv_aload_n hx hb dX7_pack_33 rfl (lv_at hl 0 rfl) ?_
    refine va_get (D := G) (ci := 7) (v := .ref aK) (C := RX7) (T := TX7) (N := 11) hx hb htc iX7 hown hK hP 0 rfl rfl 2 (by decide) (htc _ mw_187) (fun _ h9 => h9) rfl dX7_pack_34 ?_
    refine lv_iload_n hx hb dX7_pack_37 rfl (lv_at hl 1 rfl) ?_
    refine lv_iload_n hx hb dX7_pack_38 rfl (lv_at hl 2 rfl) ?_
    obtain ⟨K_used_13, K_bitsFree_14, K_full_15, K_time_16, K_value_17, K_rise_18, K_cells_19, hE_12, hJ_9⟩ := ob7_some hJ_9
    refine ctV (a := aK) (As := [.int p0, .int p1]) (rest := []) (st1 := []) (wc := [(aK, .inr (5, [.ref aKc, .int K_used, .int K_bitsFree, .int K_full, .int K_time, .int K_value, .long K_rise])), (aKc, .inl (cI, 1661, .inl K_cells))]) (w1 := [(aK, .inr (5, [.ref aKc, .int K_used_13, .int K_bitsFree_14, .int K_full_15, .int K_time_16, .int K_value_17, .long K_rise_18])), (aKc, .inl (cI, 1661, .inl K_cells_19))]) (wr := [(aT, .inr (7, [.ref aD, .ref aI, .ref aK, .ref aO, .ref aTi, .ref aTp, .ref aTt, .int T_chunks, .int T_chunksMade, .int T_openFrom, .int T_lacksSpace])), (aO, .inr (6, [.int O_first, .int O_last, .int O_points, .int O_least, .int O_greatest, .long O_sum]))]) (wb := [(aT, .inr (7, [.ref aD, .ref aI, .ref aK, .ref aO, .ref aTi, .ref aTp, .ref aTt, .int T_chunks, .int T_chunksMade, .int T_openFrom, .int T_lacksSpace])), (aK, .inr (5, [.ref aKc, .int K_used_13, .int K_bitsFree_14, .int K_full_15, .int K_time_16, .int K_value_17, .long K_rise_18])), (aKc, .inl (cI, 1661, .inl K_cells_19)), (aO, .inr (6, [.int O_first, .int O_last, .int O_points, .int O_least, .int O_greatest, .long O_sum]))]) (v := none) hx hb hml hown htc hN (c_X5_packFurther l G cI cZ cJ aK aKc K_used K_bitsFree K_full K_time K_value K_rise K_cells p0 p1 hE_12) mw_486 mw_487 mw_488 mw_8 mw_489 hd_X5_packFurther ⟨rfl, rfl⟩ ⟨Nat.le_of_ble_eq_true rfl, Nat.le_of_ble_eq_true rfl⟩ hK hP hD hS hA [1, 2] [0, 3] [0, 2, 3, 1] rfl rfl rfl rfl rfl (by decide) rfl rfl rfl 0 rfl rfl rfl rfl hl.1 rfl rfl (Nat.le_of_ble_eq_true rfl) dX7_pack_39 ⟨Nat.zero_le _, Nat.zero_le _⟩ (fun H locs hP hD hS => ?_)
    cases hJ_9
    exact kj_10 _ _ _ hP hD hS (lv_sub hl [0, 1, 2] rfl)
  · have hJ_9 := it_t c_11 hJ_9
    refine lv_aload_n hx hb dX7_pack_10 rfl (lv_at hl 0 rfl) ?_
    refine lv_aload_n hx hb dX7_pack_11 rfl (lv_at hl 0 rfl) ?_
    refine va_get (D := G) (ci := 7) (v := .ref aK) (C := RX7) (T := TX7) (N := 11) hx hb htc iX7 hown hK hP 0 rfl rfl 2 (by decide) (htc _ mw_187) (fun _ h9 => h9) rfl dX7_pack_12 ?_
    obtain ⟨r_21, hE_20, hJ_9⟩ := ob1_some hJ_9
    refine ctV (a := aK) (As := []) (rest := [.ref aT]) (st1 := [.int r_21, .ref aT]) (wc := [(aK, .inr (5, [.ref aKc, .int K_used, .int K_bitsFree, .int K_full, .int K_time, .int K_value, .long K_rise]))]) (w1 := [(aK, .inr (5, [.ref aKc, .int K_used, .int K_bitsFree, .int K_full, .int K_time, .int K_value, .long K_rise]))]) (wr := [(aT, .inr (7, [.ref aD, .ref aI, .ref aK, .ref aO, .ref aTi, .ref aTp, .ref aTt, .int T_chunks, .int T_chunksMade, .int T_openFrom, .int T_lacksSpace])), (aKc, .inl (cI, 1661, .inl K_cells)), (aO, .inr (6, [.int O_first, .int O_last, .int O_points, .int O_least, .int O_greatest, .long O_sum]))]) (wb := [(aT, .inr (7, [.ref aD, .ref aI, .ref aK, .ref aO, .ref aTi, .ref aTp, .ref aTt, .int T_chunks, .int T_chunksMade, .int T_openFrom, .int T_lacksSpace])), (aK, .inr (5, [.ref aKc, .int K_used, .int K_bitsFree, .int K_full, .int K_time, .int K_value, .long K_rise])), (aKc, .inl (cI, 1661, .inl K_cells)), (aO, .inr (6, [.int O_first, .int O_last, .int O_points, .int O_least, .int O_greatest, .long O_sum]))]) (v := (some (.int r_21))) hx hb hml hown htc hN (c_X5_used l G cI cZ cJ aK aKc K_used K_bitsFree K_full K_time K_value K_rise  hE_20) mw_458 mw_459 mw_460 mw_8 mw_461 hd_X5_used ⟨rfl, rfl⟩ ⟨Nat.le_of_ble_eq_true rfl, Nat.le_of_ble_eq_true rfl⟩ hK hP hD hS hA [1] [0, 2, 3] [0, 3, 1, 2] rfl rfl rfl rfl rfl (by decide) rfl rfl rfl 0 rfl rfl rfl rfl hl.1 rfl rfl (Nat.le_of_ble_eq_true rfl) dX7_pack_15 ⟨Nat.zero_le _, Nat.zero_le _⟩ (fun H locs hP hD hS => ?_)
    refine va_put (D := G) (ci := 7) (v := .int r_21) (ty := .int) (C := RX7) (T := TX7) (N := 11) hx hb htc iX7 tyX7 tyX7_ok nmX7 hown hK hP hD hS 0 rfl rfl 9 (by decide) (htc _ mw_194) (fun _ h9 => h9) rfl (tyX7_ok 9 (by decide)) rfl rfl (Nat.le_of_ble_eq_true rfl) dX7_pack_18 (fun H locs hP hD hS => ?_)
    have hP : va_P G classes [(aT, .inr (7, [.ref aD, .ref aI, .ref aK, .ref aO, .ref aTi, .ref aTp, .ref aTt, .int T_chunks, .int T_chunksMade, .int r_21, .int T_lacksSpace])), (aK, .inr (5, [.ref aKc, .int K_used, .int K_bitsFree, .int K_full, .int K_time, .int K_value, .long K_rise])), (aKc, .inl (cI, 1661, .inl K_cells)), (aO, .inr (6, [.int O_first, .int O_last, .int O_points, .int O_least, .int O_greatest, .long O_sum]))] H := hP
    have hD : va_D A [(aT, .inr (7, [.ref aD, .ref aI, .ref aK, .ref aO, .ref aTi, .ref aTp, .ref aTt, .int T_chunks, .int T_chunksMade, .int r_21, .int T_lacksSpace])), (aK, .inr (5, [.ref aKc, .int K_used, .int K_bitsFree, .int K_full, .int K_time, .int K_value, .long K_rise])), (aKc, .inl (cI, 1661, .inl K_cells)), (aO, .inr (6, [.int O_first, .int O_last, .int O_points, .int O_least, .int O_greatest, .long O_sum]))] := hD
    refine lv_aload_n hx hb dX7_pack_21 rfl (lv_at hl 0 rfl) ?_
    refine va_get (D := G) (ci := 7) (v := .ref aK) (C := RX7) (T := TX7) (N := 11) hx hb htc iX7 hown hK hP 0 rfl rfl 2 (by decide) (htc _ mw_187) (fun _ h9 => h9) rfl dX7_pack_22 ?_
    refine lv_iload_n hx hb dX7_pack_25 rfl (lv_at hl 1 rfl) ?_
    refine lv_iload_n hx hb dX7_pack_26 rfl (lv_at hl 2 rfl) ?_
    obtain ⟨K_used_23, K_bitsFree_24, K_full_25, K_time_26, K_value_27, K_rise_28, K_cells_29, hE_22, hJ_9⟩ := ob7_some hJ_9
    refine ctV (a := aK) (As := [.int p0, .int p1]) (rest := []) (st1 := []) (wc := [(aK, .inr (5, [.ref aKc, .int K_used, .int K_bitsFree, .int K_full, .int K_time, .int K_value, .long K_rise])), (aKc, .inl (cI, 1661, .inl K_cells))]) (w1 := [(aK, .inr (5, [.ref aKc, .int K_used_23, .int K_bitsFree_24, .int K_full_25, .int K_time_26, .int K_value_27, .long K_rise_28])), (aKc, .inl (cI, 1661, .inl K_cells_29))]) (wr := [(aT, .inr (7, [.ref aD, .ref aI, .ref aK, .ref aO, .ref aTi, .ref aTp, .ref aTt, .int T_chunks, .int T_chunksMade, .int r_21, .int T_lacksSpace])), (aO, .inr (6, [.int O_first, .int O_last, .int O_points, .int O_least, .int O_greatest, .long O_sum]))]) (wb := [(aT, .inr (7, [.ref aD, .ref aI, .ref aK, .ref aO, .ref aTi, .ref aTp, .ref aTt, .int T_chunks, .int T_chunksMade, .int r_21, .int T_lacksSpace])), (aK, .inr (5, [.ref aKc, .int K_used_23, .int K_bitsFree_24, .int K_full_25, .int K_time_26, .int K_value_27, .long K_rise_28])), (aKc, .inl (cI, 1661, .inl K_cells_29)), (aO, .inr (6, [.int O_first, .int O_last, .int O_points, .int O_least, .int O_greatest, .long O_sum]))]) (v := none) hx hb hml hown htc hN (c_X5_packFirst l G cI cZ cJ aK aKc K_used K_bitsFree K_full K_time K_value K_rise K_cells p0 p1 hE_22) mw_478 mw_479 mw_480 mw_8 mw_481 hd_X5_packFirst ⟨rfl, rfl⟩ ⟨Nat.le_of_ble_eq_true rfl, Nat.le_of_ble_eq_true rfl⟩ hK hP hD hS hA [1, 2] [0, 3] [0, 2, 3, 1] rfl rfl rfl rfl rfl (by decide) rfl rfl rfl 0 rfl rfl rfl rfl hl.1 rfl rfl (Nat.le_of_ble_eq_true rfl) dX7_pack_27 ⟨Nat.zero_le _, Nat.zero_le _⟩ (fun H locs hP hD hS => ?_)
    refine lv_goto (tgt := 42) hx hb dX7_pack_30 (by decide) ?_
    cases hJ_9
    exact kj_10 _ _ _ hP hD hS (lv_sub hl [0, 1, 2] rfl)
def m_X7_chunksMade (T_chunksMade : Int32) : Option (Int32) :=
  some (T_chunksMade)
abbrev rm_X7_chunksMade : Room := { frames := 0, cells := 0, slots := 0, locals := 0 }
theorem hd_X7_chunksMade : yX7_chunksMade.cls = RX7 ∧ yX7_chunksMade.cls ≠ "java/lang/invoke/MethodHandle" ∧ yX7_chunksMade.cls ≠ "java/lang/invoke/VarHandle" ∧ (parseMethodDescriptor yX7_chunksMade.desc).map (fun d => d.parameters.length) = some 0 := by decide +kernel
set_option maxHeartbeats 4000000 in
set_option maxRecDepth 100000 in
theorem c_X7_chunksMade (l : Launch) (G : va_G) (cI cZ cJ : ClassId) (aT aD aI aK aO aTi aTp aTt : Nat) (T_chunks : Int32) (T_chunksMade : Int32) (T_openFrom : Int32) (T_lacksSpace : Int32)  {r : Int32} (hfin : m_X7_chunksMade T_chunksMade = some (r)) : CT l yX7_chunksMade cX7_chunksMade 1 (some .int) rm_X7_chunksMade G (tyC cI cZ cJ) [.ref aT] [(aT, .inr (7, [.ref aD, .ref aI, .ref aK, .ref aO, .ref aTi, .ref aTp, .ref aTt, .int T_chunks, .int T_chunksMade, .int T_openFrom, .int T_lacksSpace]))] (some (.int r)) [(aT, .inr (7, [.ref aD, .ref aI, .ref aK, .ref aO, .ref aTi, .ref aTp, .ref aTt, .int T_chunks, .int T_chunksMade, .int T_openFrom, .int T_lacksSpace]))] := by
  refine CT.ofW (lvl := [(0, .ref aT)]) (by decide) (Nat.le_of_ble_eq_true rfl) rfl ?_
  intro p e s m args below meth c A ls QQ hQQ hx hb hml hr hlocks htc hN hown hK hA hP hD hS hl
  rw [m_X7_chunksMade] at hfin
  refine lv_aload_n hx hb dX7_chunksMade_0 rfl (lv_at hl 0 rfl) ?_
  refine va_get (D := G) (ci := 7) (v := .int T_chunksMade) (C := RX7) (T := TX7) (N := 11) hx hb htc iX7 hown hK hP 0 rfl rfl 8 (by decide) (htc _ mw_193) (fun _ h9 => h9) rfl dX7_chunksMade_1 ?_
  cases hfin
  rw [hQQ]
  exact ct_iret hx hb hr hlocks hP hD hS dX7_chunksMade_4
def m_X7_lacksSpace (T_lacksSpace : Int32) : Option (Int32) :=
  ckz T_lacksSpace <|
  some (T_lacksSpace)
abbrev rm_X7_lacksSpace : Room := { frames := 0, cells := 0, slots := 0, locals := 0 }
theorem hd_X7_lacksSpace : yX7_lacksSpace.cls = RX7 ∧ yX7_lacksSpace.cls ≠ "java/lang/invoke/MethodHandle" ∧ yX7_lacksSpace.cls ≠ "java/lang/invoke/VarHandle" ∧ (parseMethodDescriptor yX7_lacksSpace.desc).map (fun d => d.parameters.length) = some 0 := by decide +kernel
set_option maxHeartbeats 4000000 in
set_option maxRecDepth 100000 in
theorem c_X7_lacksSpace (l : Launch) (G : va_G) (cI cZ cJ : ClassId) (aT aD aI aK aO aTi aTp aTt : Nat) (T_chunks : Int32) (T_chunksMade : Int32) (T_openFrom : Int32) (T_lacksSpace : Int32)  {r : Int32} (hfin : m_X7_lacksSpace T_lacksSpace = some (r)) : CT l yX7_lacksSpace cX7_lacksSpace 1 (some .boolean) rm_X7_lacksSpace G (tyC cI cZ cJ) [.ref aT] [(aT, .inr (7, [.ref aD, .ref aI, .ref aK, .ref aO, .ref aTi, .ref aTp, .ref aTt, .int T_chunks, .int T_chunksMade, .int T_openFrom, .int T_lacksSpace]))] (some (.int r)) [(aT, .inr (7, [.ref aD, .ref aI, .ref aK, .ref aO, .ref aTi, .ref aTp, .ref aTt, .int T_chunks, .int T_chunksMade, .int T_openFrom, .int T_lacksSpace]))] := by
  refine CT.ofW (lvl := [(0, .ref aT)]) (by decide) (Nat.le_of_ble_eq_true rfl) rfl ?_
  intro p e s m args below meth c A ls QQ hQQ hx hb hml hr hlocks htc hN hown hK hA hP hD hS hl
  rw [m_X7_lacksSpace] at hfin
  refine lv_aload_n hx hb dX7_lacksSpace_0 rfl (lv_at hl 0 rfl) ?_
  refine va_get (D := G) (ci := 7) (v := .int T_lacksSpace) (C := RX7) (T := TX7) (N := 11) hx hb htc iX7 hown hK hP 0 rfl rfl 10 (by decide) (htc _ mw_195) (fun _ h9 => h9) rfl dX7_lacksSpace_1 ?_
  obtain ⟨hz_1, hfin⟩ := ckz_some hfin
  cases hfin
  rw [hQQ]
  exact ct_zret hx hb hr hlocks hz_1 hP hD hS dX7_lacksSpace_4
def lp_X7_writeCellsOf_31 (K_used : Int32) (K_cells : Nat → Int32) (T_image : Nat → Int32) (T_packedFrom : Nat → Int32) (p0 : Int32) : Nat → Int32 → Int32 → Int32 → Int32 → (Nat → Int32) → Option (Int32 × Int32 × Int32 × Int32 × (Nat → Int32))
  | 0, _, _, _, _, _ => none
  | n + 1, v5_3, D_writesDone_4, D_writesLeft_5, D_down_6, D_cells_7 =>
    if (T_image (Int32.toNatClampNeg (((1 : Int32) + (p0 * (10 : Int32))) + (9 : Int32)))) ≤ v5_3 then (
      some ((1 : Int32), D_writesDone_4, D_writesLeft_5, D_down_6, D_cells_7)) else (
      ckb p0 96 <|
      ob1 (m_X5_at K_used K_cells ((T_packedFrom (Int32.toNatClampNeg p0)) + v5_3)) fun r_15 =>
      ob5 (m_X2_write D_writesDone_4 D_writesLeft_5 D_down_6 D_cells_7 ((T_image (Int32.toNatClampNeg (((1 : Int32) + (p0 * (10 : Int32))) + (8 : Int32)))) + v5_3) r_15) fun r_17 D_writesDone_18 D_writesLeft_19 D_down_20 D_cells_21 =>
      if r_17 = 0 then (
        some ((0 : Int32), D_writesDone_18, D_writesLeft_19, D_down_20, D_cells_21)) else (
        lp_X7_writeCellsOf_31 K_used K_cells T_image T_packedFrom p0 n (v5_3 + (1 : Int32)) D_writesDone_18 D_writesLeft_19 D_down_20 D_cells_21))
def m_X7_writeCellsOf (D_writesDone : Int32) (D_writesLeft : Int32) (D_down : Int32) (D_cells : Nat → Int32) (K_used : Int32) (K_cells : Nat → Int32) (T_image : Nat → Int32) (T_packedFrom : Nat → Int32) (p0 : Int32) : Option (Int32 × Int32 × Int32 × Int32 × (Nat → Int32)) :=
  ckb (((1 : Int32) + (p0 * (10 : Int32))) + (8 : Int32)) 961 <|
  ckb (((1 : Int32) + (p0 * (10 : Int32))) + (9 : Int32)) 961 <|
  lp_X7_writeCellsOf_31 K_used K_cells T_image T_packedFrom p0 NN (0 : Int32) D_writesDone D_writesLeft D_down D_cells
abbrev rm_X7_writeCellsOf : Room := { frames := 1, cells := 0, slots := 0, locals := 22 }
theorem hd_X7_writeCellsOf : yX7_writeCellsOf.cls = RX7 ∧ yX7_writeCellsOf.cls ≠ "java/lang/invoke/MethodHandle" ∧ yX7_writeCellsOf.cls ≠ "java/lang/invoke/VarHandle" ∧ (parseMethodDescriptor yX7_writeCellsOf.desc).map (fun d => d.parameters.length) = some 1 := by decide +kernel
set_option maxHeartbeats 4000000 in
set_option maxRecDepth 100000 in
theorem c_X7_writeCellsOf (l : Launch) (G : va_G) (cI cZ cJ : ClassId) (aD aDc aT aI aK aO aTi aTp aTt aKc : Nat) (D_writesDone : Int32) (D_writesLeft : Int32) (D_down : Int32) (D_cells : Nat → Int32) (T_chunks : Int32) (T_chunksMade : Int32) (T_openFrom : Int32) (T_lacksSpace : Int32) (K_used : Int32) (K_bitsFree : Int32) (K_full : Int32) (K_time : Int32) (K_value : Int32) (K_rise : Int64) (K_cells : Nat → Int32) (T_image : Nat → Int32) (T_packedFrom : Nat → Int32) (p0 : Int32) {r : Int32} {o_D_writesDone : Int32} {o_D_writesLeft : Int32} {o_D_down : Int32} {o_D_cells : Nat → Int32} (hfin : m_X7_writeCellsOf D_writesDone D_writesLeft D_down D_cells K_used K_cells T_image T_packedFrom p0 = some (r, o_D_writesDone, o_D_writesLeft, o_D_down, o_D_cells)) : CT l yX7_writeCellsOf cX7_writeCellsOf 6 (some .boolean) rm_X7_writeCellsOf G (tyC cI cZ cJ) [.ref aT, .int p0] [(aD, .inr (2, [.ref aDc, .int D_writesDone, .int D_writesLeft, .int D_down])), (aDc, .inl (cI, 4096, .inl D_cells)), (aT, .inr (7, [.ref aD, .ref aI, .ref aK, .ref aO, .ref aTi, .ref aTp, .ref aTt, .int T_chunks, .int T_chunksMade, .int T_openFrom, .int T_lacksSpace])), (aK, .inr (5, [.ref aKc, .int K_used, .int K_bitsFree, .int K_full, .int K_time, .int K_value, .long K_rise])), (aKc, .inl (cI, 1661, .inl K_cells)), (aTi, .inl (cI, 961, .inl T_image)), (aTp, .inl (cI, 96, .inl T_packedFrom))] (some (.int r)) [(aD, .inr (2, [.ref aDc, .int o_D_writesDone, .int o_D_writesLeft, .int o_D_down])), (aDc, .inl (cI, 4096, .inl o_D_cells)), (aT, .inr (7, [.ref aD, .ref aI, .ref aK, .ref aO, .ref aTi, .ref aTp, .ref aTt, .int T_chunks, .int T_chunksMade, .int T_openFrom, .int T_lacksSpace])), (aK, .inr (5, [.ref aKc, .int K_used, .int K_bitsFree, .int K_full, .int K_time, .int K_value, .long K_rise])), (aKc, .inl (cI, 1661, .inl K_cells)), (aTi, .inl (cI, 961, .inl T_image)), (aTp, .inl (cI, 96, .inl T_packedFrom))] := by
  refine CT.ofW (lvl := [(0, .ref aT), (1, .int p0)]) (by decide) (Nat.le_of_ble_eq_true rfl) rfl ?_
  intro p e s m args below meth c A ls QQ hQQ hx hb hml hr hlocks htc hN hown hK hA hP hD hS hl
  rw [m_X7_writeCellsOf] at hfin
  refine lv_iconst (v := (1 : Int32)) hx hb dX7_writeCellsOf_0 (by decide) ?_
  refine lv_iload_n hx hb dX7_writeCellsOf_1 rfl (lv_at hl 1 rfl) ?_
  refine lv_bipush (v := (10 : Int32)) hx hb dX7_writeCellsOf_2 (by decide) ?_
  refine lv_imul hx hb dX7_writeCellsOf_4 ?_
  refine lv_iadd hx hb dX7_writeCellsOf_5 ?_
  refine lv_istore_n (lv' := [(2, .int ((1 : Int32) + (p0 * (10 : Int32)))), (0, .ref aT), (1, .int p0)]) hx hb dX7_writeCellsOf_6 rfl hl (by decide) rfl (fun ls hl => ?_)
  refine lv_aload_n hx hb dX7_writeCellsOf_7 rfl (lv_at hl 1 rfl) ?_
  refine va_get (D := G) (ci := 7) (v := .ref aTi) (C := RX7) (T := TX7) (N := 11) hx hb htc iX7 hown hK hP 2 rfl rfl 4 (by decide) (htc _ mw_189) (fun _ h9 => h9) rfl dX7_writeCellsOf_8 ?_
  refine lv_iload_n hx hb dX7_writeCellsOf_11 rfl (lv_at hl 0 rfl) ?_
  refine lv_bipush (v := (8 : Int32)) hx hb dX7_writeCellsOf_12 (by decide) ?_
  refine lv_iadd hx hb dX7_writeCellsOf_14 ?_
  obtain ⟨hin_1, hfin⟩ := ckb_some hfin
  refine va_iald hx hb hK hP 5 0 rfl rfl hin_1 dX7_writeCellsOf_15 ?_
  refine lv_istore_n (lv' := [(3, .int (T_image (Int32.toNatClampNeg (((1 : Int32) + (p0 * (10 : Int32))) + (8 : Int32))))), (2, .int ((1 : Int32) + (p0 * (10 : Int32)))), (0, .ref aT), (1, .int p0)]) hx hb dX7_writeCellsOf_16 rfl hl (by decide) rfl (fun ls hl => ?_)
  refine lv_aload_n hx hb dX7_writeCellsOf_17 rfl (lv_at hl 2 rfl) ?_
  refine va_get (D := G) (ci := 7) (v := .ref aTi) (C := RX7) (T := TX7) (N := 11) hx hb htc iX7 hown hK hP 2 rfl rfl 4 (by decide) (htc _ mw_189) (fun _ h9 => h9) rfl dX7_writeCellsOf_18 ?_
  refine lv_iload_n hx hb dX7_writeCellsOf_21 rfl (lv_at hl 1 rfl) ?_
  refine lv_bipush (v := (9 : Int32)) hx hb dX7_writeCellsOf_22 (by decide) ?_
  refine lv_iadd hx hb dX7_writeCellsOf_24 ?_
  obtain ⟨hin_2, hfin⟩ := ckb_some hfin
  refine va_iald hx hb hK hP 5 0 rfl rfl hin_2 dX7_writeCellsOf_25 ?_
  refine lv_istore (lv' := [(4, .int (T_image (Int32.toNatClampNeg (((1 : Int32) + (p0 * (10 : Int32))) + (9 : Int32))))), (3, .int (T_image (Int32.toNatClampNeg (((1 : Int32) + (p0 * (10 : Int32))) + (8 : Int32))))), (2, .int ((1 : Int32) + (p0 * (10 : Int32)))), (0, .ref aT), (1, .int p0)]) hx hb dX7_writeCellsOf_26 hl (by decide) rfl (fun ls hl => ?_)
  refine lv_iconst (v := (0 : Int32)) hx hb dX7_writeCellsOf_28 (by decide) ?_
  refine lv_istore (lv' := [(5, .int (0 : Int32)), (4, .int (T_image (Int32.toNatClampNeg (((1 : Int32) + (p0 * (10 : Int32))) + (9 : Int32))))), (3, .int (T_image (Int32.toNatClampNeg (((1 : Int32) + (p0 * (10 : Int32))) + (8 : Int32))))), (2, .int ((1 : Int32) + (p0 * (10 : Int32)))), (0, .ref aT), (1, .int p0)]) hx hb dX7_writeCellsOf_29 hl (by decide) rfl (fun ls hl => ?_)
  have lp_10 : ∀ (n : Nat) (v5_3 : Int32) (D_writesDone_4 : Int32) (D_writesLeft_5 : Int32) (D_down_6 : Int32) (D_cells_7 : Nat → Int32), lp_X7_writeCellsOf_31 K_used K_cells T_image T_packedFrom p0 n v5_3 D_writesDone_4 D_writesLeft_5 D_down_6 D_cells_7 = some (r, o_D_writesDone, o_D_writesLeft, o_D_down, o_D_cells) → ∀ (H : Heap) (locs : List Loc) (ls : Array Slot), va_P G classes [(aD, .inr (2, [.ref aDc, .int D_writesDone_4, .int D_writesLeft_5, .int D_down_6])), (aDc, .inl (cI, 4096, .inl D_cells_7)), (aT, .inr (7, [.ref aD, .ref aI, .ref aK, .ref aO, .ref aTi, .ref aTp, .ref aTt, .int T_chunks, .int T_chunksMade, .int T_openFrom, .int T_lacksSpace])), (aK, .inr (5, [.ref aKc, .int K_used, .int K_bitsFree, .int K_full, .int K_time, .int K_value, .long K_rise])), (aKc, .inl (cI, 1661, .inl K_cells)), (aTi, .inl (cI, 961, .inl T_image)), (aTp, .inl (cI, 96, .inl T_packedFrom))] H → va_D A [(aD, .inr (2, [.ref aDc, .int D_writesDone_4, .int D_writesLeft_5, .int D_down_6])), (aDc, .inl (cI, 4096, .inl D_cells_7)), (aT, .inr (7, [.ref aD, .ref aI, .ref aK, .ref aO, .ref aTi, .ref aTp, .ref aTt, .int T_chunks, .int T_chunksMade, .int T_openFrom, .int T_lacksSpace])), (aK, .inr (5, [.ref aKc, .int K_used, .int K_bitsFree, .int K_full, .int K_time, .int K_value, .long K_rise])), (aKc, .inl (cI, 1661, .inl K_cells)), (aTi, .inl (cI, 961, .inl T_image)), (aTp, .inl (cI, 96, .inl T_packedFrom))] → va_S A s.heap H locs → lv_has ls 6 [(0, .ref aT), (1, .int p0), (3, .int (T_image (Int32.toNatClampNeg (((1 : Int32) + (p0 * (10 : Int32))) + (8 : Int32))))), (4, .int (T_image (Int32.toNatClampNeg (((1 : Int32) + (p0 * (10 : Int32))) + (9 : Int32))))), (5, .int v5_3)] → W p l e rm_X7_writeCellsOf s m args below meth c H locs 0 0 QQ (F0 m 31 ls []) := by
    intro n
    induction n with
    | zero =>
      intro v5_3 D_writesDone_4 D_writesLeft_5 D_down_6 D_cells_7 hB_11
      exact absurd hB_11 (by rw [lp_X7_writeCellsOf_31]; exact fun h9 => nomatch h9)
    | succ n ih =>
      intro v5_3 D_writesDone_4 D_writesLeft_5 D_down_6 D_cells_7 hB_11 H locs ls hP hD hS hl
      rw [lp_X7_writeCellsOf_31] at hB_11
      refine lv_iload hx hb dX7_writeCellsOf_31 (lv_at hl 4 rfl) ?_
      refine lv_iload hx hb dX7_writeCellsOf_33 (lv_at hl 3 rfl) ?_
      refine lv_icmp_ge (tgt := 76) hx hb dX7_writeCellsOf_35 (by decide) (fun c_12 => ?_) (fun c_12 => ?_)
      · have hB_11 := it_t c_12 hB_11
        refine lv_iconst (v := (1 : Int32)) hx hb dX7_writeCellsOf_76 (by decide) ?_
        cases hB_11
        rw [hQQ]
        exact ct_zret hx hb hr hlocks (Or.inr rfl) hP hD hS dX7_writeCellsOf_77
      · have hB_11 := it_f c_12 hB_11
        refine lv_aload_n hx hb dX7_writeCellsOf_38 rfl (lv_at hl 0 rfl) ?_
        refine va_get (D := G) (ci := 7) (v := .ref aD) (C := RX7) (T := TX7) (N := 11) hx hb htc iX7 hown hK hP 2 rfl rfl 0 (by decide) (htc _ mw_185) (fun _ h9 => h9) rfl dX7_writeCellsOf_39 ?_
        refine lv_iload_n hx hb dX7_writeCellsOf_42 rfl (lv_at hl 2 rfl) ?_
        refine lv_iload hx hb dX7_writeCellsOf_43 (lv_at hl 4 rfl) ?_
        refine lv_iadd hx hb dX7_writeCellsOf_45 ?_
        refine lv_aload_n hx hb dX7_writeCellsOf_46 rfl (lv_at hl 0 rfl) ?_
        refine va_get (D := G) (ci := 7) (v := .ref aK) (C := RX7) (T := TX7) (N := 11) hx hb htc iX7 hown hK hP 2 rfl rfl 2 (by decide) (htc _ mw_187) (fun _ h9 => h9) rfl dX7_writeCellsOf_47 ?_
        refine lv_aload_n hx hb dX7_writeCellsOf_50 rfl (lv_at hl 0 rfl) ?_
        refine va_get (D := G) (ci := 7) (v := .ref aTp) (C := RX7) (T := TX7) (N := 11) hx hb htc iX7 hown hK hP 2 rfl rfl 5 (by decide) (htc _ mw_190) (fun _ h9 => h9) rfl dX7_writeCellsOf_51 ?_
        refine lv_iload_n hx hb dX7_writeCellsOf_54 rfl (lv_at hl 1 rfl) ?_
        obtain ⟨hin_13, hB_11⟩ := ckb_some hB_11
        refine va_iald hx hb hK hP 6 0 rfl rfl hin_13 dX7_writeCellsOf_55 ?_
        refine lv_iload hx hb dX7_writeCellsOf_56 (lv_at hl 4 rfl) ?_
        refine lv_iadd hx hb dX7_writeCellsOf_58 ?_
        obtain ⟨r_15, hE_14, hB_11⟩ := ob1_some hB_11
        refine ctV (a := aK) (As := [.int ((T_packedFrom (Int32.toNatClampNeg p0)) + v5_3)]) (rest := [.int ((T_image (Int32.toNatClampNeg (((1 : Int32) + (p0 * (10 : Int32))) + (8 : Int32)))) + v5_3), .ref aD]) (st1 := [.int r_15, .int ((T_image (Int32.toNatClampNeg (((1 : Int32) + (p0 * (10 : Int32))) + (8 : Int32)))) + v5_3), .ref aD]) (wc := [(aK, .inr (5, [.ref aKc, .int K_used, .int K_bitsFree, .int K_full, .int K_time, .int K_value, .long K_rise])), (aKc, .inl (cI, 1661, .inl K_cells))]) (w1 := [(aK, .inr (5, [.ref aKc, .int K_used, .int K_bitsFree, .int K_full, .int K_time, .int K_value, .long K_rise])), (aKc, .inl (cI, 1661, .inl K_cells))]) (wr := [(aD, .inr (2, [.ref aDc, .int D_writesDone_4, .int D_writesLeft_5, .int D_down_6])), (aDc, .inl (cI, 4096, .inl D_cells_7)), (aT, .inr (7, [.ref aD, .ref aI, .ref aK, .ref aO, .ref aTi, .ref aTp, .ref aTt, .int T_chunks, .int T_chunksMade, .int T_openFrom, .int T_lacksSpace])), (aTi, .inl (cI, 961, .inl T_image)), (aTp, .inl (cI, 96, .inl T_packedFrom))]) (wb := [(aD, .inr (2, [.ref aDc, .int D_writesDone_4, .int D_writesLeft_5, .int D_down_6])), (aDc, .inl (cI, 4096, .inl D_cells_7)), (aT, .inr (7, [.ref aD, .ref aI, .ref aK, .ref aO, .ref aTi, .ref aTp, .ref aTt, .int T_chunks, .int T_chunksMade, .int T_openFrom, .int T_lacksSpace])), (aK, .inr (5, [.ref aKc, .int K_used, .int K_bitsFree, .int K_full, .int K_time, .int K_value, .long K_rise])), (aKc, .inl (cI, 1661, .inl K_cells)), (aTi, .inl (cI, 961, .inl T_image)), (aTp, .inl (cI, 96, .inl T_packedFrom))]) (v := (some (.int r_15))) hx hb hml hown htc hN (c_X5_at l G cI cZ cJ aK aKc K_used K_bitsFree K_full K_time K_value K_rise K_cells ((T_packedFrom (Int32.toNatClampNeg p0)) + v5_3) hE_14) mw_549 mw_550 mw_551 mw_8 mw_552 hd_X5_at ⟨rfl, rfl⟩ ⟨Nat.le_of_ble_eq_true rfl, Nat.le_of_ble_eq_true rfl⟩ hK hP hD hS hA [3, 4] [0, 1, 2, 5, 6] [0, 1, 2, 5, 6, 3, 4] rfl rfl rfl rfl rfl (by decide) rfl rfl rfl 0 rfl rfl rfl rfl hl.1 rfl rfl (Nat.le_of_ble_eq_true rfl) dX7_writeCellsOf_59 ⟨Nat.zero_le _, Nat.zero_le _⟩ (fun H locs hP hD hS => ?_)
        obtain ⟨r_17, D_writesDone_18, D_writesLeft_19, D_down_20, D_cells_21, hE_16, hB_11⟩ := ob5_some hB_11
        refine ctV (a := aD) (As := [.int ((T_image (Int32.toNatClampNeg (((1 : Int32) + (p0 * (10 : Int32))) + (8 : Int32)))) + v5_3), .int r_15]) (rest := []) (st1 := [.int r_17]) (wc := [(aD, .inr (2, [.ref aDc, .int D_writesDone_4, .int D_writesLeft_5, .int D_down_6])), (aDc, .inl (cI, 4096, .inl D_cells_7))]) (w1 := [(aD, .inr (2, [.ref aDc, .int D_writesDone_18, .int D_writesLeft_19, .int D_down_20])), (aDc, .inl (cI, 4096, .inl D_cells_21))]) (wr := [(aT, .inr (7, [.ref aD, .ref aI, .ref aK, .ref aO, .ref aTi, .ref aTp, .ref aTt, .int T_chunks, .int T_chunksMade, .int T_openFrom, .int T_lacksSpace])), (aK, .inr (5, [.ref aKc, .int K_used, .int K_bitsFree, .int K_full, .int K_time, .int K_value, .long K_rise])), (aKc, .inl (cI, 1661, .inl K_cells)), (aTi, .inl (cI, 961, .inl T_image)), (aTp, .inl (cI, 96, .inl T_packedFrom))]) (wb := [(aD, .inr (2, [.ref aDc, .int D_writesDone_18, .int D_writesLeft_19, .int D_down_20])), (aDc, .inl (cI, 4096, .inl D_cells_21)), (aT, .inr (7, [.ref aD, .ref aI, .ref aK, .ref aO, .ref aTi, .ref aTp, .ref aTt, .int T_chunks, .int T_chunksMade, .int T_openFrom, .int T_lacksSpace])), (aK, .inr (5, [.ref aKc, .int K_used, .int K_bitsFree, .int K_full, .int K_time, .int K_value, .long K_rise])), (aKc, .inl (cI, 1661, .inl K_cells)), (aTi, .inl (cI, 961, .inl T_image)), (aTp, .inl (cI, 96, .inl T_packedFrom))]) (v := (some (.int r_17))) hx hb hml hown htc hN (c_X2_write l G cI cZ cJ aD aDc D_writesDone_4 D_writesLeft_5 D_down_6 D_cells_7 ((T_image (Int32.toNatClampNeg (((1 : Int32) + (p0 * (10 : Int32))) + (8 : Int32)))) + v5_3) r_15 hE_16) mw_553 mw_405 mw_406 mw_3 mw_407 hd_X2_write ⟨rfl, rfl⟩ ⟨Nat.le_of_ble_eq_true rfl, Nat.le_of_ble_eq_true rfl⟩ hK hP hD hS hA [0, 1] [2, 3, 4, 5, 6] [5, 6, 0, 1, 2, 3, 4] rfl rfl rfl rfl rfl (by decide) rfl rfl rfl 0 rfl rfl rfl rfl hl.1 rfl rfl (Nat.le_of_ble_eq_true rfl) dX7_writeCellsOf_62 ⟨Nat.zero_le _, Nat.zero_le _⟩ (fun H locs hP hD hS => ?_)
        refine lv_if_ne (tgt := 70) hx hb dX7_writeCellsOf_65 (by decide) (fun c_22 => ?_) (fun c_22 => ?_)
        · have hB_11 := it_f c_22 hB_11
          refine lv_iinc (v := (v5_3 + (1 : Int32))) (lv' := [(5, .int (v5_3 + (1 : Int32))), (0, .ref aT), (1, .int p0), (3, .int (T_image (Int32.toNatClampNeg (((1 : Int32) + (p0 * (10 : Int32))) + (8 : Int32))))), (4, .int (T_image (Int32.toNatClampNeg (((1 : Int32) + (p0 * (10 : Int32))) + (9 : Int32)))))]) hx hb dX7_writeCellsOf_70 hl (k := 4) rfl rfl (by decide) rfl (fun ls hl => ?_)
          refine lv_goto (tgt := 31) hx hb dX7_writeCellsOf_73 (by decide) ?_
          exact ih (v5_3 + (1 : Int32)) D_writesDone_18 D_writesLeft_19 D_down_20 D_cells_21 hB_11 _ _ _ hP hD hS (lv_sub hl [1, 2, 3, 4, 0] rfl)
        · have hB_11 := it_t c_22 hB_11
          refine lv_iconst (v := (0 : Int32)) hx hb dX7_writeCellsOf_68 (by decide) ?_
          cases hB_11
          rw [hQQ]
          exact ct_zret hx hb hr hlocks (Or.inl rfl) hP hD hS dX7_writeCellsOf_69
  exact lp_10 NN (0 : Int32) D_writesDone D_writesLeft D_down D_cells hfin _ _ _ hP hD hS (lv_sub hl [4, 5, 2, 1, 0] rfl)
def lp_X7_writeChunks_2 (T_chunks : Int32) (K_used : Int32) (K_cells : Nat → Int32) (T_image : Nat → Int32) (T_packedFrom : Nat → Int32) : Nat → Int32 → Int32 → Int32 → Int32 → (Nat → Int32) → Option (Int32 × Int32 × Int32 × Int32 × (Nat → Int32))
  | 0, _, _, _, _, _ => none
  | n + 1, v1_1, D_writesDone_2, D_writesLeft_3, D_down_4, D_cells_5 =>
    if T_chunks ≤ v1_1 then (
      some ((1 : Int32), D_writesDone_2, D_writesLeft_3, D_down_4, D_cells_5)) else (
      ckb v1_1 96 <|
      if (T_packedFrom (Int32.toNatClampNeg v1_1)) = (-1 : Int32) then (
        lp_X7_writeChunks_2 T_chunks K_used K_cells T_image T_packedFrom n (v1_1 + (1 : Int32)) D_writesDone_2 D_writesLeft_3 D_down_4 D_cells_5) else (
        ob5 (m_X7_writeCellsOf D_writesDone_2 D_writesLeft_3 D_down_4 D_cells_5 K_used K_cells T_image T_packedFrom v1_1) fun r_14 D_writesDone_15 D_writesLeft_16 D_down_17 D_cells_18 =>
        if r_14 = 0 then (
          some ((0 : Int32), D_writesDone_15, D_writesLeft_16, D_down_17, D_cells_18)) else (
          lp_X7_writeChunks_2 T_chunks K_used K_cells T_image T_packedFrom n (v1_1 + (1 : Int32)) D_writesDone_15 D_writesLeft_16 D_down_17 D_cells_18)))
def m_X7_writeChunks (D_writesDone : Int32) (D_writesLeft : Int32) (D_down : Int32) (D_cells : Nat → Int32) (T_chunks : Int32) (K_used : Int32) (K_cells : Nat → Int32) (T_image : Nat → Int32) (T_packedFrom : Nat → Int32) : Option (Int32 × Int32 × Int32 × Int32 × (Nat → Int32)) :=
  lp_X7_writeChunks_2 T_chunks K_used K_cells T_image T_packedFrom NN (0 : Int32) D_writesDone D_writesLeft D_down D_cells
abbrev rm_X7_writeChunks : Room := { frames := 2, cells := 0, slots := 0, locals := 47 }
theorem hd_X7_writeChunks : yX7_writeChunks.cls = RX7 ∧ yX7_writeChunks.cls ≠ "java/lang/invoke/MethodHandle" ∧ yX7_writeChunks.cls ≠ "java/lang/invoke/VarHandle" ∧ (parseMethodDescriptor yX7_writeChunks.desc).map (fun d => d.parameters.length) = some 0 := by decide +kernel
set_option maxHeartbeats 4000000 in
set_option maxRecDepth 100000 in
theorem c_X7_writeChunks (l : Launch) (G : va_G) (cI cZ cJ : ClassId) (aD aDc aT aI aK aO aTi aTp aTt aKc : Nat) (D_writesDone : Int32) (D_writesLeft : Int32) (D_down : Int32) (D_cells : Nat → Int32) (T_chunks : Int32) (T_chunksMade : Int32) (T_openFrom : Int32) (T_lacksSpace : Int32) (K_used : Int32) (K_bitsFree : Int32) (K_full : Int32) (K_time : Int32) (K_value : Int32) (K_rise : Int64) (K_cells : Nat → Int32) (T_image : Nat → Int32) (T_packedFrom : Nat → Int32)  {r : Int32} {o_D_writesDone : Int32} {o_D_writesLeft : Int32} {o_D_down : Int32} {o_D_cells : Nat → Int32} (hfin : m_X7_writeChunks D_writesDone D_writesLeft D_down D_cells T_chunks K_used K_cells T_image T_packedFrom = some (r, o_D_writesDone, o_D_writesLeft, o_D_down, o_D_cells)) : CT l yX7_writeChunks cX7_writeChunks 2 (some .boolean) rm_X7_writeChunks G (tyC cI cZ cJ) [.ref aT] [(aD, .inr (2, [.ref aDc, .int D_writesDone, .int D_writesLeft, .int D_down])), (aDc, .inl (cI, 4096, .inl D_cells)), (aT, .inr (7, [.ref aD, .ref aI, .ref aK, .ref aO, .ref aTi, .ref aTp, .ref aTt, .int T_chunks, .int T_chunksMade, .int T_openFrom, .int T_lacksSpace])), (aK, .inr (5, [.ref aKc, .int K_used, .int K_bitsFree, .int K_full, .int K_time, .int K_value, .long K_rise])), (aKc, .inl (cI, 1661, .inl K_cells)), (aTi, .inl (cI, 961, .inl T_image)), (aTp, .inl (cI, 96, .inl T_packedFrom))] (some (.int r)) [(aD, .inr (2, [.ref aDc, .int o_D_writesDone, .int o_D_writesLeft, .int o_D_down])), (aDc, .inl (cI, 4096, .inl o_D_cells)), (aT, .inr (7, [.ref aD, .ref aI, .ref aK, .ref aO, .ref aTi, .ref aTp, .ref aTt, .int T_chunks, .int T_chunksMade, .int T_openFrom, .int T_lacksSpace])), (aK, .inr (5, [.ref aKc, .int K_used, .int K_bitsFree, .int K_full, .int K_time, .int K_value, .long K_rise])), (aKc, .inl (cI, 1661, .inl K_cells)), (aTi, .inl (cI, 961, .inl T_image)), (aTp, .inl (cI, 96, .inl T_packedFrom))] := by
  refine CT.ofW (lvl := [(0, .ref aT)]) (by decide) (Nat.le_of_ble_eq_true rfl) rfl ?_
  intro p e s m args below meth c A ls QQ hQQ hx hb hml hr hlocks htc hN hown hK hA hP hD hS hl
  rw [m_X7_writeChunks] at hfin
  refine lv_iconst (v := (0 : Int32)) hx hb dX7_writeChunks_0 (by decide) ?_
  refine lv_istore_n (lv' := [(1, .int (0 : Int32)), (0, .ref aT)]) hx hb dX7_writeChunks_1 rfl hl (by decide) rfl (fun ls hl => ?_)
  have lp_8 : ∀ (n : Nat) (v1_1 : Int32) (D_writesDone_2 : Int32) (D_writesLeft_3 : Int32) (D_down_4 : Int32) (D_cells_5 : Nat → Int32), lp_X7_writeChunks_2 T_chunks K_used K_cells T_image T_packedFrom n v1_1 D_writesDone_2 D_writesLeft_3 D_down_4 D_cells_5 = some (r, o_D_writesDone, o_D_writesLeft, o_D_down, o_D_cells) → ∀ (H : Heap) (locs : List Loc) (ls : Array Slot), va_P G classes [(aD, .inr (2, [.ref aDc, .int D_writesDone_2, .int D_writesLeft_3, .int D_down_4])), (aDc, .inl (cI, 4096, .inl D_cells_5)), (aT, .inr (7, [.ref aD, .ref aI, .ref aK, .ref aO, .ref aTi, .ref aTp, .ref aTt, .int T_chunks, .int T_chunksMade, .int T_openFrom, .int T_lacksSpace])), (aK, .inr (5, [.ref aKc, .int K_used, .int K_bitsFree, .int K_full, .int K_time, .int K_value, .long K_rise])), (aKc, .inl (cI, 1661, .inl K_cells)), (aTi, .inl (cI, 961, .inl T_image)), (aTp, .inl (cI, 96, .inl T_packedFrom))] H → va_D A [(aD, .inr (2, [.ref aDc, .int D_writesDone_2, .int D_writesLeft_3, .int D_down_4])), (aDc, .inl (cI, 4096, .inl D_cells_5)), (aT, .inr (7, [.ref aD, .ref aI, .ref aK, .ref aO, .ref aTi, .ref aTp, .ref aTt, .int T_chunks, .int T_chunksMade, .int T_openFrom, .int T_lacksSpace])), (aK, .inr (5, [.ref aKc, .int K_used, .int K_bitsFree, .int K_full, .int K_time, .int K_value, .long K_rise])), (aKc, .inl (cI, 1661, .inl K_cells)), (aTi, .inl (cI, 961, .inl T_image)), (aTp, .inl (cI, 96, .inl T_packedFrom))] → va_S A s.heap H locs → lv_has ls 2 [(0, .ref aT), (1, .int v1_1)] → W p l e rm_X7_writeChunks s m args below meth c H locs 0 0 QQ (F0 m 2 ls []) := by
    intro n
    induction n with
    | zero =>
      intro v1_1 D_writesDone_2 D_writesLeft_3 D_down_4 D_cells_5 hB_9
      exact absurd hB_9 (by rw [lp_X7_writeChunks_2]; exact fun h9 => nomatch h9)
    | succ n ih =>
      intro v1_1 D_writesDone_2 D_writesLeft_3 D_down_4 D_cells_5 hB_9 H locs ls hP hD hS hl
      rw [lp_X7_writeChunks_2] at hB_9
      refine lv_iload_n hx hb dX7_writeChunks_2 rfl (lv_at hl 1 rfl) ?_
      refine lv_aload_n hx hb dX7_writeChunks_3 rfl (lv_at hl 0 rfl) ?_
      refine va_get (D := G) (ci := 7) (v := .int T_chunks) (C := RX7) (T := TX7) (N := 11) hx hb htc iX7 hown hK hP 2 rfl rfl 7 (by decide) (htc _ mw_192) (fun _ h9 => h9) rfl dX7_writeChunks_4 ?_
      refine lv_icmp_ge (tgt := 36) hx hb dX7_writeChunks_7 (by decide) (fun c_10 => ?_) (fun c_10 => ?_)
      · have hB_9 := it_t c_10 hB_9
        refine lv_iconst (v := (1 : Int32)) hx hb dX7_writeChunks_36 (by decide) ?_
        cases hB_9
        rw [hQQ]
        exact ct_zret hx hb hr hlocks (Or.inr rfl) hP hD hS dX7_writeChunks_37
      · have hB_9 := it_f c_10 hB_9
        refine lv_aload_n hx hb dX7_writeChunks_10 rfl (lv_at hl 0 rfl) ?_
        refine va_get (D := G) (ci := 7) (v := .ref aTp) (C := RX7) (T := TX7) (N := 11) hx hb htc iX7 hown hK hP 2 rfl rfl 5 (by decide) (htc _ mw_190) (fun _ h9 => h9) rfl dX7_writeChunks_11 ?_
        refine lv_iload_n hx hb dX7_writeChunks_14 rfl (lv_at hl 1 rfl) ?_
        obtain ⟨hin_11, hB_9⟩ := ckb_some hB_9
        refine va_iald hx hb hK hP 6 0 rfl rfl hin_11 dX7_writeChunks_15 ?_
        refine lv_iconst (v := (-1 : Int32)) hx hb dX7_writeChunks_16 (by decide) ?_
        refine lv_icmp_eq (tgt := 30) hx hb dX7_writeChunks_17 (by decide) (fun c_12 => ?_) (fun c_12 => ?_)
        · have hB_9 := it_t c_12 hB_9
          refine lv_iinc (v := (v1_1 + (1 : Int32))) (lv' := [(1, .int (v1_1 + (1 : Int32))), (0, .ref aT)]) hx hb dX7_writeChunks_30 hl (k := 1) rfl rfl (by decide) rfl (fun ls hl => ?_)
          refine lv_goto (tgt := 2) hx hb dX7_writeChunks_33 (by decide) ?_
          exact ih (v1_1 + (1 : Int32)) D_writesDone_2 D_writesLeft_3 D_down_4 D_cells_5 hB_9 _ _ _ hP hD hS (lv_sub hl [1, 0] rfl)
        · have hB_9 := it_f c_12 hB_9
          refine lv_aload_n hx hb dX7_writeChunks_20 rfl (lv_at hl 0 rfl) ?_
          refine lv_iload_n hx hb dX7_writeChunks_21 rfl (lv_at hl 1 rfl) ?_
          obtain ⟨r_14, D_writesDone_15, D_writesLeft_16, D_down_17, D_cells_18, hE_13, hB_9⟩ := ob5_some hB_9
          refine ctV (a := aT) (As := [.int v1_1]) (rest := []) (st1 := [.int r_14]) (wc := [(aD, .inr (2, [.ref aDc, .int D_writesDone_2, .int D_writesLeft_3, .int D_down_4])), (aDc, .inl (cI, 4096, .inl D_cells_5)), (aT, .inr (7, [.ref aD, .ref aI, .ref aK, .ref aO, .ref aTi, .ref aTp, .ref aTt, .int T_chunks, .int T_chunksMade, .int T_openFrom, .int T_lacksSpace])), (aK, .inr (5, [.ref aKc, .int K_used, .int K_bitsFree, .int K_full, .int K_time, .int K_value, .long K_rise])), (aKc, .inl (cI, 1661, .inl K_cells)), (aTi, .inl (cI, 961, .inl T_image)), (aTp, .inl (cI, 96, .inl T_packedFrom))]) (w1 := [(aD, .inr (2, [.ref aDc, .int D_writesDone_15, .int D_writesLeft_16, .int D_down_17])), (aDc, .inl (cI, 4096, .inl D_cells_18)), (aT, .inr (7, [.ref aD, .ref aI, .ref aK, .ref aO, .ref aTi, .ref aTp, .ref aTt, .int T_chunks, .int T_chunksMade, .int T_openFrom, .int T_lacksSpace])), (aK, .inr (5, [.ref aKc, .int K_used, .int K_bitsFree, .int K_full, .int K_time, .int K_value, .long K_rise])), (aKc, .inl (cI, 1661, .inl K_cells)), (aTi, .inl (cI, 961, .inl T_image)), (aTp, .inl (cI, 96, .inl T_packedFrom))]) (wr := []) (wb := [(aD, .inr (2, [.ref aDc, .int D_writesDone_15, .int D_writesLeft_16, .int D_down_17])), (aDc, .inl (cI, 4096, .inl D_cells_18)), (aT, .inr (7, [.ref aD, .ref aI, .ref aK, .ref aO, .ref aTi, .ref aTp, .ref aTt, .int T_chunks, .int T_chunksMade, .int T_openFrom, .int T_lacksSpace])), (aK, .inr (5, [.ref aKc, .int K_used, .int K_bitsFree, .int K_full, .int K_time, .int K_value, .long K_rise])), (aKc, .inl (cI, 1661, .inl K_cells)), (aTi, .inl (cI, 961, .inl T_image)), (aTp, .inl (cI, 96, .inl T_packedFrom))]) (v := (some (.int r_14))) hx hb hml hown htc hN (c_X7_writeCellsOf l G cI cZ cJ aD aDc aT aI aK aO aTi aTp aTt aKc D_writesDone_2 D_writesLeft_3 D_down_4 D_cells_5 T_chunks T_chunksMade T_openFrom T_lacksSpace K_used K_bitsFree K_full K_time K_value K_rise K_cells T_image T_packedFrom v1_1 hE_13) mw_545 mw_547 mp_14 mw_7 mw_548 hd_X7_writeCellsOf ⟨rfl, rfl⟩ ⟨Nat.le_of_ble_eq_true rfl, Nat.le_of_ble_eq_true rfl⟩ hK hP hD hS hA [0, 1, 2, 3, 4, 5, 6] [] [0, 1, 2, 3, 4, 5, 6] rfl rfl rfl rfl rfl (by decide) rfl rfl rfl 2 rfl rfl rfl rfl hl.1 rfl rfl (Nat.le_of_ble_eq_true rfl) dX7_writeChunks_22 ⟨Nat.zero_le _, Nat.zero_le _⟩ (fun H locs hP hD hS => ?_)
          refine lv_if_ne (tgt := 30) hx hb dX7_writeChunks_25 (by decide) (fun c_19 => ?_) (fun c_19 => ?_)
          · have hB_9 := it_f c_19 hB_9
            refine lv_iinc (v := (v1_1 + (1 : Int32))) (lv' := [(1, .int (v1_1 + (1 : Int32))), (0, .ref aT)]) hx hb dX7_writeChunks_30 hl (k := 1) rfl rfl (by decide) rfl (fun ls hl => ?_)
            refine lv_goto (tgt := 2) hx hb dX7_writeChunks_33 (by decide) ?_
            exact ih (v1_1 + (1 : Int32)) D_writesDone_15 D_writesLeft_16 D_down_17 D_cells_18 hB_9 _ _ _ hP hD hS (lv_sub hl [1, 0] rfl)
          · have hB_9 := it_t c_19 hB_9
            refine lv_iconst (v := (0 : Int32)) hx hb dX7_writeChunks_28 (by decide) ?_
            cases hB_9
            rw [hQQ]
            exact ct_zret hx hb hr hlocks (Or.inl rfl) hP hD hS dX7_writeChunks_29
  exact lp_8 NN (0 : Int32) D_writesDone D_writesLeft D_down D_cells hfin _ _ _ hP hD hS (lv_sub hl [1, 0] rfl)
def lp_X7_writeIndex_12 (T_chunks : Int32) (T_image : Nat → Int32) (p0 : Int32) : Nat → Int32 → Int32 → Int32 → Int32 → (Nat → Int32) → Option (Int32 × Int32 × Int32 × Int32 × (Nat → Int32) × (Nat → Int32))
  | 0, _, _, _, _, _ => none
  | n + 1, v2_2, D_writesDone_3, D_writesLeft_4, D_down_5, D_cells_6 =>
    if ((1 : Int32) + (T_chunks * (10 : Int32))) ≤ v2_2 then (
      some ((1 : Int32), D_writesDone_3, D_writesLeft_4, D_down_5, D_cells_6, (upd T_image (Int32.toNatClampNeg (0 : Int32)) T_chunks))) else (
      ckb v2_2 961 <|
      ob5 (m_X2_write D_writesDone_3 D_writesLeft_4 D_down_5 D_cells_6 (p0 + v2_2) ((upd T_image (Int32.toNatClampNeg (0 : Int32)) T_chunks) (Int32.toNatClampNeg v2_2))) fun r_14 D_writesDone_15 D_writesLeft_16 D_down_17 D_cells_18 =>
      if r_14 = 0 then (
        some ((0 : Int32), D_writesDone_15, D_writesLeft_16, D_down_17, D_cells_18, (upd T_image (Int32.toNatClampNeg (0 : Int32)) T_chunks))) else (
        lp_X7_writeIndex_12 T_chunks T_image p0 n (v2_2 + (1 : Int32)) D_writesDone_15 D_writesLeft_16 D_down_17 D_cells_18))
def m_X7_writeIndex (D_writesDone : Int32) (D_writesLeft : Int32) (D_down : Int32) (D_cells : Nat → Int32) (T_chunks : Int32) (T_image : Nat → Int32) (p0 : Int32) : Option (Int32 × Int32 × Int32 × Int32 × (Nat → Int32) × (Nat → Int32)) :=
  ckb (0 : Int32) 961 <|
  lp_X7_writeIndex_12 T_chunks T_image p0 NN (0 : Int32) D_writesDone D_writesLeft D_down D_cells
abbrev rm_X7_writeIndex : Room := { frames := 1, cells := 0, slots := 0, locals := 22 }
theorem hd_X7_writeIndex : yX7_writeIndex.cls = RX7 ∧ yX7_writeIndex.cls ≠ "java/lang/invoke/MethodHandle" ∧ yX7_writeIndex.cls ≠ "java/lang/invoke/VarHandle" ∧ (parseMethodDescriptor yX7_writeIndex.desc).map (fun d => d.parameters.length) = some 1 := by decide +kernel
set_option maxHeartbeats 4000000 in
set_option maxRecDepth 100000 in
theorem c_X7_writeIndex (l : Launch) (G : va_G) (cI cZ cJ : ClassId) (aD aDc aT aI aK aO aTi aTp aTt : Nat) (D_writesDone : Int32) (D_writesLeft : Int32) (D_down : Int32) (D_cells : Nat → Int32) (T_chunks : Int32) (T_chunksMade : Int32) (T_openFrom : Int32) (T_lacksSpace : Int32) (T_image : Nat → Int32) (p0 : Int32) {r : Int32} {o_D_writesDone : Int32} {o_D_writesLeft : Int32} {o_D_down : Int32} {o_D_cells : Nat → Int32} {o_T_image : Nat → Int32} (hfin : m_X7_writeIndex D_writesDone D_writesLeft D_down D_cells T_chunks T_image p0 = some (r, o_D_writesDone, o_D_writesLeft, o_D_down, o_D_cells, o_T_image)) : CT l yX7_writeIndex cX7_writeIndex 3 (some .boolean) rm_X7_writeIndex G (tyC cI cZ cJ) [.ref aT, .int p0] [(aD, .inr (2, [.ref aDc, .int D_writesDone, .int D_writesLeft, .int D_down])), (aDc, .inl (cI, 4096, .inl D_cells)), (aT, .inr (7, [.ref aD, .ref aI, .ref aK, .ref aO, .ref aTi, .ref aTp, .ref aTt, .int T_chunks, .int T_chunksMade, .int T_openFrom, .int T_lacksSpace])), (aTi, .inl (cI, 961, .inl T_image))] (some (.int r)) [(aD, .inr (2, [.ref aDc, .int o_D_writesDone, .int o_D_writesLeft, .int o_D_down])), (aDc, .inl (cI, 4096, .inl o_D_cells)), (aT, .inr (7, [.ref aD, .ref aI, .ref aK, .ref aO, .ref aTi, .ref aTp, .ref aTt, .int T_chunks, .int T_chunksMade, .int T_openFrom, .int T_lacksSpace])), (aTi, .inl (cI, 961, .inl o_T_image))] := by
  refine CT.ofW (lvl := [(0, .ref aT), (1, .int p0)]) (by decide) (Nat.le_of_ble_eq_true rfl) rfl ?_
  intro p e s m args below meth c A ls QQ hQQ hx hb hml hr hlocks htc hN hown hK hA hP hD hS hl
  rw [m_X7_writeIndex] at hfin
  refine lv_aload_n hx hb dX7_writeIndex_0 rfl (lv_at hl 0 rfl) ?_
  refine va_get (D := G) (ci := 7) (v := .ref aTi) (C := RX7) (T := TX7) (N := 11) hx hb htc iX7 hown hK hP 2 rfl rfl 4 (by decide) (htc _ mw_189) (fun _ h9 => h9) rfl dX7_writeIndex_1 ?_
  refine lv_iconst (v := (0 : Int32)) hx hb dX7_writeIndex_4 (by decide) ?_
  refine lv_aload_n hx hb dX7_writeIndex_5 rfl (lv_at hl 0 rfl) ?_
  refine va_get (D := G) (ci := 7) (v := .int T_chunks) (C := RX7) (T := TX7) (N := 11) hx hb htc iX7 hown hK hP 2 rfl rfl 7 (by decide) (htc _ mw_192) (fun _ h9 => h9) rfl dX7_writeIndex_6 ?_
  obtain ⟨hin_1, hfin⟩ := ckb_some hfin
  refine va_iast hx hb hK hP hD hS 3 0 rfl rfl hin_1 dX7_writeIndex_9 (fun H locs hP hD hS => ?_)
  have hP : va_P G classes [(aD, .inr (2, [.ref aDc, .int D_writesDone, .int D_writesLeft, .int D_down])), (aDc, .inl (cI, 4096, .inl D_cells)), (aT, .inr (7, [.ref aD, .ref aI, .ref aK, .ref aO, .ref aTi, .ref aTp, .ref aTt, .int T_chunks, .int T_chunksMade, .int T_openFrom, .int T_lacksSpace])), (aTi, .inl (cI, 961, .inl (upd T_image (Int32.toNatClampNeg (0 : Int32)) T_chunks)))] H := hP
  have hD : va_D A [(aD, .inr (2, [.ref aDc, .int D_writesDone, .int D_writesLeft, .int D_down])), (aDc, .inl (cI, 4096, .inl D_cells)), (aT, .inr (7, [.ref aD, .ref aI, .ref aK, .ref aO, .ref aTi, .ref aTp, .ref aTt, .int T_chunks, .int T_chunksMade, .int T_openFrom, .int T_lacksSpace])), (aTi, .inl (cI, 961, .inl (upd T_image (Int32.toNatClampNeg (0 : Int32)) T_chunks)))] := hD
  refine lv_iconst (v := (0 : Int32)) hx hb dX7_writeIndex_10 (by decide) ?_
  refine lv_istore_n (lv' := [(2, .int (0 : Int32)), (0, .ref aT), (1, .int p0)]) hx hb dX7_writeIndex_11 rfl hl (by decide) rfl (fun ls hl => ?_)
  have lp_9 : ∀ (n : Nat) (v2_2 : Int32) (D_writesDone_3 : Int32) (D_writesLeft_4 : Int32) (D_down_5 : Int32) (D_cells_6 : Nat → Int32), lp_X7_writeIndex_12 T_chunks T_image p0 n v2_2 D_writesDone_3 D_writesLeft_4 D_down_5 D_cells_6 = some (r, o_D_writesDone, o_D_writesLeft, o_D_down, o_D_cells, o_T_image) → ∀ (H : Heap) (locs : List Loc) (ls : Array Slot), va_P G classes [(aD, .inr (2, [.ref aDc, .int D_writesDone_3, .int D_writesLeft_4, .int D_down_5])), (aDc, .inl (cI, 4096, .inl D_cells_6)), (aT, .inr (7, [.ref aD, .ref aI, .ref aK, .ref aO, .ref aTi, .ref aTp, .ref aTt, .int T_chunks, .int T_chunksMade, .int T_openFrom, .int T_lacksSpace])), (aTi, .inl (cI, 961, .inl (upd T_image (Int32.toNatClampNeg (0 : Int32)) T_chunks)))] H → va_D A [(aD, .inr (2, [.ref aDc, .int D_writesDone_3, .int D_writesLeft_4, .int D_down_5])), (aDc, .inl (cI, 4096, .inl D_cells_6)), (aT, .inr (7, [.ref aD, .ref aI, .ref aK, .ref aO, .ref aTi, .ref aTp, .ref aTt, .int T_chunks, .int T_chunksMade, .int T_openFrom, .int T_lacksSpace])), (aTi, .inl (cI, 961, .inl (upd T_image (Int32.toNatClampNeg (0 : Int32)) T_chunks)))] → va_S A s.heap H locs → lv_has ls 3 [(0, .ref aT), (1, .int p0), (2, .int v2_2)] → W p l e rm_X7_writeIndex s m args below meth c H locs 0 0 QQ (F0 m 12 ls []) := by
    intro n
    induction n with
    | zero =>
      intro v2_2 D_writesDone_3 D_writesLeft_4 D_down_5 D_cells_6 hB_10
      exact absurd hB_10 (by rw [lp_X7_writeIndex_12]; exact fun h9 => nomatch h9)
    | succ n ih =>
      intro v2_2 D_writesDone_3 D_writesLeft_4 D_down_5 D_cells_6 hB_10 H locs ls hP hD hS hl
      rw [lp_X7_writeIndex_12] at hB_10
      refine lv_iload_n hx hb dX7_writeIndex_12 rfl (lv_at hl 2 rfl) ?_
      refine lv_iconst (v := (1 : Int32)) hx hb dX7_writeIndex_13 (by decide) ?_
      refine lv_aload_n hx hb dX7_writeIndex_14 rfl (lv_at hl 0 rfl) ?_
      refine va_get (D := G) (ci := 7) (v := .int T_chunks) (C := RX7) (T := TX7) (N := 11) hx hb htc iX7 hown hK hP 2 rfl rfl 7 (by decide) (htc _ mw_192) (fun _ h9 => h9) rfl dX7_writeIndex_15 ?_
      refine lv_bipush (v := (10 : Int32)) hx hb dX7_writeIndex_18 (by decide) ?_
      refine lv_imul hx hb dX7_writeIndex_20 ?_
      refine lv_iadd hx hb dX7_writeIndex_21 ?_
      refine lv_icmp_ge (tgt := 52) hx hb dX7_writeIndex_22 (by decide) (fun c_11 => ?_) (fun c_11 => ?_)
      · have hB_10 := it_t c_11 hB_10
        refine lv_iconst (v := (1 : Int32)) hx hb dX7_writeIndex_52 (by decide) ?_
        cases hB_10
        rw [hQQ]
        exact ct_zret hx hb hr hlocks (Or.inr rfl) hP hD hS dX7_writeIndex_53
      · have hB_10 := it_f c_11 hB_10
        refine lv_aload_n hx hb dX7_writeIndex_25 rfl (lv_at hl 0 rfl) ?_
        refine va_get (D := G) (ci := 7) (v := .ref aD) (C := RX7) (T := TX7) (N := 11) hx hb htc iX7 hown hK hP 2 rfl rfl 0 (by decide) (htc _ mw_185) (fun _ h9 => h9) rfl dX7_writeIndex_26 ?_
        refine lv_iload_n hx hb dX7_writeIndex_29 rfl (lv_at hl 1 rfl) ?_
        refine lv_iload_n hx hb dX7_writeIndex_30 rfl (lv_at hl 2 rfl) ?_
        refine lv_iadd hx hb dX7_writeIndex_31 ?_
        refine lv_aload_n hx hb dX7_writeIndex_32 rfl (lv_at hl 0 rfl) ?_
        refine va_get (D := G) (ci := 7) (v := .ref aTi) (C := RX7) (T := TX7) (N := 11) hx hb htc iX7 hown hK hP 2 rfl rfl 4 (by decide) (htc _ mw_189) (fun _ h9 => h9) rfl dX7_writeIndex_33 ?_
        refine lv_iload_n hx hb dX7_writeIndex_36 rfl (lv_at hl 2 rfl) ?_
        obtain ⟨hin_12, hB_10⟩ := ckb_some hB_10
        refine va_iald hx hb hK hP 3 0 rfl rfl hin_12 dX7_writeIndex_37 ?_
        obtain ⟨r_14, D_writesDone_15, D_writesLeft_16, D_down_17, D_cells_18, hE_13, hB_10⟩ := ob5_some hB_10
        refine ctV (a := aD) (As := [.int (p0 + v2_2), .int ((upd T_image (Int32.toNatClampNeg (0 : Int32)) T_chunks) (Int32.toNatClampNeg v2_2))]) (rest := []) (st1 := [.int r_14]) (wc := [(aD, .inr (2, [.ref aDc, .int D_writesDone_3, .int D_writesLeft_4, .int D_down_5])), (aDc, .inl (cI, 4096, .inl D_cells_6))]) (w1 := [(aD, .inr (2, [.ref aDc, .int D_writesDone_15, .int D_writesLeft_16, .int D_down_17])), (aDc, .inl (cI, 4096, .inl D_cells_18))]) (wr := [(aT, .inr (7, [.ref aD, .ref aI, .ref aK, .ref aO, .ref aTi, .ref aTp, .ref aTt, .int T_chunks, .int T_chunksMade, .int T_openFrom, .int T_lacksSpace])), (aTi, .inl (cI, 961, .inl (upd T_image (Int32.toNatClampNeg (0 : Int32)) T_chunks)))]) (wb := [(aD, .inr (2, [.ref aDc, .int D_writesDone_15, .int D_writesLeft_16, .int D_down_17])), (aDc, .inl (cI, 4096, .inl D_cells_18)), (aT, .inr (7, [.ref aD, .ref aI, .ref aK, .ref aO, .ref aTi, .ref aTp, .ref aTt, .int T_chunks, .int T_chunksMade, .int T_openFrom, .int T_lacksSpace])), (aTi, .inl (cI, 961, .inl (upd T_image (Int32.toNatClampNeg (0 : Int32)) T_chunks)))]) (v := (some (.int r_14))) hx hb hml hown htc hN (c_X2_write l G cI cZ cJ aD aDc D_writesDone_3 D_writesLeft_4 D_down_5 D_cells_6 (p0 + v2_2) ((upd T_image (Int32.toNatClampNeg (0 : Int32)) T_chunks) (Int32.toNatClampNeg v2_2)) hE_13) mw_553 mw_405 mw_406 mw_3 mw_407 hd_X2_write ⟨rfl, rfl⟩ ⟨Nat.le_of_ble_eq_true rfl, Nat.le_of_ble_eq_true rfl⟩ hK hP hD hS hA [0, 1] [2, 3] [2, 3, 0, 1] rfl rfl rfl rfl rfl (by decide) rfl rfl rfl 0 rfl rfl rfl rfl hl.1 rfl rfl (Nat.le_of_ble_eq_true rfl) dX7_writeIndex_38 ⟨Nat.zero_le _, Nat.zero_le _⟩ (fun H locs hP hD hS => ?_)
        refine lv_if_ne (tgt := 46) hx hb dX7_writeIndex_41 (by decide) (fun c_19 => ?_) (fun c_19 => ?_)
        · have hB_10 := it_f c_19 hB_10
          refine lv_iinc (v := (v2_2 + (1 : Int32))) (lv' := [(2, .int (v2_2 + (1 : Int32))), (0, .ref aT), (1, .int p0)]) hx hb dX7_writeIndex_46 hl (k := 2) rfl rfl (by decide) rfl (fun ls hl => ?_)
          refine lv_goto (tgt := 12) hx hb dX7_writeIndex_49 (by decide) ?_
          exact ih (v2_2 + (1 : Int32)) D_writesDone_15 D_writesLeft_16 D_down_17 D_cells_18 hB_10 _ _ _ hP hD hS (lv_sub hl [1, 2, 0] rfl)
        · have hB_10 := it_t c_19 hB_10
          refine lv_iconst (v := (0 : Int32)) hx hb dX7_writeIndex_44 (by decide) ?_
          cases hB_10
          rw [hQQ]
          exact ct_zret hx hb hr hlocks (Or.inl rfl) hP hD hS dX7_writeIndex_45
  exact lp_9 NN (0 : Int32) D_writesDone D_writesLeft D_down D_cells hfin _ _ _ hP hD hS (lv_sub hl [1, 2, 0] rfl)
def m_X7_writeOut (D_writesDone : Int32) (D_writesLeft : Int32) (D_down : Int32) (D_cells : Nat → Int32) (T_chunks : Int32) (K_used : Int32) (K_cells : Nat → Int32) (T_image : Nat → Int32) (T_packedFrom : Nat → Int32) (p0 : Int32) : Option (Int32 × Int32 × Int32 × Int32 × (Nat → Int32) × (Nat → Int32)) :=
  ob1 (m_X2_side D_cells) fun r_2 =>
  ob5 (m_X7_writeChunks D_writesDone D_writesLeft D_down D_cells T_chunks K_used K_cells T_image T_packedFrom) fun r_4 D_writesDone_5 D_writesLeft_6 D_down_7 D_cells_8 =>
  ob6 (
    if r_4 = 0 then (
      some ((0 : Int32), D_writesDone_5, D_writesLeft_6, D_down_7, D_cells_8, T_image)) else (
      ob1 (m_X9_indexOfSide ((1 : Int32) - r_2)) fun r_19 =>
      ob6 (m_X7_writeIndex D_writesDone_5 D_writesLeft_6 D_down_7 D_cells_8 T_chunks T_image r_19) fun r_21 D_writesDone_22 D_writesLeft_23 D_down_24 D_cells_25 T_image_26 =>
      if r_21 = 0 then (
        some ((0 : Int32), D_writesDone_22, D_writesLeft_23, D_down_24, D_cells_25, T_image_26)) else (
        ob5 (m_X2_write D_writesDone_22 D_writesLeft_23 D_down_24 D_cells_25 (0 : Int32) (((2 : Int32) * p0) + ((1 : Int32) - r_2))) fun r_29 D_writesDone_30 D_writesLeft_31 D_down_32 D_cells_33 =>
        if r_29 = 0 then (
          some ((0 : Int32), D_writesDone_30, D_writesLeft_31, D_down_32, D_cells_33, T_image_26)) else (
          some ((1 : Int32), D_writesDone_30, D_writesLeft_31, D_down_32, D_cells_33, T_image_26))))) fun s_9 D_writesDone_10 D_writesLeft_11 D_down_12 D_cells_13 T_image_14 =>
  ckz s_9 <|
  some (s_9, D_writesDone_10, D_writesLeft_11, D_down_12, D_cells_13, T_image_14)
abbrev rm_X7_writeOut : Room := { frames := 3, cells := 0, slots := 0, locals := 68 }
theorem hd_X7_writeOut : yX7_writeOut.cls = RX7 ∧ yX7_writeOut.cls ≠ "java/lang/invoke/MethodHandle" ∧ yX7_writeOut.cls ≠ "java/lang/invoke/VarHandle" ∧ (parseMethodDescriptor yX7_writeOut.desc).map (fun d => d.parameters.length) = some 1 := by decide +kernel
set_option maxHeartbeats 4000000 in
set_option maxRecDepth 100000 in
theorem c_X7_writeOut (l : Launch) (G : va_G) (cI cZ cJ : ClassId) (aD aDc aT aI aK aO aTi aTp aTt aKc : Nat) (D_writesDone : Int32) (D_writesLeft : Int32) (D_down : Int32) (D_cells : Nat → Int32) (T_chunks : Int32) (T_chunksMade : Int32) (T_openFrom : Int32) (T_lacksSpace : Int32) (K_used : Int32) (K_bitsFree : Int32) (K_full : Int32) (K_time : Int32) (K_value : Int32) (K_rise : Int64) (K_cells : Nat → Int32) (T_image : Nat → Int32) (T_packedFrom : Nat → Int32) (p0 : Int32) {r : Int32} {o_D_writesDone : Int32} {o_D_writesLeft : Int32} {o_D_down : Int32} {o_D_cells : Nat → Int32} {o_T_image : Nat → Int32} (hfin : m_X7_writeOut D_writesDone D_writesLeft D_down D_cells T_chunks K_used K_cells T_image T_packedFrom p0 = some (r, o_D_writesDone, o_D_writesLeft, o_D_down, o_D_cells, o_T_image)) : CT l yX7_writeOut cX7_writeOut 3 (some .boolean) rm_X7_writeOut G (tyC cI cZ cJ) [.ref aT, .int p0] [(aD, .inr (2, [.ref aDc, .int D_writesDone, .int D_writesLeft, .int D_down])), (aDc, .inl (cI, 4096, .inl D_cells)), (aT, .inr (7, [.ref aD, .ref aI, .ref aK, .ref aO, .ref aTi, .ref aTp, .ref aTt, .int T_chunks, .int T_chunksMade, .int T_openFrom, .int T_lacksSpace])), (aK, .inr (5, [.ref aKc, .int K_used, .int K_bitsFree, .int K_full, .int K_time, .int K_value, .long K_rise])), (aKc, .inl (cI, 1661, .inl K_cells)), (aTi, .inl (cI, 961, .inl T_image)), (aTp, .inl (cI, 96, .inl T_packedFrom))] (some (.int r)) [(aD, .inr (2, [.ref aDc, .int o_D_writesDone, .int o_D_writesLeft, .int o_D_down])), (aDc, .inl (cI, 4096, .inl o_D_cells)), (aT, .inr (7, [.ref aD, .ref aI, .ref aK, .ref aO, .ref aTi, .ref aTp, .ref aTt, .int T_chunks, .int T_chunksMade, .int T_openFrom, .int T_lacksSpace])), (aK, .inr (5, [.ref aKc, .int K_used, .int K_bitsFree, .int K_full, .int K_time, .int K_value, .long K_rise])), (aKc, .inl (cI, 1661, .inl K_cells)), (aTi, .inl (cI, 961, .inl o_T_image)), (aTp, .inl (cI, 96, .inl T_packedFrom))] := by
  refine CT.ofW (lvl := [(0, .ref aT), (1, .int p0)]) (by decide) (Nat.le_of_ble_eq_true rfl) rfl ?_
  intro p e s m args below meth c A ls QQ hQQ hx hb hml hr hlocks htc hN hown hK hA hP hD hS hl
  rw [m_X7_writeOut] at hfin
  refine lv_iconst (v := (1 : Int32)) hx hb dX7_writeOut_0 (by decide) ?_
  refine lv_aload_n hx hb dX7_writeOut_1 rfl (lv_at hl 0 rfl) ?_
  refine va_get (D := G) (ci := 7) (v := .ref aD) (C := RX7) (T := TX7) (N := 11) hx hb htc iX7 hown hK hP 2 rfl rfl 0 (by decide) (htc _ mw_185) (fun _ h9 => h9) rfl dX7_writeOut_2 ?_
  obtain ⟨r_2, hE_1, hfin⟩ := ob1_some hfin
  refine ctV (a := aD) (As := []) (rest := [.int (1 : Int32)]) (st1 := [.int r_2, .int (1 : Int32)]) (wc := [(aD, .inr (2, [.ref aDc, .int D_writesDone, .int D_writesLeft, .int D_down])), (aDc, .inl (cI, 4096, .inl D_cells))]) (w1 := [(aD, .inr (2, [.ref aDc, .int D_writesDone, .int D_writesLeft, .int D_down])), (aDc, .inl (cI, 4096, .inl D_cells))]) (wr := [(aT, .inr (7, [.ref aD, .ref aI, .ref aK, .ref aO, .ref aTi, .ref aTp, .ref aTt, .int T_chunks, .int T_chunksMade, .int T_openFrom, .int T_lacksSpace])), (aK, .inr (5, [.ref aKc, .int K_used, .int K_bitsFree, .int K_full, .int K_time, .int K_value, .long K_rise])), (aKc, .inl (cI, 1661, .inl K_cells)), (aTi, .inl (cI, 961, .inl T_image)), (aTp, .inl (cI, 96, .inl T_packedFrom))]) (wb := [(aD, .inr (2, [.ref aDc, .int D_writesDone, .int D_writesLeft, .int D_down])), (aDc, .inl (cI, 4096, .inl D_cells)), (aT, .inr (7, [.ref aD, .ref aI, .ref aK, .ref aO, .ref aTi, .ref aTp, .ref aTt, .int T_chunks, .int T_chunksMade, .int T_openFrom, .int T_lacksSpace])), (aK, .inr (5, [.ref aKc, .int K_used, .int K_bitsFree, .int K_full, .int K_time, .int K_value, .long K_rise])), (aKc, .inl (cI, 1661, .inl K_cells)), (aTi, .inl (cI, 961, .inl T_image)), (aTp, .inl (cI, 96, .inl T_packedFrom))]) (v := (some (.int r_2))) hx hb hml hown htc hN (c_X2_side l G cI cZ cJ aD aDc D_writesDone D_writesLeft D_down D_cells  hE_1) mw_540 mw_383 mw_384 mw_3 mw_385 hd_X2_side ⟨rfl, rfl⟩ ⟨Nat.le_of_ble_eq_true rfl, Nat.le_of_ble_eq_true rfl⟩ hK hP hD hS hA [0, 1] [2, 3, 4, 5, 6] [5, 6, 0, 1, 2, 3, 4] rfl rfl rfl rfl rfl (by decide) rfl rfl rfl 0 rfl rfl rfl rfl hl.1 rfl rfl (Nat.le_of_ble_eq_true rfl) dX7_writeOut_5 ⟨Nat.zero_le _, Nat.zero_le _⟩ (fun H locs hP hD hS => ?_)
  refine lv_isub hx hb dX7_writeOut_8 ?_
  refine lv_istore_n (lv' := [(2, .int ((1 : Int32) - r_2)), (0, .ref aT), (1, .int p0)]) hx hb dX7_writeOut_9 rfl hl (by decide) rfl (fun ls hl => ?_)
  refine lv_aload_n hx hb dX7_writeOut_10 rfl (lv_at hl 1 rfl) ?_
  obtain ⟨r_4, D_writesDone_5, D_writesLeft_6, D_down_7, D_cells_8, hE_3, hfin⟩ := ob5_some hfin
  refine ctV (a := aT) (As := []) (rest := []) (st1 := [.int r_4]) (wc := [(aD, .inr (2, [.ref aDc, .int D_writesDone, .int D_writesLeft, .int D_down])), (aDc, .inl (cI, 4096, .inl D_cells)), (aT, .inr (7, [.ref aD, .ref aI, .ref aK, .ref aO, .ref aTi, .ref aTp, .ref aTt, .int T_chunks, .int T_chunksMade, .int T_openFrom, .int T_lacksSpace])), (aK, .inr (5, [.ref aKc, .int K_used, .int K_bitsFree, .int K_full, .int K_time, .int K_value, .long K_rise])), (aKc, .inl (cI, 1661, .inl K_cells)), (aTi, .inl (cI, 961, .inl T_image)), (aTp, .inl (cI, 96, .inl T_packedFrom))]) (w1 := [(aD, .inr (2, [.ref aDc, .int D_writesDone_5, .int D_writesLeft_6, .int D_down_7])), (aDc, .inl (cI, 4096, .inl D_cells_8)), (aT, .inr (7, [.ref aD, .ref aI, .ref aK, .ref aO, .ref aTi, .ref aTp, .ref aTt, .int T_chunks, .int T_chunksMade, .int T_openFrom, .int T_lacksSpace])), (aK, .inr (5, [.ref aKc, .int K_used, .int K_bitsFree, .int K_full, .int K_time, .int K_value, .long K_rise])), (aKc, .inl (cI, 1661, .inl K_cells)), (aTi, .inl (cI, 961, .inl T_image)), (aTp, .inl (cI, 96, .inl T_packedFrom))]) (wr := []) (wb := [(aD, .inr (2, [.ref aDc, .int D_writesDone_5, .int D_writesLeft_6, .int D_down_7])), (aDc, .inl (cI, 4096, .inl D_cells_8)), (aT, .inr (7, [.ref aD, .ref aI, .ref aK, .ref aO, .ref aTi, .ref aTp, .ref aTt, .int T_chunks, .int T_chunksMade, .int T_openFrom, .int T_lacksSpace])), (aK, .inr (5, [.ref aKc, .int K_used, .int K_bitsFree, .int K_full, .int K_time, .int K_value, .long K_rise])), (aKc, .inl (cI, 1661, .inl K_cells)), (aTi, .inl (cI, 961, .inl T_image)), (aTp, .inl (cI, 96, .inl T_packedFrom))]) (v := (some (.int r_4))) hx hb hml hown htc hN (c_X7_writeChunks l G cI cZ cJ aD aDc aT aI aK aO aTi aTp aTt aKc D_writesDone D_writesLeft D_down D_cells T_chunks T_chunksMade T_openFrom T_lacksSpace K_used K_bitsFree K_full K_time K_value K_rise K_cells T_image T_packedFrom  hE_3) mw_541 mw_543 mp_13 mw_7 mw_544 hd_X7_writeChunks ⟨rfl, rfl⟩ ⟨Nat.le_of_ble_eq_true rfl, Nat.le_of_ble_eq_true rfl⟩ hK hP hD hS hA [0, 1, 2, 3, 4, 5, 6] [] [0, 1, 2, 3, 4, 5, 6] rfl rfl rfl rfl rfl (by decide) rfl rfl rfl 2 rfl rfl rfl rfl hl.1 rfl rfl (Nat.le_of_ble_eq_true rfl) dX7_writeOut_11 ⟨Nat.zero_le _, Nat.zero_le _⟩ (fun H locs hP hD hS => ?_)
  obtain ⟨s_9, D_writesDone_10, D_writesLeft_11, D_down_12, D_cells_13, T_image_14, hJ_15, hfin⟩ := ob6_some hfin
  have kj_16 : ∀ (H : Heap) (locs : List Loc) (ls : Array Slot), va_P G classes [(aD, .inr (2, [.ref aDc, .int D_writesDone_10, .int D_writesLeft_11, .int D_down_12])), (aDc, .inl (cI, 4096, .inl D_cells_13)), (aT, .inr (7, [.ref aD, .ref aI, .ref aK, .ref aO, .ref aTi, .ref aTp, .ref aTt, .int T_chunks, .int T_chunksMade, .int T_openFrom, .int T_lacksSpace])), (aK, .inr (5, [.ref aKc, .int K_used, .int K_bitsFree, .int K_full, .int K_time, .int K_value, .long K_rise])), (aKc, .inl (cI, 1661, .inl K_cells)), (aTi, .inl (cI, 961, .inl T_image_14)), (aTp, .inl (cI, 96, .inl T_packedFrom))] H → va_D A [(aD, .inr (2, [.ref aDc, .int D_writesDone_10, .int D_writesLeft_11, .int D_down_12])), (aDc, .inl (cI, 4096, .inl D_cells_13)), (aT, .inr (7, [.ref aD, .ref aI, .ref aK, .ref aO, .ref aTi, .ref aTp, .ref aTt, .int T_chunks, .int T_chunksMade, .int T_openFrom, .int T_lacksSpace])), (aK, .inr (5, [.ref aKc, .int K_used, .int K_bitsFree, .int K_full, .int K_time, .int K_value, .long K_rise])), (aKc, .inl (cI, 1661, .inl K_cells)), (aTi, .inl (cI, 961, .inl T_image_14)), (aTp, .inl (cI, 96, .inl T_packedFrom))] → va_S A s.heap H locs → lv_has ls 3 [] → W p l e rm_X7_writeOut s m args below meth c H locs 0 0 QQ (F0 m 49 ls [.int s_9]) := by
    intro H locs ls hP hD hS hl
    obtain ⟨hz_35, hfin⟩ := ckz_some hfin
    cases hfin
    rw [hQQ]
    exact ct_zret hx hb hr hlocks hz_35 hP hD hS dX7_writeOut_49
  refine lv_if_eq (tgt := 48) hx hb dX7_writeOut_14 (by decide) (fun c_17 => ?_) (fun c_17 => ?_)
  · have hJ_15 := it_t c_17 hJ_15
    refine lv_iconst (v := (0 : Int32)) hx hb dX7_writeOut_48 (by decide) ?_
    cases hJ_15
    exact kj_16 _ _ _ hP hD hS (lv_sub hl [] rfl)
  · have hJ_15 := it_f c_17 hJ_15
    refine lv_aload_n hx hb dX7_writeOut_17 rfl (lv_at hl 1 rfl) ?_
    refine lv_iload_n hx hb dX7_writeOut_18 rfl (lv_at hl 0 rfl) ?_
    obtain ⟨r_19, hE_18, hJ_15⟩ := ob1_some hJ_15
    refine ctSN (As := [.int ((1 : Int32) - r_2)]) (rest := [.ref aT]) (st1 := [.int r_19, .ref aT]) (wc := []) (w1 := []) (wr := [(aD, .inr (2, [.ref aDc, .int D_writesDone_5, .int D_writesLeft_6, .int D_down_7])), (aDc, .inl (cI, 4096, .inl D_cells_8)), (aT, .inr (7, [.ref aD, .ref aI, .ref aK, .ref aO, .ref aTi, .ref aTp, .ref aTt, .int T_chunks, .int T_chunksMade, .int T_openFrom, .int T_lacksSpace])), (aK, .inr (5, [.ref aKc, .int K_used, .int K_bitsFree, .int K_full, .int K_time, .int K_value, .long K_rise])), (aKc, .inl (cI, 1661, .inl K_cells)), (aTi, .inl (cI, 961, .inl T_image)), (aTp, .inl (cI, 96, .inl T_packedFrom))]) (wb := [(aD, .inr (2, [.ref aDc, .int D_writesDone_5, .int D_writesLeft_6, .int D_down_7])), (aDc, .inl (cI, 4096, .inl D_cells_8)), (aT, .inr (7, [.ref aD, .ref aI, .ref aK, .ref aO, .ref aTi, .ref aTp, .ref aTt, .int T_chunks, .int T_chunksMade, .int T_openFrom, .int T_lacksSpace])), (aK, .inr (5, [.ref aKc, .int K_used, .int K_bitsFree, .int K_full, .int K_time, .int K_value, .long K_rise])), (aKc, .inl (cI, 1661, .inl K_cells)), (aTi, .inl (cI, 961, .inl T_image)), (aTp, .inl (cI, 96, .inl T_packedFrom))]) (v := (some (.int r_19))) hx hb hml hown htc hN (c_X9_indexOfSide l G cI cZ cJ   ((1 : Int32) - r_2) hE_18) (hN _ mn_26) mw_387 mw_1 mw_388 hs_X9_indexOfSide ⟨rfl, rfl⟩ ⟨Nat.le_of_ble_eq_true rfl, Nat.le_of_ble_eq_true rfl⟩ hK hP hD hS hA [] [0, 1, 2, 3, 4, 5, 6] [0, 1, 2, 3, 4, 5, 6] rfl rfl rfl rfl rfl (by decide) rfl rfl rfl rfl hl.1 rfl rfl (Nat.le_of_ble_eq_true rfl) dX7_writeOut_19 ⟨Nat.zero_le _, Nat.zero_le _⟩ (fun H locs hP hD hS => ?_)
    obtain ⟨r_21, D_writesDone_22, D_writesLeft_23, D_down_24, D_cells_25, T_image_26, hE_20, hJ_15⟩ := ob6_some hJ_15
    refine ctV (a := aT) (As := [.int r_19]) (rest := []) (st1 := [.int r_21]) (wc := [(aD, .inr (2, [.ref aDc, .int D_writesDone_5, .int D_writesLeft_6, .int D_down_7])), (aDc, .inl (cI, 4096, .inl D_cells_8)), (aT, .inr (7, [.ref aD, .ref aI, .ref aK, .ref aO, .ref aTi, .ref aTp, .ref aTt, .int T_chunks, .int T_chunksMade, .int T_openFrom, .int T_lacksSpace])), (aTi, .inl (cI, 961, .inl T_image))]) (w1 := [(aD, .inr (2, [.ref aDc, .int D_writesDone_22, .int D_writesLeft_23, .int D_down_24])), (aDc, .inl (cI, 4096, .inl D_cells_25)), (aT, .inr (7, [.ref aD, .ref aI, .ref aK, .ref aO, .ref aTi, .ref aTp, .ref aTt, .int T_chunks, .int T_chunksMade, .int T_openFrom, .int T_lacksSpace])), (aTi, .inl (cI, 961, .inl T_image_26))]) (wr := [(aK, .inr (5, [.ref aKc, .int K_used, .int K_bitsFree, .int K_full, .int K_time, .int K_value, .long K_rise])), (aKc, .inl (cI, 1661, .inl K_cells)), (aTp, .inl (cI, 96, .inl T_packedFrom))]) (wb := [(aD, .inr (2, [.ref aDc, .int D_writesDone_22, .int D_writesLeft_23, .int D_down_24])), (aDc, .inl (cI, 4096, .inl D_cells_25)), (aT, .inr (7, [.ref aD, .ref aI, .ref aK, .ref aO, .ref aTi, .ref aTp, .ref aTt, .int T_chunks, .int T_chunksMade, .int T_openFrom, .int T_lacksSpace])), (aK, .inr (5, [.ref aKc, .int K_used, .int K_bitsFree, .int K_full, .int K_time, .int K_value, .long K_rise])), (aKc, .inl (cI, 1661, .inl K_cells)), (aTi, .inl (cI, 961, .inl T_image_26)), (aTp, .inl (cI, 96, .inl T_packedFrom))]) (v := (some (.int r_21))) hx hb hml hown htc hN (c_X7_writeIndex l G cI cZ cJ aD aDc aT aI aK aO aTi aTp aTt D_writesDone_5 D_writesLeft_6 D_down_7 D_cells_8 T_chunks T_chunksMade T_openFrom T_lacksSpace T_image r_19 hE_20) mw_555 mw_557 mp_15 mw_7 mw_558 hd_X7_writeIndex ⟨rfl, rfl⟩ ⟨Nat.le_of_ble_eq_true rfl, Nat.le_of_ble_eq_true rfl⟩ hK hP hD hS hA [0, 1, 2, 5] [3, 4, 6] [3, 4, 5, 0, 1, 6, 2] rfl rfl rfl rfl rfl (by decide) rfl rfl rfl 2 rfl rfl rfl rfl hl.1 rfl rfl (Nat.le_of_ble_eq_true rfl) dX7_writeOut_22 ⟨Nat.zero_le _, Nat.zero_le _⟩ (fun H locs hP hD hS => ?_)
    refine lv_if_eq (tgt := 48) hx hb dX7_writeOut_25 (by decide) (fun c_27 => ?_) (fun c_27 => ?_)
    · have hJ_15 := it_t c_27 hJ_15
      refine lv_iconst (v := (0 : Int32)) hx hb dX7_writeOut_48 (by decide) ?_
      cases hJ_15
      exact kj_16 _ _ _ hP hD hS (lv_sub hl [] rfl)
    · have hJ_15 := it_f c_27 hJ_15
      refine lv_aload_n hx hb dX7_writeOut_28 rfl (lv_at hl 1 rfl) ?_
      refine va_get (D := G) (ci := 7) (v := .ref aD) (C := RX7) (T := TX7) (N := 11) hx hb htc iX7 hown hK hP 2 rfl rfl 0 (by decide) (htc _ mw_185) (fun _ h9 => h9) rfl dX7_writeOut_29 ?_
      refine lv_iconst (v := (0 : Int32)) hx hb dX7_writeOut_32 (by decide) ?_
      refine lv_iconst (v := (2 : Int32)) hx hb dX7_writeOut_33 (by decide) ?_
      refine lv_iload_n hx hb dX7_writeOut_34 rfl (lv_at hl 2 rfl) ?_
      refine lv_imul hx hb dX7_writeOut_35 ?_
      refine lv_iload_n hx hb dX7_writeOut_36 rfl (lv_at hl 0 rfl) ?_
      refine lv_iadd hx hb dX7_writeOut_37 ?_
      obtain ⟨r_29, D_writesDone_30, D_writesLeft_31, D_down_32, D_cells_33, hE_28, hJ_15⟩ := ob5_some hJ_15
      refine ctV (a := aD) (As := [.int (0 : Int32), .int (((2 : Int32) * p0) + ((1 : Int32) - r_2))]) (rest := []) (st1 := [.int r_29]) (wc := [(aD, .inr (2, [.ref aDc, .int D_writesDone_22, .int D_writesLeft_23, .int D_down_24])), (aDc, .inl (cI, 4096, .inl D_cells_25))]) (w1 := [(aD, .inr (2, [.ref aDc, .int D_writesDone_30, .int D_writesLeft_31, .int D_down_32])), (aDc, .inl (cI, 4096, .inl D_cells_33))]) (wr := [(aT, .inr (7, [.ref aD, .ref aI, .ref aK, .ref aO, .ref aTi, .ref aTp, .ref aTt, .int T_chunks, .int T_chunksMade, .int T_openFrom, .int T_lacksSpace])), (aK, .inr (5, [.ref aKc, .int K_used, .int K_bitsFree, .int K_full, .int K_time, .int K_value, .long K_rise])), (aKc, .inl (cI, 1661, .inl K_cells)), (aTi, .inl (cI, 961, .inl T_image_26)), (aTp, .inl (cI, 96, .inl T_packedFrom))]) (wb := [(aD, .inr (2, [.ref aDc, .int D_writesDone_30, .int D_writesLeft_31, .int D_down_32])), (aDc, .inl (cI, 4096, .inl D_cells_33)), (aT, .inr (7, [.ref aD, .ref aI, .ref aK, .ref aO, .ref aTi, .ref aTp, .ref aTt, .int T_chunks, .int T_chunksMade, .int T_openFrom, .int T_lacksSpace])), (aK, .inr (5, [.ref aKc, .int K_used, .int K_bitsFree, .int K_full, .int K_time, .int K_value, .long K_rise])), (aKc, .inl (cI, 1661, .inl K_cells)), (aTi, .inl (cI, 961, .inl T_image_26)), (aTp, .inl (cI, 96, .inl T_packedFrom))]) (v := (some (.int r_29))) hx hb hml hown htc hN (c_X2_write l G cI cZ cJ aD aDc D_writesDone_22 D_writesLeft_23 D_down_24 D_cells_25 (0 : Int32) (((2 : Int32) * p0) + ((1 : Int32) - r_2)) hE_28) mw_553 mw_405 mw_406 mw_3 mw_407 hd_X2_write ⟨rfl, rfl⟩ ⟨Nat.le_of_ble_eq_true rfl, Nat.le_of_ble_eq_true rfl⟩ hK hP hD hS hA [0, 1] [2, 3, 4, 5, 6] [5, 6, 0, 1, 2, 3, 4] rfl rfl rfl rfl rfl (by decide) rfl rfl rfl 0 rfl rfl rfl rfl hl.1 rfl rfl (Nat.le_of_ble_eq_true rfl) dX7_writeOut_38 ⟨Nat.zero_le _, Nat.zero_le _⟩ (fun H locs hP hD hS => ?_)
      refine lv_if_eq (tgt := 48) hx hb dX7_writeOut_41 (by decide) (fun c_34 => ?_) (fun c_34 => ?_)
      · have hJ_15 := it_t c_34 hJ_15
        refine lv_iconst (v := (0 : Int32)) hx hb dX7_writeOut_48 (by decide) ?_
        cases hJ_15
        exact kj_16 _ _ _ hP hD hS (lv_sub hl [] rfl)
      · have hJ_15 := it_f c_34 hJ_15
        refine lv_iconst (v := (1 : Int32)) hx hb dX7_writeOut_44 (by decide) ?_
        refine lv_goto (tgt := 49) hx hb dX7_writeOut_45 (by decide) ?_
        cases hJ_15
        exact kj_16 _ _ _ hP hD hS (lv_sub hl [] rfl)
def m_X7_chunks (T_chunks : Int32) : Option (Int32) :=
  some (T_chunks)
abbrev rm_X7_chunks : Room := { frames := 0, cells := 0, slots := 0, locals := 0 }
theorem hd_X7_chunks : yX7_chunks.cls = RX7 ∧ yX7_chunks.cls ≠ "java/lang/invoke/MethodHandle" ∧ yX7_chunks.cls ≠ "java/lang/invoke/VarHandle" ∧ (parseMethodDescriptor yX7_chunks.desc).map (fun d => d.parameters.length) = some 0 := by decide +kernel
set_option maxHeartbeats 4000000 in
set_option maxRecDepth 100000 in
theorem c_X7_chunks (l : Launch) (G : va_G) (cI cZ cJ : ClassId) (aT aD aI aK aO aTi aTp aTt : Nat) (T_chunks : Int32) (T_chunksMade : Int32) (T_openFrom : Int32) (T_lacksSpace : Int32)  {r : Int32} (hfin : m_X7_chunks T_chunks = some (r)) : CT l yX7_chunks cX7_chunks 1 (some .int) rm_X7_chunks G (tyC cI cZ cJ) [.ref aT] [(aT, .inr (7, [.ref aD, .ref aI, .ref aK, .ref aO, .ref aTi, .ref aTp, .ref aTt, .int T_chunks, .int T_chunksMade, .int T_openFrom, .int T_lacksSpace]))] (some (.int r)) [(aT, .inr (7, [.ref aD, .ref aI, .ref aK, .ref aO, .ref aTi, .ref aTp, .ref aTt, .int T_chunks, .int T_chunksMade, .int T_openFrom, .int T_lacksSpace]))] := by
  refine CT.ofW (lvl := [(0, .ref aT)]) (by decide) (Nat.le_of_ble_eq_true rfl) rfl ?_
  intro p e s m args below meth c A ls QQ hQQ hx hb hml hr hlocks htc hN hown hK hA hP hD hS hl
  rw [m_X7_chunks] at hfin
  refine lv_aload_n hx hb dX7_chunks_0 rfl (lv_at hl 0 rfl) ?_
  refine va_get (D := G) (ci := 7) (v := .int T_chunks) (C := RX7) (T := TX7) (N := 11) hx hb htc iX7 hown hK hP 0 rfl rfl 7 (by decide) (htc _ mw_192) (fun _ h9 => h9) rfl dX7_chunks_1 ?_
  cases hfin
  rw [hQQ]
  exact ct_iret hx hb hr hlocks hP hD hS dX7_chunks_4
