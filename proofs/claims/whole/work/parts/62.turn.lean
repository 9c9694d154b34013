theorem dX7_begin_0 : decode cX7_begin 0 = .ok (.aload_n 0, 1) := by decide +kernel
theorem dX7_begin_1 : decode cX7_begin 1 = .ok (.getfield 12, 3) := by decide +kernel
theorem dX7_begin_4 : decode cX7_begin 4 = .ok (.invokevirtual 58, 3) := by decide +kernel
theorem dX7_begin_7 : decode cX7_begin 7 = .ok (.aload_n 0, 1) := by decide +kernel
theorem dX7_begin_8 : decode cX7_begin 8 = .ok (.getfield 21, 3) := by decide +kernel
theorem dX7_begin_11 : decode cX7_begin 11 = .ok (.invokevirtual 61, 3) := by decide +kernel
theorem dX7_begin_14 : decode cX7_begin 14 = .ok (.aload_n 0, 1) := by decide +kernel
theorem dX7_begin_15 : decode cX7_begin 15 = .ok (.iconst 0, 1) := by decide +kernel
theorem dX7_begin_16 : decode cX7_begin 16 = .ok (.putfield 36, 3) := by decide +kernel
theorem dX7_begin_19 : decode cX7_begin 19 = .ok (.aload_n 0, 1) := by decide +kernel
theorem dX7_begin_20 : decode cX7_begin 20 = .ok (.iconst 0, 1) := by decide +kernel
theorem dX7_begin_21 : decode cX7_begin 21 = .ok (.putfield 40, 3) := by decide +kernel
theorem dX7_begin_24 : decode cX7_begin 24 = .ok (.aload_n 0, 1) := by decide +kernel
theorem dX7_begin_25 : decode cX7_begin 25 = .ok (.iconst 0, 1) := by decide +kernel
theorem dX7_begin_26 : decode cX7_begin 26 = .ok (.putfield 46, 3) := by decide +kernel
theorem dX7_begin_29 : decode cX7_begin 29 = .ok (.iconst 0, 1) := by decide +kernel
theorem dX7_begin_30 : decode cX7_begin 30 = .ok (.istore_n 1, 1) := by decide +kernel
theorem dX7_begin_31 : decode cX7_begin 31 = .ok (.iload_n 1, 1) := by decide +kernel
theorem dX7_begin_32 : decode cX7_begin 32 = .ok (.sipush 1661, 3) := by decide +kernel
theorem dX7_begin_35 : decode cX7_begin 35 = .ok (.if_icmp .ge 16, 3) := by decide +kernel
theorem dX7_begin_38 : decode cX7_begin 38 = .ok (.aload_n 0, 1) := by decide +kernel
theorem dX7_begin_39 : decode cX7_begin 39 = .ok (.getfield 32, 3) := by decide +kernel
theorem dX7_begin_42 : decode cX7_begin 42 = .ok (.iload_n 1, 1) := by decide +kernel
theorem dX7_begin_43 : decode cX7_begin 43 = .ok (.iconst 0, 1) := by decide +kernel
theorem dX7_begin_44 : decode cX7_begin 44 = .ok (.bastore, 1) := by decide +kernel
theorem dX7_begin_45 : decode cX7_begin 45 = .ok (.iinc 1 1, 3) := by decide +kernel
theorem dX7_begin_48 : decode cX7_begin 48 = .ok (.goto (-17), 3) := by decide +kernel
theorem dX7_begin_51 : decode cX7_begin 51 = .ok (.aload_n 0, 1) := by decide +kernel
theorem dX7_begin_52 : decode cX7_begin 52 = .ok (.getfield 54, 3) := by decide +kernel
theorem dX7_begin_55 : decode cX7_begin 55 = .ok (.invokevirtual 62, 3) := by decide +kernel
theorem dX7_begin_58 : decode cX7_begin 58 = .ok (.istore_n 1, 1) := by decide +kernel
theorem dX7_begin_59 : decode cX7_begin 59 = .ok (.iconst 0, 1) := by decide +kernel
theorem dX7_begin_60 : decode cX7_begin 60 = .ok (.istore_n 2, 1) := by decide +kernel
theorem dX7_begin_61 : decode cX7_begin 61 = .ok (.iload_n 2, 1) := by decide +kernel
theorem dX7_begin_62 : decode cX7_begin 62 = .ok (.iload_n 1, 1) := by decide +kernel
theorem dX7_begin_63 : decode cX7_begin 63 = .ok (.if_icmp .ge 33, 3) := by decide +kernel
theorem dX7_begin_66 : decode cX7_begin 66 = .ok (.aload_n 0, 1) := by decide +kernel
theorem dX7_begin_67 : decode cX7_begin 67 = .ok (.aload_n 0, 1) := by decide +kernel
theorem dX7_begin_68 : decode cX7_begin 68 = .ok (.getfield 54, 3) := by decide +kernel
theorem dX7_begin_71 : decode cX7_begin 71 = .ok (.iload_n 2, 1) := by decide +kernel
theorem dX7_begin_72 : decode cX7_begin 72 = .ok (.bipush 8, 2) := by decide +kernel
theorem dX7_begin_74 : decode cX7_begin 74 = .ok (.invokevirtual 67, 3) := by decide +kernel
theorem dX7_begin_77 : decode cX7_begin 77 = .ok (.aload_n 0, 1) := by decide +kernel
theorem dX7_begin_78 : decode cX7_begin 78 = .ok (.getfield 54, 3) := by decide +kernel
theorem dX7_begin_81 : decode cX7_begin 81 = .ok (.iload_n 2, 1) := by decide +kernel
theorem dX7_begin_82 : decode cX7_begin 82 = .ok (.bipush 9, 2) := by decide +kernel
theorem dX7_begin_84 : decode cX7_begin 84 = .ok (.invokevirtual 67, 3) := by decide +kernel
theorem dX7_begin_87 : decode cX7_begin 87 = .ok (.invokevirtual 71, 3) := by decide +kernel
theorem dX7_begin_90 : decode cX7_begin 90 = .ok (.iinc 2 1, 3) := by decide +kernel
theorem dX7_begin_93 : decode cX7_begin 93 = .ok (.goto (-32), 3) := by decide +kernel
theorem dX7_begin_96 : decode cX7_begin 96 = .ok (.return_, 1) := by decide +kernel
theorem dX7_chunks_0 : decode cX7_chunks 0 = .ok (.aload_n 0, 1) := by decide +kernel
theorem dX7_chunks_1 : decode cX7_chunks 1 = .ok (.getfield 36, 3) := by decide +kernel
theorem dX7_chunks_4 : decode cX7_chunks 4 = .ok (.ireturn, 1) := by decide +kernel
theorem dX7_chunksMade_0 : decode cX7_chunksMade 0 = .ok (.aload_n 0, 1) := by decide +kernel
theorem dX7_chunksMade_1 : decode cX7_chunksMade 1 = .ok (.getfield 40, 3) := by decide +kernel
theorem dX7_chunksMade_4 : decode cX7_chunksMade 4 = .ok (.ireturn, 1) := by decide +kernel
theorem dX7_lacksSpace_0 : decode cX7_lacksSpace 0 = .ok (.aload_n 0, 1) := by decide +kernel
theorem dX7_lacksSpace_1 : decode cX7_lacksSpace 1 = .ok (.getfield 46, 3) := by decide +kernel
theorem dX7_lacksSpace_4 : decode cX7_lacksSpace 4 = .ok (.ireturn, 1) := by decide +kernel
theorem dX7_pointsOpen_0 : decode cX7_pointsOpen 0 = .ok (.aload_n 0, 1) := by decide +kernel
theorem dX7_pointsOpen_1 : decode cX7_pointsOpen 1 = .ok (.getfield 21, 3) := by decide +kernel
theorem dX7_pointsOpen_4 : decode cX7_pointsOpen 4 = .ok (.getfield 75, 3) := by decide +kernel
theorem dX7_pointsOpen_7 : decode cX7_pointsOpen 7 = .ok (.ireturn, 1) := by decide +kernel
theorem dX7_keep_0 : decode cX7_keep 0 = .ok (.aload_n 0, 1) := by decide +kernel
theorem dX7_keep_1 : decode cX7_keep 1 = .ok (.getfield 36, 3) := by decide +kernel
theorem dX7_keep_4 : decode cX7_keep 4 = .ok (.bipush 96, 2) := by decide +kernel
theorem dX7_keep_6 : decode cX7_keep 6 = .ok (.if_icmp .lt 9, 3) := by decide +kernel
theorem dX7_keep_9 : decode cX7_keep 9 = .ok (.aload_n 0, 1) := by decide +kernel
theorem dX7_keep_10 : decode cX7_keep 10 = .ok (.iconst 1, 1) := by decide +kernel
theorem dX7_keep_11 : decode cX7_keep 11 = .ok (.putfield 46, 3) := by decide +kernel
theorem dX7_keep_14 : decode cX7_keep 14 = .ok (.return_, 1) := by decide +kernel
theorem dX7_keep_15 : decode cX7_keep 15 = .ok (.iconst 0, 1) := by decide +kernel
theorem dX7_keep_16 : decode cX7_keep 16 = .ok (.istore_n 2, 1) := by decide +kernel
theorem dX7_keep_17 : decode cX7_keep 17 = .ok (.iload_n 2, 1) := by decide +kernel
theorem dX7_keep_18 : decode cX7_keep 18 = .ok (.bipush 10, 2) := by decide +kernel
theorem dX7_keep_20 : decode cX7_keep 20 = .ok (.if_icmp .ge 34, 3) := by decide +kernel
theorem dX7_keep_23 : decode cX7_keep 23 = .ok (.aload_n 0, 1) := by decide +kernel
theorem dX7_keep_24 : decode cX7_keep 24 = .ok (.getfield 25, 3) := by decide +kernel
theorem dX7_keep_27 : decode cX7_keep 27 = .ok (.iconst 1, 1) := by decide +kernel
theorem dX7_keep_28 : decode cX7_keep 28 = .ok (.aload_n 0, 1) := by decide +kernel
theorem dX7_keep_29 : decode cX7_keep 29 = .ok (.getfield 36, 3) := by decide +kernel
theorem dX7_keep_32 : decode cX7_keep 32 = .ok (.bipush 10, 2) := by decide +kernel
theorem dX7_keep_34 : decode cX7_keep 34 = .ok (.imul, 1) := by decide +kernel
theorem dX7_keep_35 : decode cX7_keep 35 = .ok (.iadd, 1) := by decide +kernel
theorem dX7_keep_36 : decode cX7_keep 36 = .ok (.iload_n 2, 1) := by decide +kernel
theorem dX7_keep_37 : decode cX7_keep 37 = .ok (.iadd, 1) := by decide +kernel
theorem dX7_keep_38 : decode cX7_keep 38 = .ok (.aload_n 0, 1) := by decide +kernel
theorem dX7_keep_39 : decode cX7_keep 39 = .ok (.getfield 54, 3) := by decide +kernel
theorem dX7_keep_42 : decode cX7_keep 42 = .ok (.iload_n 1, 1) := by decide +kernel
theorem dX7_keep_43 : decode cX7_keep 43 = .ok (.iload_n 2, 1) := by decide +kernel
theorem dX7_keep_44 : decode cX7_keep 44 = .ok (.invokevirtual 67, 3) := by decide +kernel
theorem dX7_keep_47 : decode cX7_keep 47 = .ok (.iastore, 1) := by decide +kernel
theorem dX7_keep_48 : decode cX7_keep 48 = .ok (.iinc 2 1, 3) := by decide +kernel
theorem dX7_keep_51 : decode cX7_keep 51 = .ok (.goto (-34), 3) := by decide +kernel
theorem dX7_keep_54 : decode cX7_keep 54 = .ok (.aload_n 0, 1) := by decide +kernel
theorem dX7_keep_55 : decode cX7_keep 55 = .ok (.getfield 29, 3) := by decide +kernel
theorem dX7_keep_58 : decode cX7_keep 58 = .ok (.aload_n 0, 1) := by decide +kernel
theorem dX7_keep_59 : decode cX7_keep 59 = .ok (.getfield 36, 3) := by decide +kernel
theorem dX7_keep_62 : decode cX7_keep 62 = .ok (.iconst (-1), 1) := by decide +kernel
theorem dX7_keep_63 : decode cX7_keep 63 = .ok (.iastore, 1) := by decide +kernel
theorem dX7_keep_64 : decode cX7_keep 64 = .ok (.aload_n 0, 1) := by decide +kernel
theorem dX7_keep_65 : decode cX7_keep 65 = .ok (.dup, 1) := by decide +kernel
theorem dX7_keep_66 : decode cX7_keep 66 = .ok (.getfield 36, 3) := by decide +kernel
theorem dX7_keep_69 : decode cX7_keep 69 = .ok (.iconst 1, 1) := by decide +kernel
theorem dX7_keep_70 : decode cX7_keep 70 = .ok (.iadd, 1) := by decide +kernel
theorem dX7_keep_71 : decode cX7_keep 71 = .ok (.putfield 36, 3) := by decide +kernel
theorem dX7_keep_74 : decode cX7_keep 74 = .ok (.return_, 1) := by decide +kernel
theorem dX7_pack_0 : decode cX7_pack 0 = .ok (.aload_n 0, 1) := by decide +kernel
theorem dX7_pack_1 : decode cX7_pack 1 = .ok (.getfield 21, 3) := by decide +kernel
theorem dX7_pack_4 : decode cX7_pack 4 = .ok (.getfield 75, 3) := by decide +kernel
theorem dX7_pack_7 : decode cX7_pack 7 = .ok (.ifCond .ne 26, 3) := by decide +kernel
theorem dX7_pack_10 : decode cX7_pack 10 = .ok (.aload_n 0, 1) := by decide +kernel
theorem dX7_pack_11 : decode cX7_pack 11 = .ok (.aload_n 0, 1) := by decide +kernel
theorem dX7_pack_12 : decode cX7_pack 12 = .ok (.getfield 12, 3) := by decide +kernel
theorem dX7_pack_15 : decode cX7_pack 15 = .ok (.invokevirtual 78, 3) := by decide +kernel
theorem dX7_pack_18 : decode cX7_pack 18 = .ok (.putfield 43, 3) := by decide +kernel
theorem dX7_pack_21 : decode cX7_pack 21 = .ok (.aload_n 0, 1) := by decide +kernel
theorem dX7_pack_22 : decode cX7_pack 22 = .ok (.getfield 12, 3) := by decide +kernel
theorem dX7_pack_25 : decode cX7_pack 25 = .ok (.iload_n 1, 1) := by decide +kernel
theorem dX7_pack_26 : decode cX7_pack 26 = .ok (.iload_n 2, 1) := by decide +kernel
theorem dX7_pack_27 : decode cX7_pack 27 = .ok (.invokevirtual 81, 3) := by decide +kernel
theorem dX7_pack_30 : decode cX7_pack 30 = .ok (.goto 12, 3) := by decide +kernel
theorem dX7_pack_33 : decode cX7_pack 33 = .ok (.aload_n 0, 1) := by decide +kernel
theorem dX7_pack_34 : decode cX7_pack 34 = .ok (.getfield 12, 3) := by decide +kernel
theorem dX7_pack_37 : decode cX7_pack 37 = .ok (.iload_n 1, 1) := by decide +kernel
theorem dX7_pack_38 : decode cX7_pack 38 = .ok (.iload_n 2, 1) := by decide +kernel
theorem dX7_pack_39 : decode cX7_pack 39 = .ok (.invokevirtual 84, 3) := by decide +kernel
theorem dX7_pack_42 : decode cX7_pack 42 = .ok (.aload_n 0, 1) := by decide +kernel
theorem dX7_pack_43 : decode cX7_pack 43 = .ok (.getfield 21, 3) := by decide +kernel
theorem dX7_pack_46 : decode cX7_pack 46 = .ok (.iload_n 1, 1) := by decide +kernel
theorem dX7_pack_47 : decode cX7_pack 47 = .ok (.iload_n 2, 1) := by decide +kernel
theorem dX7_pack_48 : decode cX7_pack 48 = .ok (.invokevirtual 87, 3) := by decide +kernel
theorem dX7_pack_51 : decode cX7_pack 51 = .ok (.return_, 1) := by decide +kernel
theorem dX7_seal_0 : decode cX7_seal 0 = .ok (.aload_n 0, 1) := by decide +kernel
theorem dX7_seal_1 : decode cX7_seal 1 = .ok (.getfield 21, 3) := by decide +kernel
theorem dX7_seal_4 : decode cX7_seal 4 = .ok (.getfield 75, 3) := by decide +kernel
theorem dX7_seal_7 : decode cX7_seal 7 = .ok (.ifCond .ne 4, 3) := by decide +kernel
theorem dX7_seal_10 : decode cX7_seal 10 = .ok (.return_, 1) := by decide +kernel
theorem dX7_seal_11 : decode cX7_seal 11 = .ok (.aload_n 0, 1) := by decide +kernel
theorem dX7_seal_12 : decode cX7_seal 12 = .ok (.getfield 12, 3) := by decide +kernel
theorem dX7_seal_15 : decode cX7_seal 15 = .ok (.invokevirtual 78, 3) := by decide +kernel
theorem dX7_seal_18 : decode cX7_seal 18 = .ok (.aload_n 0, 1) := by decide +kernel
theorem dX7_seal_19 : decode cX7_seal 19 = .ok (.getfield 43, 3) := by decide +kernel
theorem dX7_seal_22 : decode cX7_seal 22 = .ok (.isub, 1) := by decide +kernel
theorem dX7_seal_23 : decode cX7_seal 23 = .ok (.istore_n 2, 1) := by decide +kernel
theorem dX7_seal_24 : decode cX7_seal 24 = .ok (.aload_n 0, 1) := by decide +kernel
theorem dX7_seal_25 : decode cX7_seal 25 = .ok (.iload_n 2, 1) := by decide +kernel
theorem dX7_seal_26 : decode cX7_seal 26 = .ok (.invokevirtual 90, 3) := by decide +kernel
theorem dX7_seal_29 : decode cX7_seal 29 = .ok (.istore_n 3, 1) := by decide +kernel
theorem dX7_seal_30 : decode cX7_seal 30 = .ok (.aload_n 0, 1) := by decide +kernel
theorem dX7_seal_31 : decode cX7_seal 31 = .ok (.getfield 12, 3) := by decide +kernel
theorem dX7_seal_34 : decode cX7_seal 34 = .ok (.invokevirtual 94, 3) := by decide +kernel
theorem dX7_seal_37 : decode cX7_seal 37 = .ok (.ifCond .ne 17, 3) := by decide +kernel
theorem dX7_seal_40 : decode cX7_seal 40 = .ok (.iload_n 3, 1) := by decide +kernel
theorem dX7_seal_41 : decode cX7_seal 41 = .ok (.iconst (-1), 1) := by decide +kernel
theorem dX7_seal_42 : decode cX7_seal 42 = .ok (.if_icmp .eq 12, 3) := by decide +kernel
theorem dX7_seal_45 : decode cX7_seal 45 = .ok (.aload_n 0, 1) := by decide +kernel
theorem dX7_seal_46 : decode cX7_seal 46 = .ok (.getfield 36, 3) := by decide +kernel
theorem dX7_seal_49 : decode cX7_seal 49 = .ok (.bipush 96, 2) := by decide +kernel
theorem dX7_seal_51 : decode cX7_seal 51 = .ok (.if_icmp .lt 11, 3) := by decide +kernel
theorem dX7_seal_54 : decode cX7_seal 54 = .ok (.aload_n 0, 1) := by decide +kernel
theorem dX7_seal_55 : decode cX7_seal 55 = .ok (.iconst 1, 1) := by decide +kernel
theorem dX7_seal_56 : decode cX7_seal 56 = .ok (.putfield 46, 3) := by decide +kernel
theorem dX7_seal_59 : decode cX7_seal 59 = .ok (.goto 16, 3) := by decide +kernel
theorem dX7_seal_62 : decode cX7_seal 62 = .ok (.aload_n 0, 1) := by decide +kernel
theorem dX7_seal_63 : decode cX7_seal 63 = .ok (.iload_n 3, 1) := by decide +kernel
theorem dX7_seal_64 : decode cX7_seal 64 = .ok (.iload_n 2, 1) := by decide +kernel
theorem dX7_seal_65 : decode cX7_seal 65 = .ok (.invokevirtual 71, 3) := by decide +kernel
theorem dX7_seal_68 : decode cX7_seal 68 = .ok (.aload_n 0, 1) := by decide +kernel
theorem dX7_seal_69 : decode cX7_seal 69 = .ok (.iload_n 1, 1) := by decide +kernel
theorem dX7_seal_70 : decode cX7_seal 70 = .ok (.iload_n 3, 1) := by decide +kernel
theorem dX7_seal_71 : decode cX7_seal 71 = .ok (.iload_n 2, 1) := by decide +kernel
theorem dX7_seal_72 : decode cX7_seal 72 = .ok (.invokevirtual 98, 3) := by decide +kernel
theorem dX7_seal_75 : decode cX7_seal 75 = .ok (.aload_n 0, 1) := by decide +kernel
theorem dX7_seal_76 : decode cX7_seal 76 = .ok (.dup, 1) := by decide +kernel
theorem dX7_seal_77 : decode cX7_seal 77 = .ok (.getfield 40, 3) := by decide +kernel
theorem dX7_seal_80 : decode cX7_seal 80 = .ok (.iconst 1, 1) := by decide +kernel
theorem dX7_seal_81 : decode cX7_seal 81 = .ok (.iadd, 1) := by decide +kernel
theorem dX7_seal_82 : decode cX7_seal 82 = .ok (.putfield 40, 3) := by decide +kernel
theorem dX7_seal_85 : decode cX7_seal 85 = .ok (.aload_n 0, 1) := by decide +kernel
theorem dX7_seal_86 : decode cX7_seal 86 = .ok (.getfield 21, 3) := by decide +kernel
theorem dX7_seal_89 : decode cX7_seal 89 = .ok (.invokevirtual 61, 3) := by decide +kernel
theorem dX7_seal_92 : decode cX7_seal 92 = .ok (.return_, 1) := by decide +kernel
theorem dX7_writeOut_0 : decode cX7_writeOut 0 = .ok (.iconst 1, 1) := by decide +kernel
theorem dX7_writeOut_1 : decode cX7_writeOut 1 = .ok (.aload_n 0, 1) := by decide +kernel
theorem dX7_writeOut_2 : decode cX7_writeOut 2 = .ok (.getfield 50, 3) := by decide +kernel
theorem dX7_writeOut_5 : decode cX7_writeOut 5 = .ok (.invokevirtual 102, 3) := by decide +kernel
theorem dX7_writeOut_8 : decode cX7_writeOut 8 = .ok (.isub, 1) := by decide +kernel
theorem dX7_writeOut_9 : decode cX7_writeOut 9 = .ok (.istore_n 2, 1) := by decide +kernel
theorem dX7_writeOut_10 : decode cX7_writeOut 10 = .ok (.aload_n 0, 1) := by decide +kernel
theorem dX7_writeOut_11 : decode cX7_writeOut 11 = .ok (.invokevirtual 107, 3) := by decide +kernel
theorem dX7_writeOut_14 : decode cX7_writeOut 14 = .ok (.ifCond .eq 34, 3) := by decide +kernel
theorem dX7_writeOut_17 : decode cX7_writeOut 17 = .ok (.aload_n 0, 1) := by decide +kernel
theorem dX7_writeOut_18 : decode cX7_writeOut 18 = .ok (.iload_n 2, 1) := by decide +kernel
theorem dX7_writeOut_19 : decode cX7_writeOut 19 = .ok (.invokestatic 110, 3) := by decide +kernel
theorem dX7_writeOut_22 : decode cX7_writeOut 22 = .ok (.invokevirtual 113, 3) := by decide +kernel
theorem dX7_writeOut_25 : decode cX7_writeOut 25 = .ok (.ifCond .eq 23, 3) := by decide +kernel
theorem dX7_writeOut_28 : decode cX7_writeOut 28 = .ok (.aload_n 0, 1) := by decide +kernel
theorem dX7_writeOut_29 : decode cX7_writeOut 29 = .ok (.getfield 50, 3) := by decide +kernel
theorem dX7_writeOut_32 : decode cX7_writeOut 32 = .ok (.iconst 0, 1) := by decide +kernel
theorem dX7_writeOut_33 : decode cX7_writeOut 33 = .ok (.iconst 2, 1) := by decide +kernel
theorem dX7_writeOut_34 : decode cX7_writeOut 34 = .ok (.iload_n 1, 1) := by decide +kernel
theorem dX7_writeOut_35 : decode cX7_writeOut 35 = .ok (.imul, 1) := by decide +kernel
theorem dX7_writeOut_36 : decode cX7_writeOut 36 = .ok (.iload_n 2, 1) := by decide +kernel
theorem dX7_writeOut_37 : decode cX7_writeOut 37 = .ok (.iadd, 1) := by decide +kernel
theorem dX7_writeOut_38 : decode cX7_writeOut 38 = .ok (.invokevirtual 117, 3) := by decide +kernel
theorem dX7_writeOut_41 : decode cX7_writeOut 41 = .ok (.ifCond .eq 7, 3) := by decide +kernel
theorem dX7_writeOut_44 : decode cX7_writeOut 44 = .ok (.iconst 1, 1) := by decide +kernel
theorem dX7_writeOut_45 : decode cX7_writeOut 45 = .ok (.goto 4, 3) := by decide +kernel
theorem dX7_writeOut_48 : decode cX7_writeOut 48 = .ok (.iconst 0, 1) := by decide +kernel
theorem dX7_writeOut_49 : decode cX7_writeOut 49 = .ok (.ireturn, 1) := by decide +kernel
theorem dX7_addEntry_0 : decode cX7_addEntry 0 = .ok (.iconst 1, 1) := by decide +kernel
theorem dX7_addEntry_1 : decode cX7_addEntry 1 = .ok (.aload_n 0, 1) := by decide +kernel
theorem dX7_addEntry_2 : decode cX7_addEntry 2 = .ok (.getfield 36, 3) := by decide +kernel
theorem dX7_addEntry_5 : decode cX7_addEntry 5 = .ok (.bipush 10, 2) := by decide +kernel
theorem dX7_addEntry_7 : decode cX7_addEntry 7 = .ok (.imul, 1) := by decide +kernel
theorem dX7_addEntry_8 : decode cX7_addEntry 8 = .ok (.iadd, 1) := by decide +kernel
theorem dX7_addEntry_9 : decode cX7_addEntry 9 = .ok (.istore 4, 2) := by decide +kernel
theorem dX7_addEntry_11 : decode cX7_addEntry 11 = .ok (.aload_n 0, 1) := by decide +kernel
theorem dX7_addEntry_12 : decode cX7_addEntry 12 = .ok (.getfield 25, 3) := by decide +kernel
theorem dX7_addEntry_15 : decode cX7_addEntry 15 = .ok (.iload 4, 2) := by decide +kernel
theorem dX7_addEntry_17 : decode cX7_addEntry 17 = .ok (.iconst 0, 1) := by decide +kernel
theorem dX7_addEntry_18 : decode cX7_addEntry 18 = .ok (.iadd, 1) := by decide +kernel
theorem dX7_addEntry_19 : decode cX7_addEntry 19 = .ok (.iload_n 1, 1) := by decide +kernel
theorem dX7_addEntry_20 : decode cX7_addEntry 20 = .ok (.iastore, 1) := by decide +kernel
theorem dX7_addEntry_21 : decode cX7_addEntry 21 = .ok (.aload_n 0, 1) := by decide +kernel
theorem dX7_addEntry_22 : decode cX7_addEntry 22 = .ok (.getfield 25, 3) := by decide +kernel
theorem dX7_addEntry_25 : decode cX7_addEntry 25 = .ok (.iload 4, 2) := by decide +kernel
theorem dX7_addEntry_27 : decode cX7_addEntry 27 = .ok (.iconst 1, 1) := by decide +kernel
theorem dX7_addEntry_28 : decode cX7_addEntry 28 = .ok (.iadd, 1) := by decide +kernel
theorem dX7_addEntry_29 : decode cX7_addEntry 29 = .ok (.aload_n 0, 1) := by decide +kernel
theorem dX7_addEntry_30 : decode cX7_addEntry 30 = .ok (.getfield 21, 3) := by decide +kernel
theorem dX7_addEntry_33 : decode cX7_addEntry 33 = .ok (.getfield 121, 3) := by decide +kernel
theorem dX7_addEntry_36 : decode cX7_addEntry 36 = .ok (.iastore, 1) := by decide +kernel
theorem dX7_addEntry_37 : decode cX7_addEntry 37 = .ok (.aload_n 0, 1) := by decide +kernel
theorem dX7_addEntry_38 : decode cX7_addEntry 38 = .ok (.getfield 25, 3) := by decide +kernel
theorem dX7_addEntry_41 : decode cX7_addEntry 41 = .ok (.iload 4, 2) := by decide +kernel
theorem dX7_addEntry_43 : decode cX7_addEntry 43 = .ok (.iconst 2, 1) := by decide +kernel
theorem dX7_addEntry_44 : decode cX7_addEntry 44 = .ok (.iadd, 1) := by decide +kernel
theorem dX7_addEntry_45 : decode cX7_addEntry 45 = .ok (.aload_n 0, 1) := by decide +kernel
theorem dX7_addEntry_46 : decode cX7_addEntry 46 = .ok (.getfield 21, 3) := by decide +kernel
theorem dX7_addEntry_49 : decode cX7_addEntry 49 = .ok (.getfield 124, 3) := by decide +kernel
theorem dX7_addEntry_52 : decode cX7_addEntry 52 = .ok (.iastore, 1) := by decide +kernel
theorem dX7_addEntry_53 : decode cX7_addEntry 53 = .ok (.aload_n 0, 1) := by decide +kernel
theorem dX7_addEntry_54 : decode cX7_addEntry 54 = .ok (.getfield 25, 3) := by decide +kernel
theorem dX7_addEntry_57 : decode cX7_addEntry 57 = .ok (.iload 4, 2) := by decide +kernel
theorem dX7_addEntry_59 : decode cX7_addEntry 59 = .ok (.iconst 3, 1) := by decide +kernel
theorem dX7_addEntry_60 : decode cX7_addEntry 60 = .ok (.iadd, 1) := by decide +kernel
theorem dX7_addEntry_61 : decode cX7_addEntry 61 = .ok (.aload_n 0, 1) := by decide +kernel
theorem dX7_addEntry_62 : decode cX7_addEntry 62 = .ok (.getfield 21, 3) := by decide +kernel
theorem dX7_addEntry_65 : decode cX7_addEntry 65 = .ok (.getfield 75, 3) := by decide +kernel
theorem dX7_addEntry_68 : decode cX7_addEntry 68 = .ok (.iastore, 1) := by decide +kernel
theorem dX7_addEntry_69 : decode cX7_addEntry 69 = .ok (.aload_n 0, 1) := by decide +kernel
theorem dX7_addEntry_70 : decode cX7_addEntry 70 = .ok (.getfield 25, 3) := by decide +kernel
theorem dX7_addEntry_73 : decode cX7_addEntry 73 = .ok (.iload 4, 2) := by decide +kernel
theorem dX7_addEntry_75 : decode cX7_addEntry 75 = .ok (.iconst 4, 1) := by decide +kernel
theorem dX7_addEntry_76 : decode cX7_addEntry 76 = .ok (.iadd, 1) := by decide +kernel
theorem dX7_addEntry_77 : decode cX7_addEntry 77 = .ok (.aload_n 0, 1) := by decide +kernel
theorem dX7_addEntry_78 : decode cX7_addEntry 78 = .ok (.getfield 21, 3) := by decide +kernel
theorem dX7_addEntry_81 : decode cX7_addEntry 81 = .ok (.getfield 127, 3) := by decide +kernel
theorem dX7_addEntry_84 : decode cX7_addEntry 84 = .ok (.iastore, 1) := by decide +kernel
theorem dX7_addEntry_85 : decode cX7_addEntry 85 = .ok (.aload_n 0, 1) := by decide +kernel
theorem dX7_addEntry_86 : decode cX7_addEntry 86 = .ok (.getfield 25, 3) := by decide +kernel
theorem dX7_addEntry_89 : decode cX7_addEntry 89 = .ok (.iload 4, 2) := by decide +kernel
theorem dX7_addEntry_91 : decode cX7_addEntry 91 = .ok (.iconst 5, 1) := by decide +kernel
theorem dX7_addEntry_92 : decode cX7_addEntry 92 = .ok (.iadd, 1) := by decide +kernel
theorem dX7_addEntry_93 : decode cX7_addEntry 93 = .ok (.aload_n 0, 1) := by decide +kernel
theorem dX7_addEntry_94 : decode cX7_addEntry 94 = .ok (.getfield 21, 3) := by decide +kernel
theorem dX7_addEntry_97 : decode cX7_addEntry 97 = .ok (.getfield 130, 3) := by decide +kernel
theorem dX7_addEntry_100 : decode cX7_addEntry 100 = .ok (.iastore, 1) := by decide +kernel
theorem dX7_addEntry_101 : decode cX7_addEntry 101 = .ok (.aload_n 0, 1) := by decide +kernel
theorem dX7_addEntry_102 : decode cX7_addEntry 102 = .ok (.getfield 25, 3) := by decide +kernel
theorem dX7_addEntry_105 : decode cX7_addEntry 105 = .ok (.iload 4, 2) := by decide +kernel
theorem dX7_addEntry_107 : decode cX7_addEntry 107 = .ok (.bipush 6, 2) := by decide +kernel
theorem dX7_addEntry_109 : decode cX7_addEntry 109 = .ok (.iadd, 1) := by decide +kernel
theorem dX7_addEntry_110 : decode cX7_addEntry 110 = .ok (.aload_n 0, 1) := by decide +kernel
theorem dX7_addEntry_111 : decode cX7_addEntry 111 = .ok (.getfield 21, 3) := by decide +kernel
theorem dX7_addEntry_114 : decode cX7_addEntry 114 = .ok (.getfield 133, 3) := by decide +kernel
theorem dX7_addEntry_117 : decode cX7_addEntry 117 = .ok (.bipush 32, 2) := by decide +kernel
theorem dX7_addEntry_119 : decode cX7_addEntry 119 = .ok (.lshr, 1) := by decide +kernel
theorem dX7_addEntry_120 : decode cX7_addEntry 120 = .ok (.l2i, 1) := by decide +kernel
theorem dX7_addEntry_121 : decode cX7_addEntry 121 = .ok (.iastore, 1) := by decide +kernel
theorem dX7_addEntry_122 : decode cX7_addEntry 122 = .ok (.aload_n 0, 1) := by decide +kernel
theorem dX7_addEntry_123 : decode cX7_addEntry 123 = .ok (.getfield 25, 3) := by decide +kernel
theorem dX7_addEntry_126 : decode cX7_addEntry 126 = .ok (.iload 4, 2) := by decide +kernel
theorem dX7_addEntry_128 : decode cX7_addEntry 128 = .ok (.bipush 7, 2) := by decide +kernel
theorem dX7_addEntry_130 : decode cX7_addEntry 130 = .ok (.iadd, 1) := by decide +kernel
theorem dX7_addEntry_131 : decode cX7_addEntry 131 = .ok (.aload_n 0, 1) := by decide +kernel
theorem dX7_addEntry_132 : decode cX7_addEntry 132 = .ok (.getfield 21, 3) := by decide +kernel
theorem dX7_addEntry_135 : decode cX7_addEntry 135 = .ok (.getfield 133, 3) := by decide +kernel
theorem dX7_addEntry_138 : decode cX7_addEntry 138 = .ok (.l2i, 1) := by decide +kernel
theorem dX7_addEntry_139 : decode cX7_addEntry 139 = .ok (.iastore, 1) := by decide +kernel
theorem dX7_addEntry_140 : decode cX7_addEntry 140 = .ok (.aload_n 0, 1) := by decide +kernel
theorem dX7_addEntry_141 : decode cX7_addEntry 141 = .ok (.getfield 25, 3) := by decide +kernel
theorem dX7_addEntry_144 : decode cX7_addEntry 144 = .ok (.iload 4, 2) := by decide +kernel
theorem dX7_addEntry_146 : decode cX7_addEntry 146 = .ok (.bipush 8, 2) := by decide +kernel
theorem dX7_addEntry_148 : decode cX7_addEntry 148 = .ok (.iadd, 1) := by decide +kernel
theorem dX7_addEntry_149 : decode cX7_addEntry 149 = .ok (.iload_n 2, 1) := by decide +kernel
theorem dX7_addEntry_150 : decode cX7_addEntry 150 = .ok (.iastore, 1) := by decide +kernel
theorem dX7_addEntry_151 : decode cX7_addEntry 151 = .ok (.aload_n 0, 1) := by decide +kernel
theorem dX7_addEntry_152 : decode cX7_addEntry 152 = .ok (.getfield 25, 3) := by decide +kernel
theorem dX7_addEntry_155 : decode cX7_addEntry 155 = .ok (.iload 4, 2) := by decide +kernel
theorem dX7_addEntry_157 : decode cX7_addEntry 157 = .ok (.bipush 9, 2) := by decide +kernel
theorem dX7_addEntry_159 : decode cX7_addEntry 159 = .ok (.iadd, 1) := by decide +kernel
theorem dX7_addEntry_160 : decode cX7_addEntry 160 = .ok (.iload_n 3, 1) := by decide +kernel
theorem dX7_addEntry_161 : decode cX7_addEntry 161 = .ok (.iastore, 1) := by decide +kernel
theorem dX7_addEntry_162 : decode cX7_addEntry 162 = .ok (.aload_n 0, 1) := by decide +kernel
theorem dX7_addEntry_163 : decode cX7_addEntry 163 = .ok (.getfield 29, 3) := by decide +kernel
theorem dX7_addEntry_166 : decode cX7_addEntry 166 = .ok (.aload_n 0, 1) := by decide +kernel
theorem dX7_addEntry_167 : decode cX7_addEntry 167 = .ok (.getfield 36, 3) := by decide +kernel
theorem dX7_addEntry_170 : decode cX7_addEntry 170 = .ok (.aload_n 0, 1) := by decide +kernel
theorem dX7_addEntry_171 : decode cX7_addEntry 171 = .ok (.getfield 43, 3) := by decide +kernel
theorem dX7_addEntry_174 : decode cX7_addEntry 174 = .ok (.iastore, 1) := by decide +kernel
theorem dX7_addEntry_175 : decode cX7_addEntry 175 = .ok (.aload_n 0, 1) := by decide +kernel
theorem dX7_addEntry_176 : decode cX7_addEntry 176 = .ok (.dup, 1) := by decide +kernel
theorem dX7_addEntry_177 : decode cX7_addEntry 177 = .ok (.getfield 36, 3) := by decide +kernel
theorem dX7_addEntry_180 : decode cX7_addEntry 180 = .ok (.iconst 1, 1) := by decide +kernel
theorem dX7_addEntry_181 : decode cX7_addEntry 181 = .ok (.iadd, 1) := by decide +kernel
theorem dX7_addEntry_182 : decode cX7_addEntry 182 = .ok (.putfield 36, 3) := by decide +kernel
theorem dX7_addEntry_185 : decode cX7_addEntry 185 = .ok (.return_, 1) := by decide +kernel
theorem dX7_findPlace_0 : decode cX7_findPlace 0 = .ok (.iconst 0, 1) := by decide +kernel
theorem dX7_findPlace_1 : decode cX7_findPlace 1 = .ok (.istore_n 2, 1) := by decide +kernel
theorem dX7_findPlace_2 : decode cX7_findPlace 2 = .ok (.iconst 0, 1) := by decide +kernel
theorem dX7_findPlace_3 : decode cX7_findPlace 3 = .ok (.istore_n 3, 1) := by decide +kernel
theorem dX7_findPlace_4 : decode cX7_findPlace 4 = .ok (.iload_n 3, 1) := by decide +kernel
theorem dX7_findPlace_5 : decode cX7_findPlace 5 = .ok (.sipush 1661, 3) := by decide +kernel
theorem dX7_findPlace_8 : decode cX7_findPlace 8 = .ok (.if_icmp .ge 41, 3) := by decide +kernel
theorem dX7_findPlace_11 : decode cX7_findPlace 11 = .ok (.aload_n 0, 1) := by decide +kernel
theorem dX7_findPlace_12 : decode cX7_findPlace 12 = .ok (.getfield 32, 3) := by decide +kernel
theorem dX7_findPlace_15 : decode cX7_findPlace 15 = .ok (.iload_n 3, 1) := by decide +kernel
theorem dX7_findPlace_16 : decode cX7_findPlace 16 = .ok (.baload, 1) := by decide +kernel
theorem dX7_findPlace_17 : decode cX7_findPlace 17 = .ok (.ifCond .eq 7, 3) := by decide +kernel
theorem dX7_findPlace_20 : decode cX7_findPlace 20 = .ok (.iconst 0, 1) := by decide +kernel
theorem dX7_findPlace_21 : decode cX7_findPlace 21 = .ok (.goto 6, 3) := by decide +kernel
theorem dX7_findPlace_24 : decode cX7_findPlace 24 = .ok (.iload_n 2, 1) := by decide +kernel
theorem dX7_findPlace_25 : decode cX7_findPlace 25 = .ok (.iconst 1, 1) := by decide +kernel
theorem dX7_findPlace_26 : decode cX7_findPlace 26 = .ok (.iadd, 1) := by decide +kernel
theorem dX7_findPlace_27 : decode cX7_findPlace 27 = .ok (.istore_n 2, 1) := by decide +kernel
theorem dX7_findPlace_28 : decode cX7_findPlace 28 = .ok (.iload_n 2, 1) := by decide +kernel
theorem dX7_findPlace_29 : decode cX7_findPlace 29 = .ok (.iload_n 1, 1) := by decide +kernel
theorem dX7_findPlace_30 : decode cX7_findPlace 30 = .ok (.if_icmp .ne 13, 3) := by decide +kernel
theorem dX7_findPlace_33 : decode cX7_findPlace 33 = .ok (.sipush 2435, 3) := by decide +kernel
theorem dX7_findPlace_36 : decode cX7_findPlace 36 = .ok (.iload_n 3, 1) := by decide +kernel
theorem dX7_findPlace_37 : decode cX7_findPlace 37 = .ok (.iadd, 1) := by decide +kernel
theorem dX7_findPlace_38 : decode cX7_findPlace 38 = .ok (.iconst 1, 1) := by decide +kernel
theorem dX7_findPlace_39 : decode cX7_findPlace 39 = .ok (.iadd, 1) := by decide +kernel
theorem dX7_findPlace_40 : decode cX7_findPlace 40 = .ok (.iload_n 1, 1) := by decide +kernel
theorem dX7_findPlace_41 : decode cX7_findPlace 41 = .ok (.isub, 1) := by decide +kernel
theorem dX7_findPlace_42 : decode cX7_findPlace 42 = .ok (.ireturn, 1) := by decide +kernel
theorem dX7_findPlace_43 : decode cX7_findPlace 43 = .ok (.iinc 3 1, 3) := by decide +kernel
theorem dX7_findPlace_46 : decode cX7_findPlace 46 = .ok (.goto (-42), 3) := by decide +kernel
theorem dX7_findPlace_49 : decode cX7_findPlace 49 = .ok (.iconst (-1), 1) := by decide +kernel
theorem dX7_findPlace_50 : decode cX7_findPlace 50 = .ok (.ireturn, 1) := by decide +kernel
theorem dX7_take_0 : decode cX7_take 0 = .ok (.iload_n 1, 1) := by decide +kernel
theorem dX7_take_1 : decode cX7_take 1 = .ok (.sipush 2435, 3) := by decide +kernel
theorem dX7_take_4 : decode cX7_take 4 = .ok (.isub, 1) := by decide +kernel
theorem dX7_take_5 : decode cX7_take 5 = .ok (.istore_n 3, 1) := by decide +kernel
theorem dX7_take_6 : decode cX7_take 6 = .ok (.iload_n 3, 1) := by decide +kernel
theorem dX7_take_7 : decode cX7_take 7 = .ok (.iload_n 1, 1) := by decide +kernel
theorem dX7_take_8 : decode cX7_take 8 = .ok (.sipush 2435, 3) := by decide +kernel
theorem dX7_take_11 : decode cX7_take 11 = .ok (.isub, 1) := by decide +kernel
theorem dX7_take_12 : decode cX7_take 12 = .ok (.iload_n 2, 1) := by decide +kernel
theorem dX7_take_13 : decode cX7_take 13 = .ok (.iadd, 1) := by decide +kernel
theorem dX7_take_14 : decode cX7_take 14 = .ok (.if_icmp .ge 27, 3) := by decide +kernel
theorem dX7_take_17 : decode cX7_take 17 = .ok (.iload_n 3, 1) := by decide +kernel
theorem dX7_take_18 : decode cX7_take 18 = .ok (.ifCond .lt 17, 3) := by decide +kernel
theorem dX7_take_21 : decode cX7_take 21 = .ok (.iload_n 3, 1) := by decide +kernel
theorem dX7_take_22 : decode cX7_take 22 = .ok (.sipush 1661, 3) := by decide +kernel
theorem dX7_take_25 : decode cX7_take 25 = .ok (.if_icmp .ge 10, 3) := by decide +kernel
theorem dX7_take_28 : decode cX7_take 28 = .ok (.aload_n 0, 1) := by decide +kernel
theorem dX7_take_29 : decode cX7_take 29 = .ok (.getfield 32, 3) := by decide +kernel
theorem dX7_take_32 : decode cX7_take 32 = .ok (.iload_n 3, 1) := by decide +kernel
theorem dX7_take_33 : decode cX7_take 33 = .ok (.iconst 1, 1) := by decide +kernel
theorem dX7_take_34 : decode cX7_take 34 = .ok (.bastore, 1) := by decide +kernel
theorem dX7_take_35 : decode cX7_take 35 = .ok (.iinc 3 1, 3) := by decide +kernel
theorem dX7_take_38 : decode cX7_take 38 = .ok (.goto (-32), 3) := by decide +kernel
theorem dX7_take_41 : decode cX7_take 41 = .ok (.return_, 1) := by decide +kernel
theorem dX7_writeChunks_0 : decode cX7_writeChunks 0 = .ok (.iconst 0, 1) := by decide +kernel
theorem dX7_writeChunks_1 : decode cX7_writeChunks 1 = .ok (.istore_n 1, 1) := by decide +kernel
theorem dX7_writeChunks_2 : decode cX7_writeChunks 2 = .ok (.iload_n 1, 1) := by decide +kernel
theorem dX7_writeChunks_3 : decode cX7_writeChunks 3 = .ok (.aload_n 0, 1) := by decide +kernel
theorem dX7_writeChunks_4 : decode cX7_writeChunks 4 = .ok (.getfield 36, 3) := by decide +kernel
theorem dX7_writeChunks_7 : decode cX7_writeChunks 7 = .ok (.if_icmp .ge 29, 3) := by decide +kernel
theorem dX7_writeChunks_10 : decode cX7_writeChunks 10 = .ok (.aload_n 0, 1) := by decide +kernel
theorem dX7_writeChunks_11 : decode cX7_writeChunks 11 = .ok (.getfield 29, 3) := by decide +kernel
theorem dX7_writeChunks_14 : decode cX7_writeChunks 14 = .ok (.iload_n 1, 1) := by decide +kernel
theorem dX7_writeChunks_15 : decode cX7_writeChunks 15 = .ok (.iaload, 1) := by decide +kernel
theorem dX7_writeChunks_16 : decode cX7_writeChunks 16 = .ok (.iconst (-1), 1) := by decide +kernel
theorem dX7_writeChunks_17 : decode cX7_writeChunks 17 = .ok (.if_icmp .eq 13, 3) := by decide +kernel
theorem dX7_writeChunks_20 : decode cX7_writeChunks 20 = .ok (.aload_n 0, 1) := by decide +kernel
theorem dX7_writeChunks_21 : decode cX7_writeChunks 21 = .ok (.iload_n 1, 1) := by decide +kernel
theorem dX7_writeChunks_22 : decode cX7_writeChunks 22 = .ok (.invokevirtual 137, 3) := by decide +kernel
theorem dX7_writeChunks_25 : decode cX7_writeChunks 25 = .ok (.ifCond .ne 5, 3) := by decide +kernel
theorem dX7_writeChunks_28 : decode cX7_writeChunks 28 = .ok (.iconst 0, 1) := by decide +kernel
theorem dX7_writeChunks_29 : decode cX7_writeChunks 29 = .ok (.ireturn, 1) := by decide +kernel
theorem dX7_writeChunks_30 : decode cX7_writeChunks 30 = .ok (.iinc 1 1, 3) := by decide +kernel
theorem dX7_writeChunks_33 : decode cX7_writeChunks 33 = .ok (.goto (-31), 3) := by decide +kernel
theorem dX7_writeChunks_36 : decode cX7_writeChunks 36 = .ok (.iconst 1, 1) := by decide +kernel
theorem dX7_writeChunks_37 : decode cX7_writeChunks 37 = .ok (.ireturn, 1) := by decide +kernel
theorem dX7_writeCellsOf_0 : decode cX7_writeCellsOf 0 = .ok (.iconst 1, 1) := by decide +kernel
theorem dX7_writeCellsOf_1 : decode cX7_writeCellsOf 1 = .ok (.iload_n 1, 1) := by decide +kernel
theorem dX7_writeCellsOf_2 : decode cX7_writeCellsOf 2 = .ok (.bipush 10, 2) := by decide +kernel
theorem dX7_writeCellsOf_4 : decode cX7_writeCellsOf 4 = .ok (.imul, 1) := by decide +kernel
theorem dX7_writeCellsOf_5 : decode cX7_writeCellsOf 5 = .ok (.iadd, 1) := by decide +kernel
theorem dX7_writeCellsOf_6 : decode cX7_writeCellsOf 6 = .ok (.istore_n 2, 1) := by decide +kernel
theorem dX7_writeCellsOf_7 : decode cX7_writeCellsOf 7 = .ok (.aload_n 0, 1) := by decide +kernel
theorem dX7_writeCellsOf_8 : decode cX7_writeCellsOf 8 = .ok (.getfield 25, 3) := by decide +kernel
theorem dX7_writeCellsOf_11 : decode cX7_writeCellsOf 11 = .ok (.iload_n 2, 1) := by decide +kernel
theorem dX7_writeCellsOf_12 : decode cX7_writeCellsOf 12 = .ok (.bipush 8, 2) := by decide +kernel
theorem dX7_writeCellsOf_14 : decode cX7_writeCellsOf 14 = .ok (.iadd, 1) := by decide +kernel
theorem dX7_writeCellsOf_15 : decode cX7_writeCellsOf 15 = .ok (.iaload, 1) := by decide +kernel
theorem dX7_writeCellsOf_16 : decode cX7_writeCellsOf 16 = .ok (.istore_n 3, 1) := by decide +kernel
theorem dX7_writeCellsOf_17 : decode cX7_writeCellsOf 17 = .ok (.aload_n 0, 1) := by decide +kernel
theorem dX7_writeCellsOf_18 : decode cX7_writeCellsOf 18 = .ok (.getfield 25, 3) := by decide +kernel
theorem dX7_writeCellsOf_21 : decode cX7_writeCellsOf 21 = .ok (.iload_n 2, 1) := by decide +kernel
theorem dX7_writeCellsOf_22 : decode cX7_writeCellsOf 22 = .ok (.bipush 9, 2) := by decide +kernel
theorem dX7_writeCellsOf_24 : decode cX7_writeCellsOf 24 = .ok (.iadd, 1) := by decide +kernel
theorem dX7_writeCellsOf_25 : decode cX7_writeCellsOf 25 = .ok (.iaload, 1) := by decide +kernel
theorem dX7_writeCellsOf_26 : decode cX7_writeCellsOf 26 = .ok (.istore 4, 2) := by decide +kernel
theorem dX7_writeCellsOf_28 : decode cX7_writeCellsOf 28 = .ok (.iconst 0, 1) := by decide +kernel
theorem dX7_writeCellsOf_29 : decode cX7_writeCellsOf 29 = .ok (.istore 5, 2) := by decide +kernel
theorem dX7_writeCellsOf_31 : decode cX7_writeCellsOf 31 = .ok (.iload 5, 2) := by decide +kernel
theorem dX7_writeCellsOf_33 : decode cX7_writeCellsOf 33 = .ok (.iload 4, 2) := by decide +kernel
theorem dX7_writeCellsOf_35 : decode cX7_writeCellsOf 35 = .ok (.if_icmp .ge 41, 3) := by decide +kernel
theorem dX7_writeCellsOf_38 : decode cX7_writeCellsOf 38 = .ok (.aload_n 0, 1) := by decide +kernel
theorem dX7_writeCellsOf_39 : decode cX7_writeCellsOf 39 = .ok (.getfield 50, 3) := by decide +kernel
theorem dX7_writeCellsOf_42 : decode cX7_writeCellsOf 42 = .ok (.iload_n 3, 1) := by decide +kernel
theorem dX7_writeCellsOf_43 : decode cX7_writeCellsOf 43 = .ok (.iload 5, 2) := by decide +kernel
theorem dX7_writeCellsOf_45 : decode cX7_writeCellsOf 45 = .ok (.iadd, 1) := by decide +kernel
theorem dX7_writeCellsOf_46 : decode cX7_writeCellsOf 46 = .ok (.aload_n 0, 1) := by decide +kernel
theorem dX7_writeCellsOf_47 : decode cX7_writeCellsOf 47 = .ok (.getfield 12, 3) := by decide +kernel
theorem dX7_writeCellsOf_50 : decode cX7_writeCellsOf 50 = .ok (.aload_n 0, 1) := by decide +kernel
theorem dX7_writeCellsOf_51 : decode cX7_writeCellsOf 51 = .ok (.getfield 29, 3) := by decide +kernel
theorem dX7_writeCellsOf_54 : decode cX7_writeCellsOf 54 = .ok (.iload_n 1, 1) := by decide +kernel
theorem dX7_writeCellsOf_55 : decode cX7_writeCellsOf 55 = .ok (.iaload, 1) := by decide +kernel
theorem dX7_writeCellsOf_56 : decode cX7_writeCellsOf 56 = .ok (.iload 5, 2) := by decide +kernel
theorem dX7_writeCellsOf_58 : decode cX7_writeCellsOf 58 = .ok (.iadd, 1) := by decide +kernel
theorem dX7_writeCellsOf_59 : decode cX7_writeCellsOf 59 = .ok (.invokevirtual 140, 3) := by decide +kernel
theorem dX7_writeCellsOf_62 : decode cX7_writeCellsOf 62 = .ok (.invokevirtual 117, 3) := by decide +kernel
theorem dX7_writeCellsOf_65 : decode cX7_writeCellsOf 65 = .ok (.ifCond .ne 5, 3) := by decide +kernel
theorem dX7_writeCellsOf_68 : decode cX7_writeCellsOf 68 = .ok (.iconst 0, 1) := by decide +kernel
theorem dX7_writeCellsOf_69 : decode cX7_writeCellsOf 69 = .ok (.ireturn, 1) := by decide +kernel
theorem dX7_writeCellsOf_70 : decode cX7_writeCellsOf 70 = .ok (.iinc 5 1, 3) := by decide +kernel
theorem dX7_writeCellsOf_73 : decode cX7_writeCellsOf 73 = .ok (.goto (-42), 3) := by decide +kernel
theorem dX7_writeCellsOf_76 : decode cX7_writeCellsOf 76 = .ok (.iconst 1, 1) := by decide +kernel
theorem dX7_writeCellsOf_77 : decode cX7_writeCellsOf 77 = .ok (.ireturn, 1) := by decide +kernel
theorem dX7_writeIndex_0 : decode cX7_writeIndex 0 = .ok (.aload_n 0, 1) := by decide +kernel
theorem dX7_writeIndex_1 : decode cX7_writeIndex 1 = .ok (.getfield 25, 3) := by decide +kernel
theorem dX7_writeIndex_4 : decode cX7_writeIndex 4 = .ok (.iconst 0, 1) := by decide +kernel
theorem dX7_writeIndex_5 : decode cX7_writeIndex 5 = .ok (.aload_n 0, 1) := by decide +kernel
theorem dX7_writeIndex_6 : decode cX7_writeIndex 6 = .ok (.getfield 36, 3) := by decide +kernel
theorem dX7_writeIndex_9 : decode cX7_writeIndex 9 = .ok (.iastore, 1) := by decide +kernel
theorem dX7_writeIndex_10 : decode cX7_writeIndex 10 = .ok (.iconst 0, 1) := by decide +kernel
theorem dX7_writeIndex_11 : decode cX7_writeIndex 11 = .ok (.istore_n 2, 1) := by decide +kernel
theorem dX7_writeIndex_12 : decode cX7_writeIndex 12 = .ok (.iload_n 2, 1) := by decide +kernel
theorem dX7_writeIndex_13 : decode cX7_writeIndex 13 = .ok (.iconst 1, 1) := by decide +kernel
theorem dX7_writeIndex_14 : decode cX7_writeIndex 14 = .ok (.aload_n 0, 1) := by decide +kernel
theorem dX7_writeIndex_15 : decode cX7_writeIndex 15 = .ok (.getfield 36, 3) := by decide +kernel
theorem dX7_writeIndex_18 : decode cX7_writeIndex 18 = .ok (.bipush 10, 2) := by decide +kernel
theorem dX7_writeIndex_20 : decode cX7_writeIndex 20 = .ok (.imul, 1) := by decide +kernel
theorem dX7_writeIndex_21 : decode cX7_writeIndex 21 = .ok (.iadd, 1) := by decide +kernel
theorem dX7_writeIndex_22 : decode cX7_writeIndex 22 = .ok (.if_icmp .ge 30, 3) := by decide +kernel
theorem dX7_writeIndex_25 : decode cX7_writeIndex 25 = .ok (.aload_n 0, 1) := by decide +kernel
theorem dX7_writeIndex_26 : decode cX7_writeIndex 26 = .ok (.getfield 50, 3) := by decide +kernel
theorem dX7_writeIndex_29 : decode cX7_writeIndex 29 = .ok (.iload_n 1, 1) := by decide +kernel
theorem dX7_writeIndex_30 : decode cX7_writeIndex 30 = .ok (.iload_n 2, 1) := by decide +kernel
theorem dX7_writeIndex_31 : decode cX7_writeIndex 31 = .ok (.iadd, 1) := by decide +kernel
theorem dX7_writeIndex_32 : decode cX7_writeIndex 32 = .ok (.aload_n 0, 1) := by decide +kernel
theorem dX7_writeIndex_33 : decode cX7_writeIndex 33 = .ok (.getfield 25, 3) := by decide +kernel
theorem dX7_writeIndex_36 : decode cX7_writeIndex 36 = .ok (.iload_n 2, 1) := by decide +kernel
theorem dX7_writeIndex_37 : decode cX7_writeIndex 37 = .ok (.iaload, 1) := by decide +kernel
theorem dX7_writeIndex_38 : decode cX7_writeIndex 38 = .ok (.invokevirtual 117, 3) := by decide +kernel
theorem dX7_writeIndex_41 : decode cX7_writeIndex 41 = .ok (.ifCond .ne 5, 3) := by decide +kernel
theorem dX7_writeIndex_44 : decode cX7_writeIndex 44 = .ok (.iconst 0, 1) := by decide +kernel
theorem dX7_writeIndex_45 : decode cX7_writeIndex 45 = .ok (.ireturn, 1) := by decide +kernel
theorem dX7_writeIndex_46 : decode cX7_writeIndex 46 = .ok (.iinc 2 1, 3) := by decide +kernel
theorem dX7_writeIndex_49 : decode cX7_writeIndex 49 = .ok (.goto (-37), 3) := by decide +kernel
theorem dX7_writeIndex_52 : decode cX7_writeIndex 52 = .ok (.iconst 1, 1) := by decide +kernel
theorem dX7_writeIndex_53 : decode cX7_writeIndex 53 = .ok (.ireturn, 1) := by decide +kernel
abbrev rm_X7_take : Room := { frames := 0, cells := 0, slots := 0, locals := 0 }
theorem hd_X7_take : yX7_take.cls = RX7 ∧ yX7_take.cls ≠ "java/lang/invoke/MethodHandle" ∧ yX7_take.cls ≠ "java/lang/invoke/VarHandle" ∧ (parseMethodDescriptor yX7_take.desc).map (fun d => d.parameters.length) = some 2 := by decide +kernel
set_option maxHeartbeats 4000000 in
set_option maxRecDepth 100000 in
theorem c_X7_take (l : Launch) (G : va_G) (cI cZ cJ : ClassId) (aT aD aI aK aO aTi aTp aTt : Nat) (T_chunks : Int32) (T_chunksMade : Int32) (T_openFrom : Int32) (T_lacksSpace : Int32) (T_taken : Nat → Int32) (p0 : Int32) (p1 : Int32) {o_T_taken : Nat → Int32} (hfin : m_X7_take T_taken p0 p1 = some (o_T_taken)) : CT l yX7_take cX7_take 4 none rm_X7_take G (tyC cI cZ cJ) [.ref aT, .int p0, .int p1] [oX7 aT aD aI aK aO aTi aTp aTt T_chunks T_chunksMade T_openFrom T_lacksSpace, rI aTt cZ 1661 T_taken] none [oX7 aT aD aI aK aO aTi aTp aTt T_chunks T_chunksMade T_openFrom T_lacksSpace, rI aTt cZ 1661 o_T_taken] := by
  refine CT.ofW (lvl := [(0, .ref aT), (1, .int p0), (2, .int p1)]) (by decide) (Nat.le_of_ble_eq_true rfl) rfl ?_
  intro p e s m args below meth c A ls0 QQ hQQ hx hb hml hr hlocks htc hN hown hK hA hw0 hl0
  rw [m_X7_take] at hfin
  refine lv_iload_n hx hb dX7_take_0 rfl (lv_at hl0 1 rfl) ?_
  refine lv_sipush (v := (2435 : Int32)) hx hb dX7_take_1 (by decide) ?_
  refine lv_isub hx hb dX7_take_4 ?_
  refine lv_istore_n (lv' := [(3, .int (p0 - (2435 : Int32))), (0, .ref aT), (1, .int p0), (2, .int p1)]) hx hb dX7_take_5 rfl hl0 (by decide) rfl (fun ls1 hl1 => ?_)
  clear hl0 ls0
  replace hfin := ob1_some hfin
  obtain ⟨T_taken_8, hL_4, hfin⟩ := hfin
  have kx_5 : ∀ (H : Heap) (locs : List Loc) (ls : Array Slot), wS G A s H locs [oX7 aT aD aI aK aO aTi aTp aTt T_chunks T_chunksMade T_openFrom T_lacksSpace, rI aTt cZ 1661 T_taken_8] → lv_has ls 4 [] → W p l e rm_X7_take s m args below meth c H locs 0 0 QQ (F0 m 41 ls []) := by
    clear hw0 hl1 ls1 hL_4
    intro H20 locs20 ls20 hw20 hl20
    cases hfin
    rw [hQQ]
    exact ct_vret hx hb hr hlocks hw20.1 hw20.2.1 hw20.2.2 dX7_take_41
  have lp_6 : ∀ (n : Nat) (v3_2 : Int32) (T_taken_3 : Nat → Int32), lp_X7_take_6 p0 p1 n v3_2 T_taken_3 = some (T_taken_8) → ∀ (H : Heap) (locs : List Loc) (ls : Array Slot), wS G A s H locs [oX7 aT aD aI aK aO aTi aTp aTt T_chunks T_chunksMade T_openFrom T_lacksSpace, rI aTt cZ 1661 T_taken_3] → lv_has ls 4 [(0, .ref aT), (1, .int p0), (2, .int p1), (3, .int v3_2)] → W p l e rm_X7_take s m args below meth c H locs 0 0 QQ (F0 m 6 ls []) := by
    clear hw0 hl1 ls1 hfin
    intro n
    induction n with
    | zero =>
      intro v3_2 T_taken_3 hB_7
      exact absurd hB_7 (by rw [lp_X7_take_6]; exact fun h9 => nomatch h9)
    | succ n ih =>
      intro v3_2 T_taken_3 hB_7 H9 locs9 ls9 hw9 hl9
      rw [lp_X7_take_6] at hB_7
      refine lv_iload_n hx hb dX7_take_6 rfl (lv_at hl9 3 rfl) ?_
      refine lv_iload_n hx hb dX7_take_7 rfl (lv_at hl9 1 rfl) ?_
      refine lv_sipush (v := (2435 : Int32)) hx hb dX7_take_8 (by decide) ?_
      refine lv_isub hx hb dX7_take_11 ?_
      refine lv_iload_n hx hb dX7_take_12 rfl (lv_at hl9 2 rfl) ?_
      refine lv_iadd hx hb dX7_take_13 ?_
      refine lv_icmp_ge (tgt := 41) hx hb dX7_take_14 (by decide) (fun c_10 => ?_) (fun c_10 => ?_)
      · replace hB_7 := it_t c_10 hB_7
        cases hB_7
        exact kx_5 _ _ _ hw9 (lv_sub hl9 [] rfl)
      · replace hB_7 := it_f c_10 hB_7
        refine lv_iload_n hx hb dX7_take_17 rfl (lv_at hl9 3 rfl) ?_
        replace hB_7 := ob1_some hB_7
        obtain ⟨T_taken_11, hJ_12, hB_7⟩ := hB_7
        have kj_13 : ∀ (H : Heap) (locs : List Loc) (ls : Array Slot), wS G A s H locs [oX7 aT aD aI aK aO aTi aTp aTt T_chunks T_chunksMade T_openFrom T_lacksSpace, rI aTt cZ 1661 T_taken_11] → lv_has ls 4 [(0, .ref aT), (1, .int p0), (2, .int p1), (3, .int v3_2)] → W p l e rm_X7_take s m args below meth c H locs 0 0 QQ (F0 m 35 ls []) := by
          clear hw9 H9 locs9 hl9 ls9 hJ_12
          intro H18 locs18 ls18 hw18 hl18
          refine lv_iinc (v := (v3_2 + (1 : Int32))) (lv' := [(3, .int (v3_2 + (1 : Int32))), (0, .ref aT), (1, .int p0), (2, .int p1)]) hx hb dX7_take_35 hl18 (k := 3) rfl rfl (by decide) rfl (fun ls19 hl19 => ?_)
          clear hl18 ls18
          refine lv_goto (tgt := 6) hx hb dX7_take_38 (by decide) ?_
          exact ih (v3_2 + (1 : Int32)) T_taken_11 hB_7 _ _ _ hw18 (lv_sub hl19 [1, 2, 3, 0] rfl)
        clear hB_7
        refine lv_if_lt (tgt := 35) hx hb dX7_take_18 (by decide) (fun c_14 => ?_) (fun c_14 => ?_)
        · replace hJ_12 := it_t c_14 hJ_12
          cases hJ_12
          exact kj_13 _ _ _ hw9 (lv_sub hl9 [0, 1, 2, 3] rfl)
        · replace hJ_12 := it_f c_14 hJ_12
          refine lv_iload_n hx hb dX7_take_21 rfl (lv_at hl9 3 rfl) ?_
          refine lv_sipush (v := (1661 : Int32)) hx hb dX7_take_22 (by decide) ?_
          refine lv_icmp_ge (tgt := 35) hx hb dX7_take_25 (by decide) (fun c_15 => ?_) (fun c_15 => ?_)
          · replace hJ_12 := it_t c_15 hJ_12
            cases hJ_12
            exact kj_13 _ _ _ hw9 (lv_sub hl9 [0, 1, 2, 3] rfl)
          · replace hJ_12 := it_f c_15 hJ_12
            refine lv_aload_n hx hb dX7_take_28 rfl (lv_at hl9 0 rfl) ?_
            refine va_get (D := G) (ci := 7) (v := .ref aTt) (C := RX7) (T := TX7) (N := 11) hx hb htc iX7 hown hK hw9.1 0 rfl rfl 6 (by decide) (htc _ mw_191) (fun _ h9 => h9) rfl dX7_take_29 ?_
            refine lv_iload_n hx hb dX7_take_32 rfl (lv_at hl9 3 rfl) ?_
            refine lv_iconst (v := (1 : Int32)) hx hb dX7_take_33 (by decide) ?_
            replace hJ_12 := ckb_some hJ_12
            obtain ⟨hin_16, hJ_12⟩ := hJ_12
            refine va_zast hx hb hK hw9.1 hw9.2.1 hw9.2.2 1 1 rfl rfl hin_16 dX7_take_34 (fun H17 locs17 hP hD hS => ?_)
            have hw17 : wS G A s H17 locs17 [oX7 aT aD aI aK aO aTi aTp aTt T_chunks T_chunksMade T_openFrom T_lacksSpace, rI aTt cZ 1661 (upd T_taken_3 (Int32.toNatClampNeg v3_2) (vp_nar .boolean (1 : Int32)))] := ⟨hP, hD, hS⟩
            clear hP hD hS hw9 H9 locs9
            cases hJ_12
            exact kj_13 _ _ _ hw17 (lv_sub hl9 [0, 1, 2, 3] rfl)
  exact lp_6 NN (p0 - (2435 : Int32)) T_taken hL_4 _ _ _ hw0 (lv_sub hl1 [1, 2, 3, 0] rfl)
abbrev rm_X7_begin : Room := { frames := 2, cells := 0, slots := 0, locals := 43 }
theorem hd_X7_begin : yX7_begin.cls = RX7 ∧ yX7_begin.cls ≠ "java/lang/invoke/MethodHandle" ∧ yX7_begin.cls ≠ "java/lang/invoke/VarHandle" ∧ (parseMethodDescriptor yX7_begin.desc).map (fun d => d.parameters.length) = some 0 := by decide +kernel
set_option maxHeartbeats 4000000 in
set_option maxRecDepth 100000 in
theorem c_X7_begin (l : Launch) (G : va_G) (cI cZ cJ : ClassId) (aD aDc aI aT aK aO aTi aTp aTt aKc : Nat) (D_writesDone : Int32) (D_writesLeft : Int32) (D_down : Int32) (D_cells : Nat → Int32) (T_chunks : Int32) (T_chunksMade : Int32) (T_openFrom : Int32) (T_lacksSpace : Int32) (K_used : Int32) (K_bitsFree : Int32) (K_full : Int32) (K_time : Int32) (K_value : Int32) (K_rise : Int64) (O_first : Int32) (O_last : Int32) (O_points : Int32) (O_least : Int32) (O_greatest : Int32) (O_sum : Int64) (T_taken : Nat → Int32)  {o_T_chunks : Int32} {o_T_chunksMade : Int32} {o_T_lacksSpace : Int32} {o_K_used : Int32} {o_K_bitsFree : Int32} {o_K_full : Int32} {o_O_first : Int32} {o_O_last : Int32} {o_O_points : Int32} {o_O_least : Int32} {o_O_greatest : Int32} {o_O_sum : Int64} {o_T_taken : Nat → Int32} (hfin : m_X7_begin D_cells T_chunks T_chunksMade T_lacksSpace K_used K_bitsFree K_full O_first O_last O_points O_least O_greatest O_sum T_taken = some (o_T_chunks, o_T_chunksMade, o_T_lacksSpace, o_K_used, o_K_bitsFree, o_K_full, o_O_first, o_O_last, o_O_points, o_O_least, o_O_greatest, o_O_sum, o_T_taken)) : CT l yX7_begin cX7_begin 3 none rm_X7_begin G (tyC cI cZ cJ) [.ref aT] [oX2 aD aDc D_writesDone D_writesLeft D_down, rI aDc cI 4096 D_cells, oX3 aI aD, oX7 aT aD aI aK aO aTi aTp aTt T_chunks T_chunksMade T_openFrom T_lacksSpace, oX5 aK aKc K_used K_bitsFree K_full K_time K_value K_rise, oX6 aO O_first O_last O_points O_least O_greatest O_sum, rI aTt cZ 1661 T_taken] none [oX2 aD aDc D_writesDone D_writesLeft D_down, rI aDc cI 4096 D_cells, oX3 aI aD, oX7 aT aD aI aK aO aTi aTp aTt o_T_chunks o_T_chunksMade T_openFrom o_T_lacksSpace, oX5 aK aKc o_K_used o_K_bitsFree o_K_full K_time K_value K_rise, oX6 aO o_O_first o_O_last o_O_points o_O_least o_O_greatest o_O_sum, rI aTt cZ 1661 o_T_taken] := by
  refine CT.ofW (lvl := [(0, .ref aT)]) (by decide) (Nat.le_of_ble_eq_true rfl) rfl ?_
  intro p e s m args below meth c A ls0 QQ hQQ hx hb hml hr hlocks htc hN hown hK hA hw0 hl0
  rw [m_X7_begin] at hfin
  refine lv_aload_n hx hb dX7_begin_0 rfl (lv_at hl0 0 rfl) ?_
  refine va_get (D := G) (ci := 7) (v := .ref aK) (C := RX7) (T := TX7) (N := 11) hx hb htc iX7 hown hK hw0.1 3 rfl rfl 2 (by decide) (htc _ mw_187) (fun _ h9 => h9) rfl dX7_begin_1 ?_
  replace hfin := ob3_some hfin
  obtain ⟨K_used_2, K_bitsFree_3, K_full_4, hE_1, hfin⟩ := hfin
  refine ctV (a := aK) (As := []) (rest := []) (st1 := []) (wc := [oX5 aK aKc K_used K_bitsFree K_full K_time K_value K_rise]) (w1 := [oX5 aK aKc K_used_2 K_bitsFree_3 K_full_4 K_time K_value K_rise]) (wr := [oX2 aD aDc D_writesDone D_writesLeft D_down, rI aDc cI 4096 D_cells, oX3 aI aD, oX7 aT aD aI aK aO aTi aTp aTt T_chunks T_chunksMade T_openFrom T_lacksSpace, oX6 aO O_first O_last O_points O_least O_greatest O_sum, rI aTt cZ 1661 T_taken]) (wb := [oX2 aD aDc D_writesDone D_writesLeft D_down, rI aDc cI 4096 D_cells, oX3 aI aD, oX7 aT aD aI aK aO aTi aTp aTt T_chunks T_chunksMade T_openFrom T_lacksSpace, oX5 aK aKc K_used_2 K_bitsFree_3 K_full_4 K_time K_value K_rise, oX6 aO O_first O_last O_points O_least O_greatest O_sum, rI aTt cZ 1661 T_taken]) (v := none) hx hb hml hown htc hN (c_X5_clear l G cI cZ cJ aK aKc K_used K_bitsFree K_full K_time K_value K_rise  hE_1) mw_424 mw_425 mw_426 mw_8 mw_427 hd_X5_clear ⟨rfl, rfl⟩ ⟨Nat.le_of_ble_eq_true rfl, Nat.le_of_ble_eq_true rfl⟩ hK hw0 hA [4] [0, 1, 2, 3, 5, 6] [0, 1, 2, 3, 6, 4, 5] rfl rfl rfl rfl rfl (by decide) rfl rfl rfl 0 rfl rfl rfl rfl hl0.1 rfl rfl (Nat.le_of_ble_eq_true rfl) dX7_begin_4 ⟨Nat.zero_le _, Nat.zero_le _⟩ (fun H5 locs5 hw5 => ?_)
  clear hw0
  refine lv_aload_n hx hb dX7_begin_7 rfl (lv_at hl0 0 rfl) ?_
  refine va_get (D := G) (ci := 7) (v := .ref aO) (C := RX7) (T := TX7) (N := 11) hx hb htc iX7 hown hK hw5.1 3 rfl rfl 3 (by decide) (htc _ mw_188) (fun _ h9 => h9) rfl dX7_begin_8 ?_
  replace hfin := ob6_some hfin
  obtain ⟨O_first_7, O_last_8, O_points_9, O_least_10, O_greatest_11, O_sum_12, hE_6, hfin⟩ := hfin
  refine ctV (a := aO) (As := []) (rest := []) (st1 := []) (wc := [oX6 aO O_first O_last O_points O_least O_greatest O_sum]) (w1 := [oX6 aO O_first_7 O_last_8 O_points_9 O_least_10 O_greatest_11 O_sum_12]) (wr := [oX2 aD aDc D_writesDone D_writesLeft D_down, rI aDc cI 4096 D_cells, oX3 aI aD, oX7 aT aD aI aK aO aTi aTp aTt T_chunks T_chunksMade T_openFrom T_lacksSpace, oX5 aK aKc K_used_2 K_bitsFree_3 K_full_4 K_time K_value K_rise, rI aTt cZ 1661 T_taken]) (wb := [oX2 aD aDc D_writesDone D_writesLeft D_down, rI aDc cI 4096 D_cells, oX3 aI aD, oX7 aT aD aI aK aO aTi aTp aTt T_chunks T_chunksMade T_openFrom T_lacksSpace, oX5 aK aKc K_used_2 K_bitsFree_3 K_full_4 K_time K_value K_rise, oX6 aO O_first_7 O_last_8 O_points_9 O_least_10 O_greatest_11 O_sum_12, rI aTt cZ 1661 T_taken]) (v := none) hx hb hml hown htc hN (c_X6_clear l G cI cZ cJ aO O_first O_last O_points O_least O_greatest O_sum  hE_6) mw_428 mw_429 mw_430 mw_9 mw_431 hd_X6_clear ⟨rfl, rfl⟩ ⟨Nat.le_of_ble_eq_true rfl, Nat.le_of_ble_eq_true rfl⟩ hK hw5 hA [5] [0, 1, 2, 3, 4, 6] [0, 1, 2, 3, 4, 6, 5] rfl rfl rfl rfl rfl (by decide) rfl rfl rfl 0 rfl rfl rfl rfl hl0.1 rfl rfl (Nat.le_of_ble_eq_true rfl) dX7_begin_11 ⟨Nat.zero_le _, Nat.zero_le _⟩ (fun H13 locs13 hw13 => ?_)
  clear hw5 H5 locs5
  refine lv_aload_n hx hb dX7_begin_14 rfl (lv_at hl0 0 rfl) ?_
  refine lv_iconst (v := (0 : Int32)) hx hb dX7_begin_15 (by decide) ?_
  refine va_put (D := G) (ci := 7) (v := .int (0 : Int32)) (ty := .int) (C := RX7) (T := TX7) (N := 11) hx hb htc iX7 tyX7 tyX7_ok nmX7 hown hK hw13.1 hw13.2.1 hw13.2.2 3 rfl rfl 7 (by decide) (htc _ mw_192) (fun _ h9 => h9) rfl (tyX7_ok 7 (by decide)) rfl rfl (Nat.le_of_ble_eq_true rfl) dX7_begin_16 (fun H14 locs14 hP hD hS => ?_)
  have hw14 : wS G A s H14 locs14 [oX2 aD aDc D_writesDone D_writesLeft D_down, rI aDc cI 4096 D_cells, oX3 aI aD, oX7 aT aD aI aK aO aTi aTp aTt (0 : Int32) T_chunksMade T_openFrom T_lacksSpace, oX5 aK aKc K_used_2 K_bitsFree_3 K_full_4 K_time K_value K_rise, oX6 aO O_first_7 O_last_8 O_points_9 O_least_10 O_greatest_11 O_sum_12, rI aTt cZ 1661 T_taken] := ⟨hP, hD, hS⟩
  clear hP hD hS hw13 H13 locs13
  refine lv_aload_n hx hb dX7_begin_19 rfl (lv_at hl0 0 rfl) ?_
  refine lv_iconst (v := (0 : Int32)) hx hb dX7_begin_20 (by decide) ?_
  refine va_put (D := G) (ci := 7) (v := .int (0 : Int32)) (ty := .int) (C := RX7) (T := TX7) (N := 11) hx hb htc iX7 tyX7 tyX7_ok nmX7 hown hK hw14.1 hw14.2.1 hw14.2.2 3 rfl rfl 8 (by decide) (htc _ mw_193) (fun _ h9 => h9) rfl (tyX7_ok 8 (by decide)) rfl rfl (Nat.le_of_ble_eq_true rfl) dX7_begin_21 (fun H15 locs15 hP hD hS => ?_)
  have hw15 : wS G A s H15 locs15 [oX2 aD aDc D_writesDone D_writesLeft D_down, rI aDc cI 4096 D_cells, oX3 aI aD, oX7 aT aD aI aK aO aTi aTp aTt (0 : Int32) (0 : Int32) T_openFrom T_lacksSpace, oX5 aK aKc K_used_2 K_bitsFree_3 K_full_4 K_time K_value K_rise, oX6 aO O_first_7 O_last_8 O_points_9 O_least_10 O_greatest_11 O_sum_12, rI aTt cZ 1661 T_taken] := ⟨hP, hD, hS⟩
  clear hP hD hS hw14 H14 locs14
  refine lv_aload_n hx hb dX7_begin_24 rfl (lv_at hl0 0 rfl) ?_
  refine lv_iconst (v := (0 : Int32)) hx hb dX7_begin_25 (by decide) ?_
  refine va_put (D := G) (ci := 7) (v := .int (0 : Int32)) (ty := .boolean) (C := RX7) (T := TX7) (N := 11) hx hb htc iX7 tyX7 tyX7_ok nmX7 hown hK hw15.1 hw15.2.1 hw15.2.2 3 rfl rfl 10 (by decide) (htc _ mw_195) (fun _ h9 => h9) rfl (tyX7_ok 10 (by decide)) rfl rfl (Nat.le_of_ble_eq_true rfl) dX7_begin_26 (fun H16 locs16 hP hD hS => ?_)
  have hw16 : wS G A s H16 locs16 [oX2 aD aDc D_writesDone D_writesLeft D_down, rI aDc cI 4096 D_cells, oX3 aI aD, oX7 aT aD aI aK aO aTi aTp aTt (0 : Int32) (0 : Int32) T_openFrom (0 : Int32), oX5 aK aKc K_used_2 K_bitsFree_3 K_full_4 K_time K_value K_rise, oX6 aO O_first_7 O_last_8 O_points_9 O_least_10 O_greatest_11 O_sum_12, rI aTt cZ 1661 T_taken] := ⟨hP, hD, hS⟩
  clear hP hD hS hw15 H15 locs15
  refine lv_iconst (v := (0 : Int32)) hx hb dX7_begin_29 (by decide) ?_
  refine lv_istore_n (lv' := [(1, .int (0 : Int32)), (0, .ref aT)]) hx hb dX7_begin_30 rfl hl0 (by decide) rfl (fun ls17 hl17 => ?_)
  clear hl0 ls0
  replace hfin := ob1_some hfin
  obtain ⟨T_taken_24, hL_20, hfin⟩ := hfin
  have kx_21 : ∀ (H : Heap) (locs : List Loc) (ls : Array Slot), wS G A s H locs [oX2 aD aDc D_writesDone D_writesLeft D_down, rI aDc cI 4096 D_cells, oX3 aI aD, oX7 aT aD aI aK aO aTi aTp aTt (0 : Int32) (0 : Int32) T_openFrom (0 : Int32), oX5 aK aKc K_used_2 K_bitsFree_3 K_full_4 K_time K_value K_rise, oX6 aO O_first_7 O_last_8 O_points_9 O_least_10 O_greatest_11 O_sum_12, rI aTt cZ 1661 T_taken_24] → lv_has ls 3 [(0, .ref aT)] → W p l e rm_X7_begin s m args below meth c H locs 0 0 QQ (F0 m 51 ls []) := by
    clear hw16 H16 locs16 hl17 ls17 hL_20
    intro H30 locs30 ls30 hw30 hl30
    refine lv_aload_n hx hb dX7_begin_51 rfl (lv_at hl30 0 rfl) ?_
    refine va_get (D := G) (ci := 7) (v := .ref aI) (C := RX7) (T := TX7) (N := 11) hx hb htc iX7 hown hK hw30.1 3 rfl rfl 1 (by decide) (htc _ mw_186) (fun _ h9 => h9) rfl dX7_begin_52 ?_
    replace hfin := ob1_some hfin
    obtain ⟨r_32, hE_31, hfin⟩ := hfin
    refine ctV (a := aI) (As := []) (rest := []) (st1 := [.int r_32]) (wc := [oX2 aD aDc D_writesDone D_writesLeft D_down, rI aDc cI 4096 D_cells, oX3 aI aD]) (w1 := [oX2 aD aDc D_writesDone D_writesLeft D_down, rI aDc cI 4096 D_cells, oX3 aI aD]) (wr := [oX7 aT aD aI aK aO aTi aTp aTt (0 : Int32) (0 : Int32) T_openFrom (0 : Int32), oX5 aK aKc K_used_2 K_bitsFree_3 K_full_4 K_time K_value K_rise, oX6 aO O_first_7 O_last_8 O_points_9 O_least_10 O_greatest_11 O_sum_12, rI aTt cZ 1661 T_taken_24]) (wb := [oX2 aD aDc D_writesDone D_writesLeft D_down, rI aDc cI 4096 D_cells, oX3 aI aD, oX7 aT aD aI aK aO aTi aTp aTt (0 : Int32) (0 : Int32) T_openFrom (0 : Int32), oX5 aK aKc K_used_2 K_bitsFree_3 K_full_4 K_time K_value K_rise, oX6 aO O_first_7 O_last_8 O_points_9 O_least_10 O_greatest_11 O_sum_12, rI aTt cZ 1661 T_taken_24]) (v := (some (.int r_32))) hx hb hml hown htc hN (c_X3_chunks l G cI cZ cJ aD aDc aI D_writesDone D_writesLeft D_down D_cells  hE_31) mw_432 mw_379 mw_380 mw_4 mw_381 hd_X3_chunks ⟨rfl, rfl⟩ ⟨Nat.le_of_ble_eq_true rfl, Nat.le_of_ble_eq_true rfl⟩ hK hw30 hA [0, 1, 2] [3, 4, 5, 6] [4, 5, 6, 0, 1, 2, 3] rfl rfl rfl rfl rfl (by decide) rfl rfl rfl 2 rfl rfl rfl rfl hl30.1 rfl rfl (Nat.le_of_ble_eq_true rfl) dX7_begin_55 ⟨Nat.zero_le _, Nat.zero_le _⟩ (fun H33 locs33 hw33 => ?_)
    clear hw30 H30 locs30
    refine lv_istore_n (lv' := [(1, .int r_32), (0, .ref aT)]) hx hb dX7_begin_58 rfl hl30 (by decide) rfl (fun ls34 hl34 => ?_)
    clear hl30 ls30
    refine lv_iconst (v := (0 : Int32)) hx hb dX7_begin_59 (by decide) ?_
    refine lv_istore_n (lv' := [(2, .int (0 : Int32)), (1, .int r_32), (0, .ref aT)]) hx hb dX7_begin_60 rfl hl34 (by decide) rfl (fun ls35 hl35 => ?_)
    clear hl34 ls34
    replace hfin := ob1_some hfin
    obtain ⟨T_taken_42, hL_38, hfin⟩ := hfin
    have kx_39 : ∀ (H : Heap) (locs : List Loc) (ls : Array Slot), wS G A s H locs [oX2 aD aDc D_writesDone D_writesLeft D_down, rI aDc cI 4096 D_cells, oX3 aI aD, oX7 aT aD aI aK aO aTi aTp aTt (0 : Int32) (0 : Int32) T_openFrom (0 : Int32), oX5 aK aKc K_used_2 K_bitsFree_3 K_full_4 K_time K_value K_rise, oX6 aO O_first_7 O_last_8 O_points_9 O_least_10 O_greatest_11 O_sum_12, rI aTt cZ 1661 T_taken_42] → lv_has ls 3 [] → W p l e rm_X7_begin s m args below meth c H locs 0 0 QQ (F0 m 96 ls []) := by
      clear hw33 H33 locs33 hl35 ls35 hL_38
      intro H55 locs55 ls55 hw55 hl55
      cases hfin
      rw [hQQ]
      exact ct_vret hx hb hr hlocks hw55.1 hw55.2.1 hw55.2.2 dX7_begin_96
    have lp_40 : ∀ (n : Nat) (v2_36 : Int32) (T_taken_37 : Nat → Int32), lp_X7_begin_61 D_cells r_32 n v2_36 T_taken_37 = some (T_taken_42) → ∀ (H : Heap) (locs : List Loc) (ls : Array Slot), wS G A s H locs [oX2 aD aDc D_writesDone D_writesLeft D_down, rI aDc cI 4096 D_cells, oX3 aI aD, oX7 aT aD aI aK aO aTi aTp aTt (0 : Int32) (0 : Int32) T_openFrom (0 : Int32), oX5 aK aKc K_used_2 K_bitsFree_3 K_full_4 K_time K_value K_rise, oX6 aO O_first_7 O_last_8 O_points_9 O_least_10 O_greatest_11 O_sum_12, rI aTt cZ 1661 T_taken_37] → lv_has ls 3 [(0, .ref aT), (1, .int r_32), (2, .int v2_36)] → W p l e rm_X7_begin s m args below meth c H locs 0 0 QQ (F0 m 61 ls []) := by
      clear hw33 H33 locs33 hl35 ls35 hfin
      intro n
      induction n with
      | zero =>
        intro v2_36 T_taken_37 hB_41
        exact absurd hB_41 (by rw [lp_X7_begin_61]; exact fun h9 => nomatch h9)
      | succ n ih =>
        intro v2_36 T_taken_37 hB_41 H43 locs43 ls43 hw43 hl43
        rw [lp_X7_begin_61] at hB_41
        refine lv_iload_n hx hb dX7_begin_61 rfl (lv_at hl43 2 rfl) ?_
        refine lv_iload_n hx hb dX7_begin_62 rfl (lv_at hl43 1 rfl) ?_
        refine lv_icmp_ge (tgt := 96) hx hb dX7_begin_63 (by decide) (fun c_44 => ?_) (fun c_44 => ?_)
        · replace hB_41 := it_t c_44 hB_41
          cases hB_41
          exact kx_39 _ _ _ hw43 (lv_sub hl43 [] rfl)
        · replace hB_41 := it_f c_44 hB_41
          refine lv_aload_n hx hb dX7_begin_66 rfl (lv_at hl43 0 rfl) ?_
          refine lv_aload_n hx hb dX7_begin_67 rfl (lv_at hl43 0 rfl) ?_
          refine va_get (D := G) (ci := 7) (v := .ref aI) (C := RX7) (T := TX7) (N := 11) hx hb htc iX7 hown hK hw43.1 3 rfl rfl 1 (by decide) (htc _ mw_186) (fun _ h9 => h9) rfl dX7_begin_68 ?_
          refine lv_iload_n hx hb dX7_begin_71 rfl (lv_at hl43 2 rfl) ?_
          refine lv_bipush (v := (8 : Int32)) hx hb dX7_begin_72 (by decide) ?_
          replace hB_41 := ob1_some hB_41
          obtain ⟨r_46, hE_45, hB_41⟩ := hB_41
          refine ctV (a := aI) (As := [.int v2_36, .int (8 : Int32)]) (rest := [.ref aT]) (st1 := [.int r_46, .ref aT]) (wc := [oX2 aD aDc D_writesDone D_writesLeft D_down, rI aDc cI 4096 D_cells, oX3 aI aD]) (w1 := [oX2 aD aDc D_writesDone D_writesLeft D_down, rI aDc cI 4096 D_cells, oX3 aI aD]) (wr := [oX7 aT aD aI aK aO aTi aTp aTt (0 : Int32) (0 : Int32) T_openFrom (0 : Int32), oX5 aK aKc K_used_2 K_bitsFree_3 K_full_4 K_time K_value K_rise, oX6 aO O_first_7 O_last_8 O_points_9 O_least_10 O_greatest_11 O_sum_12, rI aTt cZ 1661 T_taken_37]) (wb := [oX2 aD aDc D_writesDone D_writesLeft D_down, rI aDc cI 4096 D_cells, oX3 aI aD, oX7 aT aD aI aK aO aTi aTp aTt (0 : Int32) (0 : Int32) T_openFrom (0 : Int32), oX5 aK aKc K_used_2 K_bitsFree_3 K_full_4 K_time K_value K_rise, oX6 aO O_first_7 O_last_8 O_points_9 O_least_10 O_greatest_11 O_sum_12, rI aTt cZ 1661 T_taken_37]) (v := (some (.int r_46))) hx hb hml hown htc hN (c_X3_at l G cI cZ cJ aD aDc aI D_writesDone D_writesLeft D_down D_cells v2_36 (8 : Int32) hE_45) mw_433 mw_391 mw_392 mw_4 mw_393 hd_X3_at ⟨rfl, rfl⟩ ⟨Nat.le_of_ble_eq_true rfl, Nat.le_of_ble_eq_true rfl⟩ hK hw43 hA [0, 1, 2] [3, 4, 5, 6] [4, 5, 6, 0, 1, 2, 3] rfl rfl rfl rfl rfl (by decide) rfl rfl rfl 2 rfl rfl rfl rfl hl43.1 rfl rfl (Nat.le_of_ble_eq_true rfl) dX7_begin_74 ⟨Nat.zero_le _, Nat.zero_le _⟩ (fun H47 locs47 hw47 => ?_)
          clear hw43 H43 locs43
          refine lv_aload_n hx hb dX7_begin_77 rfl (lv_at hl43 0 rfl) ?_
          refine va_get (D := G) (ci := 7) (v := .ref aI) (C := RX7) (T := TX7) (N := 11) hx hb htc iX7 hown hK hw47.1 3 rfl rfl 1 (by decide) (htc _ mw_186) (fun _ h9 => h9) rfl dX7_begin_78 ?_
          refine lv_iload_n hx hb dX7_begin_81 rfl (lv_at hl43 2 rfl) ?_
          refine lv_bipush (v := (9 : Int32)) hx hb dX7_begin_82 (by decide) ?_
          replace hB_41 := ob1_some hB_41
          obtain ⟨r_49, hE_48, hB_41⟩ := hB_41
          refine ctV (a := aI) (As := [.int v2_36, .int (9 : Int32)]) (rest := [.int r_46, .ref aT]) (st1 := [.int r_49, .int r_46, .ref aT]) (wc := [oX2 aD aDc D_writesDone D_writesLeft D_down, rI aDc cI 4096 D_cells, oX3 aI aD]) (w1 := [oX2 aD aDc D_writesDone D_writesLeft D_down, rI aDc cI 4096 D_cells, oX3 aI aD]) (wr := [oX7 aT aD aI aK aO aTi aTp aTt (0 : Int32) (0 : Int32) T_openFrom (0 : Int32), oX5 aK aKc K_used_2 K_bitsFree_3 K_full_4 K_time K_value K_rise, oX6 aO O_first_7 O_last_8 O_points_9 O_least_10 O_greatest_11 O_sum_12, rI aTt cZ 1661 T_taken_37]) (wb := [oX2 aD aDc D_writesDone D_writesLeft D_down, rI aDc cI 4096 D_cells, oX3 aI aD, oX7 aT aD aI aK aO aTi aTp aTt (0 : Int32) (0 : Int32) T_openFrom (0 : Int32), oX5 aK aKc K_used_2 K_bitsFree_3 K_full_4 K_time K_value K_rise, oX6 aO O_first_7 O_last_8 O_points_9 O_least_10 O_greatest_11 O_sum_12, rI aTt cZ 1661 T_taken_37]) (v := (some (.int r_49))) hx hb hml hown htc hN (c_X3_at l G cI cZ cJ aD aDc aI D_writesDone D_writesLeft D_down D_cells v2_36 (9 : Int32) hE_48) mw_433 mw_391 mw_392 mw_4 mw_393 hd_X3_at ⟨rfl, rfl⟩ ⟨Nat.le_of_ble_eq_true rfl, Nat.le_of_ble_eq_true rfl⟩ hK hw47 hA [0, 1, 2] [3, 4, 5, 6] [4, 5, 6, 0, 1, 2, 3] rfl rfl rfl rfl rfl (by decide) rfl rfl rfl 2 rfl rfl rfl rfl hl43.1 rfl rfl (Nat.le_of_ble_eq_true rfl) dX7_begin_84 ⟨Nat.zero_le _, Nat.zero_le _⟩ (fun H50 locs50 hw50 => ?_)
          clear hw47 H47 locs47
          replace hB_41 := ob1_some hB_41
          obtain ⟨T_taken_52, hE_51, hB_41⟩ := hB_41
          refine ctV (a := aT) (As := [.int r_46, .int r_49]) (rest := []) (st1 := []) (wc := [oX7 aT aD aI aK aO aTi aTp aTt (0 : Int32) (0 : Int32) T_openFrom (0 : Int32), rI aTt cZ 1661 T_taken_37]) (w1 := [oX7 aT aD aI aK aO aTi aTp aTt (0 : Int32) (0 : Int32) T_openFrom (0 : Int32), rI aTt cZ 1661 T_taken_52]) (wr := [oX2 aD aDc D_writesDone D_writesLeft D_down, rI aDc cI 4096 D_cells, oX3 aI aD, oX5 aK aKc K_used_2 K_bitsFree_3 K_full_4 K_time K_value K_rise, oX6 aO O_first_7 O_last_8 O_points_9 O_least_10 O_greatest_11 O_sum_12]) (wb := [oX2 aD aDc D_writesDone D_writesLeft D_down, rI aDc cI 4096 D_cells, oX3 aI aD, oX7 aT aD aI aK aO aTi aTp aTt (0 : Int32) (0 : Int32) T_openFrom (0 : Int32), oX5 aK aKc K_used_2 K_bitsFree_3 K_full_4 K_time K_value K_rise, oX6 aO O_first_7 O_last_8 O_points_9 O_least_10 O_greatest_11 O_sum_12, rI aTt cZ 1661 T_taken_52]) (v := none) hx hb hml hown htc hN (c_X7_take l G cI cZ cJ aT aD aI aK aO aTi aTp aTt (0 : Int32) (0 : Int32) T_openFrom (0 : Int32) T_taken_37 r_46 r_49 hE_51) mw_434 mw_436 mp_2 mw_7 mw_437 hd_X7_take ⟨rfl, rfl⟩ ⟨Nat.le_of_ble_eq_true rfl, Nat.le_of_ble_eq_true rfl⟩ hK hw50 hA [3, 6] [0, 1, 2, 4, 5] [0, 1, 2, 5, 3, 4, 6] rfl rfl rfl rfl rfl (by decide) rfl rfl rfl 0 rfl rfl rfl rfl hl43.1 rfl rfl (Nat.le_of_ble_eq_true rfl) dX7_begin_87 ⟨Nat.zero_le _, Nat.zero_le _⟩ (fun H53 locs53 hw53 => ?_)
          clear hw50 H50 locs50
          refine lv_iinc (v := (v2_36 + (1 : Int32))) (lv' := [(2, .int (v2_36 + (1 : Int32))), (0, .ref aT), (1, .int r_32)]) hx hb dX7_begin_90 hl43 (k := 2) rfl rfl (by decide) rfl (fun ls54 hl54 => ?_)
          clear hl43 ls43
          refine lv_goto (tgt := 61) hx hb dX7_begin_93 (by decide) ?_
          exact ih (v2_36 + (1 : Int32)) T_taken_52 hB_41 _ _ _ hw53 (lv_sub hl54 [1, 2, 0] rfl)
    exact lp_40 NN (0 : Int32) T_taken_24 hL_38 _ _ _ hw33 (lv_sub hl35 [2, 1, 0] rfl)
  have lp_22 : ∀ (n : Nat) (v1_18 : Int32) (T_taken_19 : Nat → Int32), lp_X7_begin_31 n v1_18 T_taken_19 = some (T_taken_24) → ∀ (H : Heap) (locs : List Loc) (ls : Array Slot), wS G A s H locs [oX2 aD aDc D_writesDone D_writesLeft D_down, rI aDc cI 4096 D_cells, oX3 aI aD, oX7 aT aD aI aK aO aTi aTp aTt (0 : Int32) (0 : Int32) T_openFrom (0 : Int32), oX5 aK aKc K_used_2 K_bitsFree_3 K_full_4 K_time K_value K_rise, oX6 aO O_first_7 O_last_8 O_points_9 O_least_10 O_greatest_11 O_sum_12, rI aTt cZ 1661 T_taken_19] → lv_has ls 3 [(0, .ref aT), (1, .int v1_18)] → W p l e rm_X7_begin s m args below meth c H locs 0 0 QQ (F0 m 31 ls []) := by
    clear hw16 H16 locs16 hl17 ls17 hfin
    intro n
    induction n with
    | zero =>
      intro v1_18 T_taken_19 hB_23
      exact absurd hB_23 (by rw [lp_X7_begin_31]; exact fun h9 => nomatch h9)
    | succ n ih =>
      intro v1_18 T_taken_19 hB_23 H25 locs25 ls25 hw25 hl25
      rw [lp_X7_begin_31] at hB_23
      refine lv_iload_n hx hb dX7_begin_31 rfl (lv_at hl25 1 rfl) ?_
      refine lv_sipush (v := (1661 : Int32)) hx hb dX7_begin_32 (by decide) ?_
      refine lv_icmp_ge (tgt := 51) hx hb dX7_begin_35 (by decide) (fun c_26 => ?_) (fun c_26 => ?_)
      · replace hB_23 := it_t c_26 hB_23
        cases hB_23
        exact kx_21 _ _ _ hw25 (lv_sub hl25 [0] rfl)
      · replace hB_23 := it_f c_26 hB_23
        refine lv_aload_n hx hb dX7_begin_38 rfl (lv_at hl25 0 rfl) ?_
        refine va_get (D := G) (ci := 7) (v := .ref aTt) (C := RX7) (T := TX7) (N := 11) hx hb htc iX7 hown hK hw25.1 3 rfl rfl 6 (by decide) (htc _ mw_191) (fun _ h9 => h9) rfl dX7_begin_39 ?_
        refine lv_iload_n hx hb dX7_begin_42 rfl (lv_at hl25 1 rfl) ?_
        refine lv_iconst (v := (0 : Int32)) hx hb dX7_begin_43 (by decide) ?_
        replace hB_23 := ckb_some hB_23
        obtain ⟨hin_27, hB_23⟩ := hB_23
        refine va_zast hx hb hK hw25.1 hw25.2.1 hw25.2.2 6 1 rfl rfl hin_27 dX7_begin_44 (fun H28 locs28 hP hD hS => ?_)
        have hw28 : wS G A s H28 locs28 [oX2 aD aDc D_writesDone D_writesLeft D_down, rI aDc cI 4096 D_cells, oX3 aI aD, oX7 aT aD aI aK aO aTi aTp aTt (0 : Int32) (0 : Int32) T_openFrom (0 : Int32), oX5 aK aKc K_used_2 K_bitsFree_3 K_full_4 K_time K_value K_rise, oX6 aO O_first_7 O_last_8 O_points_9 O_least_10 O_greatest_11 O_sum_12, rI aTt cZ 1661 (upd T_taken_19 (Int32.toNatClampNeg v1_18) (vp_nar .boolean (0 : Int32)))] := ⟨hP, hD, hS⟩
        clear hP hD hS hw25 H25 locs25
        refine lv_iinc (v := (v1_18 + (1 : Int32))) (lv' := [(1, .int (v1_18 + (1 : Int32))), (0, .ref aT)]) hx hb dX7_begin_45 hl25 (k := 1) rfl rfl (by decide) rfl (fun ls29 hl29 => ?_)
        clear hl25 ls25
        refine lv_goto (tgt := 31) hx hb dX7_begin_48 (by decide) ?_
        exact ih (v1_18 + (1 : Int32)) (upd T_taken_19 (Int32.toNatClampNeg v1_18) (vp_nar .boolean (0 : Int32))) hB_23 _ _ _ hw28 (lv_sub hl29 [1, 0] rfl)
  exact lp_22 NN (0 : Int32) T_taken hL_20 _ _ _ hw16 (lv_sub hl17 [1, 0] rfl)
abbrev rm_X7_keep : Room := { frames := 2, cells := 0, slots := 0, locals := 43 }
theorem hd_X7_keep : yX7_keep.cls = RX7 ∧ yX7_keep.cls ≠ "java/lang/invoke/MethodHandle" ∧ yX7_keep.cls ≠ "java/lang/invoke/VarHandle" ∧ (parseMethodDescriptor yX7_keep.desc).map (fun d => d.parameters.length) = some 1 := by decide +kernel
set_option maxHeartbeats 4000000 in
set_option maxRecDepth 100000 in
theorem c_X7_keep (l : Launch) (G : va_G) (cI cZ cJ : ClassId) (aD aDc aI aT aK aO aTi aTp aTt : Nat) (D_writesDone : Int32) (D_writesLeft : Int32) (D_down : Int32) (D_cells : Nat → Int32) (T_chunks : Int32) (T_chunksMade : Int32) (T_openFrom : Int32) (T_lacksSpace : Int32) (T_image : Nat → Int32) (T_packedFrom : Nat → Int32) (p0 : Int32) {o_T_chunks : Int32} {o_T_lacksSpace : Int32} {o_T_image : Nat → Int32} {o_T_packedFrom : Nat → Int32} (hfin : m_X7_keep D_cells T_chunks T_lacksSpace T_image T_packedFrom p0 = some (o_T_chunks, o_T_lacksSpace, o_T_image, o_T_packedFrom)) : CT l yX7_keep cX7_keep 3 none rm_X7_keep G (tyC cI cZ cJ) [.ref aT, .int p0] [oX2 aD aDc D_writesDone D_writesLeft D_down, rI aDc cI 4096 D_cells, oX3 aI aD, oX7 aT aD aI aK aO aTi aTp aTt T_chunks T_chunksMade T_openFrom T_lacksSpace, rI aTi cI 961 T_image, rI aTp cI 96 T_packedFrom] none [oX2 aD aDc D_writesDone D_writesLeft D_down, rI aDc cI 4096 D_cells, oX3 aI aD, oX7 aT aD aI aK aO aTi aTp aTt o_T_chunks T_chunksMade T_openFrom o_T_lacksSpace, rI aTi cI 961 o_T_image, rI aTp cI 96 o_T_packedFrom] := by
  refine CT.ofW (lvl := [(0, .ref aT), (1, .int p0)]) (by decide) (Nat.le_of_ble_eq_true rfl) rfl ?_
  intro p e s m args below meth c A ls0 QQ hQQ hx hb hml hr hlocks htc hN hown hK hA hw0 hl0
  rw [m_X7_keep] at hfin
  refine lv_aload_n hx hb dX7_keep_0 rfl (lv_at hl0 0 rfl) ?_
  refine va_get (D := G) (ci := 7) (v := .int T_chunks) (C := RX7) (T := TX7) (N := 11) hx hb htc iX7 hown hK hw0.1 3 rfl rfl 7 (by decide) (htc _ mw_192) (fun _ h9 => h9) rfl dX7_keep_1 ?_
  refine lv_bipush (v := (96 : Int32)) hx hb dX7_keep_4 (by decide) ?_
  refine lv_icmp_lt (tgt := 15) hx hb dX7_keep_6 (by decide) (fun c_1 => ?_) (fun c_1 => ?_)
  · replace hfin := it_t c_1 hfin
    refine lv_iconst (v := (0 : Int32)) hx hb dX7_keep_15 (by decide) ?_
    refine lv_istore_n (lv' := [(2, .int (0 : Int32)), (0, .ref aT), (1, .int p0)]) hx hb dX7_keep_16 rfl hl0 (by decide) rfl (fun ls2 hl2 => ?_)
    clear hl0 ls0
    replace hfin := ob1_some hfin
    obtain ⟨T_image_9, hL_5, hfin⟩ := hfin
    have kx_6 : ∀ (H : Heap) (locs : List Loc) (ls : Array Slot), wS G A s H locs [oX2 aD aDc D_writesDone D_writesLeft D_down, rI aDc cI 4096 D_cells, oX3 aI aD, oX7 aT aD aI aK aO aTi aTp aTt T_chunks T_chunksMade T_openFrom T_lacksSpace, rI aTi cI 961 T_image_9, rI aTp cI 96 T_packedFrom] → lv_has ls 3 [(0, .ref aT)] → W p l e rm_X7_keep s m args below meth c H locs 0 0 QQ (F0 m 54 ls []) := by
      clear hw0 hl2 ls2 hL_5
      intro H18 locs18 ls18 hw18 hl18
      refine lv_aload_n hx hb dX7_keep_54 rfl (lv_at hl18 0 rfl) ?_
      refine va_get (D := G) (ci := 7) (v := .ref aTp) (C := RX7) (T := TX7) (N := 11) hx hb htc iX7 hown hK hw18.1 3 rfl rfl 5 (by decide) (htc _ mw_190) (fun _ h9 => h9) rfl dX7_keep_55 ?_
      refine lv_aload_n hx hb dX7_keep_58 rfl (lv_at hl18 0 rfl) ?_
      refine va_get (D := G) (ci := 7) (v := .int T_chunks) (C := RX7) (T := TX7) (N := 11) hx hb htc iX7 hown hK hw18.1 3 rfl rfl 7 (by decide) (htc _ mw_192) (fun _ h9 => h9) rfl dX7_keep_59 ?_
      refine lv_iconst (v := (-1 : Int32)) hx hb dX7_keep_62 (by decide) ?_
      replace hfin := ckb_some hfin
      obtain ⟨hin_19, hfin⟩ := hfin
      refine va_iast hx hb hK hw18.1 hw18.2.1 hw18.2.2 5 0 rfl rfl hin_19 dX7_keep_63 (fun H20 locs20 hP hD hS => ?_)
      have hw20 : wS G A s H20 locs20 [oX2 aD aDc D_writesDone D_writesLeft D_down, rI aDc cI 4096 D_cells, oX3 aI aD, oX7 aT aD aI aK aO aTi aTp aTt T_chunks T_chunksMade T_openFrom T_lacksSpace, rI aTi cI 961 T_image_9, rI aTp cI 96 (upd T_packedFrom (Int32.toNatClampNeg T_chunks) (-1 : Int32))] := ⟨hP, hD, hS⟩
      clear hP hD hS hw18 H18 locs18
      refine lv_aload_n hx hb dX7_keep_64 rfl (lv_at hl18 0 rfl) ?_
      refine lv_dup hx hb dX7_keep_65 rfl ?_
      refine va_get (D := G) (ci := 7) (v := .int T_chunks) (C := RX7) (T := TX7) (N := 11) hx hb htc iX7 hown hK hw20.1 3 rfl rfl 7 (by decide) (htc _ mw_192) (fun _ h9 => h9) rfl dX7_keep_66 ?_
      refine lv_iconst (v := (1 : Int32)) hx hb dX7_keep_69 (by decide) ?_
      refine lv_iadd hx hb dX7_keep_70 ?_
      refine va_put (D := G) (ci := 7) (v := .int (T_chunks + (1 : Int32))) (ty := .int) (C := RX7) (T := TX7) (N := 11) hx hb htc iX7 tyX7 tyX7_ok nmX7 hown hK hw20.1 hw20.2.1 hw20.2.2 3 rfl rfl 7 (by decide) (htc _ mw_192) (fun _ h9 => h9) rfl (tyX7_ok 7 (by decide)) rfl rfl (Nat.le_of_ble_eq_true rfl) dX7_keep_71 (fun H21 locs21 hP hD hS => ?_)
      have hw21 : wS G A s H21 locs21 [oX2 aD aDc D_writesDone D_writesLeft D_down, rI aDc cI 4096 D_cells, oX3 aI aD, oX7 aT aD aI aK aO aTi aTp aTt (T_chunks + (1 : Int32)) T_chunksMade T_openFrom T_lacksSpace, rI aTi cI 961 T_image_9, rI aTp cI 96 (upd T_packedFrom (Int32.toNatClampNeg T_chunks) (-1 : Int32))] := ⟨hP, hD, hS⟩
      clear hP hD hS hw20 H20 locs20
      cases hfin
      rw [hQQ]
      exact ct_vret hx hb hr hlocks hw21.1 hw21.2.1 hw21.2.2 dX7_keep_74
    have lp_7 : ∀ (n : Nat) (v2_3 : Int32) (T_image_4 : Nat → Int32), lp_X7_keep_17 D_cells T_chunks p0 n v2_3 T_image_4 = some (T_image_9) → ∀ (H : Heap) (locs : List Loc) (ls : Array Slot), wS G A s H locs [oX2 aD aDc D_writesDone D_writesLeft D_down, rI aDc cI 4096 D_cells, oX3 aI aD, oX7 aT aD aI aK aO aTi aTp aTt T_chunks T_chunksMade T_openFrom T_lacksSpace, rI aTi cI 961 T_image_4, rI aTp cI 96 T_packedFrom] → lv_has ls 3 [(0, .ref aT), (1, .int p0), (2, .int v2_3)] → W p l e rm_X7_keep s m args below meth c H locs 0 0 QQ (F0 m 17 ls []) := by
      clear hw0 hl2 ls2 hfin
      intro n
      induction n with
      | zero =>
        intro v2_3 T_image_4 hB_8
        exact absurd hB_8 (by rw [lp_X7_keep_17]; exact fun h9 => nomatch h9)
      | succ n ih =>
        intro v2_3 T_image_4 hB_8 H10 locs10 ls10 hw10 hl10
        rw [lp_X7_keep_17] at hB_8
        refine lv_iload_n hx hb dX7_keep_17 rfl (lv_at hl10 2 rfl) ?_
        refine lv_bipush (v := (10 : Int32)) hx hb dX7_keep_18 (by decide) ?_
        refine lv_icmp_ge (tgt := 54) hx hb dX7_keep_20 (by decide) (fun c_11 => ?_) (fun c_11 => ?_)
        · replace hB_8 := it_t c_11 hB_8
          cases hB_8
          exact kx_6 _ _ _ hw10 (lv_sub hl10 [0] rfl)
        · replace hB_8 := it_f c_11 hB_8
          refine lv_aload_n hx hb dX7_keep_23 rfl (lv_at hl10 0 rfl) ?_
          refine va_get (D := G) (ci := 7) (v := .ref aTi) (C := RX7) (T := TX7) (N := 11) hx hb htc iX7 hown hK hw10.1 3 rfl rfl 4 (by decide) (htc _ mw_189) (fun _ h9 => h9) rfl dX7_keep_24 ?_
          refine lv_iconst (v := (1 : Int32)) hx hb dX7_keep_27 (by decide) ?_
          refine lv_aload_n hx hb dX7_keep_28 rfl (lv_at hl10 0 rfl) ?_
          refine va_get (D := G) (ci := 7) (v := .int T_chunks) (C := RX7) (T := TX7) (N := 11) hx hb htc iX7 hown hK hw10.1 3 rfl rfl 7 (by decide) (htc _ mw_192) (fun _ h9 => h9) rfl dX7_keep_29 ?_
          refine lv_bipush (v := (10 : Int32)) hx hb dX7_keep_32 (by decide) ?_
          refine lv_imul hx hb dX7_keep_34 ?_
          refine lv_iadd hx hb dX7_keep_35 ?_
          refine lv_iload_n hx hb dX7_keep_36 rfl (lv_at hl10 2 rfl) ?_
          refine lv_iadd hx hb dX7_keep_37 ?_
          refine lv_aload_n hx hb dX7_keep_38 rfl (lv_at hl10 0 rfl) ?_
          refine va_get (D := G) (ci := 7) (v := .ref aI) (C := RX7) (T := TX7) (N := 11) hx hb htc iX7 hown hK hw10.1 3 rfl rfl 1 (by decide) (htc _ mw_186) (fun _ h9 => h9) rfl dX7_keep_39 ?_
          refine lv_iload_n hx hb dX7_keep_42 rfl (lv_at hl10 1 rfl) ?_
          refine lv_iload_n hx hb dX7_keep_43 rfl (lv_at hl10 2 rfl) ?_
          replace hB_8 := ob1_some hB_8
          obtain ⟨r_13, hE_12, hB_8⟩ := hB_8
          refine ctV (a := aI) (As := [.int p0, .int v2_3]) (rest := [.int (((1 : Int32) + (T_chunks * (10 : Int32))) + v2_3), .ref aTi]) (st1 := [.int r_13, .int (((1 : Int32) + (T_chunks * (10 : Int32))) + v2_3), .ref aTi]) (wc := [oX2 aD aDc D_writesDone D_writesLeft D_down, rI aDc cI 4096 D_cells, oX3 aI aD]) (w1 := [oX2 aD aDc D_writesDone D_writesLeft D_down, rI aDc cI 4096 D_cells, oX3 aI aD]) (wr := [oX7 aT aD aI aK aO aTi aTp aTt T_chunks T_chunksMade T_openFrom T_lacksSpace, rI aTi cI 961 T_image_4, rI aTp cI 96 T_packedFrom]) (wb := [oX2 aD aDc D_writesDone D_writesLeft D_down, rI aDc cI 4096 D_cells, oX3 aI aD, oX7 aT aD aI aK aO aTi aTp aTt T_chunks T_chunksMade T_openFrom T_lacksSpace, rI aTi cI 961 T_image_4, rI aTp cI 96 T_packedFrom]) (v := (some (.int r_13))) hx hb hml hown htc hN (c_X3_at l G cI cZ cJ aD aDc aI D_writesDone D_writesLeft D_down D_cells p0 v2_3 hE_12) mw_433 mw_391 mw_392 mw_4 mw_393 hd_X3_at ⟨rfl, rfl⟩ ⟨Nat.le_of_ble_eq_true rfl, Nat.le_of_ble_eq_true rfl⟩ hK hw10 hA [0, 1, 2] [3, 4, 5] [3, 4, 5, 0, 1, 2] rfl rfl rfl rfl rfl (by decide) rfl rfl rfl 2 rfl rfl rfl rfl hl10.1 rfl rfl (Nat.le_of_ble_eq_true rfl) dX7_keep_44 ⟨Nat.zero_le _, Nat.zero_le _⟩ (fun H14 locs14 hw14 => ?_)
          clear hw10 H10 locs10
          replace hB_8 := ckb_some hB_8
          obtain ⟨hin_15, hB_8⟩ := hB_8
          refine va_iast hx hb hK hw14.1 hw14.2.1 hw14.2.2 4 0 rfl rfl hin_15 dX7_keep_47 (fun H16 locs16 hP hD hS => ?_)
          have hw16 : wS G A s H16 locs16 [oX2 aD aDc D_writesDone D_writesLeft D_down, rI aDc cI 4096 D_cells, oX3 aI aD, oX7 aT aD aI aK aO aTi aTp aTt T_chunks T_chunksMade T_openFrom T_lacksSpace, rI aTi cI 961 (upd T_image_4 (Int32.toNatClampNeg (((1 : Int32) + (T_chunks * (10 : Int32))) + v2_3)) r_13), rI aTp cI 96 T_packedFrom] := ⟨hP, hD, hS⟩
          clear hP hD hS hw14 H14 locs14
          refine lv_iinc (v := (v2_3 + (1 : Int32))) (lv' := [(2, .int (v2_3 + (1 : Int32))), (0, .ref aT), (1, .int p0)]) hx hb dX7_keep_48 hl10 (k := 2) rfl rfl (by decide) rfl (fun ls17 hl17 => ?_)
          clear hl10 ls10
          refine lv_goto (tgt := 17) hx hb dX7_keep_51 (by decide) ?_
          exact ih (v2_3 + (1 : Int32)) (upd T_image_4 (Int32.toNatClampNeg (((1 : Int32) + (T_chunks * (10 : Int32))) + v2_3)) r_13) hB_8 _ _ _ hw16 (lv_sub hl17 [1, 2, 0] rfl)
    exact lp_7 NN (0 : Int32) T_image hL_5 _ _ _ hw0 (lv_sub hl2 [1, 2, 0] rfl)
  · replace hfin := it_f c_1 hfin
    refine lv_aload_n hx hb dX7_keep_9 rfl (lv_at hl0 0 rfl) ?_
    refine lv_iconst (v := (1 : Int32)) hx hb dX7_keep_10 (by decide) ?_
    refine va_put (D := G) (ci := 7) (v := .int (1 : Int32)) (ty := .boolean) (C := RX7) (T := TX7) (N := 11) hx hb htc iX7 tyX7 tyX7_ok nmX7 hown hK hw0.1 hw0.2.1 hw0.2.2 3 rfl rfl 10 (by decide) (htc _ mw_195) (fun _ h9 => h9) rfl (tyX7_ok 10 (by decide)) rfl rfl (Nat.le_of_ble_eq_true rfl) dX7_keep_11 (fun H22 locs22 hP hD hS => ?_)
    have hw22 : wS G A s H22 locs22 [oX2 aD aDc D_writesDone D_writesLeft D_down, rI aDc cI 4096 D_cells, oX3 aI aD, oX7 aT aD aI aK aO aTi aTp aTt T_chunks T_chunksMade T_openFrom (1 : Int32), rI aTi cI 961 T_image, rI aTp cI 96 T_packedFrom] := ⟨hP, hD, hS⟩
    clear hP hD hS hw0
    cases hfin
    rw [hQQ]
    exact ct_vret hx hb hr hlocks hw22.1 hw22.2.1 hw22.2.2 dX7_keep_14
abbrev rm_X7_pointsOpen : Room := { frames := 0, cells := 0, slots := 0, locals := 0 }
theorem hd_X7_pointsOpen : yX7_pointsOpen.cls = RX7 ∧ yX7_pointsOpen.cls ≠ "java/lang/invoke/MethodHandle" ∧ yX7_pointsOpen.cls ≠ "java/lang/invoke/VarHandle" ∧ (parseMethodDescriptor yX7_pointsOpen.desc).map (fun d => d.parameters.length) = some 0 := by decide +kernel
set_option maxHeartbeats 4000000 in
set_option maxRecDepth 100000 in
theorem c_X7_pointsOpen (l : Launch) (G : va_G) (cI cZ cJ : ClassId) (aT aD aI aK aO aTi aTp aTt : Nat) (T_chunks : Int32) (T_chunksMade : Int32) (T_openFrom : Int32) (T_lacksSpace : Int32) (O_first : Int32) (O_last : Int32) (O_points : Int32) (O_least : Int32) (O_greatest : Int32) (O_sum : Int64)  {r : Int32} (hfin : m_X7_pointsOpen O_points = some (r)) : CT l yX7_pointsOpen cX7_pointsOpen 1 (some .int) rm_X7_pointsOpen G (tyC cI cZ cJ) [.ref aT] [oX7 aT aD aI aK aO aTi aTp aTt T_chunks T_chunksMade T_openFrom T_lacksSpace, oX6 aO O_first O_last O_points O_least O_greatest O_sum] (some (.int r)) [oX7 aT aD aI aK aO aTi aTp aTt T_chunks T_chunksMade T_openFrom T_lacksSpace, oX6 aO O_first O_last O_points O_least O_greatest O_sum] := by
  refine CT.ofW (lvl := [(0, .ref aT)]) (by decide) (Nat.le_of_ble_eq_true rfl) rfl ?_
  intro p e s m args below meth c A ls0 QQ hQQ hx hb hml hr hlocks htc hN hown hK hA hw0 hl0
  rw [m_X7_pointsOpen] at hfin
  refine lv_aload_n hx hb dX7_pointsOpen_0 rfl (lv_at hl0 0 rfl) ?_
  refine va_get (D := G) (ci := 7) (v := .ref aO) (C := RX7) (T := TX7) (N := 11) hx hb htc iX7 hown hK hw0.1 0 rfl rfl 3 (by decide) (htc _ mw_188) (fun _ h9 => h9) rfl dX7_pointsOpen_1 ?_
  refine va_getN (D := G) (ci := 6) (v := .int O_points) (C := RX6) (T := TX6) (N := 6) hx hb htc iX6 hown hK hw0.1 1 rfl rfl 2 (by decide) (va_Nw.use rfl (hN _ mn_13)) (fun _ h9 => h9) rfl dX7_pointsOpen_4 ?_
  cases hfin
  rw [hQQ]
  exact ct_iret hx hb hr hlocks hw0.1 hw0.2.1 hw0.2.2 dX7_pointsOpen_7
abbrev rm_X7_findPlace : Room := { frames := 0, cells := 0, slots := 0, locals := 0 }
theorem hd_X7_findPlace : yX7_findPlace.cls = RX7 ∧ yX7_findPlace.cls ≠ "java/lang/invoke/MethodHandle" ∧ yX7_findPlace.cls ≠ "java/lang/invoke/VarHandle" ∧ (parseMethodDescriptor yX7_findPlace.desc).map (fun d => d.parameters.length) = some 1 := by decide +kernel
set_option maxHeartbeats 4000000 in
set_option maxRecDepth 100000 in
theorem c_X7_findPlace (l : Launch) (G : va_G) (cI cZ cJ : ClassId) (aT aD aI aK aO aTi aTp aTt : Nat) (T_chunks : Int32) (T_chunksMade : Int32) (T_openFrom : Int32) (T_lacksSpace : Int32) (T_taken : Nat → Int32) (p0 : Int32) {r : Int32} (hfin : m_X7_findPlace T_taken p0 = some (r)) : CT l yX7_findPlace cX7_findPlace 4 (some .int) rm_X7_findPlace G (tyC cI cZ cJ) [.ref aT, .int p0] [oX7 aT aD aI aK aO aTi aTp aTt T_chunks T_chunksMade T_openFrom T_lacksSpace, rI aTt cZ 1661 T_taken] (some (.int r)) [oX7 aT aD aI aK aO aTi aTp aTt T_chunks T_chunksMade T_openFrom T_lacksSpace, rI aTt cZ 1661 T_taken] := by
  refine CT.ofW (lvl := [(0, .ref aT), (1, .int p0)]) (by decide) (Nat.le_of_ble_eq_true rfl) rfl ?_
  intro p e s m args below meth c A ls0 QQ hQQ hx hb hml hr hlocks htc hN hown hK hA hw0 hl0
  rw [m_X7_findPlace] at hfin
  refine lv_iconst (v := (0 : Int32)) hx hb dX7_findPlace_0 (by decide) ?_
  refine lv_istore_n (lv' := [(2, .int (0 : Int32)), (0, .ref aT), (1, .int p0)]) hx hb dX7_findPlace_1 rfl hl0 (by decide) rfl (fun ls1 hl1 => ?_)
  clear hl0 ls0
  refine lv_iconst (v := (0 : Int32)) hx hb dX7_findPlace_2 (by decide) ?_
  refine lv_istore_n (lv' := [(3, .int (0 : Int32)), (2, .int (0 : Int32)), (0, .ref aT), (1, .int p0)]) hx hb dX7_findPlace_3 rfl hl1 (by decide) rfl (fun ls2 hl2 => ?_)
  clear hl1 ls1
  have lp_7 : ∀ (n : Nat) (v2_3 : Int32) (v3_4 : Int32), lp_X7_findPlace_4 T_taken p0 n v2_3 v3_4 = some (r) → ∀ (H : Heap) (locs : List Loc) (ls : Array Slot), wS G A s H locs [oX7 aT aD aI aK aO aTi aTp aTt T_chunks T_chunksMade T_openFrom T_lacksSpace, rI aTt cZ 1661 T_taken] → lv_has ls 4 [(0, .ref aT), (1, .int p0), (2, .int v2_3), (3, .int v3_4)] → W p l e rm_X7_findPlace s m args below meth c H locs 0 0 QQ (F0 m 4 ls []) := by
    clear hw0 hl2 ls2 hfin
    intro n
    induction n with
    | zero =>
      intro v2_3 v3_4 hB_8
      exact absurd hB_8 (by rw [lp_X7_findPlace_4]; exact fun h9 => nomatch h9)
    | succ n ih =>
      intro v2_3 v3_4 hB_8 H9 locs9 ls9 hw9 hl9
      rw [lp_X7_findPlace_4] at hB_8
      refine lv_iload_n hx hb dX7_findPlace_4 rfl (lv_at hl9 3 rfl) ?_
      refine lv_sipush (v := (1661 : Int32)) hx hb dX7_findPlace_5 (by decide) ?_
      refine lv_icmp_ge (tgt := 49) hx hb dX7_findPlace_8 (by decide) (fun c_10 => ?_) (fun c_10 => ?_)
      · replace hB_8 := it_t c_10 hB_8
        refine lv_iconst (v := (-1 : Int32)) hx hb dX7_findPlace_49 (by decide) ?_
        cases hB_8
        rw [hQQ]
        exact ct_iret hx hb hr hlocks hw9.1 hw9.2.1 hw9.2.2 dX7_findPlace_50
      · replace hB_8 := it_f c_10 hB_8
        refine lv_aload_n hx hb dX7_findPlace_11 rfl (lv_at hl9 0 rfl) ?_
        refine va_get (D := G) (ci := 7) (v := .ref aTt) (C := RX7) (T := TX7) (N := 11) hx hb htc iX7 hown hK hw9.1 0 rfl rfl 6 (by decide) (htc _ mw_191) (fun _ h9 => h9) rfl dX7_findPlace_12 ?_
        refine lv_iload_n hx hb dX7_findPlace_15 rfl (lv_at hl9 3 rfl) ?_
        replace hB_8 := ckb_some hB_8
        obtain ⟨hin_11, hB_8⟩ := hB_8
        refine va_zald hx hb hK hw9.1 1 1 rfl rfl hin_11 dX7_findPlace_16 ?_
        replace hB_8 := ob1_some hB_8
        obtain ⟨s_12, hJ_13, hB_8⟩ := hB_8
        have kj_14 : ∀ (H : Heap) (locs : List Loc) (ls : Array Slot), wS G A s H locs [oX7 aT aD aI aK aO aTi aTp aTt T_chunks T_chunksMade T_openFrom T_lacksSpace, rI aTt cZ 1661 T_taken] → lv_has ls 4 [(0, .ref aT), (1, .int p0), (3, .int v3_4)] → W p l e rm_X7_findPlace s m args below meth c H locs 0 0 QQ (F0 m 27 ls [.int s_12]) := by
          clear hw9 H9 locs9 hl9 ls9 hJ_13
          intro H16 locs16 ls16 hw16 hl16
          refine lv_istore_n (lv' := [(2, .int s_12), (0, .ref aT), (1, .int p0), (3, .int v3_4)]) hx hb dX7_findPlace_27 rfl hl16 (by decide) rfl (fun ls17 hl17 => ?_)
          clear hl16 ls16
          refine lv_iload_n hx hb dX7_findPlace_28 rfl (lv_at hl17 0 rfl) ?_
          refine lv_iload_n hx hb dX7_findPlace_29 rfl (lv_at hl17 2 rfl) ?_
          refine lv_icmp_ne (tgt := 43) hx hb dX7_findPlace_30 (by decide) (fun c_18 => ?_) (fun c_18 => ?_)
          · replace hB_8 := it_f c_18 hB_8
            refine lv_iinc (v := (v3_4 + (1 : Int32))) (lv' := [(3, .int (v3_4 + (1 : Int32))), (2, .int s_12), (0, .ref aT), (1, .int p0)]) hx hb dX7_findPlace_43 hl17 (k := 3) rfl rfl (by decide) rfl (fun ls19 hl19 => ?_)
            clear hl17 ls17
            refine lv_goto (tgt := 4) hx hb dX7_findPlace_46 (by decide) ?_
            exact ih s_12 (v3_4 + (1 : Int32)) hB_8 _ _ _ hw16 (lv_sub hl19 [2, 3, 1, 0] rfl)
          · replace hB_8 := it_t c_18 hB_8
            refine lv_sipush (v := (2435 : Int32)) hx hb dX7_findPlace_33 (by decide) ?_
            refine lv_iload_n hx hb dX7_findPlace_36 rfl (lv_at hl17 3 rfl) ?_
            refine lv_iadd hx hb dX7_findPlace_37 ?_
            refine lv_iconst (v := (1 : Int32)) hx hb dX7_findPlace_38 (by decide) ?_
            refine lv_iadd hx hb dX7_findPlace_39 ?_
            refine lv_iload_n hx hb dX7_findPlace_40 rfl (lv_at hl17 2 rfl) ?_
            refine lv_isub hx hb dX7_findPlace_41 ?_
            cases hB_8
            rw [hQQ]
            exact ct_iret hx hb hr hlocks hw16.1 hw16.2.1 hw16.2.2 dX7_findPlace_42
        clear hB_8
        refine lv_if_eq (tgt := 24) hx hb dX7_findPlace_17 (by decide) (fun c_15 => ?_) (fun c_15 => ?_)
        · replace hJ_13 := it_t c_15 hJ_13
          refine lv_iload_n hx hb dX7_findPlace_24 rfl (lv_at hl9 2 rfl) ?_
          refine lv_iconst (v := (1 : Int32)) hx hb dX7_findPlace_25 (by decide) ?_
          refine lv_iadd hx hb dX7_findPlace_26 ?_
          cases hJ_13
          exact kj_14 _ _ _ hw9 (lv_sub hl9 [0, 1, 3] rfl)
        · replace hJ_13 := it_f c_15 hJ_13
          refine lv_iconst (v := (0 : Int32)) hx hb dX7_findPlace_20 (by decide) ?_
          refine lv_goto (tgt := 27) hx hb dX7_findPlace_21 (by decide) ?_
          cases hJ_13
          exact kj_14 _ _ _ hw9 (lv_sub hl9 [0, 1, 3] rfl)
  exact lp_7 NN (0 : Int32) (0 : Int32) hfin _ _ _ hw0 (lv_sub hl2 [2, 3, 1, 0] rfl)
abbrev rm_X7_addEntry : Room := { frames := 0, cells := 0, slots := 0, locals := 0 }
theorem hd_X7_addEntry : yX7_addEntry.cls = RX7 ∧ yX7_addEntry.cls ≠ "java/lang/invoke/MethodHandle" ∧ yX7_addEntry.cls ≠ "java/lang/invoke/VarHandle" ∧ (parseMethodDescriptor yX7_addEntry.desc).map (fun d => d.parameters.length) = some 3 := by decide +kernel
set_option maxHeartbeats 4000000 in
set_option maxRecDepth 100000 in
theorem c_X7_addEntry (l : Launch) (G : va_G) (cI cZ cJ : ClassId) (aT aD aI aK aO aTi aTp aTt : Nat) (T_chunks : Int32) (T_chunksMade : Int32) (T_openFrom : Int32) (T_lacksSpace : Int32) (O_first : Int32) (O_last : Int32) (O_points : Int32) (O_least : Int32) (O_greatest : Int32) (O_sum : Int64) (T_image : Nat → Int32) (T_packedFrom : Nat → Int32) (p0 : Int32) (p1 : Int32) (p2 : Int32) {o_T_chunks : Int32} {o_T_image : Nat → Int32} {o_T_packedFrom : Nat → Int32} (hfin : m_X7_addEntry T_chunks T_openFrom O_first O_last O_points O_least O_greatest O_sum T_image T_packedFrom p0 p1 p2 = some (o_T_chunks, o_T_image, o_T_packedFrom)) : CT l yX7_addEntry cX7_addEntry 5 none rm_X7_addEntry G (tyC cI cZ cJ) [.ref aT, .int p0, .int p1, .int p2] [oX7 aT aD aI aK aO aTi aTp aTt T_chunks T_chunksMade T_openFrom T_lacksSpace, oX6 aO O_first O_last O_points O_least O_greatest O_sum, rI aTi cI 961 T_image, rI aTp cI 96 T_packedFrom] none [oX7 aT aD aI aK aO aTi aTp aTt o_T_chunks T_chunksMade T_openFrom T_lacksSpace, oX6 aO O_first O_last O_points O_least O_greatest O_sum, rI aTi cI 961 o_T_image, rI aTp cI 96 o_T_packedFrom] := by
  refine CT.ofW (lvl := [(0, .ref aT), (1, .int p0), (2, .int p1), (3, .int p2)]) (by decide) (Nat.le_of_ble_eq_true rfl) rfl ?_
  intro p e s m args below meth c A ls0 QQ hQQ hx hb hml hr hlocks htc hN hown hK hA hw0 hl0
  rw [m_X7_addEntry] at hfin
  refine lv_iconst (v := (1 : Int32)) hx hb dX7_addEntry_0 (by decide) ?_
  refine lv_aload_n hx hb dX7_addEntry_1 rfl (lv_at hl0 0 rfl) ?_
  refine va_get (D := G) (ci := 7) (v := .int T_chunks) (C := RX7) (T := TX7) (N := 11) hx hb htc iX7 hown hK hw0.1 0 rfl rfl 7 (by decide) (htc _ mw_192) (fun _ h9 => h9) rfl dX7_addEntry_2 ?_
  refine lv_bipush (v := (10 : Int32)) hx hb dX7_addEntry_5 (by decide) ?_
  refine lv_imul hx hb dX7_addEntry_7 ?_
  refine lv_iadd hx hb dX7_addEntry_8 ?_
  refine lv_istore (lv' := [(4, .int ((1 : Int32) + (T_chunks * (10 : Int32)))), (0, .ref aT), (1, .int p0), (2, .int p1), (3, .int p2)]) hx hb dX7_addEntry_9 hl0 (by decide) rfl (fun ls1 hl1 => ?_)
  clear hl0 ls0
  refine lv_aload_n hx hb dX7_addEntry_11 rfl (lv_at hl1 1 rfl) ?_
  refine va_get (D := G) (ci := 7) (v := .ref aTi) (C := RX7) (T := TX7) (N := 11) hx hb htc iX7 hown hK hw0.1 0 rfl rfl 4 (by decide) (htc _ mw_189) (fun _ h9 => h9) rfl dX7_addEntry_12 ?_
  refine lv_iload hx hb dX7_addEntry_15 (lv_at hl1 0 rfl) ?_
  refine lv_iconst (v := (0 : Int32)) hx hb dX7_addEntry_17 (by decide) ?_
  refine lv_iadd hx hb dX7_addEntry_18 ?_
  refine lv_iload_n hx hb dX7_addEntry_19 rfl (lv_at hl1 2 rfl) ?_
  replace hfin := ckb_some hfin
  obtain ⟨hin_2, hfin⟩ := hfin
  refine va_iast hx hb hK hw0.1 hw0.2.1 hw0.2.2 2 0 rfl rfl hin_2 dX7_addEntry_20 (fun H3 locs3 hP hD hS => ?_)
  have hw3 : wS G A s H3 locs3 [oX7 aT aD aI aK aO aTi aTp aTt T_chunks T_chunksMade T_openFrom T_lacksSpace, oX6 aO O_first O_last O_points O_least O_greatest O_sum, rI aTi cI 961 (upd T_image (Int32.toNatClampNeg (((1 : Int32) + (T_chunks * (10 : Int32))) + (0 : Int32))) p0), rI aTp cI 96 T_packedFrom] := ⟨hP, hD, hS⟩
  clear hP hD hS hw0
  refine lv_aload_n hx hb dX7_addEntry_21 rfl (lv_at hl1 1 rfl) ?_
  refine va_get (D := G) (ci := 7) (v := .ref aTi) (C := RX7) (T := TX7) (N := 11) hx hb htc iX7 hown hK hw3.1 0 rfl rfl 4 (by decide) (htc _ mw_189) (fun _ h9 => h9) rfl dX7_addEntry_22 ?_
  refine lv_iload hx hb dX7_addEntry_25 (lv_at hl1 0 rfl) ?_
  refine lv_iconst (v := (1 : Int32)) hx hb dX7_addEntry_27 (by decide) ?_
  refine lv_iadd hx hb dX7_addEntry_28 ?_
  refine lv_aload_n hx hb dX7_addEntry_29 rfl (lv_at hl1 1 rfl) ?_
  refine va_get (D := G) (ci := 7) (v := .ref aO) (C := RX7) (T := TX7) (N := 11) hx hb htc iX7 hown hK hw3.1 0 rfl rfl 3 (by decide) (htc _ mw_188) (fun _ h9 => h9) rfl dX7_addEntry_30 ?_
  refine va_getN (D := G) (ci := 6) (v := .int O_first) (C := RX6) (T := TX6) (N := 6) hx hb htc iX6 hown hK hw3.1 1 rfl rfl 0 (by decide) (va_Nw.use rfl (hN _ mn_9)) (fun _ h9 => h9) rfl dX7_addEntry_33 ?_
  replace hfin := ckb_some hfin
  obtain ⟨hin_4, hfin⟩ := hfin
  refine va_iast hx hb hK hw3.1 hw3.2.1 hw3.2.2 2 0 rfl rfl hin_4 dX7_addEntry_36 (fun H5 locs5 hP hD hS => ?_)
  have hw5 : wS G A s H5 locs5 [oX7 aT aD aI aK aO aTi aTp aTt T_chunks T_chunksMade T_openFrom T_lacksSpace, oX6 aO O_first O_last O_points O_least O_greatest O_sum, rI aTi cI 961 (upd (upd T_image (Int32.toNatClampNeg (((1 : Int32) + (T_chunks * (10 : Int32))) + (0 : Int32))) p0) (Int32.toNatClampNeg (((1 : Int32) + (T_chunks * (10 : Int32))) + (1 : Int32))) O_first), rI aTp cI 96 T_packedFrom] := ⟨hP, hD, hS⟩
  clear hP hD hS hw3 H3 locs3
  refine lv_aload_n hx hb dX7_addEntry_37 rfl (lv_at hl1 1 rfl) ?_
  refine va_get (D := G) (ci := 7) (v := .ref aTi) (C := RX7) (T := TX7) (N := 11) hx hb htc iX7 hown hK hw5.1 0 rfl rfl 4 (by decide) (htc _ mw_189) (fun _ h9 => h9) rfl dX7_addEntry_38 ?_
  refine lv_iload hx hb dX7_addEntry_41 (lv_at hl1 0 rfl) ?_
  refine lv_iconst (v := (2 : Int32)) hx hb dX7_addEntry_43 (by decide) ?_
  refine lv_iadd hx hb dX7_addEntry_44 ?_
  refine lv_aload_n hx hb dX7_addEntry_45 rfl (lv_at hl1 1 rfl) ?_
  refine va_get (D := G) (ci := 7) (v := .ref aO) (C := RX7) (T := TX7) (N := 11) hx hb htc iX7 hown hK hw5.1 0 rfl rfl 3 (by decide) (htc _ mw_188) (fun _ h9 => h9) rfl dX7_addEntry_46 ?_
  refine va_getN (D := G) (ci := 6) (v := .int O_last) (C := RX6) (T := TX6) (N := 6) hx hb htc iX6 hown hK hw5.1 1 rfl rfl 1 (by decide) (va_Nw.use rfl (hN _ mn_11)) (fun _ h9 => h9) rfl dX7_addEntry_49 ?_
  replace hfin := ckb_some hfin
  obtain ⟨hin_6, hfin⟩ := hfin
  refine va_iast hx hb hK hw5.1 hw5.2.1 hw5.2.2 2 0 rfl rfl hin_6 dX7_addEntry_52 (fun H7 locs7 hP hD hS => ?_)
  have hw7 : wS G A s H7 locs7 [oX7 aT aD aI aK aO aTi aTp aTt T_chunks T_chunksMade T_openFrom T_lacksSpace, oX6 aO O_first O_last O_points O_least O_greatest O_sum, rI aTi cI 961 (upd (upd (upd T_image (Int32.toNatClampNeg (((1 : Int32) + (T_chunks * (10 : Int32))) + (0 : Int32))) p0) (Int32.toNatClampNeg (((1 : Int32) + (T_chunks * (10 : Int32))) + (1 : Int32))) O_first) (Int32.toNatClampNeg (((1 : Int32) + (T_chunks * (10 : Int32))) + (2 : Int32))) O_last), rI aTp cI 96 T_packedFrom] := ⟨hP, hD, hS⟩
  clear hP hD hS hw5 H5 locs5
  refine lv_aload_n hx hb dX7_addEntry_53 rfl (lv_at hl1 1 rfl) ?_
  refine va_get (D := G) (ci := 7) (v := .ref aTi) (C := RX7) (T := TX7) (N := 11) hx hb htc iX7 hown hK hw7.1 0 rfl rfl 4 (by decide) (htc _ mw_189) (fun _ h9 => h9) rfl dX7_addEntry_54 ?_
  refine lv_iload hx hb dX7_addEntry_57 (lv_at hl1 0 rfl) ?_
  refine lv_iconst (v := (3 : Int32)) hx hb dX7_addEntry_59 (by decide) ?_
  refine lv_iadd hx hb dX7_addEntry_60 ?_
  refine lv_aload_n hx hb dX7_addEntry_61 rfl (lv_at hl1 1 rfl) ?_
  refine va_get (D := G) (ci := 7) (v := .ref aO) (C := RX7) (T := TX7) (N := 11) hx hb htc iX7 hown hK hw7.1 0 rfl rfl 3 (by decide) (htc _ mw_188) (fun _ h9 => h9) rfl dX7_addEntry_62 ?_
  refine va_getN (D := G) (ci := 6) (v := .int O_points) (C := RX6) (T := TX6) (N := 6) hx hb htc iX6 hown hK hw7.1 1 rfl rfl 2 (by decide) (va_Nw.use rfl (hN _ mn_13)) (fun _ h9 => h9) rfl dX7_addEntry_65 ?_
  replace hfin := ckb_some hfin
  obtain ⟨hin_8, hfin⟩ := hfin
  refine va_iast hx hb hK hw7.1 hw7.2.1 hw7.2.2 2 0 rfl rfl hin_8 dX7_addEntry_68 (fun H9 locs9 hP hD hS => ?_)
  have hw9 : wS G A s H9 locs9 [oX7 aT aD aI aK aO aTi aTp aTt T_chunks T_chunksMade T_openFrom T_lacksSpace, oX6 aO O_first O_last O_points O_least O_greatest O_sum, rI aTi cI 961 (upd (upd (upd (upd T_image (Int32.toNatClampNeg (((1 : Int32) + (T_chunks * (10 : Int32))) + (0 : Int32))) p0) (Int32.toNatClampNeg (((1 : Int32) + (T_chunks * (10 : Int32))) + (1 : Int32))) O_first) (Int32.toNatClampNeg (((1 : Int32) + (T_chunks * (10 : Int32))) + (2 : Int32))) O_last) (Int32.toNatClampNeg (((1 : Int32) + (T_chunks * (10 : Int32))) + (3 : Int32))) O_points), rI aTp cI 96 T_packedFrom] := ⟨hP, hD, hS⟩
  clear hP hD hS hw7 H7 locs7
  refine lv_aload_n hx hb dX7_addEntry_69 rfl (lv_at hl1 1 rfl) ?_
  refine va_get (D := G) (ci := 7) (v := .ref aTi) (C := RX7) (T := TX7) (N := 11) hx hb htc iX7 hown hK hw9.1 0 rfl rfl 4 (by decide) (htc _ mw_189) (fun _ h9 => h9) rfl dX7_addEntry_70 ?_
  refine lv_iload hx hb dX7_addEntry_73 (lv_at hl1 0 rfl) ?_
  refine lv_iconst (v := (4 : Int32)) hx hb dX7_addEntry_75 (by decide) ?_
  refine lv_iadd hx hb dX7_addEntry_76 ?_
  refine lv_aload_n hx hb dX7_addEntry_77 rfl (lv_at hl1 1 rfl) ?_
  refine va_get (D := G) (ci := 7) (v := .ref aO) (C := RX7) (T := TX7) (N := 11) hx hb htc iX7 hown hK hw9.1 0 rfl rfl 3 (by decide) (htc _ mw_188) (fun _ h9 => h9) rfl dX7_addEntry_78 ?_
  refine va_getN (D := G) (ci := 6) (v := .int O_least) (C := RX6) (T := TX6) (N := 6) hx hb htc iX6 hown hK hw9.1 1 rfl rfl 3 (by decide) (va_Nw.use rfl (hN _ mn_17)) (fun _ h9 => h9) rfl dX7_addEntry_81 ?_
  replace hfin := ckb_some hfin
  obtain ⟨hin_10, hfin⟩ := hfin
  refine va_iast hx hb hK hw9.1 hw9.2.1 hw9.2.2 2 0 rfl rfl hin_10 dX7_addEntry_84 (fun H11 locs11 hP hD hS => ?_)
  have hw11 : wS G A s H11 locs11 [oX7 aT aD aI aK aO aTi aTp aTt T_chunks T_chunksMade T_openFrom T_lacksSpace, oX6 aO O_first O_last O_points O_least O_greatest O_sum, rI aTi cI 961 (upd (upd (upd (upd (upd T_image (Int32.toNatClampNeg (((1 : Int32) + (T_chunks * (10 : Int32))) + (0 : Int32))) p0) (Int32.toNatClampNeg (((1 : Int32) + (T_chunks * (10 : Int32))) + (1 : Int32))) O_first) (Int32.toNatClampNeg (((1 : Int32) + (T_chunks * (10 : Int32))) + (2 : Int32))) O_last) (Int32.toNatClampNeg (((1 : Int32) + (T_chunks * (10 : Int32))) + (3 : Int32))) O_points) (Int32.toNatClampNeg (((1 : Int32) + (T_chunks * (10 : Int32))) + (4 : Int32))) O_least), rI aTp cI 96 T_packedFrom] := ⟨hP, hD, hS⟩
  clear hP hD hS hw9 H9 locs9
  refine lv_aload_n hx hb dX7_addEntry_85 rfl (lv_at hl1 1 rfl) ?_
  refine va_get (D := G) (ci := 7) (v := .ref aTi) (C := RX7) (T := TX7) (N := 11) hx hb htc iX7 hown hK hw11.1 0 rfl rfl 4 (by decide) (htc _ mw_189) (fun _ h9 => h9) rfl dX7_addEntry_86 ?_
  refine lv_iload hx hb dX7_addEntry_89 (lv_at hl1 0 rfl) ?_
  refine lv_iconst (v := (5 : Int32)) hx hb dX7_addEntry_91 (by decide) ?_
  refine lv_iadd hx hb dX7_addEntry_92 ?_
  refine lv_aload_n hx hb dX7_addEntry_93 rfl (lv_at hl1 1 rfl) ?_
  refine va_get (D := G) (ci := 7) (v := .ref aO) (C := RX7) (T := TX7) (N := 11) hx hb htc iX7 hown hK hw11.1 0 rfl rfl 3 (by decide) (htc _ mw_188) (fun _ h9 => h9) rfl dX7_addEntry_94 ?_
  refine va_getN (D := G) (ci := 6) (v := .int O_greatest) (C := RX6) (T := TX6) (N := 6) hx hb htc iX6 hown hK hw11.1 1 rfl rfl 4 (by decide) (va_Nw.use rfl (hN _ mn_18)) (fun _ h9 => h9) rfl dX7_addEntry_97 ?_
  replace hfin := ckb_some hfin
  obtain ⟨hin_12, hfin⟩ := hfin
  refine va_iast hx hb hK hw11.1 hw11.2.1 hw11.2.2 2 0 rfl rfl hin_12 dX7_addEntry_100 (fun H13 locs13 hP hD hS => ?_)
  have hw13 : wS G A s H13 locs13 [oX7 aT aD aI aK aO aTi aTp aTt T_chunks T_chunksMade T_openFrom T_lacksSpace, oX6 aO O_first O_last O_points O_least O_greatest O_sum, rI aTi cI 961 (upd (upd (upd (upd (upd (upd T_image (Int32.toNatClampNeg (((1 : Int32) + (T_chunks * (10 : Int32))) + (0 : Int32))) p0) (Int32.toNatClampNeg (((1 : Int32) + (T_chunks * (10 : Int32))) + (1 : Int32))) O_first) (Int32.toNatClampNeg (((1 : Int32) + (T_chunks * (10 : Int32))) + (2 : Int32))) O_last) (Int32.toNatClampNeg (((1 : Int32) + (T_chunks * (10 : Int32))) + (3 : Int32))) O_points) (Int32.toNatClampNeg (((1 : Int32) + (T_chunks * (10 : Int32))) + (4 : Int32))) O_least) (Int32.toNatClampNeg (((1 : Int32) + (T_chunks * (10 : Int32))) + (5 : Int32))) O_greatest), rI aTp cI 96 T_packedFrom] := ⟨hP, hD, hS⟩
  clear hP hD hS hw11 H11 locs11
  refine lv_aload_n hx hb dX7_addEntry_101 rfl (lv_at hl1 1 rfl) ?_
  refine va_get (D := G) (ci := 7) (v := .ref aTi) (C := RX7) (T := TX7) (N := 11) hx hb htc iX7 hown hK hw13.1 0 rfl rfl 4 (by decide) (htc _ mw_189) (fun _ h9 => h9) rfl dX7_addEntry_102 ?_
  refine lv_iload hx hb dX7_addEntry_105 (lv_at hl1 0 rfl) ?_
  refine lv_bipush (v := (6 : Int32)) hx hb dX7_addEntry_107 (by decide) ?_
  refine lv_iadd hx hb dX7_addEntry_109 ?_
  refine lv_aload_n hx hb dX7_addEntry_110 rfl (lv_at hl1 1 rfl) ?_
  refine va_get (D := G) (ci := 7) (v := .ref aO) (C := RX7) (T := TX7) (N := 11) hx hb htc iX7 hown hK hw13.1 0 rfl rfl 3 (by decide) (htc _ mw_188) (fun _ h9 => h9) rfl dX7_addEntry_111 ?_
  refine va_getN (D := G) (ci := 6) (v := .long O_sum) (C := RX6) (T := TX6) (N := 6) hx hb htc iX6 hown hK hw13.1 1 rfl rfl 5 (by decide) (va_Nw.use rfl (hN _ mn_20)) (fun _ h9 => h9) rfl dX7_addEntry_114 ?_
  refine lv_bipush (v := (32 : Int32)) hx hb dX7_addEntry_117 (by decide) ?_
  refine lv_lshr hx hb dX7_addEntry_119 rfl ?_
  refine lv_l2i hx hb dX7_addEntry_120 rfl ?_
  replace hfin := ckb_some hfin
  obtain ⟨hin_14, hfin⟩ := hfin
  refine va_iast hx hb hK hw13.1 hw13.2.1 hw13.2.2 2 0 rfl rfl hin_14 dX7_addEntry_121 (fun H15 locs15 hP hD hS => ?_)
  have hw15 : wS G A s H15 locs15 [oX7 aT aD aI aK aO aTi aTp aTt T_chunks T_chunksMade T_openFrom T_lacksSpace, oX6 aO O_first O_last O_points O_least O_greatest O_sum, rI aTi cI 961 (upd (upd (upd (upd (upd (upd (upd T_image (Int32.toNatClampNeg (((1 : Int32) + (T_chunks * (10 : Int32))) + (0 : Int32))) p0) (Int32.toNatClampNeg (((1 : Int32) + (T_chunks * (10 : Int32))) + (1 : Int32))) O_first) (Int32.toNatClampNeg (((1 : Int32) + (T_chunks * (10 : Int32))) + (2 : Int32))) O_last) (Int32.toNatClampNeg (((1 : Int32) + (T_chunks * (10 : Int32))) + (3 : Int32))) O_points) (Int32.toNatClampNeg (((1 : Int32) + (T_chunks * (10 : Int32))) + (4 : Int32))) O_least) (Int32.toNatClampNeg (((1 : Int32) + (T_chunks * (10 : Int32))) + (5 : Int32))) O_greatest) (Int32.toNatClampNeg (((1 : Int32) + (T_chunks * (10 : Int32))) + (6 : Int32))) (Int64.toInt32 (O_sum >>> (Int32.toInt64 (32 : Int32) &&& 63)))), rI aTp cI 96 T_packedFrom] := ⟨hP, hD, hS⟩
  clear hP hD hS hw13 H13 locs13
  refine lv_aload_n hx hb dX7_addEntry_122 rfl (lv_at hl1 1 rfl) ?_
  refine va_get (D := G) (ci := 7) (v := .ref aTi) (C := RX7) (T := TX7) (N := 11) hx hb htc iX7 hown hK hw15.1 0 rfl rfl 4 (by decide) (htc _ mw_189) (fun _ h9 => h9) rfl dX7_addEntry_123 ?_
  refine lv_iload hx hb dX7_addEntry_126 (lv_at hl1 0 rfl) ?_
  refine lv_bipush (v := (7 : Int32)) hx hb dX7_addEntry_128 (by decide) ?_
  refine lv_iadd hx hb dX7_addEntry_130 ?_
  refine lv_aload_n hx hb dX7_addEntry_131 rfl (lv_at hl1 1 rfl) ?_
  refine va_get (D := G) (ci := 7) (v := .ref aO) (C := RX7) (T := TX7) (N := 11) hx hb htc iX7 hown hK hw15.1 0 rfl rfl 3 (by decide) (htc _ mw_188) (fun _ h9 => h9) rfl dX7_addEntry_132 ?_
  refine va_getN (D := G) (ci := 6) (v := .long O_sum) (C := RX6) (T := TX6) (N := 6) hx hb htc iX6 hown hK hw15.1 1 rfl rfl 5 (by decide) (va_Nw.use rfl (hN _ mn_20)) (fun _ h9 => h9) rfl dX7_addEntry_135 ?_
  refine lv_l2i hx hb dX7_addEntry_138 rfl ?_
  replace hfin := ckb_some hfin
  obtain ⟨hin_16, hfin⟩ := hfin
  refine va_iast hx hb hK hw15.1 hw15.2.1 hw15.2.2 2 0 rfl rfl hin_16 dX7_addEntry_139 (fun H17 locs17 hP hD hS => ?_)
  have hw17 : wS G A s H17 locs17 [oX7 aT aD aI aK aO aTi aTp aTt T_chunks T_chunksMade T_openFrom T_lacksSpace, oX6 aO O_first O_last O_points O_least O_greatest O_sum, rI aTi cI 961 (upd (upd (upd (upd (upd (upd (upd (upd T_image (Int32.toNatClampNeg (((1 : Int32) + (T_chunks * (10 : Int32))) + (0 : Int32))) p0) (Int32.toNatClampNeg (((1 : Int32) + (T_chunks * (10 : Int32))) + (1 : Int32))) O_first) (Int32.toNatClampNeg (((1 : Int32) + (T_chunks * (10 : Int32))) + (2 : Int32))) O_last) (Int32.toNatClampNeg (((1 : Int32) + (T_chunks * (10 : Int32))) + (3 : Int32))) O_points) (Int32.toNatClampNeg (((1 : Int32) + (T_chunks * (10 : Int32))) + (4 : Int32))) O_least) (Int32.toNatClampNeg (((1 : Int32) + (T_chunks * (10 : Int32))) + (5 : Int32))) O_greatest) (Int32.toNatClampNeg (((1 : Int32) + (T_chunks * (10 : Int32))) + (6 : Int32))) (Int64.toInt32 (O_sum >>> (Int32.toInt64 (32 : Int32) &&& 63)))) (Int32.toNatClampNeg (((1 : Int32) + (T_chunks * (10 : Int32))) + (7 : Int32))) (Int64.toInt32 O_sum)), rI aTp cI 96 T_packedFrom] := ⟨hP, hD, hS⟩
  clear hP hD hS hw15 H15 locs15
  refine lv_aload_n hx hb dX7_addEntry_140 rfl (lv_at hl1 1 rfl) ?_
  refine va_get (D := G) (ci := 7) (v := .ref aTi) (C := RX7) (T := TX7) (N := 11) hx hb htc iX7 hown hK hw17.1 0 rfl rfl 4 (by decide) (htc _ mw_189) (fun _ h9 => h9) rfl dX7_addEntry_141 ?_
  refine lv_iload hx hb dX7_addEntry_144 (lv_at hl1 0 rfl) ?_
  refine lv_bipush (v := (8 : Int32)) hx hb dX7_addEntry_146 (by decide) ?_
  refine lv_iadd hx hb dX7_addEntry_148 ?_
  refine lv_iload_n hx hb dX7_addEntry_149 rfl (lv_at hl1 3 rfl) ?_
  replace hfin := ckb_some hfin
  obtain ⟨hin_18, hfin⟩ := hfin
  refine va_iast hx hb hK hw17.1 hw17.2.1 hw17.2.2 2 0 rfl rfl hin_18 dX7_addEntry_150 (fun H19 locs19 hP hD hS => ?_)
  have hw19 : wS G A s H19 locs19 [oX7 aT aD aI aK aO aTi aTp aTt T_chunks T_chunksMade T_openFrom T_lacksSpace, oX6 aO O_first O_last O_points O_least O_greatest O_sum, rI aTi cI 961 (upd (upd (upd (upd (upd (upd (upd (upd (upd T_image (Int32.toNatClampNeg (((1 : Int32) + (T_chunks * (10 : Int32))) + (0 : Int32))) p0) (Int32.toNatClampNeg (((1 : Int32) + (T_chunks * (10 : Int32))) + (1 : Int32))) O_first) (Int32.toNatClampNeg (((1 : Int32) + (T_chunks * (10 : Int32))) + (2 : Int32))) O_last) (Int32.toNatClampNeg (((1 : Int32) + (T_chunks * (10 : Int32))) + (3 : Int32))) O_points) (Int32.toNatClampNeg (((1 : Int32) + (T_chunks * (10 : Int32))) + (4 : Int32))) O_least) (Int32.toNatClampNeg (((1 : Int32) + (T_chunks * (10 : Int32))) + (5 : Int32))) O_greatest) (Int32.toNatClampNeg (((1 : Int32) + (T_chunks * (10 : Int32))) + (6 : Int32))) (Int64.toInt32 (O_sum >>> (Int32.toInt64 (32 : Int32) &&& 63)))) (Int32.toNatClampNeg (((1 : Int32) + (T_chunks * (10 : Int32))) + (7 : Int32))) (Int64.toInt32 O_sum)) (Int32.toNatClampNeg (((1 : Int32) + (T_chunks * (10 : Int32))) + (8 : Int32))) p1), rI aTp cI 96 T_packedFrom] := ⟨hP, hD, hS⟩
  clear hP hD hS hw17 H17 locs17
  refine lv_aload_n hx hb dX7_addEntry_151 rfl (lv_at hl1 1 rfl) ?_
  refine va_get (D := G) (ci := 7) (v := .ref aTi) (C := RX7) (T := TX7) (N := 11) hx hb htc iX7 hown hK hw19.1 0 rfl rfl 4 (by decide) (htc _ mw_189) (fun _ h9 => h9) rfl dX7_addEntry_152 ?_
  refine lv_iload hx hb dX7_addEntry_155 (lv_at hl1 0 rfl) ?_
  refine lv_bipush (v := (9 : Int32)) hx hb dX7_addEntry_157 (by decide) ?_
  refine lv_iadd hx hb dX7_addEntry_159 ?_
  refine lv_iload_n hx hb dX7_addEntry_160 rfl (lv_at hl1 4 rfl) ?_
  replace hfin := ckb_some hfin
  obtain ⟨hin_20, hfin⟩ := hfin
  refine va_iast hx hb hK hw19.1 hw19.2.1 hw19.2.2 2 0 rfl rfl hin_20 dX7_addEntry_161 (fun H21 locs21 hP hD hS => ?_)
  have hw21 : wS G A s H21 locs21 [oX7 aT aD aI aK aO aTi aTp aTt T_chunks T_chunksMade T_openFrom T_lacksSpace, oX6 aO O_first O_last O_points O_least O_greatest O_sum, rI aTi cI 961 (upd (upd (upd (upd (upd (upd (upd (upd (upd (upd T_image (Int32.toNatClampNeg (((1 : Int32) + (T_chunks * (10 : Int32))) + (0 : Int32))) p0) (Int32.toNatClampNeg (((1 : Int32) + (T_chunks * (10 : Int32))) + (1 : Int32))) O_first) (Int32.toNatClampNeg (((1 : Int32) + (T_chunks * (10 : Int32))) + (2 : Int32))) O_last) (Int32.toNatClampNeg (((1 : Int32) + (T_chunks * (10 : Int32))) + (3 : Int32))) O_points) (Int32.toNatClampNeg (((1 : Int32) + (T_chunks * (10 : Int32))) + (4 : Int32))) O_least) (Int32.toNatClampNeg (((1 : Int32) + (T_chunks * (10 : Int32))) + (5 : Int32))) O_greatest) (Int32.toNatClampNeg (((1 : Int32) + (T_chunks * (10 : Int32))) + (6 : Int32))) (Int64.toInt32 (O_sum >>> (Int32.toInt64 (32 : Int32) &&& 63)))) (Int32.toNatClampNeg (((1 : Int32) + (T_chunks * (10 : Int32))) + (7 : Int32))) (Int64.toInt32 O_sum)) (Int32.toNatClampNeg (((1 : Int32) + (T_chunks * (10 : Int32))) + (8 : Int32))) p1) (Int32.toNatClampNeg (((1 : Int32) + (T_chunks * (10 : Int32))) + (9 : Int32))) p2), rI aTp cI 96 T_packedFrom] := ⟨hP, hD, hS⟩
  clear hP hD hS hw19 H19 locs19
  refine lv_aload_n hx hb dX7_addEntry_162 rfl (lv_at hl1 1 rfl) ?_
  refine va_get (D := G) (ci := 7) (v := .ref aTp) (C := RX7) (T := TX7) (N := 11) hx hb htc iX7 hown hK hw21.1 0 rfl rfl 5 (by decide) (htc _ mw_190) (fun _ h9 => h9) rfl dX7_addEntry_163 ?_
  refine lv_aload_n hx hb dX7_addEntry_166 rfl (lv_at hl1 1 rfl) ?_
  refine va_get (D := G) (ci := 7) (v := .int T_chunks) (C := RX7) (T := TX7) (N := 11) hx hb htc iX7 hown hK hw21.1 0 rfl rfl 7 (by decide) (htc _ mw_192) (fun _ h9 => h9) rfl dX7_addEntry_167 ?_
  refine lv_aload_n hx hb dX7_addEntry_170 rfl (lv_at hl1 1 rfl) ?_
  refine va_get (D := G) (ci := 7) (v := .int T_openFrom) (C := RX7) (T := TX7) (N := 11) hx hb htc iX7 hown hK hw21.1 0 rfl rfl 9 (by decide) (htc _ mw_194) (fun _ h9 => h9) rfl dX7_addEntry_171 ?_
  replace hfin := ckb_some hfin
  obtain ⟨hin_22, hfin⟩ := hfin
  refine va_iast hx hb hK hw21.1 hw21.2.1 hw21.2.2 3 0 rfl rfl hin_22 dX7_addEntry_174 (fun H23 locs23 hP hD hS => ?_)
  have hw23 : wS G A s H23 locs23 [oX7 aT aD aI aK aO aTi aTp aTt T_chunks T_chunksMade T_openFrom T_lacksSpace, oX6 aO O_first O_last O_points O_least O_greatest O_sum, rI aTi cI 961 (upd (upd (upd (upd (upd (upd (upd (upd (upd (upd T_image (Int32.toNatClampNeg (((1 : Int32) + (T_chunks * (10 : Int32))) + (0 : Int32))) p0) (Int32.toNatClampNeg (((1 : Int32) + (T_chunks * (10 : Int32))) + (1 : Int32))) O_first) (Int32.toNatClampNeg (((1 : Int32) + (T_chunks * (10 : Int32))) + (2 : Int32))) O_last) (Int32.toNatClampNeg (((1 : Int32) + (T_chunks * (10 : Int32))) + (3 : Int32))) O_points) (Int32.toNatClampNeg (((1 : Int32) + (T_chunks * (10 : Int32))) + (4 : Int32))) O_least) (Int32.toNatClampNeg (((1 : Int32) + (T_chunks * (10 : Int32))) + (5 : Int32))) O_greatest) (Int32.toNatClampNeg (((1 : Int32) + (T_chunks * (10 : Int32))) + (6 : Int32))) (Int64.toInt32 (O_sum >>> (Int32.toInt64 (32 : Int32) &&& 63)))) (Int32.toNatClampNeg (((1 : Int32) + (T_chunks * (10 : Int32))) + (7 : Int32))) (Int64.toInt32 O_sum)) (Int32.toNatClampNeg (((1 : Int32) + (T_chunks * (10 : Int32))) + (8 : Int32))) p1) (Int32.toNatClampNeg (((1 : Int32) + (T_chunks * (10 : Int32))) + (9 : Int32))) p2), rI aTp cI 96 (upd T_packedFrom (Int32.toNatClampNeg T_chunks) T_openFrom)] := ⟨hP, hD, hS⟩
  clear hP hD hS hw21 H21 locs21
  refine lv_aload_n hx hb dX7_addEntry_175 rfl (lv_at hl1 1 rfl) ?_
  refine lv_dup hx hb dX7_addEntry_176 rfl ?_
  refine va_get (D := G) (ci := 7) (v := .int T_chunks) (C := RX7) (T := TX7) (N := 11) hx hb htc iX7 hown hK hw23.1 0 rfl rfl 7 (by decide) (htc _ mw_192) (fun _ h9 => h9) rfl dX7_addEntry_177 ?_
  refine lv_iconst (v := (1 : Int32)) hx hb dX7_addEntry_180 (by decide) ?_
  refine lv_iadd hx hb dX7_addEntry_181 ?_
  refine va_put (D := G) (ci := 7) (v := .int (T_chunks + (1 : Int32))) (ty := .int) (C := RX7) (T := TX7) (N := 11) hx hb htc iX7 tyX7 tyX7_ok nmX7 hown hK hw23.1 hw23.2.1 hw23.2.2 0 rfl rfl 7 (by decide) (htc _ mw_192) (fun _ h9 => h9) rfl (tyX7_ok 7 (by decide)) rfl rfl (Nat.le_of_ble_eq_true rfl) dX7_addEntry_182 (fun H24 locs24 hP hD hS => ?_)
  have hw24 : wS G A s H24 locs24 [oX7 aT aD aI aK aO aTi aTp aTt (T_chunks + (1 : Int32)) T_chunksMade T_openFrom T_lacksSpace, oX6 aO O_first O_last O_points O_least O_greatest O_sum, rI aTi cI 961 (upd (upd (upd (upd (upd (upd (upd (upd (upd (upd T_image (Int32.toNatClampNeg (((1 : Int32) + (T_chunks * (10 : Int32))) + (0 : Int32))) p0) (Int32.toNatClampNeg (((1 : Int32) + (T_chunks * (10 : Int32))) + (1 : Int32))) O_first) (Int32.toNatClampNeg (((1 : Int32) + (T_chunks * (10 : Int32))) + (2 : Int32))) O_last) (Int32.toNatClampNeg (((1 : Int32) + (T_chunks * (10 : Int32))) + (3 : Int32))) O_points) (Int32.toNatClampNeg (((1 : Int32) + (T_chunks * (10 : Int32))) + (4 : Int32))) O_least) (Int32.toNatClampNeg (((1 : Int32) + (T_chunks * (10 : Int32))) + (5 : Int32))) O_greatest) (Int32.toNatClampNeg (((1 : Int32) + (T_chunks * (10 : Int32))) + (6 : Int32))) (Int64.toInt32 (O_sum >>> (Int32.toInt64 (32 : Int32) &&& 63)))) (Int32.toNatClampNeg (((1 : Int32) + (T_chunks * (10 : Int32))) + (7 : Int32))) (Int64.toInt32 O_sum)) (Int32.toNatClampNeg (((1 : Int32) + (T_chunks * (10 : Int32))) + (8 : Int32))) p1) (Int32.toNatClampNeg (((1 : Int32) + (T_chunks * (10 : Int32))) + (9 : Int32))) p2), rI aTp cI 96 (upd T_packedFrom (Int32.toNatClampNeg T_chunks) T_openFrom)] := ⟨hP, hD, hS⟩
  clear hP hD hS hw23 H23 locs23
  cases hfin
  rw [hQQ]
  exact ct_vret hx hb hr hlocks hw24.1 hw24.2.1 hw24.2.2 dX7_addEntry_185
abbrev rm_X7_seal : Room := { frames := 1, cells := 0, slots := 0, locals := 24 }
theorem hd_X7_seal : yX7_seal.cls = RX7 ∧ yX7_seal.cls ≠ "java/lang/invoke/MethodHandle" ∧ yX7_seal.cls ≠ "java/lang/invoke/VarHandle" ∧ (parseMethodDescriptor yX7_seal.desc).map (fun d => d.parameters.length) = some 1 := by decide +kernel
set_option maxHeartbeats 4000000 in
set_option maxRecDepth 100000 in
theorem c_X7_seal (l : Launch) (G : va_G) (cI cZ cJ : ClassId) (aT aD aI aK aO aTi aTp aTt aKc : Nat) (T_chunks : Int32) (T_chunksMade : Int32) (T_openFrom : Int32) (T_lacksSpace : Int32) (K_used : Int32) (K_bitsFree : Int32) (K_full : Int32) (K_time : Int32) (K_value : Int32) (K_rise : Int64) (O_first : Int32) (O_last : Int32) (O_points : Int32) (O_least : Int32) (O_greatest : Int32) (O_sum : Int64) (T_image : Nat → Int32) (T_packedFrom : Nat → Int32) (T_taken : Nat → Int32) (p0 : Int32) {o_T_chunks : Int32} {o_T_chunksMade : Int32} {o_T_lacksSpace : Int32} {o_O_first : Int32} {o_O_last : Int32} {o_O_points : Int32} {o_O_least : Int32} {o_O_greatest : Int32} {o_O_sum : Int64} {o_T_image : Nat → Int32} {o_T_packedFrom : Nat → Int32} {o_T_taken : Nat → Int32} (hfin : m_X7_seal T_chunks T_chunksMade T_openFrom T_lacksSpace K_used K_full O_first O_last O_points O_least O_greatest O_sum T_image T_packedFrom T_taken p0 = some (o_T_chunks, o_T_chunksMade, o_T_lacksSpace, o_O_first, o_O_last, o_O_points, o_O_least, o_O_greatest, o_O_sum, o_T_image, o_T_packedFrom, o_T_taken)) : CT l yX7_seal cX7_seal 4 none rm_X7_seal G (tyC cI cZ cJ) [.ref aT, .int p0] [oX7 aT aD aI aK aO aTi aTp aTt T_chunks T_chunksMade T_openFrom T_lacksSpace, oX5 aK aKc K_used K_bitsFree K_full K_time K_value K_rise, oX6 aO O_first O_last O_points O_least O_greatest O_sum, rI aTi cI 961 T_image, rI aTp cI 96 T_packedFrom, rI aTt cZ 1661 T_taken] none [oX7 aT aD aI aK aO aTi aTp aTt o_T_chunks o_T_chunksMade T_openFrom o_T_lacksSpace, oX5 aK aKc K_used K_bitsFree K_full K_time K_value K_rise, oX6 aO o_O_first o_O_last o_O_points o_O_least o_O_greatest o_O_sum, rI aTi cI 961 o_T_image, rI aTp cI 96 o_T_packedFrom, rI aTt cZ 1661 o_T_taken] := by
  refine CT.ofW (lvl := [(0, .ref aT), (1, .int p0)]) (by decide) (Nat.le_of_ble_eq_true rfl) rfl ?_
  intro p e s m args below meth c A ls0 QQ hQQ hx hb hml hr hlocks htc hN hown hK hA hw0 hl0
  rw [m_X7_seal] at hfin
  refine lv_aload_n hx hb dX7_seal_0 rfl (lv_at hl0 0 rfl) ?_
  refine va_get (D := G) (ci := 7) (v := .ref aO) (C := RX7) (T := TX7) (N := 11) hx hb htc iX7 hown hK hw0.1 0 rfl rfl 3 (by decide) (htc _ mw_188) (fun _ h9 => h9) rfl dX7_seal_1 ?_
  refine va_getN (D := G) (ci := 6) (v := .int O_points) (C := RX6) (T := TX6) (N := 6) hx hb htc iX6 hown hK hw0.1 2 rfl rfl 2 (by decide) (va_Nw.use rfl (hN _ mn_13)) (fun _ h9 => h9) rfl dX7_seal_4 ?_
  refine lv_if_ne (tgt := 11) hx hb dX7_seal_7 (by decide) (fun c_1 => ?_) (fun c_1 => ?_)
  · replace hfin := it_f c_1 hfin
    refine lv_aload_n hx hb dX7_seal_11 rfl (lv_at hl0 0 rfl) ?_
    refine va_get (D := G) (ci := 7) (v := .ref aK) (C := RX7) (T := TX7) (N := 11) hx hb htc iX7 hown hK hw0.1 0 rfl rfl 2 (by decide) (htc _ mw_187) (fun _ h9 => h9) rfl dX7_seal_12 ?_
    replace hfin := ob1_some hfin
    obtain ⟨r_3, hE_2, hfin⟩ := hfin
    refine ctV (a := aK) (As := []) (rest := []) (st1 := [.int r_3]) (wc := [oX5 aK aKc K_used K_bitsFree K_full K_time K_value K_rise]) (w1 := [oX5 aK aKc K_used K_bitsFree K_full K_time K_value K_rise]) (wr := [oX7 aT aD aI aK aO aTi aTp aTt T_chunks T_chunksMade T_openFrom T_lacksSpace, oX6 aO O_first O_last O_points O_least O_greatest O_sum, rI aTi cI 961 T_image, rI aTp cI 96 T_packedFrom, rI aTt cZ 1661 T_taken]) (wb := [oX7 aT aD aI aK aO aTi aTp aTt T_chunks T_chunksMade T_openFrom T_lacksSpace, oX5 aK aKc K_used K_bitsFree K_full K_time K_value K_rise, oX6 aO O_first O_last O_points O_least O_greatest O_sum, rI aTi cI 961 T_image, rI aTp cI 96 T_packedFrom, rI aTt cZ 1661 T_taken]) (v := (some (.int r_3))) hx hb hml hown htc hN (c_X5_used l G cI cZ cJ aK aKc K_used K_bitsFree K_full K_time K_value K_rise  hE_2) mw_458 mw_459 mw_460 mw_8 mw_461 hd_X5_used ⟨rfl, rfl⟩ ⟨Nat.le_of_ble_eq_true rfl, Nat.le_of_ble_eq_true rfl⟩ hK hw0 hA [1] [0, 2, 3, 4, 5] [0, 5, 1, 2, 3, 4] rfl rfl rfl rfl rfl (by decide) rfl rfl rfl 0 rfl rfl rfl rfl hl0.1 rfl rfl (Nat.le_of_ble_eq_true rfl) dX7_seal_15 ⟨Nat.zero_le _, Nat.zero_le _⟩ (fun H4 locs4 hw4 => ?_)
    clear hw0
    refine lv_aload_n hx hb dX7_seal_18 rfl (lv_at hl0 0 rfl) ?_
    refine va_get (D := G) (ci := 7) (v := .int T_openFrom) (C := RX7) (T := TX7) (N := 11) hx hb htc iX7 hown hK hw4.1 0 rfl rfl 9 (by decide) (htc _ mw_194) (fun _ h9 => h9) rfl dX7_seal_19 ?_
    refine lv_isub hx hb dX7_seal_22 ?_
    refine lv_istore_n (lv' := [(2, .int (r_3 - T_openFrom)), (0, .ref aT), (1, .int p0)]) hx hb dX7_seal_23 rfl hl0 (by decide) rfl (fun ls5 hl5 => ?_)
    clear hl0 ls0
    refine lv_aload_n hx hb dX7_seal_24 rfl (lv_at hl5 1 rfl) ?_
    refine lv_iload_n hx hb dX7_seal_25 rfl (lv_at hl5 0 rfl) ?_
    replace hfin := ob1_some hfin
    obtain ⟨r_7, hE_6, hfin⟩ := hfin
    refine ctV (a := aT) (As := [.int (r_3 - T_openFrom)]) (rest := []) (st1 := [.int r_7]) (wc := [oX7 aT aD aI aK aO aTi aTp aTt T_chunks T_chunksMade T_openFrom T_lacksSpace, rI aTt cZ 1661 T_taken]) (w1 := [oX7 aT aD aI aK aO aTi aTp aTt T_chunks T_chunksMade T_openFrom T_lacksSpace, rI aTt cZ 1661 T_taken]) (wr := [oX5 aK aKc K_used K_bitsFree K_full K_time K_value K_rise, oX6 aO O_first O_last O_points O_least O_greatest O_sum, rI aTi cI 961 T_image, rI aTp cI 96 T_packedFrom]) (wb := [oX7 aT aD aI aK aO aTi aTp aTt T_chunks T_chunksMade T_openFrom T_lacksSpace, oX5 aK aKc K_used K_bitsFree K_full K_time K_value K_rise, oX6 aO O_first O_last O_points O_least O_greatest O_sum, rI aTi cI 961 T_image, rI aTp cI 96 T_packedFrom, rI aTt cZ 1661 T_taken]) (v := (some (.int r_7))) hx hb hml hown htc hN (c_X7_findPlace l G cI cZ cJ aT aD aI aK aO aTi aTp aTt T_chunks T_chunksMade T_openFrom T_lacksSpace T_taken (r_3 - T_openFrom) hE_6) mw_462 mw_464 mp_5 mw_7 mw_465 hd_X7_findPlace ⟨rfl, rfl⟩ ⟨Nat.le_of_ble_eq_true rfl, Nat.le_of_ble_eq_true rfl⟩ hK hw4 hA [0, 5] [1, 2, 3, 4] [4, 0, 1, 2, 3, 5] rfl rfl rfl rfl rfl (by decide) rfl rfl rfl 0 rfl rfl rfl rfl hl5.1 rfl rfl (Nat.le_of_ble_eq_true rfl) dX7_seal_26 ⟨Nat.zero_le _, Nat.zero_le _⟩ (fun H8 locs8 hw8 => ?_)
    clear hw4 H4 locs4
    refine lv_istore_n (lv' := [(3, .int r_7), (2, .int (r_3 - T_openFrom)), (0, .ref aT), (1, .int p0)]) hx hb dX7_seal_29 rfl hl5 (by decide) rfl (fun ls9 hl9 => ?_)
    clear hl5 ls5
    refine lv_aload_n hx hb dX7_seal_30 rfl (lv_at hl9 2 rfl) ?_
    refine va_get (D := G) (ci := 7) (v := .ref aK) (C := RX7) (T := TX7) (N := 11) hx hb htc iX7 hown hK hw8.1 0 rfl rfl 2 (by decide) (htc _ mw_187) (fun _ h9 => h9) rfl dX7_seal_31 ?_
    replace hfin := ob1_some hfin
    obtain ⟨r_11, hE_10, hfin⟩ := hfin
    refine ctV (a := aK) (As := []) (rest := []) (st1 := [.int r_11]) (wc := [oX5 aK aKc K_used K_bitsFree K_full K_time K_value K_rise]) (w1 := [oX5 aK aKc K_used K_bitsFree K_full K_time K_value K_rise]) (wr := [oX7 aT aD aI aK aO aTi aTp aTt T_chunks T_chunksMade T_openFrom T_lacksSpace, oX6 aO O_first O_last O_points O_least O_greatest O_sum, rI aTi cI 961 T_image, rI aTp cI 96 T_packedFrom, rI aTt cZ 1661 T_taken]) (wb := [oX7 aT aD aI aK aO aTi aTp aTt T_chunks T_chunksMade T_openFrom T_lacksSpace, oX5 aK aKc K_used K_bitsFree K_full K_time K_value K_rise, oX6 aO O_first O_last O_points O_least O_greatest O_sum, rI aTi cI 961 T_image, rI aTp cI 96 T_packedFrom, rI aTt cZ 1661 T_taken]) (v := (some (.int r_11))) hx hb hml hown htc hN (c_X5_isFull l G cI cZ cJ aK aKc K_used K_bitsFree K_full K_time K_value K_rise  hE_10) mw_466 mw_467 mw_468 mw_8 mw_469 hd_X5_isFull ⟨rfl, rfl⟩ ⟨Nat.le_of_ble_eq_true rfl, Nat.le_of_ble_eq_true rfl⟩ hK hw8 hA [1] [0, 2, 3, 4, 5] [0, 5, 1, 2, 3, 4] rfl rfl rfl rfl rfl (by decide) rfl rfl rfl 0 rfl rfl rfl rfl hl9.1 rfl rfl (Nat.le_of_ble_eq_true rfl) dX7_seal_34 ⟨Nat.zero_le _, Nat.zero_le _⟩ (fun H12 locs12 hw12 => ?_)
    clear hw8 H8 locs8
    replace hfin := ob5_some hfin
    obtain ⟨T_chunks_13, T_lacksSpace_14, T_image_15, T_packedFrom_16, T_taken_17, hJ_18, hfin⟩ := hfin
    have kj_19 : ∀ (H : Heap) (locs : List Loc) (ls : Array Slot), wS G A s H locs [oX7 aT aD aI aK aO aTi aTp aTt T_chunks_13 T_chunksMade T_openFrom T_lacksSpace_14, oX5 aK aKc K_used K_bitsFree K_full K_time K_value K_rise, oX6 aO O_first O_last O_points O_least O_greatest O_sum, rI aTi cI 961 T_image_15, rI aTp cI 96 T_packedFrom_16, rI aTt cZ 1661 T_taken_17] → lv_has ls 4 [(0, .ref aT)] → W p l e rm_X7_seal s m args below meth c H locs 0 0 QQ (F0 m 75 ls []) := by
      clear hw12 H12 locs12 hl9 ls9 hJ_18
      intro H34 locs34 ls34 hw34 hl34
      refine lv_aload_n hx hb dX7_seal_75 rfl (lv_at hl34 0 rfl) ?_
      refine lv_dup hx hb dX7_seal_76 rfl ?_
      refine va_get (D := G) (ci := 7) (v := .int T_chunksMade) (C := RX7) (T := TX7) (N := 11) hx hb htc iX7 hown hK hw34.1 0 rfl rfl 8 (by decide) (htc _ mw_193) (fun _ h9 => h9) rfl dX7_seal_77 ?_
      refine lv_iconst (v := (1 : Int32)) hx hb dX7_seal_80 (by decide) ?_
      refine lv_iadd hx hb dX7_seal_81 ?_
      refine va_put (D := G) (ci := 7) (v := .int (T_chunksMade + (1 : Int32))) (ty := .int) (C := RX7) (T := TX7) (N := 11) hx hb htc iX7 tyX7 tyX7_ok nmX7 hown hK hw34.1 hw34.2.1 hw34.2.2 0 rfl rfl 8 (by decide) (htc _ mw_193) (fun _ h9 => h9) rfl (tyX7_ok 8 (by decide)) rfl rfl (Nat.le_of_ble_eq_true rfl) dX7_seal_82 (fun H35 locs35 hP hD hS => ?_)
      have hw35 : wS G A s H35 locs35 [oX7 aT aD aI aK aO aTi aTp aTt T_chunks_13 (T_chunksMade + (1 : Int32)) T_openFrom T_lacksSpace_14, oX5 aK aKc K_used K_bitsFree K_full K_time K_value K_rise, oX6 aO O_first O_last O_points O_least O_greatest O_sum, rI aTi cI 961 T_image_15, rI aTp cI 96 T_packedFrom_16, rI aTt cZ 1661 T_taken_17] := ⟨hP, hD, hS⟩
      clear hP hD hS hw34 H34 locs34
      refine lv_aload_n hx hb dX7_seal_85 rfl (lv_at hl34 0 rfl) ?_
      refine va_get (D := G) (ci := 7) (v := .ref aO) (C := RX7) (T := TX7) (N := 11) hx hb htc iX7 hown hK hw35.1 0 rfl rfl 3 (by decide) (htc _ mw_188) (fun _ h9 => h9) rfl dX7_seal_86 ?_
      replace hfin := ob6_some hfin
      obtain ⟨O_first_37, O_last_38, O_points_39, O_least_40, O_greatest_41, O_sum_42, hE_36, hfin⟩ := hfin
      refine ctV (a := aO) (As := []) (rest := []) (st1 := []) (wc := [oX6 aO O_first O_last O_points O_least O_greatest O_sum]) (w1 := [oX6 aO O_first_37 O_last_38 O_points_39 O_least_40 O_greatest_41 O_sum_42]) (wr := [oX7 aT aD aI aK aO aTi aTp aTt T_chunks_13 (T_chunksMade + (1 : Int32)) T_openFrom T_lacksSpace_14, oX5 aK aKc K_used K_bitsFree K_full K_time K_value K_rise, rI aTi cI 961 T_image_15, rI aTp cI 96 T_packedFrom_16, rI aTt cZ 1661 T_taken_17]) (wb := [oX7 aT aD aI aK aO aTi aTp aTt T_chunks_13 (T_chunksMade + (1 : Int32)) T_openFrom T_lacksSpace_14, oX5 aK aKc K_used K_bitsFree K_full K_time K_value K_rise, oX6 aO O_first_37 O_last_38 O_points_39 O_least_40 O_greatest_41 O_sum_42, rI aTi cI 961 T_image_15, rI aTp cI 96 T_packedFrom_16, rI aTt cZ 1661 T_taken_17]) (v := none) hx hb hml hown htc hN (c_X6_clear l G cI cZ cJ aO O_first O_last O_points O_least O_greatest O_sum  hE_36) mw_428 mw_429 mw_430 mw_9 mw_431 hd_X6_clear ⟨rfl, rfl⟩ ⟨Nat.le_of_ble_eq_true rfl, Nat.le_of_ble_eq_true rfl⟩ hK hw35 hA [2] [0, 1, 3, 4, 5] [0, 1, 5, 2, 3, 4] rfl rfl rfl rfl rfl (by decide) rfl rfl rfl 0 rfl rfl rfl rfl hl34.1 rfl rfl (Nat.le_of_ble_eq_true rfl) dX7_seal_89 ⟨Nat.zero_le _, Nat.zero_le _⟩ (fun H43 locs43 hw43 => ?_)
      clear hw35 H35 locs35
      cases hfin
      rw [hQQ]
      exact ct_vret hx hb hr hlocks hw43.1 hw43.2.1 hw43.2.2 dX7_seal_92
    clear hfin
    refine lv_if_ne (tgt := 54) hx hb dX7_seal_37 (by decide) (fun c_20 => ?_) (fun c_20 => ?_)
    · replace hJ_18 := it_f c_20 hJ_18
      refine lv_aload_n hx hb dX7_seal_54 rfl (lv_at hl9 2 rfl) ?_
      refine lv_iconst (v := (1 : Int32)) hx hb dX7_seal_55 (by decide) ?_
      refine va_put (D := G) (ci := 7) (v := .int (1 : Int32)) (ty := .boolean) (C := RX7) (T := TX7) (N := 11) hx hb htc iX7 tyX7 tyX7_ok nmX7 hown hK hw12.1 hw12.2.1 hw12.2.2 0 rfl rfl 10 (by decide) (htc _ mw_195) (fun _ h9 => h9) rfl (tyX7_ok 10 (by decide)) rfl rfl (Nat.le_of_ble_eq_true rfl) dX7_seal_56 (fun H21 locs21 hP hD hS => ?_)
      have hw21 : wS G A s H21 locs21 [oX7 aT aD aI aK aO aTi aTp aTt T_chunks T_chunksMade T_openFrom (1 : Int32), oX5 aK aKc K_used K_bitsFree K_full K_time K_value K_rise, oX6 aO O_first O_last O_points O_least O_greatest O_sum, rI aTi cI 961 T_image, rI aTp cI 96 T_packedFrom, rI aTt cZ 1661 T_taken] := ⟨hP, hD, hS⟩
      clear hP hD hS hw12 H12 locs12
      refine lv_goto (tgt := 75) hx hb dX7_seal_59 (by decide) ?_
      cases hJ_18
      exact kj_19 _ _ _ hw21 (lv_sub hl9 [2] rfl)
    · replace hJ_18 := it_t c_20 hJ_18
      refine lv_iload_n hx hb dX7_seal_40 rfl (lv_at hl9 0 rfl) ?_
      refine lv_iconst (v := (-1 : Int32)) hx hb dX7_seal_41 (by decide) ?_
      refine lv_icmp_eq (tgt := 54) hx hb dX7_seal_42 (by decide) (fun c_22 => ?_) (fun c_22 => ?_)
      · replace hJ_18 := it_t c_22 hJ_18
        refine lv_aload_n hx hb dX7_seal_54 rfl (lv_at hl9 2 rfl) ?_
        refine lv_iconst (v := (1 : Int32)) hx hb dX7_seal_55 (by decide) ?_
        refine va_put (D := G) (ci := 7) (v := .int (1 : Int32)) (ty := .boolean) (C := RX7) (T := TX7) (N := 11) hx hb htc iX7 tyX7 tyX7_ok nmX7 hown hK hw12.1 hw12.2.1 hw12.2.2 0 rfl rfl 10 (by decide) (htc _ mw_195) (fun _ h9 => h9) rfl (tyX7_ok 10 (by decide)) rfl rfl (Nat.le_of_ble_eq_true rfl) dX7_seal_56 (fun H23 locs23 hP hD hS => ?_)
        have hw23 : wS G A s H23 locs23 [oX7 aT aD aI aK aO aTi aTp aTt T_chunks T_chunksMade T_openFrom (1 : Int32), oX5 aK aKc K_used K_bitsFree K_full K_time K_value K_rise, oX6 aO O_first O_last O_points O_least O_greatest O_sum, rI aTi cI 961 T_image, rI aTp cI 96 T_packedFrom, rI aTt cZ 1661 T_taken] := ⟨hP, hD, hS⟩
        clear hP hD hS hw12 H12 locs12
        refine lv_goto (tgt := 75) hx hb dX7_seal_59 (by decide) ?_
        cases hJ_18
        exact kj_19 _ _ _ hw23 (lv_sub hl9 [2] rfl)
      · replace hJ_18 := it_f c_22 hJ_18
        refine lv_aload_n hx hb dX7_seal_45 rfl (lv_at hl9 2 rfl) ?_
        refine va_get (D := G) (ci := 7) (v := .int T_chunks) (C := RX7) (T := TX7) (N := 11) hx hb htc iX7 hown hK hw12.1 0 rfl rfl 7 (by decide) (htc _ mw_192) (fun _ h9 => h9) rfl dX7_seal_46 ?_
        refine lv_bipush (v := (96 : Int32)) hx hb dX7_seal_49 (by decide) ?_
        refine lv_icmp_lt (tgt := 62) hx hb dX7_seal_51 (by decide) (fun c_24 => ?_) (fun c_24 => ?_)
        · replace hJ_18 := it_t c_24 hJ_18
          refine lv_aload_n hx hb dX7_seal_62 rfl (lv_at hl9 2 rfl) ?_
          refine lv_iload_n hx hb dX7_seal_63 rfl (lv_at hl9 0 rfl) ?_
          refine lv_iload_n hx hb dX7_seal_64 rfl (lv_at hl9 1 rfl) ?_
          replace hJ_18 := ob1_some hJ_18
          obtain ⟨T_taken_26, hE_25, hJ_18⟩ := hJ_18
          refine ctV (a := aT) (As := [.int r_7, .int (r_3 - T_openFrom)]) (rest := []) (st1 := []) (wc := [oX7 aT aD aI aK aO aTi aTp aTt T_chunks T_chunksMade T_openFrom T_lacksSpace, rI aTt cZ 1661 T_taken]) (w1 := [oX7 aT aD aI aK aO aTi aTp aTt T_chunks T_chunksMade T_openFrom T_lacksSpace, rI aTt cZ 1661 T_taken_26]) (wr := [oX5 aK aKc K_used K_bitsFree K_full K_time K_value K_rise, oX6 aO O_first O_last O_points O_least O_greatest O_sum, rI aTi cI 961 T_image, rI aTp cI 96 T_packedFrom]) (wb := [oX7 aT aD aI aK aO aTi aTp aTt T_chunks T_chunksMade T_openFrom T_lacksSpace, oX5 aK aKc K_used K_bitsFree K_full K_time K_value K_rise, oX6 aO O_first O_last O_points O_least O_greatest O_sum, rI aTi cI 961 T_image, rI aTp cI 96 T_packedFrom, rI aTt cZ 1661 T_taken_26]) (v := none) hx hb hml hown htc hN (c_X7_take l G cI cZ cJ aT aD aI aK aO aTi aTp aTt T_chunks T_chunksMade T_openFrom T_lacksSpace T_taken r_7 (r_3 - T_openFrom) hE_25) mw_434 mw_436 mp_2 mw_7 mw_437 hd_X7_take ⟨rfl, rfl⟩ ⟨Nat.le_of_ble_eq_true rfl, Nat.le_of_ble_eq_true rfl⟩ hK hw12 hA [0, 5] [1, 2, 3, 4] [4, 0, 1, 2, 3, 5] rfl rfl rfl rfl rfl (by decide) rfl rfl rfl 0 rfl rfl rfl rfl hl9.1 rfl rfl (Nat.le_of_ble_eq_true rfl) dX7_seal_65 ⟨Nat.zero_le _, Nat.zero_le _⟩ (fun H27 locs27 hw27 => ?_)
          clear hw12 H12 locs12
          refine lv_aload_n hx hb dX7_seal_68 rfl (lv_at hl9 2 rfl) ?_
          refine lv_iload_n hx hb dX7_seal_69 rfl (lv_at hl9 3 rfl) ?_
          refine lv_iload_n hx hb dX7_seal_70 rfl (lv_at hl9 0 rfl) ?_
          refine lv_iload_n hx hb dX7_seal_71 rfl (lv_at hl9 1 rfl) ?_
          replace hJ_18 := ob3_some hJ_18
          obtain ⟨T_chunks_29, T_image_30, T_packedFrom_31, hE_28, hJ_18⟩ := hJ_18
          refine ctV (a := aT) (As := [.int p0, .int r_7, .int (r_3 - T_openFrom)]) (rest := []) (st1 := []) (wc := [oX7 aT aD aI aK aO aTi aTp aTt T_chunks T_chunksMade T_openFrom T_lacksSpace, oX6 aO O_first O_last O_points O_least O_greatest O_sum, rI aTi cI 961 T_image, rI aTp cI 96 T_packedFrom]) (w1 := [oX7 aT aD aI aK aO aTi aTp aTt T_chunks_29 T_chunksMade T_openFrom T_lacksSpace, oX6 aO O_first O_last O_points O_least O_greatest O_sum, rI aTi cI 961 T_image_30, rI aTp cI 96 T_packedFrom_31]) (wr := [oX5 aK aKc K_used K_bitsFree K_full K_time K_value K_rise, rI aTt cZ 1661 T_taken_26]) (wb := [oX7 aT aD aI aK aO aTi aTp aTt T_chunks_29 T_chunksMade T_openFrom T_lacksSpace, oX5 aK aKc K_used K_bitsFree K_full K_time K_value K_rise, oX6 aO O_first O_last O_points O_least O_greatest O_sum, rI aTi cI 961 T_image_30, rI aTp cI 96 T_packedFrom_31, rI aTt cZ 1661 T_taken_26]) (v := none) hx hb hml hown htc hN (c_X7_addEntry l G cI cZ cJ aT aD aI aK aO aTi aTp aTt T_chunks T_chunksMade T_openFrom T_lacksSpace O_first O_last O_points O_least O_greatest O_sum T_image T_packedFrom p0 r_7 (r_3 - T_openFrom) hE_28) mw_470 mw_472 mp_6 mw_7 mw_473 hd_X7_addEntry ⟨rfl, rfl⟩ ⟨Nat.le_of_ble_eq_true rfl, Nat.le_of_ble_eq_true rfl⟩ hK hw27 hA [0, 2, 3, 4] [1, 5] [2, 0, 3, 4, 5, 1] rfl rfl rfl rfl rfl (by decide) rfl rfl rfl 0 rfl rfl rfl rfl hl9.1 rfl rfl (Nat.le_of_ble_eq_true rfl) dX7_seal_72 ⟨Nat.zero_le _, Nat.zero_le _⟩ (fun H32 locs32 hw32 => ?_)
          clear hw27 H27 locs27
          cases hJ_18
          exact kj_19 _ _ _ hw32 (lv_sub hl9 [2] rfl)
        · replace hJ_18 := it_f c_24 hJ_18
          refine lv_aload_n hx hb dX7_seal_54 rfl (lv_at hl9 2 rfl) ?_
          refine lv_iconst (v := (1 : Int32)) hx hb dX7_seal_55 (by decide) ?_
          refine va_put (D := G) (ci := 7) (v := .int (1 : Int32)) (ty := .boolean) (C := RX7) (T := TX7) (N := 11) hx hb htc iX7 tyX7 tyX7_ok nmX7 hown hK hw12.1 hw12.2.1 hw12.2.2 0 rfl rfl 10 (by decide) (htc _ mw_195) (fun _ h9 => h9) rfl (tyX7_ok 10 (by decide)) rfl rfl (Nat.le_of_ble_eq_true rfl) dX7_seal_56 (fun H33 locs33 hP hD hS => ?_)
          have hw33 : wS G A s H33 locs33 [oX7 aT aD aI aK aO aTi aTp aTt T_chunks T_chunksMade T_openFrom (1 : Int32), oX5 aK aKc K_used K_bitsFree K_full K_time K_value K_rise, oX6 aO O_first O_last O_points O_least O_greatest O_sum, rI aTi cI 961 T_image, rI aTp cI 96 T_packedFrom, rI aTt cZ 1661 T_taken] := ⟨hP, hD, hS⟩
          clear hP hD hS hw12 H12 locs12
          refine lv_goto (tgt := 75) hx hb dX7_seal_59 (by decide) ?_
          cases hJ_18
          exact kj_19 _ _ _ hw33 (lv_sub hl9 [2] rfl)
  · replace hfin := it_t c_1 hfin
    cases hfin
    rw [hQQ]
    exact ct_vret hx hb hr hlocks hw0.1 hw0.2.1 hw0.2.2 dX7_seal_10
abbrev rm_X7_pack : Room := { frames := 4, cells := 0, slots := 0, locals := 92 }
theorem hd_X7_pack : yX7_pack.cls = RX7 ∧ yX7_pack.cls ≠ "java/lang/invoke/MethodHandle" ∧ yX7_pack.cls ≠ "java/lang/invoke/VarHandle" ∧ (parseMethodDescriptor yX7_pack.desc).map (fun d => d.parameters.length) = some 2 := by decide +kernel
set_option maxHeartbeats 4000000 in
set_option maxRecDepth 100000 in
theorem c_X7_pack (l : Launch) (G : va_G) (cI cZ cJ : ClassId) (aT aD aI aK aO aTi aTp aTt aKc : Nat) (T_chunks : Int32) (T_chunksMade : Int32) (T_openFrom : Int32) (T_lacksSpace : Int32) (K_used : Int32) (K_bitsFree : Int32) (K_full : Int32) (K_time : Int32) (K_value : Int32) (K_rise : Int64) (K_cells : Nat → Int32) (O_first : Int32) (O_last : Int32) (O_points : Int32) (O_least : Int32) (O_greatest : Int32) (O_sum : Int64) (p0 : Int32) (p1 : Int32) {o_T_openFrom : Int32} {o_K_used : Int32} {o_K_bitsFree : Int32} {o_K_full : Int32} {o_K_time : Int32} {o_K_value : Int32} {o_K_rise : Int64} {o_K_cells : Nat → Int32} {o_O_first : Int32} {o_O_last : Int32} {o_O_points : Int32} {o_O_least : Int32} {o_O_greatest : Int32} {o_O_sum : Int64} (hfin : m_X7_pack T_openFrom K_used K_bitsFree K_full K_time K_value K_rise K_cells O_first O_last O_points O_least O_greatest O_sum p0 p1 = some (o_T_openFrom, o_K_used, o_K_bitsFree, o_K_full, o_K_time, o_K_value, o_K_rise, o_K_cells, o_O_first, o_O_last, o_O_points, o_O_least, o_O_greatest, o_O_sum)) : CT l yX7_pack cX7_pack 3 none rm_X7_pack G (tyC cI cZ cJ) [.ref aT, .int p0, .int p1] [oX7 aT aD aI aK aO aTi aTp aTt T_chunks T_chunksMade T_openFrom T_lacksSpace, oX5 aK aKc K_used K_bitsFree K_full K_time K_value K_rise, rI aKc cI 1661 K_cells, oX6 aO O_first O_last O_points O_least O_greatest O_sum] none [oX7 aT aD aI aK aO aTi aTp aTt T_chunks T_chunksMade o_T_openFrom T_lacksSpace, oX5 aK aKc o_K_used o_K_bitsFree o_K_full o_K_time o_K_value o_K_rise, rI aKc cI 1661 o_K_cells, oX6 aO o_O_first o_O_last o_O_points o_O_least o_O_greatest o_O_sum] := by
  refine CT.ofW (lvl := [(0, .ref aT), (1, .int p0), (2, .int p1)]) (by decide) (Nat.le_of_ble_eq_true rfl) rfl ?_
  intro p e s m args below meth c A ls0 QQ hQQ hx hb hml hr hlocks htc hN hown hK hA hw0 hl0
  rw [m_X7_pack] at hfin
  refine lv_aload_n hx hb dX7_pack_0 rfl (lv_at hl0 0 rfl) ?_
  refine va_get (D := G) (ci := 7) (v := .ref aO) (C := RX7) (T := TX7) (N := 11) hx hb htc iX7 hown hK hw0.1 0 rfl rfl 3 (by decide) (htc _ mw_188) (fun _ h9 => h9) rfl dX7_pack_1 ?_
  refine va_getN (D := G) (ci := 6) (v := .int O_points) (C := RX6) (T := TX6) (N := 6) hx hb htc iX6 hown hK hw0.1 3 rfl rfl 2 (by decide) (va_Nw.use rfl (hN _ mn_13)) (fun _ h9 => h9) rfl dX7_pack_4 ?_
  replace hfin := ob8_some hfin
  obtain ⟨T_openFrom_1, K_used_2, K_bitsFree_3, K_full_4, K_time_5, K_value_6, K_rise_7, K_cells_8, hJ_9, hfin⟩ := hfin
  have kj_10 : ∀ (H : Heap) (locs : List Loc) (ls : Array Slot), wS G A s H locs [oX7 aT aD aI aK aO aTi aTp aTt T_chunks T_chunksMade T_openFrom_1 T_lacksSpace, oX5 aK aKc K_used_2 K_bitsFree_3 K_full_4 K_time_5 K_value_6 K_rise_7, rI aKc cI 1661 K_cells_8, oX6 aO O_first O_last O_points O_least O_greatest O_sum] → lv_has ls 3 [(0, .ref aT), (1, .int p0), (2, .int p1)] → W p l e rm_X7_pack s m args below meth c H locs 0 0 QQ (F0 m 42 ls []) := by
    clear hw0 hl0 ls0 hJ_9
    intro H34 locs34 ls34 hw34 hl34
    refine lv_aload_n hx hb dX7_pack_42 rfl (lv_at hl34 0 rfl) ?_
    refine va_get (D := G) (ci := 7) (v := .ref aO) (C := RX7) (T := TX7) (N := 11) hx hb htc iX7 hown hK hw34.1 0 rfl rfl 3 (by decide) (htc _ mw_188) (fun _ h9 => h9) rfl dX7_pack_43 ?_
    refine lv_iload_n hx hb dX7_pack_46 rfl (lv_at hl34 1 rfl) ?_
    refine lv_iload_n hx hb dX7_pack_47 rfl (lv_at hl34 2 rfl) ?_
    replace hfin := ob6_some hfin
    obtain ⟨O_first_36, O_last_37, O_points_38, O_least_39, O_greatest_40, O_sum_41, hE_35, hfin⟩ := hfin
    refine ctV (a := aO) (As := [.int p0, .int p1]) (rest := []) (st1 := []) (wc := [oX6 aO O_first O_last O_points O_least O_greatest O_sum]) (w1 := [oX6 aO O_first_36 O_last_37 O_points_38 O_least_39 O_greatest_40 O_sum_41]) (wr := [oX7 aT aD aI aK aO aTi aTp aTt T_chunks T_chunksMade T_openFrom_1 T_lacksSpace, oX5 aK aKc K_used_2 K_bitsFree_3 K_full_4 K_time_5 K_value_6 K_rise_7, rI aKc cI 1661 K_cells_8]) (wb := [oX7 aT aD aI aK aO aTi aTp aTt T_chunks T_chunksMade T_openFrom_1 T_lacksSpace, oX5 aK aKc K_used_2 K_bitsFree_3 K_full_4 K_time_5 K_value_6 K_rise_7, rI aKc cI 1661 K_cells_8, oX6 aO O_first_36 O_last_37 O_points_38 O_least_39 O_greatest_40 O_sum_41]) (v := none) hx hb hml hown htc hN (c_X6_addPoint l G cI cZ cJ aO O_first O_last O_points O_least O_greatest O_sum p0 p1 hE_35) mw_513 mw_514 mw_515 mw_9 mw_516 hd_X6_addPoint ⟨rfl, rfl⟩ ⟨Nat.le_of_ble_eq_true rfl, Nat.le_of_ble_eq_true rfl⟩ hK hw34 hA [3] [0, 1, 2] [0, 1, 2, 3] rfl rfl rfl rfl rfl (by decide) rfl rfl rfl 0 rfl rfl rfl rfl hl34.1 rfl rfl (Nat.le_of_ble_eq_true rfl) dX7_pack_48 ⟨Nat.zero_le _, Nat.zero_le _⟩ (fun H42 locs42 hw42 => ?_)
    clear hw34 H34 locs34
    cases hfin
    rw [hQQ]
    exact ct_vret hx hb hr hlocks hw42.1 hw42.2.1 hw42.2.2 dX7_pack_51
  clear hfin
  refine lv_if_ne (tgt := 33) hx hb dX7_pack_7 (by decide) (fun c_11 => ?_) (fun c_11 => ?_)
  · replace hJ_9 := it_f c_11 hJ_9
    refine lv_aload_n hx hb dX7_pack_33 rfl (lv_at hl0 0 rfl) ?_
    refine va_get (D := G) (ci := 7) (v := .ref aK) (C := RX7) (T := TX7) (N := 11) hx hb htc iX7 hown hK hw0.1 0 rfl rfl 2 (by decide) (htc _ mw_187) (fun _ h9 => h9) rfl dX7_pack_34 ?_
    refine lv_iload_n hx hb dX7_pack_37 rfl (lv_at hl0 1 rfl) ?_
    refine lv_iload_n hx hb dX7_pack_38 rfl (lv_at hl0 2 rfl) ?_
    replace hJ_9 := ob7_some hJ_9
    obtain ⟨K_used_13, K_bitsFree_14, K_full_15, K_time_16, K_value_17, K_rise_18, K_cells_19, hE_12, hJ_9⟩ := hJ_9
    refine ctV (a := aK) (As := [.int p0, .int p1]) (rest := []) (st1 := []) (wc := [oX5 aK aKc K_used K_bitsFree K_full K_time K_value K_rise, rI aKc cI 1661 K_cells]) (w1 := [oX5 aK aKc K_used_13 K_bitsFree_14 K_full_15 K_time_16 K_value_17 K_rise_18, rI aKc cI 1661 K_cells_19]) (wr := [oX7 aT aD aI aK aO aTi aTp aTt T_chunks T_chunksMade T_openFrom T_lacksSpace, oX6 aO O_first O_last O_points O_least O_greatest O_sum]) (wb := [oX7 aT aD aI aK aO aTi aTp aTt T_chunks T_chunksMade T_openFrom T_lacksSpace, oX5 aK aKc K_used_13 K_bitsFree_14 K_full_15 K_time_16 K_value_17 K_rise_18, rI aKc cI 1661 K_cells_19, oX6 aO O_first O_last O_points O_least O_greatest O_sum]) (v := none) hx hb hml hown htc hN (c_X5_packFurther l G cI cZ cJ aK aKc K_used K_bitsFree K_full K_time K_value K_rise K_cells p0 p1 hE_12) mw_486 mw_487 mw_488 mw_8 mw_489 hd_X5_packFurther ⟨rfl, rfl⟩ ⟨Nat.le_of_ble_eq_true rfl, Nat.le_of_ble_eq_true rfl⟩ hK hw0 hA [1, 2] [0, 3] [0, 2, 3, 1] rfl rfl rfl rfl rfl (by decide) rfl rfl rfl 0 rfl rfl rfl rfl hl0.1 rfl rfl (Nat.le_of_ble_eq_true rfl) dX7_pack_39 ⟨Nat.zero_le _, Nat.zero_le _⟩ (fun H20 locs20 hw20 => ?_)
    clear hw0
    cases hJ_9
    exact kj_10 _ _ _ hw20 (lv_sub hl0 [0, 1, 2] rfl)
  · replace hJ_9 := it_t c_11 hJ_9
    refine lv_aload_n hx hb dX7_pack_10 rfl (lv_at hl0 0 rfl) ?_
    refine lv_aload_n hx hb dX7_pack_11 rfl (lv_at hl0 0 rfl) ?_
    refine va_get (D := G) (ci := 7) (v := .ref aK) (C := RX7) (T := TX7) (N := 11) hx hb htc iX7 hown hK hw0.1 0 rfl rfl 2 (by decide) (htc _ mw_187) (fun _ h9 => h9) rfl dX7_pack_12 ?_
    replace hJ_9 := ob1_some hJ_9
    obtain ⟨r_22, hE_21, hJ_9⟩ := hJ_9
    refine ctV (a := aK) (As := []) (rest := [.ref aT]) (st1 := [.int r_22, .ref aT]) (wc := [oX5 aK aKc K_used K_bitsFree K_full K_time K_value K_rise]) (w1 := [oX5 aK aKc K_used K_bitsFree K_full K_time K_value K_rise]) (wr := [oX7 aT aD aI aK aO aTi aTp aTt T_chunks T_chunksMade T_openFrom T_lacksSpace, rI aKc cI 1661 K_cells, oX6 aO O_first O_last O_points O_least O_greatest O_sum]) (wb := [oX7 aT aD aI aK aO aTi aTp aTt T_chunks T_chunksMade T_openFrom T_lacksSpace, oX5 aK aKc K_used K_bitsFree K_full K_time K_value K_rise, rI aKc cI 1661 K_cells, oX6 aO O_first O_last O_points O_least O_greatest O_sum]) (v := (some (.int r_22))) hx hb hml hown htc hN (c_X5_used l G cI cZ cJ aK aKc K_used K_bitsFree K_full K_time K_value K_rise  hE_21) mw_458 mw_459 mw_460 mw_8 mw_461 hd_X5_used ⟨rfl, rfl⟩ ⟨Nat.le_of_ble_eq_true rfl, Nat.le_of_ble_eq_true rfl⟩ hK hw0 hA [1] [0, 2, 3] [0, 3, 1, 2] rfl rfl rfl rfl rfl (by decide) rfl rfl rfl 0 rfl rfl rfl rfl hl0.1 rfl rfl (Nat.le_of_ble_eq_true rfl) dX7_pack_15 ⟨Nat.zero_le _, Nat.zero_le _⟩ (fun H23 locs23 hw23 => ?_)
    clear hw0
    refine va_put (D := G) (ci := 7) (v := .int r_22) (ty := .int) (C := RX7) (T := TX7) (N := 11) hx hb htc iX7 tyX7 tyX7_ok nmX7 hown hK hw23.1 hw23.2.1 hw23.2.2 0 rfl rfl 9 (by decide) (htc _ mw_194) (fun _ h9 => h9) rfl (tyX7_ok 9 (by decide)) rfl rfl (Nat.le_of_ble_eq_true rfl) dX7_pack_18 (fun H24 locs24 hP hD hS => ?_)
    have hw24 : wS G A s H24 locs24 [oX7 aT aD aI aK aO aTi aTp aTt T_chunks T_chunksMade r_22 T_lacksSpace, oX5 aK aKc K_used K_bitsFree K_full K_time K_value K_rise, rI aKc cI 1661 K_cells, oX6 aO O_first O_last O_points O_least O_greatest O_sum] := ⟨hP, hD, hS⟩
    clear hP hD hS hw23 H23 locs23
    refine lv_aload_n hx hb dX7_pack_21 rfl (lv_at hl0 0 rfl) ?_
    refine va_get (D := G) (ci := 7) (v := .ref aK) (C := RX7) (T := TX7) (N := 11) hx hb htc iX7 hown hK hw24.1 0 rfl rfl 2 (by decide) (htc _ mw_187) (fun _ h9 => h9) rfl dX7_pack_22 ?_
    refine lv_iload_n hx hb dX7_pack_25 rfl (lv_at hl0 1 rfl) ?_
    refine lv_iload_n hx hb dX7_pack_26 rfl (lv_at hl0 2 rfl) ?_
    replace hJ_9 := ob7_some hJ_9
    obtain ⟨K_used_26, K_bitsFree_27, K_full_28, K_time_29, K_value_30, K_rise_31, K_cells_32, hE_25, hJ_9⟩ := hJ_9
    refine ctV (a := aK) (As := [.int p0, .int p1]) (rest := []) (st1 := []) (wc := [oX5 aK aKc K_used K_bitsFree K_full K_time K_value K_rise, rI aKc cI 1661 K_cells]) (w1 := [oX5 aK aKc K_used_26 K_bitsFree_27 K_full_28 K_time_29 K_value_30 K_rise_31, rI aKc cI 1661 K_cells_32]) (wr := [oX7 aT aD aI aK aO aTi aTp aTt T_chunks T_chunksMade r_22 T_lacksSpace, oX6 aO O_first O_last O_points O_least O_greatest O_sum]) (wb := [oX7 aT aD aI aK aO aTi aTp aTt T_chunks T_chunksMade r_22 T_lacksSpace, oX5 aK aKc K_used_26 K_bitsFree_27 K_full_28 K_time_29 K_value_30 K_rise_31, rI aKc cI 1661 K_cells_32, oX6 aO O_first O_last O_points O_least O_greatest O_sum]) (v := none) hx hb hml hown htc hN (c_X5_packFirst l G cI cZ cJ aK aKc K_used K_bitsFree K_full K_time K_value K_rise K_cells p0 p1 hE_25) mw_478 mw_479 mw_480 mw_8 mw_481 hd_X5_packFirst ⟨rfl, rfl⟩ ⟨Nat.le_of_ble_eq_true rfl, Nat.le_of_ble_eq_true rfl⟩ hK hw24 hA [1, 2] [0, 3] [0, 2, 3, 1] rfl rfl rfl rfl rfl (by decide) rfl rfl rfl 0 rfl rfl rfl rfl hl0.1 rfl rfl (Nat.le_of_ble_eq_true rfl) dX7_pack_27 ⟨Nat.zero_le _, Nat.zero_le _⟩ (fun H33 locs33 hw33 => ?_)
    clear hw24 H24 locs24
    refine lv_goto (tgt := 42) hx hb dX7_pack_30 (by decide) ?_
    cases hJ_9
    exact kj_10 _ _ _ hw33 (lv_sub hl0 [0, 1, 2] rfl)
abbrev rm_X7_chunksMade : Room := { frames := 0, cells := 0, slots := 0, locals := 0 }
theorem hd_X7_chunksMade : yX7_chunksMade.cls = RX7 ∧ yX7_chunksMade.cls ≠ "java/lang/invoke/MethodHandle" ∧ yX7_chunksMade.cls ≠ "java/lang/invoke/VarHandle" ∧ (parseMethodDescriptor yX7_chunksMade.desc).map (fun d => d.parameters.length) = some 0 := by decide +kernel
set_option maxHeartbeats 4000000 in
set_option maxRecDepth 100000 in
theorem c_X7_chunksMade (l : Launch) (G : va_G) (cI cZ cJ : ClassId) (aT aD aI aK aO aTi aTp aTt : Nat) (T_chunks : Int32) (T_chunksMade : Int32) (T_openFrom : Int32) (T_lacksSpace : Int32)  {r : Int32} (hfin : m_X7_chunksMade T_chunksMade = some (r)) : CT l yX7_chunksMade cX7_chunksMade 1 (some .int) rm_X7_chunksMade G (tyC cI cZ cJ) [.ref aT] [oX7 aT aD aI aK aO aTi aTp aTt T_chunks T_chunksMade T_openFrom T_lacksSpace] (some (.int r)) [oX7 aT aD aI aK aO aTi aTp aTt T_chunks T_chunksMade T_openFrom T_lacksSpace] := by
  refine CT.ofW (lvl := [(0, .ref aT)]) (by decide) (Nat.le_of_ble_eq_true rfl) rfl ?_
  intro p e s m args below meth c A ls0 QQ hQQ hx hb hml hr hlocks htc hN hown hK hA hw0 hl0
  rw [m_X7_chunksMade] at hfin
  refine lv_aload_n hx hb dX7_chunksMade_0 rfl (lv_at hl0 0 rfl) ?_
  refine va_get (D := G) (ci := 7) (v := .int T_chunksMade) (C := RX7) (T := TX7) (N := 11) hx hb htc iX7 hown hK hw0.1 0 rfl rfl 8 (by decide) (htc _ mw_193) (fun _ h9 => h9) rfl dX7_chunksMade_1 ?_
  cases hfin
  rw [hQQ]
  exact ct_iret hx hb hr hlocks hw0.1 hw0.2.1 hw0.2.2 dX7_chunksMade_4
abbrev rm_X7_lacksSpace : Room := { frames := 0, cells := 0, slots := 0, locals := 0 }
theorem hd_X7_lacksSpace : yX7_lacksSpace.cls = RX7 ∧ yX7_lacksSpace.cls ≠ "java/lang/invoke/MethodHandle" ∧ yX7_lacksSpace.cls ≠ "java/lang/invoke/VarHandle" ∧ (parseMethodDescriptor yX7_lacksSpace.desc).map (fun d => d.parameters.length) = some 0 := by decide +kernel
set_option maxHeartbeats 4000000 in
set_option maxRecDepth 100000 in
theorem c_X7_lacksSpace (l : Launch) (G : va_G) (cI cZ cJ : ClassId) (aT aD aI aK aO aTi aTp aTt : Nat) (T_chunks : Int32) (T_chunksMade : Int32) (T_openFrom : Int32) (T_lacksSpace : Int32)  {r : Int32} (hfin : m_X7_lacksSpace T_lacksSpace = some (r)) : CT l yX7_lacksSpace cX7_lacksSpace 1 (some .boolean) rm_X7_lacksSpace G (tyC cI cZ cJ) [.ref aT] [oX7 aT aD aI aK aO aTi aTp aTt T_chunks T_chunksMade T_openFrom T_lacksSpace] (some (.int r)) [oX7 aT aD aI aK aO aTi aTp aTt T_chunks T_chunksMade T_openFrom T_lacksSpace] := by
  refine CT.ofW (lvl := [(0, .ref aT)]) (by decide) (Nat.le_of_ble_eq_true rfl) rfl ?_
  intro p e s m args below meth c A ls0 QQ hQQ hx hb hml hr hlocks htc hN hown hK hA hw0 hl0
  rw [m_X7_lacksSpace] at hfin
  refine lv_aload_n hx hb dX7_lacksSpace_0 rfl (lv_at hl0 0 rfl) ?_
  refine va_get (D := G) (ci := 7) (v := .int T_lacksSpace) (C := RX7) (T := TX7) (N := 11) hx hb htc iX7 hown hK hw0.1 0 rfl rfl 10 (by decide) (htc _ mw_195) (fun _ h9 => h9) rfl dX7_lacksSpace_1 ?_
  replace hfin := ckz_some hfin
  obtain ⟨hz_1, hfin⟩ := hfin
  cases hfin
  rw [hQQ]
  exact ct_zret hx hb hr hlocks hz_1 hw0.1 hw0.2.1 hw0.2.2 dX7_lacksSpace_4
abbrev rm_X7_writeCellsOf : Room := { frames := 1, cells := 0, slots := 0, locals := 22 }
theorem hd_X7_writeCellsOf : yX7_writeCellsOf.cls = RX7 ∧ yX7_writeCellsOf.cls ≠ "java/lang/invoke/MethodHandle" ∧ yX7_writeCellsOf.cls ≠ "java/lang/invoke/VarHandle" ∧ (parseMethodDescriptor yX7_writeCellsOf.desc).map (fun d => d.parameters.length) = some 1 := by decide +kernel
set_option maxHeartbeats 4000000 in
set_option maxRecDepth 100000 in
theorem c_X7_writeCellsOf (l : Launch) (G : va_G) (cI cZ cJ : ClassId) (aD aDc aT aI aK aO aTi aTp aTt aKc : Nat) (D_writesDone : Int32) (D_writesLeft : Int32) (D_down : Int32) (D_cells : Nat → Int32) (T_chunks : Int32) (T_chunksMade : Int32) (T_openFrom : Int32) (T_lacksSpace : Int32) (K_used : Int32) (K_bitsFree : Int32) (K_full : Int32) (K_time : Int32) (K_value : Int32) (K_rise : Int64) (K_cells : Nat → Int32) (T_image : Nat → Int32) (T_packedFrom : Nat → Int32) (p0 : Int32) {r : Int32} {o_D_writesDone : Int32} {o_D_writesLeft : Int32} {o_D_down : Int32} {o_D_cells : Nat → Int32} (hfin : m_X7_writeCellsOf D_writesDone D_writesLeft D_down D_cells K_used K_cells T_image T_packedFrom p0 = some (r, o_D_writesDone, o_D_writesLeft, o_D_down, o_D_cells)) : CT l yX7_writeCellsOf cX7_writeCellsOf 6 (some .boolean) rm_X7_writeCellsOf G (tyC cI cZ cJ) [.ref aT, .int p0] [oX2 aD aDc D_writesDone D_writesLeft D_down, rI aDc cI 4096 D_cells, oX7 aT aD aI aK aO aTi aTp aTt T_chunks T_chunksMade T_openFrom T_lacksSpace, oX5 aK aKc K_used K_bitsFree K_full K_time K_value K_rise, rI aKc cI 1661 K_cells, rI aTi cI 961 T_image, rI aTp cI 96 T_packedFrom] (some (.int r)) [oX2 aD aDc o_D_writesDone o_D_writesLeft o_D_down, rI aDc cI 4096 o_D_cells, oX7 aT aD aI aK aO aTi aTp aTt T_chunks T_chunksMade T_openFrom T_lacksSpace, oX5 aK aKc K_used K_bitsFree K_full K_time K_value K_rise, rI aKc cI 1661 K_cells, rI aTi cI 961 T_image, rI aTp cI 96 T_packedFrom] := by
  refine CT.ofW (lvl := [(0, .ref aT), (1, .int p0)]) (by decide) (Nat.le_of_ble_eq_true rfl) rfl ?_
  intro p e s m args below meth c A ls0 QQ hQQ hx hb hml hr hlocks htc hN hown hK hA hw0 hl0
  rw [m_X7_writeCellsOf] at hfin
  refine lv_iconst (v := (1 : Int32)) hx hb dX7_writeCellsOf_0 (by decide) ?_
  refine lv_iload_n hx hb dX7_writeCellsOf_1 rfl (lv_at hl0 1 rfl) ?_
  refine lv_bipush (v := (10 : Int32)) hx hb dX7_writeCellsOf_2 (by decide) ?_
  refine lv_imul hx hb dX7_writeCellsOf_4 ?_
  refine lv_iadd hx hb dX7_writeCellsOf_5 ?_
  refine lv_istore_n (lv' := [(2, .int ((1 : Int32) + (p0 * (10 : Int32)))), (0, .ref aT), (1, .int p0)]) hx hb dX7_writeCellsOf_6 rfl hl0 (by decide) rfl (fun ls1 hl1 => ?_)
  clear hl0 ls0
  refine lv_aload_n hx hb dX7_writeCellsOf_7 rfl (lv_at hl1 1 rfl) ?_
  refine va_get (D := G) (ci := 7) (v := .ref aTi) (C := RX7) (T := TX7) (N := 11) hx hb htc iX7 hown hK hw0.1 2 rfl rfl 4 (by decide) (htc _ mw_189) (fun _ h9 => h9) rfl dX7_writeCellsOf_8 ?_
  refine lv_iload_n hx hb dX7_writeCellsOf_11 rfl (lv_at hl1 0 rfl) ?_
  refine lv_bipush (v := (8 : Int32)) hx hb dX7_writeCellsOf_12 (by decide) ?_
  refine lv_iadd hx hb dX7_writeCellsOf_14 ?_
  replace hfin := ckb_some hfin
  obtain ⟨hin_2, hfin⟩ := hfin
  refine va_iald hx hb hK hw0.1 5 0 rfl rfl hin_2 dX7_writeCellsOf_15 ?_
  refine lv_istore_n (lv' := [(3, .int (T_image (Int32.toNatClampNeg (((1 : Int32) + (p0 * (10 : Int32))) + (8 : Int32))))), (2, .int ((1 : Int32) + (p0 * (10 : Int32)))), (0, .ref aT), (1, .int p0)]) hx hb dX7_writeCellsOf_16 rfl hl1 (by decide) rfl (fun ls3 hl3 => ?_)
  clear hl1 ls1
  refine lv_aload_n hx hb dX7_writeCellsOf_17 rfl (lv_at hl3 2 rfl) ?_
  refine va_get (D := G) (ci := 7) (v := .ref aTi) (C := RX7) (T := TX7) (N := 11) hx hb htc iX7 hown hK hw0.1 2 rfl rfl 4 (by decide) (htc _ mw_189) (fun _ h9 => h9) rfl dX7_writeCellsOf_18 ?_
  refine lv_iload_n hx hb dX7_writeCellsOf_21 rfl (lv_at hl3 1 rfl) ?_
  refine lv_bipush (v := (9 : Int32)) hx hb dX7_writeCellsOf_22 (by decide) ?_
  refine lv_iadd hx hb dX7_writeCellsOf_24 ?_
  replace hfin := ckb_some hfin
  obtain ⟨hin_4, hfin⟩ := hfin
  refine va_iald hx hb hK hw0.1 5 0 rfl rfl hin_4 dX7_writeCellsOf_25 ?_
  refine lv_istore (lv' := [(4, .int (T_image (Int32.toNatClampNeg (((1 : Int32) + (p0 * (10 : Int32))) + (9 : Int32))))), (3, .int (T_image (Int32.toNatClampNeg (((1 : Int32) + (p0 * (10 : Int32))) + (8 : Int32))))), (2, .int ((1 : Int32) + (p0 * (10 : Int32)))), (0, .ref aT), (1, .int p0)]) hx hb dX7_writeCellsOf_26 hl3 (by decide) rfl (fun ls5 hl5 => ?_)
  clear hl3 ls3
  refine lv_iconst (v := (0 : Int32)) hx hb dX7_writeCellsOf_28 (by decide) ?_
  refine lv_istore (lv' := [(5, .int (0 : Int32)), (4, .int (T_image (Int32.toNatClampNeg (((1 : Int32) + (p0 * (10 : Int32))) + (9 : Int32))))), (3, .int (T_image (Int32.toNatClampNeg (((1 : Int32) + (p0 * (10 : Int32))) + (8 : Int32))))), (2, .int ((1 : Int32) + (p0 * (10 : Int32)))), (0, .ref aT), (1, .int p0)]) hx hb dX7_writeCellsOf_29 hl5 (by decide) rfl (fun ls6 hl6 => ?_)
  clear hl5 ls5
  have lp_14 : ∀ (n : Nat) (v5_7 : Int32) (D_writesDone_8 : Int32) (D_writesLeft_9 : Int32) (D_down_10 : Int32) (D_cells_11 : Nat → Int32), lp_X7_writeCellsOf_31 K_used K_cells T_image T_packedFrom p0 n v5_7 D_writesDone_8 D_writesLeft_9 D_down_10 D_cells_11 = some (r, o_D_writesDone, o_D_writesLeft, o_D_down, o_D_cells) → ∀ (H : Heap) (locs : List Loc) (ls : Array Slot), wS G A s H locs [oX2 aD aDc D_writesDone_8 D_writesLeft_9 D_down_10, rI aDc cI 4096 D_cells_11, oX7 aT aD aI aK aO aTi aTp aTt T_chunks T_chunksMade T_openFrom T_lacksSpace, oX5 aK aKc K_used K_bitsFree K_full K_time K_value K_rise, rI aKc cI 1661 K_cells, rI aTi cI 961 T_image, rI aTp cI 96 T_packedFrom] → lv_has ls 6 [(0, .ref aT), (1, .int p0), (3, .int (T_image (Int32.toNatClampNeg (((1 : Int32) + (p0 * (10 : Int32))) + (8 : Int32))))), (4, .int (T_image (Int32.toNatClampNeg (((1 : Int32) + (p0 * (10 : Int32))) + (9 : Int32))))), (5, .int v5_7)] → W p l e rm_X7_writeCellsOf s m args below meth c H locs 0 0 QQ (F0 m 31 ls []) := by
    clear hw0 hl6 ls6 hfin
    intro n
    induction n with
    | zero =>
      intro v5_7 D_writesDone_8 D_writesLeft_9 D_down_10 D_cells_11 hB_15
      exact absurd hB_15 (by rw [lp_X7_writeCellsOf_31]; exact fun h9 => nomatch h9)
    | succ n ih =>
      intro v5_7 D_writesDone_8 D_writesLeft_9 D_down_10 D_cells_11 hB_15 H16 locs16 ls16 hw16 hl16
      rw [lp_X7_writeCellsOf_31] at hB_15
      refine lv_iload hx hb dX7_writeCellsOf_31 (lv_at hl16 4 rfl) ?_
      refine lv_iload hx hb dX7_writeCellsOf_33 (lv_at hl16 3 rfl) ?_
      refine lv_icmp_ge (tgt := 76) hx hb dX7_writeCellsOf_35 (by decide) (fun c_17 => ?_) (fun c_17 => ?_)
      · replace hB_15 := it_t c_17 hB_15
        refine lv_iconst (v := (1 : Int32)) hx hb dX7_writeCellsOf_76 (by decide) ?_
        cases hB_15
        rw [hQQ]
        exact ct_zret hx hb hr hlocks (Or.inr rfl) hw16.1 hw16.2.1 hw16.2.2 dX7_writeCellsOf_77
      · replace hB_15 := it_f c_17 hB_15
        refine lv_aload_n hx hb dX7_writeCellsOf_38 rfl (lv_at hl16 0 rfl) ?_
        refine va_get (D := G) (ci := 7) (v := .ref aD) (C := RX7) (T := TX7) (N := 11) hx hb htc iX7 hown hK hw16.1 2 rfl rfl 0 (by decide) (htc _ mw_185) (fun _ h9 => h9) rfl dX7_writeCellsOf_39 ?_
        refine lv_iload_n hx hb dX7_writeCellsOf_42 rfl (lv_at hl16 2 rfl) ?_
        refine lv_iload hx hb dX7_writeCellsOf_43 (lv_at hl16 4 rfl) ?_
        refine lv_iadd hx hb dX7_writeCellsOf_45 ?_
        refine lv_aload_n hx hb dX7_writeCellsOf_46 rfl (lv_at hl16 0 rfl) ?_
        refine va_get (D := G) (ci := 7) (v := .ref aK) (C := RX7) (T := TX7) (N := 11) hx hb htc iX7 hown hK hw16.1 2 rfl rfl 2 (by decide) (htc _ mw_187) (fun _ h9 => h9) rfl dX7_writeCellsOf_47 ?_
        refine lv_aload_n hx hb dX7_writeCellsOf_50 rfl (lv_at hl16 0 rfl) ?_
        refine va_get (D := G) (ci := 7) (v := .ref aTp) (C := RX7) (T := TX7) (N := 11) hx hb htc iX7 hown hK hw16.1 2 rfl rfl 5 (by decide) (htc _ mw_190) (fun _ h9 => h9) rfl dX7_writeCellsOf_51 ?_
        refine lv_iload_n hx hb dX7_writeCellsOf_54 rfl (lv_at hl16 1 rfl) ?_
        replace hB_15 := ckb_some hB_15
        obtain ⟨hin_18, hB_15⟩ := hB_15
        refine va_iald hx hb hK hw16.1 6 0 rfl rfl hin_18 dX7_writeCellsOf_55 ?_
        refine lv_iload hx hb dX7_writeCellsOf_56 (lv_at hl16 4 rfl) ?_
        refine lv_iadd hx hb dX7_writeCellsOf_58 ?_
        replace hB_15 := ob1_some hB_15
        obtain ⟨r_20, hE_19, hB_15⟩ := hB_15
        refine ctV (a := aK) (As := [.int ((T_packedFrom (Int32.toNatClampNeg p0)) + v5_7)]) (rest := [.int ((T_image (Int32.toNatClampNeg (((1 : Int32) + (p0 * (10 : Int32))) + (8 : Int32)))) + v5_7), .ref aD]) (st1 := [.int r_20, .int ((T_image (Int32.toNatClampNeg (((1 : Int32) + (p0 * (10 : Int32))) + (8 : Int32)))) + v5_7), .ref aD]) (wc := [oX5 aK aKc K_used K_bitsFree K_full K_time K_value K_rise, rI aKc cI 1661 K_cells]) (w1 := [oX5 aK aKc K_used K_bitsFree K_full K_time K_value K_rise, rI aKc cI 1661 K_cells]) (wr := [oX2 aD aDc D_writesDone_8 D_writesLeft_9 D_down_10, rI aDc cI 4096 D_cells_11, oX7 aT aD aI aK aO aTi aTp aTt T_chunks T_chunksMade T_openFrom T_lacksSpace, rI aTi cI 961 T_image, rI aTp cI 96 T_packedFrom]) (wb := [oX2 aD aDc D_writesDone_8 D_writesLeft_9 D_down_10, rI aDc cI 4096 D_cells_11, oX7 aT aD aI aK aO aTi aTp aTt T_chunks T_chunksMade T_openFrom T_lacksSpace, oX5 aK aKc K_used K_bitsFree K_full K_time K_value K_rise, rI aKc cI 1661 K_cells, rI aTi cI 961 T_image, rI aTp cI 96 T_packedFrom]) (v := (some (.int r_20))) hx hb hml hown htc hN (c_X5_at l G cI cZ cJ aK aKc K_used K_bitsFree K_full K_time K_value K_rise K_cells ((T_packedFrom (Int32.toNatClampNeg p0)) + v5_7) hE_19) mw_549 mw_550 mw_551 mw_8 mw_552 hd_X5_at ⟨rfl, rfl⟩ ⟨Nat.le_of_ble_eq_true rfl, Nat.le_of_ble_eq_true rfl⟩ hK hw16 hA [3, 4] [0, 1, 2, 5, 6] [0, 1, 2, 5, 6, 3, 4] rfl rfl rfl rfl rfl (by decide) rfl rfl rfl 0 rfl rfl rfl rfl hl16.1 rfl rfl (Nat.le_of_ble_eq_true rfl) dX7_writeCellsOf_59 ⟨Nat.zero_le _, Nat.zero_le _⟩ (fun H21 locs21 hw21 => ?_)
        clear hw16 H16 locs16
        replace hB_15 := ob5_some hB_15
        obtain ⟨r_23, D_writesDone_24, D_writesLeft_25, D_down_26, D_cells_27, hE_22, hB_15⟩ := hB_15
        refine ctV (a := aD) (As := [.int ((T_image (Int32.toNatClampNeg (((1 : Int32) + (p0 * (10 : Int32))) + (8 : Int32)))) + v5_7), .int r_20]) (rest := []) (st1 := [.int r_23]) (wc := [oX2 aD aDc D_writesDone_8 D_writesLeft_9 D_down_10, rI aDc cI 4096 D_cells_11]) (w1 := [oX2 aD aDc D_writesDone_24 D_writesLeft_25 D_down_26, rI aDc cI 4096 D_cells_27]) (wr := [oX7 aT aD aI aK aO aTi aTp aTt T_chunks T_chunksMade T_openFrom T_lacksSpace, oX5 aK aKc K_used K_bitsFree K_full K_time K_value K_rise, rI aKc cI 1661 K_cells, rI aTi cI 961 T_image, rI aTp cI 96 T_packedFrom]) (wb := [oX2 aD aDc D_writesDone_24 D_writesLeft_25 D_down_26, rI aDc cI 4096 D_cells_27, oX7 aT aD aI aK aO aTi aTp aTt T_chunks T_chunksMade T_openFrom T_lacksSpace, oX5 aK aKc K_used K_bitsFree K_full K_time K_value K_rise, rI aKc cI 1661 K_cells, rI aTi cI 961 T_image, rI aTp cI 96 T_packedFrom]) (v := (some (.int r_23))) hx hb hml hown htc hN (c_X2_write l G cI cZ cJ aD aDc D_writesDone_8 D_writesLeft_9 D_down_10 D_cells_11 ((T_image (Int32.toNatClampNeg (((1 : Int32) + (p0 * (10 : Int32))) + (8 : Int32)))) + v5_7) r_20 hE_22) mw_553 mw_405 mw_406 mw_3 mw_407 hd_X2_write ⟨rfl, rfl⟩ ⟨Nat.le_of_ble_eq_true rfl, Nat.le_of_ble_eq_true rfl⟩ hK hw21 hA [0, 1] [2, 3, 4, 5, 6] [5, 6, 0, 1, 2, 3, 4] rfl rfl rfl rfl rfl (by decide) rfl rfl rfl 0 rfl rfl rfl rfl hl16.1 rfl rfl (Nat.le_of_ble_eq_true rfl) dX7_writeCellsOf_62 ⟨Nat.zero_le _, Nat.zero_le _⟩ (fun H28 locs28 hw28 => ?_)
        clear hw21 H21 locs21
        refine lv_if_ne (tgt := 70) hx hb dX7_writeCellsOf_65 (by decide) (fun c_29 => ?_) (fun c_29 => ?_)
        · replace hB_15 := it_f c_29 hB_15
          refine lv_iinc (v := (v5_7 + (1 : Int32))) (lv' := [(5, .int (v5_7 + (1 : Int32))), (0, .ref aT), (1, .int p0), (3, .int (T_image (Int32.toNatClampNeg (((1 : Int32) + (p0 * (10 : Int32))) + (8 : Int32))))), (4, .int (T_image (Int32.toNatClampNeg (((1 : Int32) + (p0 * (10 : Int32))) + (9 : Int32)))))]) hx hb dX7_writeCellsOf_70 hl16 (k := 4) rfl rfl (by decide) rfl (fun ls30 hl30 => ?_)
          clear hl16 ls16
          refine lv_goto (tgt := 31) hx hb dX7_writeCellsOf_73 (by decide) ?_
          exact ih (v5_7 + (1 : Int32)) D_writesDone_24 D_writesLeft_25 D_down_26 D_cells_27 hB_15 _ _ _ hw28 (lv_sub hl30 [1, 2, 3, 4, 0] rfl)
        · replace hB_15 := it_t c_29 hB_15
          refine lv_iconst (v := (0 : Int32)) hx hb dX7_writeCellsOf_68 (by decide) ?_
          cases hB_15
          rw [hQQ]
          exact ct_zret hx hb hr hlocks (Or.inl rfl) hw28.1 hw28.2.1 hw28.2.2 dX7_writeCellsOf_69
  exact lp_14 NN (0 : Int32) D_writesDone D_writesLeft D_down D_cells hfin _ _ _ hw0 (lv_sub hl6 [4, 5, 2, 1, 0] rfl)
abbrev rm_X7_writeChunks : Room := { frames := 2, cells := 0, slots := 0, locals := 47 }
theorem hd_X7_writeChunks : yX7_writeChunks.cls = RX7 ∧ yX7_writeChunks.cls ≠ "java/lang/invoke/MethodHandle" ∧ yX7_writeChunks.cls ≠ "java/lang/invoke/VarHandle" ∧ (parseMethodDescriptor yX7_writeChunks.desc).map (fun d => d.parameters.length) = some 0 := by decide +kernel
set_option maxHeartbeats 4000000 in
set_option maxRecDepth 100000 in
theorem c_X7_writeChunks (l : Launch) (G : va_G) (cI cZ cJ : ClassId) (aD aDc aT aI aK aO aTi aTp aTt aKc : Nat) (D_writesDone : Int32) (D_writesLeft : Int32) (D_down : Int32) (D_cells : Nat → Int32) (T_chunks : Int32) (T_chunksMade : Int32) (T_openFrom : Int32) (T_lacksSpace : Int32) (K_used : Int32) (K_bitsFree : Int32) (K_full : Int32) (K_time : Int32) (K_value : Int32) (K_rise : Int64) (K_cells : Nat → Int32) (T_image : Nat → Int32) (T_packedFrom : Nat → Int32)  {r : Int32} {o_D_writesDone : Int32} {o_D_writesLeft : Int32} {o_D_down : Int32} {o_D_cells : Nat → Int32} (hfin : m_X7_writeChunks D_writesDone D_writesLeft D_down D_cells T_chunks K_used K_cells T_image T_packedFrom = some (r, o_D_writesDone, o_D_writesLeft, o_D_down, o_D_cells)) : CT l yX7_writeChunks cX7_writeChunks 2 (some .boolean) rm_X7_writeChunks G (tyC cI cZ cJ) [.ref aT] [oX2 aD aDc D_writesDone D_writesLeft D_down, rI aDc cI 4096 D_cells, oX7 aT aD aI aK aO aTi aTp aTt T_chunks T_chunksMade T_openFrom T_lacksSpace, oX5 aK aKc K_used K_bitsFree K_full K_time K_value K_rise, rI aKc cI 1661 K_cells, rI aTi cI 961 T_image, rI aTp cI 96 T_packedFrom] (some (.int r)) [oX2 aD aDc o_D_writesDone o_D_writesLeft o_D_down, rI aDc cI 4096 o_D_cells, oX7 aT aD aI aK aO aTi aTp aTt T_chunks T_chunksMade T_openFrom T_lacksSpace, oX5 aK aKc K_used K_bitsFree K_full K_time K_value K_rise, rI aKc cI 1661 K_cells, rI aTi cI 961 T_image, rI aTp cI 96 T_packedFrom] := by
  refine CT.ofW (lvl := [(0, .ref aT)]) (by decide) (Nat.le_of_ble_eq_true rfl) rfl ?_
  intro p e s m args below meth c A ls0 QQ hQQ hx hb hml hr hlocks htc hN hown hK hA hw0 hl0
  rw [m_X7_writeChunks] at hfin
  refine lv_iconst (v := (0 : Int32)) hx hb dX7_writeChunks_0 (by decide) ?_
  refine lv_istore_n (lv' := [(1, .int (0 : Int32)), (0, .ref aT)]) hx hb dX7_writeChunks_1 rfl hl0 (by decide) rfl (fun ls1 hl1 => ?_)
  clear hl0 ls0
  have lp_9 : ∀ (n : Nat) (v1_2 : Int32) (D_writesDone_3 : Int32) (D_writesLeft_4 : Int32) (D_down_5 : Int32) (D_cells_6 : Nat → Int32), lp_X7_writeChunks_2 T_chunks K_used K_cells T_image T_packedFrom n v1_2 D_writesDone_3 D_writesLeft_4 D_down_5 D_cells_6 = some (r, o_D_writesDone, o_D_writesLeft, o_D_down, o_D_cells) → ∀ (H : Heap) (locs : List Loc) (ls : Array Slot), wS G A s H locs [oX2 aD aDc D_writesDone_3 D_writesLeft_4 D_down_5, rI aDc cI 4096 D_cells_6, oX7 aT aD aI aK aO aTi aTp aTt T_chunks T_chunksMade T_openFrom T_lacksSpace, oX5 aK aKc K_used K_bitsFree K_full K_time K_value K_rise, rI aKc cI 1661 K_cells, rI aTi cI 961 T_image, rI aTp cI 96 T_packedFrom] → lv_has ls 2 [(0, .ref aT), (1, .int v1_2)] → W p l e rm_X7_writeChunks s m args below meth c H locs 0 0 QQ (F0 m 2 ls []) := by
    clear hw0 hl1 ls1 hfin
    intro n
    induction n with
    | zero =>
      intro v1_2 D_writesDone_3 D_writesLeft_4 D_down_5 D_cells_6 hB_10
      exact absurd hB_10 (by rw [lp_X7_writeChunks_2]; exact fun h9 => nomatch h9)
    | succ n ih =>
      intro v1_2 D_writesDone_3 D_writesLeft_4 D_down_5 D_cells_6 hB_10 H11 locs11 ls11 hw11 hl11
      rw [lp_X7_writeChunks_2] at hB_10
      refine lv_iload_n hx hb dX7_writeChunks_2 rfl (lv_at hl11 1 rfl) ?_
      refine lv_aload_n hx hb dX7_writeChunks_3 rfl (lv_at hl11 0 rfl) ?_
      refine va_get (D := G) (ci := 7) (v := .int T_chunks) (C := RX7) (T := TX7) (N := 11) hx hb htc iX7 hown hK hw11.1 2 rfl rfl 7 (by decide) (htc _ mw_192) (fun _ h9 => h9) rfl dX7_writeChunks_4 ?_
      refine lv_icmp_ge (tgt := 36) hx hb dX7_writeChunks_7 (by decide) (fun c_12 => ?_) (fun c_12 => ?_)
      · replace hB_10 := it_t c_12 hB_10
        refine lv_iconst (v := (1 : Int32)) hx hb dX7_writeChunks_36 (by decide) ?_
        cases hB_10
        rw [hQQ]
        exact ct_zret hx hb hr hlocks (Or.inr rfl) hw11.1 hw11.2.1 hw11.2.2 dX7_writeChunks_37
      · replace hB_10 := it_f c_12 hB_10
        refine lv_aload_n hx hb dX7_writeChunks_10 rfl (lv_at hl11 0 rfl) ?_
        refine va_get (D := G) (ci := 7) (v := .ref aTp) (C := RX7) (T := TX7) (N := 11) hx hb htc iX7 hown hK hw11.1 2 rfl rfl 5 (by decide) (htc _ mw_190) (fun _ h9 => h9) rfl dX7_writeChunks_11 ?_
        refine lv_iload_n hx hb dX7_writeChunks_14 rfl (lv_at hl11 1 rfl) ?_
        replace hB_10 := ckb_some hB_10
        obtain ⟨hin_13, hB_10⟩ := hB_10
        refine va_iald hx hb hK hw11.1 6 0 rfl rfl hin_13 dX7_writeChunks_15 ?_
        refine lv_iconst (v := (-1 : Int32)) hx hb dX7_writeChunks_16 (by decide) ?_
        refine lv_icmp_eq (tgt := 30) hx hb dX7_writeChunks_17 (by decide) (fun c_14 => ?_) (fun c_14 => ?_)
        · replace hB_10 := it_t c_14 hB_10
          refine lv_iinc (v := (v1_2 + (1 : Int32))) (lv' := [(1, .int (v1_2 + (1 : Int32))), (0, .ref aT)]) hx hb dX7_writeChunks_30 hl11 (k := 1) rfl rfl (by decide) rfl (fun ls15 hl15 => ?_)
          clear hl11 ls11
          refine lv_goto (tgt := 2) hx hb dX7_writeChunks_33 (by decide) ?_
          exact ih (v1_2 + (1 : Int32)) D_writesDone_3 D_writesLeft_4 D_down_5 D_cells_6 hB_10 _ _ _ hw11 (lv_sub hl15 [1, 0] rfl)
        · replace hB_10 := it_f c_14 hB_10
          refine lv_aload_n hx hb dX7_writeChunks_20 rfl (lv_at hl11 0 rfl) ?_
          refine lv_iload_n hx hb dX7_writeChunks_21 rfl (lv_at hl11 1 rfl) ?_
          replace hB_10 := ob5_some hB_10
          obtain ⟨r_17, D_writesDone_18, D_writesLeft_19, D_down_20, D_cells_21, hE_16, hB_10⟩ := hB_10
          refine ctV (a := aT) (As := [.int v1_2]) (rest := []) (st1 := [.int r_17]) (wc := [oX2 aD aDc D_writesDone_3 D_writesLeft_4 D_down_5, rI aDc cI 4096 D_cells_6, oX7 aT aD aI aK aO aTi aTp aTt T_chunks T_chunksMade T_openFrom T_lacksSpace, oX5 aK aKc K_used K_bitsFree K_full K_time K_value K_rise, rI aKc cI 1661 K_cells, rI aTi cI 961 T_image, rI aTp cI 96 T_packedFrom]) (w1 := [oX2 aD aDc D_writesDone_18 D_writesLeft_19 D_down_20, rI aDc cI 4096 D_cells_21, oX7 aT aD aI aK aO aTi aTp aTt T_chunks T_chunksMade T_openFrom T_lacksSpace, oX5 aK aKc K_used K_bitsFree K_full K_time K_value K_rise, rI aKc cI 1661 K_cells, rI aTi cI 961 T_image, rI aTp cI 96 T_packedFrom]) (wr := []) (wb := [oX2 aD aDc D_writesDone_18 D_writesLeft_19 D_down_20, rI aDc cI 4096 D_cells_21, oX7 aT aD aI aK aO aTi aTp aTt T_chunks T_chunksMade T_openFrom T_lacksSpace, oX5 aK aKc K_used K_bitsFree K_full K_time K_value K_rise, rI aKc cI 1661 K_cells, rI aTi cI 961 T_image, rI aTp cI 96 T_packedFrom]) (v := (some (.int r_17))) hx hb hml hown htc hN (c_X7_writeCellsOf l G cI cZ cJ aD aDc aT aI aK aO aTi aTp aTt aKc D_writesDone_3 D_writesLeft_4 D_down_5 D_cells_6 T_chunks T_chunksMade T_openFrom T_lacksSpace K_used K_bitsFree K_full K_time K_value K_rise K_cells T_image T_packedFrom v1_2 hE_16) mw_545 mw_547 mp_14 mw_7 mw_548 hd_X7_writeCellsOf ⟨rfl, rfl⟩ ⟨Nat.le_of_ble_eq_true rfl, Nat.le_of_ble_eq_true rfl⟩ hK hw11 hA [0, 1, 2, 3, 4, 5, 6] [] [0, 1, 2, 3, 4, 5, 6] rfl rfl rfl rfl rfl (by decide) rfl rfl rfl 2 rfl rfl rfl rfl hl11.1 rfl rfl (Nat.le_of_ble_eq_true rfl) dX7_writeChunks_22 ⟨Nat.zero_le _, Nat.zero_le _⟩ (fun H22 locs22 hw22 => ?_)
          clear hw11 H11 locs11
          refine lv_if_ne (tgt := 30) hx hb dX7_writeChunks_25 (by decide) (fun c_23 => ?_) (fun c_23 => ?_)
          · replace hB_10 := it_f c_23 hB_10
            refine lv_iinc (v := (v1_2 + (1 : Int32))) (lv' := [(1, .int (v1_2 + (1 : Int32))), (0, .ref aT)]) hx hb dX7_writeChunks_30 hl11 (k := 1) rfl rfl (by decide) rfl (fun ls24 hl24 => ?_)
            clear hl11 ls11
            refine lv_goto (tgt := 2) hx hb dX7_writeChunks_33 (by decide) ?_
            exact ih (v1_2 + (1 : Int32)) D_writesDone_18 D_writesLeft_19 D_down_20 D_cells_21 hB_10 _ _ _ hw22 (lv_sub hl24 [1, 0] rfl)
          · replace hB_10 := it_t c_23 hB_10
            refine lv_iconst (v := (0 : Int32)) hx hb dX7_writeChunks_28 (by decide) ?_
            cases hB_10
            rw [hQQ]
            exact ct_zret hx hb hr hlocks (Or.inl rfl) hw22.1 hw22.2.1 hw22.2.2 dX7_writeChunks_29
  exact lp_9 NN (0 : Int32) D_writesDone D_writesLeft D_down D_cells hfin _ _ _ hw0 (lv_sub hl1 [1, 0] rfl)
abbrev rm_X7_writeIndex : Room := { frames := 1, cells := 0, slots := 0, locals := 22 }
theorem hd_X7_writeIndex : yX7_writeIndex.cls = RX7 ∧ yX7_writeIndex.cls ≠ "java/lang/invoke/MethodHandle" ∧ yX7_writeIndex.cls ≠ "java/lang/invoke/VarHandle" ∧ (parseMethodDescriptor yX7_writeIndex.desc).map (fun d => d.parameters.length) = some 1 := by decide +kernel
set_option maxHeartbeats 4000000 in
set_option maxRecDepth 100000 in
theorem c_X7_writeIndex (l : Launch) (G : va_G) (cI cZ cJ : ClassId) (aD aDc aT aI aK aO aTi aTp aTt : Nat) (D_writesDone : Int32) (D_writesLeft : Int32) (D_down : Int32) (D_cells : Nat → Int32) (T_chunks : Int32) (T_chunksMade : Int32) (T_openFrom : Int32) (T_lacksSpace : Int32) (T_image : Nat → Int32) (p0 : Int32) {r : Int32} {o_D_writesDone : Int32} {o_D_writesLeft : Int32} {o_D_down : Int32} {o_D_cells : Nat → Int32} {o_T_image : Nat → Int32} (hfin : m_X7_writeIndex D_writesDone D_writesLeft D_down D_cells T_chunks T_image p0 = some (r, o_D_writesDone, o_D_writesLeft, o_D_down, o_D_cells, o_T_image)) : CT l yX7_writeIndex cX7_writeIndex 3 (some .boolean) rm_X7_writeIndex G (tyC cI cZ cJ) [.ref aT, .int p0] [oX2 aD aDc D_writesDone D_writesLeft D_down, rI aDc cI 4096 D_cells, oX7 aT aD aI aK aO aTi aTp aTt T_chunks T_chunksMade T_openFrom T_lacksSpace, rI aTi cI 961 T_image] (some (.int r)) [oX2 aD aDc o_D_writesDone o_D_writesLeft o_D_down, rI aDc cI 4096 o_D_cells, oX7 aT aD aI aK aO aTi aTp aTt T_chunks T_chunksMade T_openFrom T_lacksSpace, rI aTi cI 961 o_T_image] := by
  refine CT.ofW (lvl := [(0, .ref aT), (1, .int p0)]) (by decide) (Nat.le_of_ble_eq_true rfl) rfl ?_
  intro p e s m args below meth c A ls0 QQ hQQ hx hb hml hr hlocks htc hN hown hK hA hw0 hl0
  rw [m_X7_writeIndex] at hfin
  refine lv_aload_n hx hb dX7_writeIndex_0 rfl (lv_at hl0 0 rfl) ?_
  refine va_get (D := G) (ci := 7) (v := .ref aTi) (C := RX7) (T := TX7) (N := 11) hx hb htc iX7 hown hK hw0.1 2 rfl rfl 4 (by decide) (htc _ mw_189) (fun _ h9 => h9) rfl dX7_writeIndex_1 ?_
  refine lv_iconst (v := (0 : Int32)) hx hb dX7_writeIndex_4 (by decide) ?_
  refine lv_aload_n hx hb dX7_writeIndex_5 rfl (lv_at hl0 0 rfl) ?_
  refine va_get (D := G) (ci := 7) (v := .int T_chunks) (C := RX7) (T := TX7) (N := 11) hx hb htc iX7 hown hK hw0.1 2 rfl rfl 7 (by decide) (htc _ mw_192) (fun _ h9 => h9) rfl dX7_writeIndex_6 ?_
  replace hfin := ckb_some hfin
  obtain ⟨hin_1, hfin⟩ := hfin
  refine va_iast hx hb hK hw0.1 hw0.2.1 hw0.2.2 3 0 rfl rfl hin_1 dX7_writeIndex_9 (fun H2 locs2 hP hD hS => ?_)
  have hw2 : wS G A s H2 locs2 [oX2 aD aDc D_writesDone D_writesLeft D_down, rI aDc cI 4096 D_cells, oX7 aT aD aI aK aO aTi aTp aTt T_chunks T_chunksMade T_openFrom T_lacksSpace, rI aTi cI 961 (upd T_image (Int32.toNatClampNeg (0 : Int32)) T_chunks)] := ⟨hP, hD, hS⟩
  clear hP hD hS hw0
  refine lv_iconst (v := (0 : Int32)) hx hb dX7_writeIndex_10 (by decide) ?_
  refine lv_istore_n (lv' := [(2, .int (0 : Int32)), (0, .ref aT), (1, .int p0)]) hx hb dX7_writeIndex_11 rfl hl0 (by decide) rfl (fun ls3 hl3 => ?_)
  clear hl0 ls0
  have lp_11 : ∀ (n : Nat) (v2_4 : Int32) (D_writesDone_5 : Int32) (D_writesLeft_6 : Int32) (D_down_7 : Int32) (D_cells_8 : Nat → Int32), lp_X7_writeIndex_12 T_chunks T_image p0 n v2_4 D_writesDone_5 D_writesLeft_6 D_down_7 D_cells_8 = some (r, o_D_writesDone, o_D_writesLeft, o_D_down, o_D_cells, o_T_image) → ∀ (H : Heap) (locs : List Loc) (ls : Array Slot), wS G A s H locs [oX2 aD aDc D_writesDone_5 D_writesLeft_6 D_down_7, rI aDc cI 4096 D_cells_8, oX7 aT aD aI aK aO aTi aTp aTt T_chunks T_chunksMade T_openFrom T_lacksSpace, rI aTi cI 961 (upd T_image (Int32.toNatClampNeg (0 : Int32)) T_chunks)] → lv_has ls 3 [(0, .ref aT), (1, .int p0), (2, .int v2_4)] → W p l e rm_X7_writeIndex s m args below meth c H locs 0 0 QQ (F0 m 12 ls []) := by
    clear hw2 H2 locs2 hl3 ls3 hfin
    intro n
    induction n with
    | zero =>
      intro v2_4 D_writesDone_5 D_writesLeft_6 D_down_7 D_cells_8 hB_12
      exact absurd hB_12 (by rw [lp_X7_writeIndex_12]; exact fun h9 => nomatch h9)
    | succ n ih =>
      intro v2_4 D_writesDone_5 D_writesLeft_6 D_down_7 D_cells_8 hB_12 H13 locs13 ls13 hw13 hl13
      rw [lp_X7_writeIndex_12] at hB_12
      refine lv_iload_n hx hb dX7_writeIndex_12 rfl (lv_at hl13 2 rfl) ?_
      refine lv_iconst (v := (1 : Int32)) hx hb dX7_writeIndex_13 (by decide) ?_
      refine lv_aload_n hx hb dX7_writeIndex_14 rfl (lv_at hl13 0 rfl) ?_
      refine va_get (D := G) (ci := 7) (v := .int T_chunks) (C := RX7) (T := TX7) (N := 11) hx hb htc iX7 hown hK hw13.1 2 rfl rfl 7 (by decide) (htc _ mw_192) (fun _ h9 => h9) rfl dX7_writeIndex_15 ?_
      refine lv_bipush (v := (10 : Int32)) hx hb dX7_writeIndex_18 (by decide) ?_
      refine lv_imul hx hb dX7_writeIndex_20 ?_
      refine lv_iadd hx hb dX7_writeIndex_21 ?_
      refine lv_icmp_ge (tgt := 52) hx hb dX7_writeIndex_22 (by decide) (fun c_14 => ?_) (fun c_14 => ?_)
      · replace hB_12 := it_t c_14 hB_12
        refine lv_iconst (v := (1 : Int32)) hx hb dX7_writeIndex_52 (by decide) ?_
        cases hB_12
        rw [hQQ]
        exact ct_zret hx hb hr hlocks (Or.inr rfl) hw13.1 hw13.2.1 hw13.2.2 dX7_writeIndex_53
      · replace hB_12 := it_f c_14 hB_12
        refine lv_aload_n hx hb dX7_writeIndex_25 rfl (lv_at hl13 0 rfl) ?_
        refine va_get (D := G) (ci := 7) (v := .ref aD) (C := RX7) (T := TX7) (N := 11) hx hb htc iX7 hown hK hw13.1 2 rfl rfl 0 (by decide) (htc _ mw_185) (fun _ h9 => h9) rfl dX7_writeIndex_26 ?_
        refine lv_iload_n hx hb dX7_writeIndex_29 rfl (lv_at hl13 1 rfl) ?_
        refine lv_iload_n hx hb dX7_writeIndex_30 rfl (lv_at hl13 2 rfl) ?_
        refine lv_iadd hx hb dX7_writeIndex_31 ?_
        refine lv_aload_n hx hb dX7_writeIndex_32 rfl (lv_at hl13 0 rfl) ?_
        refine va_get (D := G) (ci := 7) (v := .ref aTi) (C := RX7) (T := TX7) (N := 11) hx hb htc iX7 hown hK hw13.1 2 rfl rfl 4 (by decide) (htc _ mw_189) (fun _ h9 => h9) rfl dX7_writeIndex_33 ?_
        refine lv_iload_n hx hb dX7_writeIndex_36 rfl (lv_at hl13 2 rfl) ?_
        replace hB_12 := ckb_some hB_12
        obtain ⟨hin_15, hB_12⟩ := hB_12
        refine va_iald hx hb hK hw13.1 3 0 rfl rfl hin_15 dX7_writeIndex_37 ?_
        replace hB_12 := ob5_some hB_12
        obtain ⟨r_17, D_writesDone_18, D_writesLeft_19, D_down_20, D_cells_21, hE_16, hB_12⟩ := hB_12
        refine ctV (a := aD) (As := [.int (p0 + v2_4), .int ((upd T_image (Int32.toNatClampNeg (0 : Int32)) T_chunks) (Int32.toNatClampNeg v2_4))]) (rest := []) (st1 := [.int r_17]) (wc := [oX2 aD aDc D_writesDone_5 D_writesLeft_6 D_down_7, rI aDc cI 4096 D_cells_8]) (w1 := [oX2 aD aDc D_writesDone_18 D_writesLeft_19 D_down_20, rI aDc cI 4096 D_cells_21]) (wr := [oX7 aT aD aI aK aO aTi aTp aTt T_chunks T_chunksMade T_openFrom T_lacksSpace, rI aTi cI 961 (upd T_image (Int32.toNatClampNeg (0 : Int32)) T_chunks)]) (wb := [oX2 aD aDc D_writesDone_18 D_writesLeft_19 D_down_20, rI aDc cI 4096 D_cells_21, oX7 aT aD aI aK aO aTi aTp aTt T_chunks T_chunksMade T_openFrom T_lacksSpace, rI aTi cI 961 (upd T_image (Int32.toNatClampNeg (0 : Int32)) T_chunks)]) (v := (some (.int r_17))) hx hb hml hown htc hN (c_X2_write l G cI cZ cJ aD aDc D_writesDone_5 D_writesLeft_6 D_down_7 D_cells_8 (p0 + v2_4) ((upd T_image (Int32.toNatClampNeg (0 : Int32)) T_chunks) (Int32.toNatClampNeg v2_4)) hE_16) mw_553 mw_405 mw_406 mw_3 mw_407 hd_X2_write ⟨rfl, rfl⟩ ⟨Nat.le_of_ble_eq_true rfl, Nat.le_of_ble_eq_true rfl⟩ hK hw13 hA [0, 1] [2, 3] [2, 3, 0, 1] rfl rfl rfl rfl rfl (by decide) rfl rfl rfl 0 rfl rfl rfl rfl hl13.1 rfl rfl (Nat.le_of_ble_eq_true rfl) dX7_writeIndex_38 ⟨Nat.zero_le _, Nat.zero_le _⟩ (fun H22 locs22 hw22 => ?_)
        clear hw13 H13 locs13
        refine lv_if_ne (tgt := 46) hx hb dX7_writeIndex_41 (by decide) (fun c_23 => ?_) (fun c_23 => ?_)
        · replace hB_12 := it_f c_23 hB_12
          refine lv_iinc (v := (v2_4 + (1 : Int32))) (lv' := [(2, .int (v2_4 + (1 : Int32))), (0, .ref aT), (1, .int p0)]) hx hb dX7_writeIndex_46 hl13 (k := 2) rfl rfl (by decide) rfl (fun ls24 hl24 => ?_)
          clear hl13 ls13
          refine lv_goto (tgt := 12) hx hb dX7_writeIndex_49 (by decide) ?_
          exact ih (v2_4 + (1 : Int32)) D_writesDone_18 D_writesLeft_19 D_down_20 D_cells_21 hB_12 _ _ _ hw22 (lv_sub hl24 [1, 2, 0] rfl)
        · replace hB_12 := it_t c_23 hB_12
          refine lv_iconst (v := (0 : Int32)) hx hb dX7_writeIndex_44 (by decide) ?_
          cases hB_12
          rw [hQQ]
          exact ct_zret hx hb hr hlocks (Or.inl rfl) hw22.1 hw22.2.1 hw22.2.2 dX7_writeIndex_45
  exact lp_11 NN (0 : Int32) D_writesDone D_writesLeft D_down D_cells hfin _ _ _ hw2 (lv_sub hl3 [1, 2, 0] rfl)
abbrev rm_X7_writeOut : Room := { frames := 3, cells := 0, slots := 0, locals := 68 }
theorem hd_X7_writeOut : yX7_writeOut.cls = RX7 ∧ yX7_writeOut.cls ≠ "java/lang/invoke/MethodHandle" ∧ yX7_writeOut.cls ≠ "java/lang/invoke/VarHandle" ∧ (parseMethodDescriptor yX7_writeOut.desc).map (fun d => d.parameters.length) = some 1 := by decide +kernel
set_option maxHeartbeats 4000000 in
set_option maxRecDepth 100000 in
theorem c_X7_writeOut (l : Launch) (G : va_G) (cI cZ cJ : ClassId) (aD aDc aT aI aK aO aTi aTp aTt aKc : Nat) (D_writesDone : Int32) (D_writesLeft : Int32) (D_down : Int32) (D_cells : Nat → Int32) (T_chunks : Int32) (T_chunksMade : Int32) (T_openFrom : Int32) (T_lacksSpace : Int32) (K_used : Int32) (K_bitsFree : Int32) (K_full : Int32) (K_time : Int32) (K_value : Int32) (K_rise : Int64) (K_cells : Nat → Int32) (T_image : Nat → Int32) (T_packedFrom : Nat → Int32) (p0 : Int32) {r : Int32} {o_D_writesDone : Int32} {o_D_writesLeft : Int32} {o_D_down : Int32} {o_D_cells : Nat → Int32} {o_T_image : Nat → Int32} (hfin : m_X7_writeOut D_writesDone D_writesLeft D_down D_cells T_chunks K_used K_cells T_image T_packedFrom p0 = some (r, o_D_writesDone, o_D_writesLeft, o_D_down, o_D_cells, o_T_image)) : CT l yX7_writeOut cX7_writeOut 3 (some .boolean) rm_X7_writeOut G (tyC cI cZ cJ) [.ref aT, .int p0] [oX2 aD aDc D_writesDone D_writesLeft D_down, rI aDc cI 4096 D_cells, oX7 aT aD aI aK aO aTi aTp aTt T_chunks T_chunksMade T_openFrom T_lacksSpace, oX5 aK aKc K_used K_bitsFree K_full K_time K_value K_rise, rI aKc cI 1661 K_cells, rI aTi cI 961 T_image, rI aTp cI 96 T_packedFrom] (some (.int r)) [oX2 aD aDc o_D_writesDone o_D_writesLeft o_D_down, rI aDc cI 4096 o_D_cells, oX7 aT aD aI aK aO aTi aTp aTt T_chunks T_chunksMade T_openFrom T_lacksSpace, oX5 aK aKc K_used K_bitsFree K_full K_time K_value K_rise, rI aKc cI 1661 K_cells, rI aTi cI 961 o_T_image, rI aTp cI 96 T_packedFrom] := by
  refine CT.ofW (lvl := [(0, .ref aT), (1, .int p0)]) (by decide) (Nat.le_of_ble_eq_true rfl) rfl ?_
  intro p e s m args below meth c A ls0 QQ hQQ hx hb hml hr hlocks htc hN hown hK hA hw0 hl0
  rw [m_X7_writeOut] at hfin
  refine lv_iconst (v := (1 : Int32)) hx hb dX7_writeOut_0 (by decide) ?_
  refine lv_aload_n hx hb dX7_writeOut_1 rfl (lv_at hl0 0 rfl) ?_
  refine va_get (D := G) (ci := 7) (v := .ref aD) (C := RX7) (T := TX7) (N := 11) hx hb htc iX7 hown hK hw0.1 2 rfl rfl 0 (by decide) (htc _ mw_185) (fun _ h9 => h9) rfl dX7_writeOut_2 ?_
  replace hfin := ob1_some hfin
  obtain ⟨r_2, hE_1, hfin⟩ := hfin
  refine ctV (a := aD) (As := []) (rest := [.int (1 : Int32)]) (st1 := [.int r_2, .int (1 : Int32)]) (wc := [oX2 aD aDc D_writesDone D_writesLeft D_down, rI aDc cI 4096 D_cells]) (w1 := [oX2 aD aDc D_writesDone D_writesLeft D_down, rI aDc cI 4096 D_cells]) (wr := [oX7 aT aD aI aK aO aTi aTp aTt T_chunks T_chunksMade T_openFrom T_lacksSpace, oX5 aK aKc K_used K_bitsFree K_full K_time K_value K_rise, rI aKc cI 1661 K_cells, rI aTi cI 961 T_image, rI aTp cI 96 T_packedFrom]) (wb := [oX2 aD aDc D_writesDone D_writesLeft D_down, rI aDc cI 4096 D_cells, oX7 aT aD aI aK aO aTi aTp aTt T_chunks T_chunksMade T_openFrom T_lacksSpace, oX5 aK aKc K_used K_bitsFree K_full K_time K_value K_rise, rI aKc cI 1661 K_cells, rI aTi cI 961 T_image, rI aTp cI 96 T_packedFrom]) (v := (some (.int r_2))) hx hb hml hown htc hN (c_X2_side l G cI cZ cJ aD aDc D_writesDone D_writesLeft D_down D_cells  hE_1) mw_540 mw_383 mw_384 mw_3 mw_385 hd_X2_side ⟨rfl, rfl⟩ ⟨Nat.le_of_ble_eq_true rfl, Nat.le_of_ble_eq_true rfl⟩ hK hw0 hA [0, 1] [2, 3, 4, 5, 6] [5, 6, 0, 1, 2, 3, 4] rfl rfl rfl rfl rfl (by decide) rfl rfl rfl 0 rfl rfl rfl rfl hl0.1 rfl rfl (Nat.le_of_ble_eq_true rfl) dX7_writeOut_5 ⟨Nat.zero_le _, Nat.zero_le _⟩ (fun H3 locs3 hw3 => ?_)
  clear hw0
  refine lv_isub hx hb dX7_writeOut_8 ?_
  refine lv_istore_n (lv' := [(2, .int ((1 : Int32) - r_2)), (0, .ref aT), (1, .int p0)]) hx hb dX7_writeOut_9 rfl hl0 (by decide) rfl (fun ls4 hl4 => ?_)
  clear hl0 ls0
  refine lv_aload_n hx hb dX7_writeOut_10 rfl (lv_at hl4 1 rfl) ?_
  replace hfin := ob5_some hfin
  obtain ⟨r_6, D_writesDone_7, D_writesLeft_8, D_down_9, D_cells_10, hE_5, hfin⟩ := hfin
  refine ctV (a := aT) (As := []) (rest := []) (st1 := [.int r_6]) (wc := [oX2 aD aDc D_writesDone D_writesLeft D_down, rI aDc cI 4096 D_cells, oX7 aT aD aI aK aO aTi aTp aTt T_chunks T_chunksMade T_openFrom T_lacksSpace, oX5 aK aKc K_used K_bitsFree K_full K_time K_value K_rise, rI aKc cI 1661 K_cells, rI aTi cI 961 T_image, rI aTp cI 96 T_packedFrom]) (w1 := [oX2 aD aDc D_writesDone_7 D_writesLeft_8 D_down_9, rI aDc cI 4096 D_cells_10, oX7 aT aD aI aK aO aTi aTp aTt T_chunks T_chunksMade T_openFrom T_lacksSpace, oX5 aK aKc K_used K_bitsFree K_full K_time K_value K_rise, rI aKc cI 1661 K_cells, rI aTi cI 961 T_image, rI aTp cI 96 T_packedFrom]) (wr := []) (wb := [oX2 aD aDc D_writesDone_7 D_writesLeft_8 D_down_9, rI aDc cI 4096 D_cells_10, oX7 aT aD aI aK aO aTi aTp aTt T_chunks T_chunksMade T_openFrom T_lacksSpace, oX5 aK aKc K_used K_bitsFree K_full K_time K_value K_rise, rI aKc cI 1661 K_cells, rI aTi cI 961 T_image, rI aTp cI 96 T_packedFrom]) (v := (some (.int r_6))) hx hb hml hown htc hN (c_X7_writeChunks l G cI cZ cJ aD aDc aT aI aK aO aTi aTp aTt aKc D_writesDone D_writesLeft D_down D_cells T_chunks T_chunksMade T_openFrom T_lacksSpace K_used K_bitsFree K_full K_time K_value K_rise K_cells T_image T_packedFrom  hE_5) mw_541 mw_543 mp_13 mw_7 mw_544 hd_X7_writeChunks ⟨rfl, rfl⟩ ⟨Nat.le_of_ble_eq_true rfl, Nat.le_of_ble_eq_true rfl⟩ hK hw3 hA [0, 1, 2, 3, 4, 5, 6] [] [0, 1, 2, 3, 4, 5, 6] rfl rfl rfl rfl rfl (by decide) rfl rfl rfl 2 rfl rfl rfl rfl hl4.1 rfl rfl (Nat.le_of_ble_eq_true rfl) dX7_writeOut_11 ⟨Nat.zero_le _, Nat.zero_le _⟩ (fun H11 locs11 hw11 => ?_)
  clear hw3 H3 locs3
  replace hfin := ob6_some hfin
  obtain ⟨s_12, D_writesDone_13, D_writesLeft_14, D_down_15, D_cells_16, T_image_17, hJ_18, hfin⟩ := hfin
  have kj_19 : ∀ (H : Heap) (locs : List Loc) (ls : Array Slot), wS G A s H locs [oX2 aD aDc D_writesDone_13 D_writesLeft_14 D_down_15, rI aDc cI 4096 D_cells_16, oX7 aT aD aI aK aO aTi aTp aTt T_chunks T_chunksMade T_openFrom T_lacksSpace, oX5 aK aKc K_used K_bitsFree K_full K_time K_value K_rise, rI aKc cI 1661 K_cells, rI aTi cI 961 T_image_17, rI aTp cI 96 T_packedFrom] → lv_has ls 3 [] → W p l e rm_X7_writeOut s m args below meth c H locs 0 0 QQ (F0 m 49 ls [.int s_12]) := by
    clear hw11 H11 locs11 hl4 ls4 hJ_18
    intro H41 locs41 ls41 hw41 hl41
    replace hfin := ckz_some hfin
    obtain ⟨hz_42, hfin⟩ := hfin
    cases hfin
    rw [hQQ]
    exact ct_zret hx hb hr hlocks hz_42 hw41.1 hw41.2.1 hw41.2.2 dX7_writeOut_49
  clear hfin
  refine lv_if_eq (tgt := 48) hx hb dX7_writeOut_14 (by decide) (fun c_20 => ?_) (fun c_20 => ?_)
  · replace hJ_18 := it_t c_20 hJ_18
    refine lv_iconst (v := (0 : Int32)) hx hb dX7_writeOut_48 (by decide) ?_
    cases hJ_18
    exact kj_19 _ _ _ hw11 (lv_sub hl4 [] rfl)
  · replace hJ_18 := it_f c_20 hJ_18
    refine lv_aload_n hx hb dX7_writeOut_17 rfl (lv_at hl4 1 rfl) ?_
    refine lv_iload_n hx hb dX7_writeOut_18 rfl (lv_at hl4 0 rfl) ?_
    replace hJ_18 := ob1_some hJ_18
    obtain ⟨r_22, hE_21, hJ_18⟩ := hJ_18
    refine ctSN (As := [.int ((1 : Int32) - r_2)]) (rest := [.ref aT]) (st1 := [.int r_22, .ref aT]) (wc := []) (w1 := []) (wr := [oX2 aD aDc D_writesDone_7 D_writesLeft_8 D_down_9, rI aDc cI 4096 D_cells_10, oX7 aT aD aI aK aO aTi aTp aTt T_chunks T_chunksMade T_openFrom T_lacksSpace, oX5 aK aKc K_used K_bitsFree K_full K_time K_value K_rise, rI aKc cI 1661 K_cells, rI aTi cI 961 T_image, rI aTp cI 96 T_packedFrom]) (wb := [oX2 aD aDc D_writesDone_7 D_writesLeft_8 D_down_9, rI aDc cI 4096 D_cells_10, oX7 aT aD aI aK aO aTi aTp aTt T_chunks T_chunksMade T_openFrom T_lacksSpace, oX5 aK aKc K_used K_bitsFree K_full K_time K_value K_rise, rI aKc cI 1661 K_cells, rI aTi cI 961 T_image, rI aTp cI 96 T_packedFrom]) (v := (some (.int r_22))) hx hb hml hown htc hN (c_X9_indexOfSide l G cI cZ cJ   ((1 : Int32) - r_2) hE_21) (hN _ mn_26) mw_387 mw_1 mw_388 hs_X9_indexOfSide ⟨rfl, rfl⟩ ⟨Nat.le_of_ble_eq_true rfl, Nat.le_of_ble_eq_true rfl⟩ hK hw11 hA [] [0, 1, 2, 3, 4, 5, 6] [0, 1, 2, 3, 4, 5, 6] rfl rfl rfl rfl rfl (by decide) rfl rfl rfl rfl hl4.1 rfl rfl (Nat.le_of_ble_eq_true rfl) dX7_writeOut_19 ⟨Nat.zero_le _, Nat.zero_le _⟩ (fun H23 locs23 hw23 => ?_)
    clear hw11 H11 locs11
    replace hJ_18 := ob6_some hJ_18
    obtain ⟨r_25, D_writesDone_26, D_writesLeft_27, D_down_28, D_cells_29, T_image_30, hE_24, hJ_18⟩ := hJ_18
    refine ctV (a := aT) (As := [.int r_22]) (rest := []) (st1 := [.int r_25]) (wc := [oX2 aD aDc D_writesDone_7 D_writesLeft_8 D_down_9, rI aDc cI 4096 D_cells_10, oX7 aT aD aI aK aO aTi aTp aTt T_chunks T_chunksMade T_openFrom T_lacksSpace, rI aTi cI 961 T_image]) (w1 := [oX2 aD aDc D_writesDone_26 D_writesLeft_27 D_down_28, rI aDc cI 4096 D_cells_29, oX7 aT aD aI aK aO aTi aTp aTt T_chunks T_chunksMade T_openFrom T_lacksSpace, rI aTi cI 961 T_image_30]) (wr := [oX5 aK aKc K_used K_bitsFree K_full K_time K_value K_rise, rI aKc cI 1661 K_cells, rI aTp cI 96 T_packedFrom]) (wb := [oX2 aD aDc D_writesDone_26 D_writesLeft_27 D_down_28, rI aDc cI 4096 D_cells_29, oX7 aT aD aI aK aO aTi aTp aTt T_chunks T_chunksMade T_openFrom T_lacksSpace, oX5 aK aKc K_used K_bitsFree K_full K_time K_value K_rise, rI aKc cI 1661 K_cells, rI aTi cI 961 T_image_30, rI aTp cI 96 T_packedFrom]) (v := (some (.int r_25))) hx hb hml hown htc hN (c_X7_writeIndex l G cI cZ cJ aD aDc aT aI aK aO aTi aTp aTt D_writesDone_7 D_writesLeft_8 D_down_9 D_cells_10 T_chunks T_chunksMade T_openFrom T_lacksSpace T_image r_22 hE_24) mw_555 mw_557 mp_15 mw_7 mw_558 hd_X7_writeIndex ⟨rfl, rfl⟩ ⟨Nat.le_of_ble_eq_true rfl, Nat.le_of_ble_eq_true rfl⟩ hK hw23 hA [0, 1, 2, 5] [3, 4, 6] [3, 4, 5, 0, 1, 6, 2] rfl rfl rfl rfl rfl (by decide) rfl rfl rfl 2 rfl rfl rfl rfl hl4.1 rfl rfl (Nat.le_of_ble_eq_true rfl) dX7_writeOut_22 ⟨Nat.zero_le _, Nat.zero_le _⟩ (fun H31 locs31 hw31 => ?_)
    clear hw23 H23 locs23
    refine lv_if_eq (tgt := 48) hx hb dX7_writeOut_25 (by decide) (fun c_32 => ?_) (fun c_32 => ?_)
    · replace hJ_18 := it_t c_32 hJ_18
      refine lv_iconst (v := (0 : Int32)) hx hb dX7_writeOut_48 (by decide) ?_
      cases hJ_18
      exact kj_19 _ _ _ hw31 (lv_sub hl4 [] rfl)
    · replace hJ_18 := it_f c_32 hJ_18
      refine lv_aload_n hx hb dX7_writeOut_28 rfl (lv_at hl4 1 rfl) ?_
      refine va_get (D := G) (ci := 7) (v := .ref aD) (C := RX7) (T := TX7) (N := 11) hx hb htc iX7 hown hK hw31.1 2 rfl rfl 0 (by decide) (htc _ mw_185) (fun _ h9 => h9) rfl dX7_writeOut_29 ?_
      refine lv_iconst (v := (0 : Int32)) hx hb dX7_writeOut_32 (by decide) ?_
      refine lv_iconst (v := (2 : Int32)) hx hb dX7_writeOut_33 (by decide) ?_
      refine lv_iload_n hx hb dX7_writeOut_34 rfl (lv_at hl4 2 rfl) ?_
      refine lv_imul hx hb dX7_writeOut_35 ?_
      refine lv_iload_n hx hb dX7_writeOut_36 rfl (lv_at hl4 0 rfl) ?_
      refine lv_iadd hx hb dX7_writeOut_37 ?_
      replace hJ_18 := ob5_some hJ_18
      obtain ⟨r_34, D_writesDone_35, D_writesLeft_36, D_down_37, D_cells_38, hE_33, hJ_18⟩ := hJ_18
      refine ctV (a := aD) (As := [.int (0 : Int32), .int (((2 : Int32) * p0) + ((1 : Int32) - r_2))]) (rest := []) (st1 := [.int r_34]) (wc := [oX2 aD aDc D_writesDone_26 D_writesLeft_27 D_down_28, rI aDc cI 4096 D_cells_29]) (w1 := [oX2 aD aDc D_writesDone_35 D_writesLeft_36 D_down_37, rI aDc cI 4096 D_cells_38]) (wr := [oX7 aT aD aI aK aO aTi aTp aTt T_chunks T_chunksMade T_openFrom T_lacksSpace, oX5 aK aKc K_used K_bitsFree K_full K_time K_value K_rise, rI aKc cI 1661 K_cells, rI aTi cI 961 T_image_30, rI aTp cI 96 T_packedFrom]) (wb := [oX2 aD aDc D_writesDone_35 D_writesLeft_36 D_down_37, rI aDc cI 4096 D_cells_38, oX7 aT aD aI aK aO aTi aTp aTt T_chunks T_chunksMade T_openFrom T_lacksSpace, oX5 aK aKc K_used K_bitsFree K_full K_time K_value K_rise, rI aKc cI 1661 K_cells, rI aTi cI 961 T_image_30, rI aTp cI 96 T_packedFrom]) (v := (some (.int r_34))) hx hb hml hown htc hN (c_X2_write l G cI cZ cJ aD aDc D_writesDone_26 D_writesLeft_27 D_down_28 D_cells_29 (0 : Int32) (((2 : Int32) * p0) + ((1 : Int32) - r_2)) hE_33) mw_553 mw_405 mw_406 mw_3 mw_407 hd_X2_write ⟨rfl, rfl⟩ ⟨Nat.le_of_ble_eq_true rfl, Nat.le_of_ble_eq_true rfl⟩ hK hw31 hA [0, 1] [2, 3, 4, 5, 6] [5, 6, 0, 1, 2, 3, 4] rfl rfl rfl rfl rfl (by decide) rfl rfl rfl 0 rfl rfl rfl rfl hl4.1 rfl rfl (Nat.le_of_ble_eq_true rfl) dX7_writeOut_38 ⟨Nat.zero_le _, Nat.zero_le _⟩ (fun H39 locs39 hw39 => ?_)
      clear hw31 H31 locs31
      refine lv_if_eq (tgt := 48) hx hb dX7_writeOut_41 (by decide) (fun c_40 => ?_) (fun c_40 => ?_)
      · replace hJ_18 := it_t c_40 hJ_18
        refine lv_iconst (v := (0 : Int32)) hx hb dX7_writeOut_48 (by decide) ?_
        cases hJ_18
        exact kj_19 _ _ _ hw39 (lv_sub hl4 [] rfl)
      · replace hJ_18 := it_f c_40 hJ_18
        refine lv_iconst (v := (1 : Int32)) hx hb dX7_writeOut_44 (by decide) ?_
        refine lv_goto (tgt := 49) hx hb dX7_writeOut_45 (by decide) ?_
        cases hJ_18
        exact kj_19 _ _ _ hw39 (lv_sub hl4 [] rfl)
abbrev rm_X7_chunks : Room := { frames := 0, cells := 0, slots := 0, locals := 0 }
theorem hd_X7_chunks : yX7_chunks.cls = RX7 ∧ yX7_chunks.cls ≠ "java/lang/invoke/MethodHandle" ∧ yX7_chunks.cls ≠ "java/lang/invoke/VarHandle" ∧ (parseMethodDescriptor yX7_chunks.desc).map (fun d => d.parameters.length) = some 0 := by decide +kernel
set_option maxHeartbeats 4000000 in
set_option maxRecDepth 100000 in
theorem c_X7_chunks (l : Launch) (G : va_G) (cI cZ cJ : ClassId) (aT aD aI aK aO aTi aTp aTt : Nat) (T_chunks : Int32) (T_chunksMade : Int32) (T_openFrom : Int32) (T_lacksSpace : Int32)  {r : Int32} (hfin : m_X7_chunks T_chunks = some (r)) : CT l yX7_chunks cX7_chunks 1 (some .int) rm_X7_chunks G (tyC cI cZ cJ) [.ref aT] [oX7 aT aD aI aK aO aTi aTp aTt T_chunks T_chunksMade T_openFrom T_lacksSpace] (some (.int r)) [oX7 aT aD aI aK aO aTi aTp aTt T_chunks T_chunksMade T_openFrom T_lacksSpace] := by
  refine CT.ofW (lvl := [(0, .ref aT)]) (by decide) (Nat.le_of_ble_eq_true rfl) rfl ?_
  intro p e s m args below meth c A ls0 QQ hQQ hx hb hml hr hlocks htc hN hown hK hA hw0 hl0
  rw [m_X7_chunks] at hfin
  refine lv_aload_n hx hb dX7_chunks_0 rfl (lv_at hl0 0 rfl) ?_
  refine va_get (D := G) (ci := 7) (v := .int T_chunks) (C := RX7) (T := TX7) (N := 11) hx hb htc iX7 hown hK hw0.1 0 rfl rfl 7 (by decide) (htc _ mw_192) (fun _ h9 => h9) rfl dX7_chunks_1 ?_
  cases hfin
  rw [hQQ]
  exact ct_iret hx hb hr hlocks hw0.1 hw0.2.1 hw0.2.2 dX7_chunks_4
