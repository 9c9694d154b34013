theorem dX1_close_0 : decode cX1_close 0 = .ok (.aload_n 0, 1) := by decide +kernel
theorem dX1_close_1 : decode cX1_close 1 = .ok (.iconst 0, 1) := by decide +kernel
theorem dX1_close_2 : decode cX1_close 2 = .ok (.putfield 9, 3) := by decide +kernel
theorem dX1_close_5 : decode cX1_close 5 = .ok (.aload_n 0, 1) := by decide +kernel
theorem dX1_close_6 : decode cX1_close 6 = .ok (.iconst 0, 1) := by decide +kernel
theorem dX1_close_7 : decode cX1_close 7 = .ok (.putfield 37, 3) := by decide +kernel
theorem dX1_close_10 : decode cX1_close 10 = .ok (.aload_n 0, 1) := by decide +kernel
theorem dX1_close_11 : decode cX1_close 11 = .ok (.iconst 0, 1) := by decide +kernel
theorem dX1_close_12 : decode cX1_close 12 = .ok (.putfield 40, 3) := by decide +kernel
theorem dX1_close_15 : decode cX1_close 15 = .ok (.return_, 1) := by decide +kernel
theorem dX1_open_0 : decode cX1_open 0 = .ok (.aload_n 0, 1) := by decide +kernel
theorem dX1_open_1 : decode cX1_open 1 = .ok (.iconst 1, 1) := by decide +kernel
theorem dX1_open_2 : decode cX1_open 2 = .ok (.putfield 9, 3) := by decide +kernel
theorem dX1_open_5 : decode cX1_open 5 = .ok (.aload_n 0, 1) := by decide +kernel
theorem dX1_open_6 : decode cX1_open 6 = .ok (.iload_n 1, 1) := by decide +kernel
theorem dX1_open_7 : decode cX1_open 7 = .ok (.putfield 15, 3) := by decide +kernel
theorem dX1_open_10 : decode cX1_open 10 = .ok (.aload_n 0, 1) := by decide +kernel
theorem dX1_open_11 : decode cX1_open 11 = .ok (.iload_n 2, 1) := by decide +kernel
theorem dX1_open_12 : decode cX1_open 12 = .ok (.putfield 19, 3) := by decide +kernel
theorem dX1_open_15 : decode cX1_open 15 = .ok (.aload_n 0, 1) := by decide +kernel
theorem dX1_open_16 : decode cX1_open 16 = .ok (.iload_n 3, 1) := by decide +kernel
theorem dX1_open_17 : decode cX1_open 17 = .ok (.putfield 22, 3) := by decide +kernel
theorem dX1_open_20 : decode cX1_open 20 = .ok (.aload_n 0, 1) := by decide +kernel
theorem dX1_open_21 : decode cX1_open 21 = .ok (.aload_n 0, 1) := by decide +kernel
theorem dX1_open_22 : decode cX1_open 22 = .ok (.getfield 43, 3) := by decide +kernel
theorem dX1_open_25 : decode cX1_open 25 = .ok (.iload_n 1, 1) := by decide +kernel
theorem dX1_open_26 : decode cX1_open 26 = .ok (.invokevirtual 60, 3) := by decide +kernel
theorem dX1_open_29 : decode cX1_open 29 = .ok (.putfield 25, 3) := by decide +kernel
theorem dX1_open_32 : decode cX1_open 32 = .ok (.aload_n 0, 1) := by decide +kernel
theorem dX1_open_33 : decode cX1_open 33 = .ok (.aload_n 0, 1) := by decide +kernel
theorem dX1_open_34 : decode cX1_open 34 = .ok (.getfield 43, 3) := by decide +kernel
theorem dX1_open_37 : decode cX1_open 37 = .ok (.iload_n 1, 1) := by decide +kernel
theorem dX1_open_38 : decode cX1_open 38 = .ok (.invokevirtual 66, 3) := by decide +kernel
theorem dX1_open_41 : decode cX1_open 41 = .ok (.putfield 28, 3) := by decide +kernel
theorem dX1_open_44 : decode cX1_open 44 = .ok (.aload_n 0, 1) := by decide +kernel
theorem dX1_open_45 : decode cX1_open 45 = .ok (.iconst 0, 1) := by decide +kernel
theorem dX1_open_46 : decode cX1_open 46 = .ok (.putfield 31, 3) := by decide +kernel
theorem dX1_open_49 : decode cX1_open 49 = .ok (.aload_n 0, 1) := by decide +kernel
theorem dX1_open_50 : decode cX1_open 50 = .ok (.iconst 0, 1) := by decide +kernel
theorem dX1_open_51 : decode cX1_open 51 = .ok (.putfield 34, 3) := by decide +kernel
theorem dX1_open_54 : decode cX1_open 54 = .ok (.return_, 1) := by decide +kernel
theorem dX1_advance_0 : decode cX1_advance 0 = .ok (.aload_n 0, 1) := by decide +kernel
theorem dX1_advance_1 : decode cX1_advance 1 = .ok (.getfield 9, 3) := by decide +kernel
theorem dX1_advance_4 : decode cX1_advance 4 = .ok (.ifCond .eq 30, 3) := by decide +kernel
theorem dX1_advance_7 : decode cX1_advance 7 = .ok (.aload_n 0, 1) := by decide +kernel
theorem dX1_advance_8 : decode cX1_advance 8 = .ok (.invokevirtual 69, 3) := by decide +kernel
theorem dX1_advance_11 : decode cX1_advance 11 = .ok (.ifCond .ne 10, 3) := by decide +kernel
theorem dX1_advance_14 : decode cX1_advance 14 = .ok (.aload_n 0, 1) := by decide +kernel
theorem dX1_advance_15 : decode cX1_advance 15 = .ok (.invokevirtual 73, 3) := by decide +kernel
theorem dX1_advance_18 : decode cX1_advance 18 = .ok (.ifCond .eq 16, 3) := by decide +kernel
theorem dX1_advance_21 : decode cX1_advance 21 = .ok (.aload_n 0, 1) := by decide +kernel
theorem dX1_advance_22 : decode cX1_advance 22 = .ok (.getfield 37, 3) := by decide +kernel
theorem dX1_advance_25 : decode cX1_advance 25 = .ok (.aload_n 0, 1) := by decide +kernel
theorem dX1_advance_26 : decode cX1_advance 26 = .ok (.getfield 22, 3) := by decide +kernel
theorem dX1_advance_29 : decode cX1_advance 29 = .ok (.if_icmp .gt 5, 3) := by decide +kernel
theorem dX1_advance_32 : decode cX1_advance 32 = .ok (.iconst 1, 1) := by decide +kernel
theorem dX1_advance_33 : decode cX1_advance 33 = .ok (.ireturn, 1) := by decide +kernel
theorem dX1_advance_34 : decode cX1_advance 34 = .ok (.aload_n 0, 1) := by decide +kernel
theorem dX1_advance_35 : decode cX1_advance 35 = .ok (.invokevirtual 76, 3) := by decide +kernel
theorem dX1_advance_38 : decode cX1_advance 38 = .ok (.iconst 0, 1) := by decide +kernel
theorem dX1_advance_39 : decode cX1_advance 39 = .ok (.ireturn, 1) := by decide +kernel
theorem dX1_findInChunks_0 : decode cX1_findInChunks 0 = .ok (.aload_n 0, 1) := by decide +kernel
theorem dX1_findInChunks_1 : decode cX1_findInChunks 1 = .ok (.getfield 31, 3) := by decide +kernel
theorem dX1_findInChunks_4 : decode cX1_findInChunks 4 = .ok (.ifCond .ne 7, 3) := by decide +kernel
theorem dX1_findInChunks_7 : decode cX1_findInChunks 7 = .ok (.aload_n 0, 1) := by decide +kernel
theorem dX1_findInChunks_8 : decode cX1_findInChunks 8 = .ok (.invokevirtual 79, 3) := by decide +kernel
theorem dX1_findInChunks_11 : decode cX1_findInChunks 11 = .ok (.aload_n 0, 1) := by decide +kernel
theorem dX1_findInChunks_12 : decode cX1_findInChunks 12 = .ok (.getfield 31, 3) := by decide +kernel
theorem dX1_findInChunks_15 : decode cX1_findInChunks 15 = .ok (.ifCond .le 54, 3) := by decide +kernel
theorem dX1_findInChunks_18 : decode cX1_findInChunks 18 = .ok (.aload_n 0, 1) := by decide +kernel
theorem dX1_findInChunks_19 : decode cX1_findInChunks 19 = .ok (.dup, 1) := by decide +kernel
theorem dX1_findInChunks_20 : decode cX1_findInChunks 20 = .ok (.getfield 31, 3) := by decide +kernel
theorem dX1_findInChunks_23 : decode cX1_findInChunks 23 = .ok (.iconst 1, 1) := by decide +kernel
theorem dX1_findInChunks_24 : decode cX1_findInChunks 24 = .ok (.isub, 1) := by decide +kernel
theorem dX1_findInChunks_25 : decode cX1_findInChunks 25 = .ok (.putfield 31, 3) := by decide +kernel
theorem dX1_findInChunks_28 : decode cX1_findInChunks 28 = .ok (.aload_n 0, 1) := by decide +kernel
theorem dX1_findInChunks_29 : decode cX1_findInChunks 29 = .ok (.getfield 56, 3) := by decide +kernel
theorem dX1_findInChunks_32 : decode cX1_findInChunks 32 = .ok (.invokevirtual 82, 3) := by decide +kernel
theorem dX1_findInChunks_35 : decode cX1_findInChunks 35 = .ok (.aload_n 0, 1) := by decide +kernel
theorem dX1_findInChunks_36 : decode cX1_findInChunks 36 = .ok (.getfield 56, 3) := by decide +kernel
theorem dX1_findInChunks_39 : decode cX1_findInChunks 39 = .ok (.getfield 85, 3) := by decide +kernel
theorem dX1_findInChunks_42 : decode cX1_findInChunks 42 = .ok (.aload_n 0, 1) := by decide +kernel
theorem dX1_findInChunks_43 : decode cX1_findInChunks 43 = .ok (.getfield 19, 3) := by decide +kernel
theorem dX1_findInChunks_46 : decode cX1_findInChunks 46 = .ok (.if_icmp .lt (-35), 3) := by decide +kernel
theorem dX1_findInChunks_49 : decode cX1_findInChunks 49 = .ok (.aload_n 0, 1) := by decide +kernel
theorem dX1_findInChunks_50 : decode cX1_findInChunks 50 = .ok (.aload_n 0, 1) := by decide +kernel
theorem dX1_findInChunks_51 : decode cX1_findInChunks 51 = .ok (.getfield 56, 3) := by decide +kernel
theorem dX1_findInChunks_54 : decode cX1_findInChunks 54 = .ok (.getfield 85, 3) := by decide +kernel
theorem dX1_findInChunks_57 : decode cX1_findInChunks 57 = .ok (.aload_n 0, 1) := by decide +kernel
theorem dX1_findInChunks_58 : decode cX1_findInChunks 58 = .ok (.getfield 56, 3) := by decide +kernel
theorem dX1_findInChunks_61 : decode cX1_findInChunks 61 = .ok (.getfield 86, 3) := by decide +kernel
theorem dX1_findInChunks_64 : decode cX1_findInChunks 64 = .ok (.invokevirtual 87, 3) := by decide +kernel
theorem dX1_findInChunks_67 : decode cX1_findInChunks 67 = .ok (.iconst 1, 1) := by decide +kernel
theorem dX1_findInChunks_68 : decode cX1_findInChunks 68 = .ok (.ireturn, 1) := by decide +kernel
theorem dX1_findInChunks_69 : decode cX1_findInChunks 69 = .ok (.iconst 0, 1) := by decide +kernel
theorem dX1_findInChunks_70 : decode cX1_findInChunks 70 = .ok (.ireturn, 1) := by decide +kernel
theorem dX1_openChunk_0 : decode cX1_openChunk 0 = .ok (.aload_n 0, 1) := by decide +kernel
theorem dX1_openChunk_1 : decode cX1_openChunk 1 = .ok (.getfield 25, 3) := by decide +kernel
theorem dX1_openChunk_4 : decode cX1_openChunk 4 = .ok (.aload_n 0, 1) := by decide +kernel
theorem dX1_openChunk_5 : decode cX1_openChunk 5 = .ok (.getfield 28, 3) := by decide +kernel
theorem dX1_openChunk_8 : decode cX1_openChunk 8 = .ok (.if_icmp .ge 78, 3) := by decide +kernel
theorem dX1_openChunk_11 : decode cX1_openChunk 11 = .ok (.aload_n 0, 1) := by decide +kernel
theorem dX1_openChunk_12 : decode cX1_openChunk 12 = .ok (.getfield 31, 3) := by decide +kernel
theorem dX1_openChunk_15 : decode cX1_openChunk 15 = .ok (.ifCond .ne 71, 3) := by decide +kernel
theorem dX1_openChunk_18 : decode cX1_openChunk 18 = .ok (.aload_n 0, 1) := by decide +kernel
theorem dX1_openChunk_19 : decode cX1_openChunk 19 = .ok (.getfield 43, 3) := by decide +kernel
theorem dX1_openChunk_22 : decode cX1_openChunk 22 = .ok (.aload_n 0, 1) := by decide +kernel
theorem dX1_openChunk_23 : decode cX1_openChunk 23 = .ok (.getfield 25, 3) := by decide +kernel
theorem dX1_openChunk_26 : decode cX1_openChunk 26 = .ok (.iconst 2, 1) := by decide +kernel
theorem dX1_openChunk_27 : decode cX1_openChunk 27 = .ok (.invokevirtual 91, 3) := by decide +kernel
theorem dX1_openChunk_30 : decode cX1_openChunk 30 = .ok (.aload_n 0, 1) := by decide +kernel
theorem dX1_openChunk_31 : decode cX1_openChunk 31 = .ok (.getfield 19, 3) := by decide +kernel
theorem dX1_openChunk_34 : decode cX1_openChunk 34 = .ok (.if_icmp .lt 39, 3) := by decide +kernel
theorem dX1_openChunk_37 : decode cX1_openChunk 37 = .ok (.aload_n 0, 1) := by decide +kernel
theorem dX1_openChunk_38 : decode cX1_openChunk 38 = .ok (.getfield 56, 3) := by decide +kernel
theorem dX1_openChunk_41 : decode cX1_openChunk 41 = .ok (.aload_n 0, 1) := by decide +kernel
theorem dX1_openChunk_42 : decode cX1_openChunk 42 = .ok (.getfield 43, 3) := by decide +kernel
theorem dX1_openChunk_45 : decode cX1_openChunk 45 = .ok (.aload_n 0, 1) := by decide +kernel
theorem dX1_openChunk_46 : decode cX1_openChunk 46 = .ok (.getfield 25, 3) := by decide +kernel
theorem dX1_openChunk_49 : decode cX1_openChunk 49 = .ok (.bipush 8, 2) := by decide +kernel
theorem dX1_openChunk_51 : decode cX1_openChunk 51 = .ok (.invokevirtual 91, 3) := by decide +kernel
theorem dX1_openChunk_54 : decode cX1_openChunk 54 = .ok (.invokevirtual 95, 3) := by decide +kernel
theorem dX1_openChunk_57 : decode cX1_openChunk 57 = .ok (.aload_n 0, 1) := by decide +kernel
theorem dX1_openChunk_58 : decode cX1_openChunk 58 = .ok (.aload_n 0, 1) := by decide +kernel
theorem dX1_openChunk_59 : decode cX1_openChunk 59 = .ok (.getfield 43, 3) := by decide +kernel
theorem dX1_openChunk_62 : decode cX1_openChunk 62 = .ok (.aload_n 0, 1) := by decide +kernel
theorem dX1_openChunk_63 : decode cX1_openChunk 63 = .ok (.getfield 25, 3) := by decide +kernel
theorem dX1_openChunk_66 : decode cX1_openChunk 66 = .ok (.iconst 3, 1) := by decide +kernel
theorem dX1_openChunk_67 : decode cX1_openChunk 67 = .ok (.invokevirtual 91, 3) := by decide +kernel
theorem dX1_openChunk_70 : decode cX1_openChunk 70 = .ok (.putfield 31, 3) := by decide +kernel
theorem dX1_openChunk_73 : decode cX1_openChunk 73 = .ok (.aload_n 0, 1) := by decide +kernel
theorem dX1_openChunk_74 : decode cX1_openChunk 74 = .ok (.dup, 1) := by decide +kernel
theorem dX1_openChunk_75 : decode cX1_openChunk 75 = .ok (.getfield 25, 3) := by decide +kernel
theorem dX1_openChunk_78 : decode cX1_openChunk 78 = .ok (.iconst 1, 1) := by decide +kernel
theorem dX1_openChunk_79 : decode cX1_openChunk 79 = .ok (.iadd, 1) := by decide +kernel
theorem dX1_openChunk_80 : decode cX1_openChunk 80 = .ok (.putfield 25, 3) := by decide +kernel
theorem dX1_openChunk_83 : decode cX1_openChunk 83 = .ok (.goto (-83), 3) := by decide +kernel
theorem dX1_openChunk_86 : decode cX1_openChunk 86 = .ok (.return_, 1) := by decide +kernel
theorem dX1_findInHead_0 : decode cX1_findInHead 0 = .ok (.aload_n 0, 1) := by decide +kernel
theorem dX1_findInHead_1 : decode cX1_findInHead 1 = .ok (.getfield 34, 3) := by decide +kernel
theorem dX1_findInHead_4 : decode cX1_findInHead 4 = .ok (.aload_n 0, 1) := by decide +kernel
theorem dX1_findInHead_5 : decode cX1_findInHead 5 = .ok (.getfield 47, 3) := by decide +kernel
theorem dX1_findInHead_8 : decode cX1_findInHead 8 = .ok (.invokevirtual 99, 3) := by decide +kernel
theorem dX1_findInHead_11 : decode cX1_findInHead 11 = .ok (.if_icmp .ge 77, 3) := by decide +kernel
theorem dX1_findInHead_14 : decode cX1_findInHead 14 = .ok (.aload_n 0, 1) := by decide +kernel
theorem dX1_findInHead_15 : decode cX1_findInHead 15 = .ok (.getfield 34, 3) := by decide +kernel
theorem dX1_findInHead_18 : decode cX1_findInHead 18 = .ok (.istore_n 1, 1) := by decide +kernel
theorem dX1_findInHead_19 : decode cX1_findInHead 19 = .ok (.aload_n 0, 1) := by decide +kernel
theorem dX1_findInHead_20 : decode cX1_findInHead 20 = .ok (.dup, 1) := by decide +kernel
theorem dX1_findInHead_21 : decode cX1_findInHead 21 = .ok (.getfield 34, 3) := by decide +kernel
theorem dX1_findInHead_24 : decode cX1_findInHead 24 = .ok (.iconst 1, 1) := by decide +kernel
theorem dX1_findInHead_25 : decode cX1_findInHead 25 = .ok (.iadd, 1) := by decide +kernel
theorem dX1_findInHead_26 : decode cX1_findInHead 26 = .ok (.putfield 34, 3) := by decide +kernel
theorem dX1_findInHead_29 : decode cX1_findInHead 29 = .ok (.aload_n 0, 1) := by decide +kernel
theorem dX1_findInHead_30 : decode cX1_findInHead 30 = .ok (.getfield 47, 3) := by decide +kernel
theorem dX1_findInHead_33 : decode cX1_findInHead 33 = .ok (.iload_n 1, 1) := by decide +kernel
theorem dX1_findInHead_34 : decode cX1_findInHead 34 = .ok (.iconst 0, 1) := by decide +kernel
theorem dX1_findInHead_35 : decode cX1_findInHead 35 = .ok (.invokevirtual 105, 3) := by decide +kernel
theorem dX1_findInHead_38 : decode cX1_findInHead 38 = .ok (.aload_n 0, 1) := by decide +kernel
theorem dX1_findInHead_39 : decode cX1_findInHead 39 = .ok (.getfield 15, 3) := by decide +kernel
theorem dX1_findInHead_42 : decode cX1_findInHead 42 = .ok (.if_icmp .ne 43, 3) := by decide +kernel
theorem dX1_findInHead_45 : decode cX1_findInHead 45 = .ok (.aload_n 0, 1) := by decide +kernel
theorem dX1_findInHead_46 : decode cX1_findInHead 46 = .ok (.getfield 47, 3) := by decide +kernel
theorem dX1_findInHead_49 : decode cX1_findInHead 49 = .ok (.iload_n 1, 1) := by decide +kernel
theorem dX1_findInHead_50 : decode cX1_findInHead 50 = .ok (.iconst 1, 1) := by decide +kernel
theorem dX1_findInHead_51 : decode cX1_findInHead 51 = .ok (.invokevirtual 105, 3) := by decide +kernel
theorem dX1_findInHead_54 : decode cX1_findInHead 54 = .ok (.aload_n 0, 1) := by decide +kernel
theorem dX1_findInHead_55 : decode cX1_findInHead 55 = .ok (.getfield 19, 3) := by decide +kernel
theorem dX1_findInHead_58 : decode cX1_findInHead 58 = .ok (.if_icmp .lt 27, 3) := by decide +kernel
theorem dX1_findInHead_61 : decode cX1_findInHead 61 = .ok (.aload_n 0, 1) := by decide +kernel
theorem dX1_findInHead_62 : decode cX1_findInHead 62 = .ok (.aload_n 0, 1) := by decide +kernel
theorem dX1_findInHead_63 : decode cX1_findInHead 63 = .ok (.getfield 47, 3) := by decide +kernel
theorem dX1_findInHead_66 : decode cX1_findInHead 66 = .ok (.iload_n 1, 1) := by decide +kernel
theorem dX1_findInHead_67 : decode cX1_findInHead 67 = .ok (.iconst 1, 1) := by decide +kernel
theorem dX1_findInHead_68 : decode cX1_findInHead 68 = .ok (.invokevirtual 105, 3) := by decide +kernel
theorem dX1_findInHead_71 : decode cX1_findInHead 71 = .ok (.aload_n 0, 1) := by decide +kernel
theorem dX1_findInHead_72 : decode cX1_findInHead 72 = .ok (.getfield 47, 3) := by decide +kernel
theorem dX1_findInHead_75 : decode cX1_findInHead 75 = .ok (.iload_n 1, 1) := by decide +kernel
theorem dX1_findInHead_76 : decode cX1_findInHead 76 = .ok (.iconst 2, 1) := by decide +kernel
theorem dX1_findInHead_77 : decode cX1_findInHead 77 = .ok (.invokevirtual 105, 3) := by decide +kernel
theorem dX1_findInHead_80 : decode cX1_findInHead 80 = .ok (.invokevirtual 87, 3) := by decide +kernel
theorem dX1_findInHead_83 : decode cX1_findInHead 83 = .ok (.iconst 1, 1) := by decide +kernel
theorem dX1_findInHead_84 : decode cX1_findInHead 84 = .ok (.ireturn, 1) := by decide +kernel
theorem dX1_findInHead_85 : decode cX1_findInHead 85 = .ok (.goto (-85), 3) := by decide +kernel
theorem dX1_findInHead_88 : decode cX1_findInHead 88 = .ok (.iconst 0, 1) := by decide +kernel
theorem dX1_findInHead_89 : decode cX1_findInHead 89 = .ok (.ireturn, 1) := by decide +kernel
theorem dX1_standAt_0 : decode cX1_standAt 0 = .ok (.aload_n 0, 1) := by decide +kernel
theorem dX1_standAt_1 : decode cX1_standAt 1 = .ok (.iload_n 1, 1) := by decide +kernel
theorem dX1_standAt_2 : decode cX1_standAt 2 = .ok (.putfield 37, 3) := by decide +kernel
theorem dX1_standAt_5 : decode cX1_standAt 5 = .ok (.aload_n 0, 1) := by decide +kernel
theorem dX1_standAt_6 : decode cX1_standAt 6 = .ok (.iload_n 2, 1) := by decide +kernel
theorem dX1_standAt_7 : decode cX1_standAt 7 = .ok (.putfield 40, 3) := by decide +kernel
theorem dX1_standAt_10 : decode cX1_standAt 10 = .ok (.return_, 1) := by decide +kernel
abbrev rm_X1_close : Room := { frames := 0, cells := 0, slots := 0, locals := 0 }
theorem hd_X1_close : yX1_close.cls = RX1 ∧ yX1_close.cls ≠ "java/lang/invoke/MethodHandle" ∧ yX1_close.cls ≠ "java/lang/invoke/VarHandle" ∧ (parseMethodDescriptor yX1_close.desc).map (fun d => d.parameters.length) = some 0 := by decide +kernel
set_option maxHeartbeats 4000000 in
set_option maxRecDepth 100000 in
theorem c_X1_close (l : Launch) (G : va_G) (cI cZ cJ : ClassId) (aC aI aG aV : Nat) (C_isOpen : Int32) (C_series : Int32) (C_from : Int32) (C_to : Int32) (C_entry : Int32) (C_entriesEnd : Int32) (C_pointsLeft : Int32) (C_block : Int32) (C_time : Int32) (C_value : Int32)  {o_C_isOpen : Int32} {o_C_time : Int32} {o_C_value : Int32} (hfin : m_X1_close C_isOpen C_time C_value = some (o_C_isOpen, o_C_time, o_C_value)) : CT l yX1_close cX1_close 1 none rm_X1_close G (tyC cI cZ cJ) [.ref aC] [oX1 aC aI aG aV C_isOpen C_series C_from C_to C_entry C_entriesEnd C_pointsLeft C_block C_time C_value] none [oX1 aC aI aG aV o_C_isOpen C_series C_from C_to C_entry C_entriesEnd C_pointsLeft C_block o_C_time o_C_value] := by
  refine CT.ofW (lvl := [(0, .ref aC)]) (by decide) (Nat.le_of_ble_eq_true rfl) rfl ?_
  intro p e s m args below meth c A ls0 QQ hQQ hx hb hml hr hlocks htc hN hown hK hA hw0 hl0
  rw [m_X1_close] at hfin
  refine lv_aload_n hx hb dX1_close_0 rfl (lv_at hl0 0 rfl) ?_
  refine lv_iconst (v := (0 : Int32)) hx hb dX1_close_1 (by decide) ?_
  refine va_put (D := G) (ci := 1) (v := .int (0 : Int32)) (ty := .boolean) (C := RX1) (T := TX1) (N := 13) hx hb htc iX1 tyX1 tyX1_ok nmX1 hown hK hw0.1 hw0.2.1 hw0.2.2 0 rfl rfl 3 (by decide) (htc _ mw_264) (fun _ h9 => h9) rfl (tyX1_ok 3 (by decide)) rfl rfl (Nat.le_of_ble_eq_true rfl) dX1_close_2 (fun H1 locs1 hP hD hS => ?_)
  have hw1 : wS G A s H1 locs1 [oX1 aC aI aG aV (0 : Int32) C_series C_from C_to C_entry C_entriesEnd C_pointsLeft C_block C_time C_value] := ⟨hP, hD, hS⟩
  clear hP hD hS hw0
  refine lv_aload_n hx hb dX1_close_5 rfl (lv_at hl0 0 rfl) ?_
  refine lv_iconst (v := (0 : Int32)) hx hb dX1_close_6 (by decide) ?_
  refine va_put (D := G) (ci := 1) (v := .int (0 : Int32)) (ty := .int) (C := RX1) (T := TX1) (N := 13) hx hb htc iX1 tyX1 tyX1_ok nmX1 hown hK hw1.1 hw1.2.1 hw1.2.2 0 rfl rfl 11 (by decide) (htc _ mw_272) (fun _ h9 => h9) rfl (tyX1_ok 11 (by decide)) rfl rfl (Nat.le_of_ble_eq_true rfl) dX1_close_7 (fun H2 locs2 hP hD hS => ?_)
  have hw2 : wS G A s H2 locs2 [oX1 aC aI aG aV (0 : Int32) C_series C_from C_to C_entry C_entriesEnd C_pointsLeft C_block (0 : Int32) C_value] := ⟨hP, hD, hS⟩
  clear hP hD hS hw1 H1 locs1
  refine lv_aload_n hx hb dX1_close_10 rfl (lv_at hl0 0 rfl) ?_
  refine lv_iconst (v := (0 : Int32)) hx hb dX1_close_11 (by decide) ?_
  refine va_put (D := G) (ci := 1) (v := .int (0 : Int32)) (ty := .int) (C := RX1) (T := TX1) (N := 13) hx hb htc iX1 tyX1 tyX1_ok nmX1 hown hK hw2.1 hw2.2.1 hw2.2.2 0 rfl rfl 12 (by decide) (htc _ mw_274) (fun _ h9 => h9) rfl (tyX1_ok 12 (by decide)) rfl rfl (Nat.le_of_ble_eq_true rfl) dX1_close_12 (fun H3 locs3 hP hD hS => ?_)
  have hw3 : wS G A s H3 locs3 [oX1 aC aI aG aV (0 : Int32) C_series C_from C_to C_entry C_entriesEnd C_pointsLeft C_block (0 : Int32) (0 : Int32)] := ⟨hP, hD, hS⟩
  clear hP hD hS hw2 H2 locs2
  cases hfin
  rw [hQQ]
  exact ct_vret hx hb hr hlocks hw3.1 hw3.2.1 hw3.2.2 dX1_close_15
abbrev rm_X1_open : Room := { frames := 4, cells := 0, slots := 0, locals := 87 }
theorem hd_X1_open : yX1_open.cls = RX1 ∧ yX1_open.cls ≠ "java/lang/invoke/MethodHandle" ∧ yX1_open.cls ≠ "java/lang/invoke/VarHandle" ∧ (parseMethodDescriptor yX1_open.desc).map (fun d => d.parameters.length) = some 3 := by decide +kernel
set_option maxHeartbeats 4000000 in
set_option maxRecDepth 100000 in
theorem c_X1_open (l : Launch) (G : va_G) (cI cZ cJ : ClassId) (aD aDc aI aC aG aV : Nat) (D_writesDone : Int32) (D_writesLeft : Int32) (D_down : Int32) (D_cells : Nat → Int32) (C_isOpen : Int32) (C_series : Int32) (C_from : Int32) (C_to : Int32) (C_entry : Int32) (C_entriesEnd : Int32) (C_pointsLeft : Int32) (C_block : Int32) (C_time : Int32) (C_value : Int32) (p0 : Int32) (p1 : Int32) (p2 : Int32) {o_C_isOpen : Int32} {o_C_series : Int32} {o_C_from : Int32} {o_C_to : Int32} {o_C_entry : Int32} {o_C_entriesEnd : Int32} {o_C_pointsLeft : Int32} {o_C_block : Int32} (hfin : m_X1_open D_cells C_isOpen C_series C_from C_to C_entry C_entriesEnd C_pointsLeft C_block p0 p1 p2 = some (o_C_isOpen, o_C_series, o_C_from, o_C_to, o_C_entry, o_C_entriesEnd, o_C_pointsLeft, o_C_block)) : CT l yX1_open cX1_open 4 none rm_X1_open G (tyC cI cZ cJ) [.ref aC, .int p0, .int p1, .int p2] [oX2 aD aDc D_writesDone D_writesLeft D_down, rI aDc cI 4096 D_cells, oX3 aI aD, oX1 aC aI aG aV C_isOpen C_series C_from C_to C_entry C_entriesEnd C_pointsLeft C_block C_time C_value] none [oX2 aD aDc D_writesDone D_writesLeft D_down, rI aDc cI 4096 D_cells, oX3 aI aD, oX1 aC aI aG aV o_C_isOpen o_C_series o_C_from o_C_to o_C_entry o_C_entriesEnd o_C_pointsLeft o_C_block C_time C_value] := by
  refine CT.ofW (lvl := [(0, .ref aC), (1, .int p0), (2, .int p1), (3, .int p2)]) (by decide) (Nat.le_of_ble_eq_true rfl) rfl ?_
  intro p e s m args below meth c A ls0 QQ hQQ hx hb hml hr hlocks htc hN hown hK hA hw0 hl0
  rw [m_X1_open] at hfin
  refine lv_aload_n hx hb dX1_open_0 rfl (lv_at hl0 0 rfl) ?_
  refine lv_iconst (v := (1 : Int32)) hx hb dX1_open_1 (by decide) ?_
  refine va_put (D := G) (ci := 1) (v := .int (1 : Int32)) (ty := .boolean) (C := RX1) (T := TX1) (N := 13) hx hb htc iX1 tyX1 tyX1_ok nmX1 hown hK hw0.1 hw0.2.1 hw0.2.2 3 rfl rfl 3 (by decide) (htc _ mw_264) (fun _ h9 => h9) rfl (tyX1_ok 3 (by decide)) rfl rfl (Nat.le_of_ble_eq_true rfl) dX1_open_2 (fun H1 locs1 hP hD hS => ?_)
  have hw1 : wS G A s H1 locs1 [oX2 aD aDc D_writesDone D_writesLeft D_down, rI aDc cI 4096 D_cells, oX3 aI aD, oX1 aC aI aG aV (1 : Int32) C_series C_from C_to C_entry C_entriesEnd C_pointsLeft C_block C_time C_value] := ⟨hP, hD, hS⟩
  clear hP hD hS hw0
  refine lv_aload_n hx hb dX1_open_5 rfl (lv_at hl0 0 rfl) ?_
  refine lv_iload_n hx hb dX1_open_6 rfl (lv_at hl0 1 rfl) ?_
  refine va_put (D := G) (ci := 1) (v := .int p0) (ty := .int) (C := RX1) (T := TX1) (N := 13) hx hb htc iX1 tyX1 tyX1_ok nmX1 hown hK hw1.1 hw1.2.1 hw1.2.2 3 rfl rfl 4 (by decide) (htc _ mw_265) (fun _ h9 => h9) rfl (tyX1_ok 4 (by decide)) rfl rfl (Nat.le_of_ble_eq_true rfl) dX1_open_7 (fun H2 locs2 hP hD hS => ?_)
  have hw2 : wS G A s H2 locs2 [oX2 aD aDc D_writesDone D_writesLeft D_down, rI aDc cI 4096 D_cells, oX3 aI aD, oX1 aC aI aG aV (1 : Int32) p0 C_from C_to C_entry C_entriesEnd C_pointsLeft C_block C_time C_value] := ⟨hP, hD, hS⟩
  clear hP hD hS hw1 H1 locs1
  refine lv_aload_n hx hb dX1_open_10 rfl (lv_at hl0 0 rfl) ?_
  refine lv_iload_n hx hb dX1_open_11 rfl (lv_at hl0 2 rfl) ?_
  refine va_put (D := G) (ci := 1) (v := .int p1) (ty := .int) (C := RX1) (T := TX1) (N := 13) hx hb htc iX1 tyX1 tyX1_ok nmX1 hown hK hw2.1 hw2.2.1 hw2.2.2 3 rfl rfl 5 (by decide) (htc _ mw_266) (fun _ h9 => h9) rfl (tyX1_ok 5 (by decide)) rfl rfl (Nat.le_of_ble_eq_true rfl) dX1_open_12 (fun H3 locs3 hP hD hS => ?_)
  have hw3 : wS G A s H3 locs3 [oX2 aD aDc D_writesDone D_writesLeft D_down, rI aDc cI 4096 D_cells, oX3 aI aD, oX1 aC aI aG aV (1 : Int32) p0 p1 C_to C_entry C_entriesEnd C_pointsLeft C_block C_time C_value] := ⟨hP, hD, hS⟩
  clear hP hD hS hw2 H2 locs2
  refine lv_aload_n hx hb dX1_open_15 rfl (lv_at hl0 0 rfl) ?_
  refine lv_iload_n hx hb dX1_open_16 rfl (lv_at hl0 3 rfl) ?_
  refine va_put (D := G) (ci := 1) (v := .int p2) (ty := .int) (C := RX1) (T := TX1) (N := 13) hx hb htc iX1 tyX1 tyX1_ok nmX1 hown hK hw3.1 hw3.2.1 hw3.2.2 3 rfl rfl 6 (by decide) (htc _ mw_267) (fun _ h9 => h9) rfl (tyX1_ok 6 (by decide)) rfl rfl (Nat.le_of_ble_eq_true rfl) dX1_open_17 (fun H4 locs4 hP hD hS => ?_)
  have hw4 : wS G A s H4 locs4 [oX2 aD aDc D_writesDone D_writesLeft D_down, rI aDc cI 4096 D_cells, oX3 aI aD, oX1 aC aI aG aV (1 : Int32) p0 p1 p2 C_entry C_entriesEnd C_pointsLeft C_block C_time C_value] := ⟨hP, hD, hS⟩
  clear hP hD hS hw3 H3 locs3
  refine lv_aload_n hx hb dX1_open_20 rfl (lv_at hl0 0 rfl) ?_
  refine lv_aload_n hx hb dX1_open_21 rfl (lv_at hl0 0 rfl) ?_
  refine va_get (D := G) (ci := 1) (v := .ref aI) (C := RX1) (T := TX1) (N := 13) hx hb htc iX1 hown hK hw4.1 3 rfl rfl 0 (by decide) (htc _ mw_261) (fun _ h9 => h9) rfl dX1_open_22 ?_
  refine lv_iload_n hx hb dX1_open_25 rfl (lv_at hl0 1 rfl) ?_
  replace hfin := ob1_some hfin
  obtain ⟨r_6, hE_5, hfin⟩ := hfin
  refine ctV (a := aI) (As := [.int p0]) (rest := [.ref aC]) (st1 := [.int r_6, .ref aC]) (wc := [oX2 aD aDc D_writesDone D_writesLeft D_down, rI aDc cI 4096 D_cells, oX3 aI aD]) (w1 := [oX2 aD aDc D_writesDone D_writesLeft D_down, rI aDc cI 4096 D_cells, oX3 aI aD]) (wr := [oX1 aC aI aG aV (1 : Int32) p0 p1 p2 C_entry C_entriesEnd C_pointsLeft C_block C_time C_value]) (wb := [oX2 aD aDc D_writesDone D_writesLeft D_down, rI aDc cI 4096 D_cells, oX3 aI aD, oX1 aC aI aG aV (1 : Int32) p0 p1 p2 C_entry C_entriesEnd C_pointsLeft C_block C_time C_value]) (v := (some (.int r_6))) hx hb hml hown htc hN (c_X3_firstOf l G cI cZ cJ aD aDc aI D_writesDone D_writesLeft D_down D_cells p0 hE_5) mw_618 mw_375 mw_376 mw_4 mw_377 hd_X3_firstOf ⟨rfl, rfl⟩ ⟨Nat.le_of_ble_eq_true rfl, Nat.le_of_ble_eq_true rfl⟩ hK hw4 hA [0, 1, 2] [3] [1, 2, 3, 0] rfl rfl rfl rfl rfl (by decide) rfl rfl rfl 2 rfl rfl rfl rfl hl0.1 rfl rfl (Nat.le_of_ble_eq_true rfl) dX1_open_26 ⟨Nat.zero_le _, Nat.zero_le _⟩ (fun H7 locs7 hw7 => ?_)
  clear hw4 H4 locs4
  refine va_put (D := G) (ci := 1) (v := .int r_6) (ty := .int) (C := RX1) (T := TX1) (N := 13) hx hb htc iX1 tyX1 tyX1_ok nmX1 hown hK hw7.1 hw7.2.1 hw7.2.2 3 rfl rfl 7 (by decide) (htc _ mw_268) (fun _ h9 => h9) rfl (tyX1_ok 7 (by decide)) rfl rfl (Nat.le_of_ble_eq_true rfl) dX1_open_29 (fun H8 locs8 hP hD hS => ?_)
  have hw8 : wS G A s H8 locs8 [oX2 aD aDc D_writesDone D_writesLeft D_down, rI aDc cI 4096 D_cells, oX3 aI aD, oX1 aC aI aG aV (1 : Int32) p0 p1 p2 r_6 C_entriesEnd C_pointsLeft C_block C_time C_value] := ⟨hP, hD, hS⟩
  clear hP hD hS hw7 H7 locs7
  refine lv_aload_n hx hb dX1_open_32 rfl (lv_at hl0 0 rfl) ?_
  refine lv_aload_n hx hb dX1_open_33 rfl (lv_at hl0 0 rfl) ?_
  refine va_get (D := G) (ci := 1) (v := .ref aI) (C := RX1) (T := TX1) (N := 13) hx hb htc iX1 hown hK hw8.1 3 rfl rfl 0 (by decide) (htc _ mw_261) (fun _ h9 => h9) rfl dX1_open_34 ?_
  refine lv_iload_n hx hb dX1_open_37 rfl (lv_at hl0 1 rfl) ?_
  replace hfin := ob1_some hfin
  obtain ⟨r_10, hE_9, hfin⟩ := hfin
  refine ctV (a := aI) (As := [.int p0]) (rest := [.ref aC]) (st1 := [.int r_10, .ref aC]) (wc := [oX2 aD aDc D_writesDone D_writesLeft D_down, rI aDc cI 4096 D_cells, oX3 aI aD]) (w1 := [oX2 aD aDc D_writesDone D_writesLeft D_down, rI aDc cI 4096 D_cells, oX3 aI aD]) (wr := [oX1 aC aI aG aV (1 : Int32) p0 p1 p2 r_6 C_entriesEnd C_pointsLeft C_block C_time C_value]) (wb := [oX2 aD aDc D_writesDone D_writesLeft D_down, rI aDc cI 4096 D_cells, oX3 aI aD, oX1 aC aI aG aV (1 : Int32) p0 p1 p2 r_6 C_entriesEnd C_pointsLeft C_block C_time C_value]) (v := (some (.int r_10))) hx hb hml hown htc hN (c_X3_endOf l G cI cZ cJ aD aDc aI D_writesDone D_writesLeft D_down D_cells p0 hE_9) mw_619 mw_371 mw_372 mw_4 mw_373 hd_X3_endOf ⟨rfl, rfl⟩ ⟨Nat.le_of_ble_eq_true rfl, Nat.le_of_ble_eq_true rfl⟩ hK hw8 hA [0, 1, 2] [3] [1, 2, 3, 0] rfl rfl rfl rfl rfl (by decide) rfl rfl rfl 2 rfl rfl rfl rfl hl0.1 rfl rfl (Nat.le_of_ble_eq_true rfl) dX1_open_38 ⟨Nat.zero_le _, Nat.zero_le _⟩ (fun H11 locs11 hw11 => ?_)
  clear hw8 H8 locs8
  refine va_put (D := G) (ci := 1) (v := .int r_10) (ty := .int) (C := RX1) (T := TX1) (N := 13) hx hb htc iX1 tyX1 tyX1_ok nmX1 hown hK hw11.1 hw11.2.1 hw11.2.2 3 rfl rfl 8 (by decide) (htc _ mw_269) (fun _ h9 => h9) rfl (tyX1_ok 8 (by decide)) rfl rfl (Nat.le_of_ble_eq_true rfl) dX1_open_41 (fun H12 locs12 hP hD hS => ?_)
  have hw12 : wS G A s H12 locs12 [oX2 aD aDc D_writesDone D_writesLeft D_down, rI aDc cI 4096 D_cells, oX3 aI aD, oX1 aC aI aG aV (1 : Int32) p0 p1 p2 r_6 r_10 C_pointsLeft C_block C_time C_value] := ⟨hP, hD, hS⟩
  clear hP hD hS hw11 H11 locs11
  refine lv_aload_n hx hb dX1_open_44 rfl (lv_at hl0 0 rfl) ?_
  refine lv_iconst (v := (0 : Int32)) hx hb dX1_open_45 (by decide) ?_
  refine va_put (D := G) (ci := 1) (v := .int (0 : Int32)) (ty := .int) (C := RX1) (T := TX1) (N := 13) hx hb htc iX1 tyX1 tyX1_ok nmX1 hown hK hw12.1 hw12.2.1 hw12.2.2 3 rfl rfl 9 (by decide) (htc _ mw_270) (fun _ h9 => h9) rfl (tyX1_ok 9 (by decide)) rfl rfl (Nat.le_of_ble_eq_true rfl) dX1_open_46 (fun H13 locs13 hP hD hS => ?_)
  have hw13 : wS G A s H13 locs13 [oX2 aD aDc D_writesDone D_writesLeft D_down, rI aDc cI 4096 D_cells, oX3 aI aD, oX1 aC aI aG aV (1 : Int32) p0 p1 p2 r_6 r_10 (0 : Int32) C_block C_time C_value] := ⟨hP, hD, hS⟩
  clear hP hD hS hw12 H12 locs12
  refine lv_aload_n hx hb dX1_open_49 rfl (lv_at hl0 0 rfl) ?_
  refine lv_iconst (v := (0 : Int32)) hx hb dX1_open_50 (by decide) ?_
  refine va_put (D := G) (ci := 1) (v := .int (0 : Int32)) (ty := .int) (C := RX1) (T := TX1) (N := 13) hx hb htc iX1 tyX1 tyX1_ok nmX1 hown hK hw13.1 hw13.2.1 hw13.2.2 3 rfl rfl 10 (by decide) (htc _ mw_271) (fun _ h9 => h9) rfl (tyX1_ok 10 (by decide)) rfl rfl (Nat.le_of_ble_eq_true rfl) dX1_open_51 (fun H14 locs14 hP hD hS => ?_)
  have hw14 : wS G A s H14 locs14 [oX2 aD aDc D_writesDone D_writesLeft D_down, rI aDc cI 4096 D_cells, oX3 aI aD, oX1 aC aI aG aV (1 : Int32) p0 p1 p2 r_6 r_10 (0 : Int32) (0 : Int32) C_time C_value] := ⟨hP, hD, hS⟩
  clear hP hD hS hw13 H13 locs13
  cases hfin
  rw [hQQ]
  exact ct_vret hx hb hr hlocks hw14.1 hw14.2.1 hw14.2.2 dX1_open_54
abbrev rm_X1_openChunk : Room := { frames := 2, cells := 0, slots := 0, locals := 43 }
theorem hd_X1_openChunk : yX1_openChunk.cls = RX1 ∧ yX1_openChunk.cls ≠ "java/lang/invoke/MethodHandle" ∧ yX1_openChunk.cls ≠ "java/lang/invoke/VarHandle" ∧ (parseMethodDescriptor yX1_openChunk.desc).map (fun d => d.parameters.length) = some 0 := by decide +kernel
set_option maxHeartbeats 4000000 in
set_option maxRecDepth 100000 in
theorem c_X1_openChunk (l : Launch) (G : va_G) (cI cZ cJ : ClassId) (aD aDc aI aV aC aG : Nat) (D_writesDone : Int32) (D_writesLeft : Int32) (D_down : Int32) (D_cells : Nat → Int32) (V_place : Int32) (V_bitsRead : Int32) (V_started : Int32) (V_time : Int32) (V_value : Int32) (V_rise : Int64) (C_isOpen : Int32) (C_series : Int32) (C_from : Int32) (C_to : Int32) (C_entry : Int32) (C_entriesEnd : Int32) (C_pointsLeft : Int32) (C_block : Int32) (C_time : Int32) (C_value : Int32)  {o_V_place : Int32} {o_V_bitsRead : Int32} {o_V_started : Int32} {o_C_entry : Int32} {o_C_pointsLeft : Int32} (hfin : m_X1_openChunk D_cells V_place V_bitsRead V_started C_from C_entry C_entriesEnd C_pointsLeft = some (o_V_place, o_V_bitsRead, o_V_started, o_C_entry, o_C_pointsLeft)) : CT l yX1_openChunk cX1_openChunk 1 none rm_X1_openChunk G (tyC cI cZ cJ) [.ref aC] [oX2 aD aDc D_writesDone D_writesLeft D_down, rI aDc cI 4096 D_cells, oX3 aI aD, oX8 aV aD V_place V_bitsRead V_started V_time V_value V_rise, oX1 aC aI aG aV C_isOpen C_series C_from C_to C_entry C_entriesEnd C_pointsLeft C_block C_time C_value] none [oX2 aD aDc D_writesDone D_writesLeft D_down, rI aDc cI 4096 D_cells, oX3 aI aD, oX8 aV aD o_V_place o_V_bitsRead o_V_started V_time V_value V_rise, oX1 aC aI aG aV C_isOpen C_series C_from C_to o_C_entry C_entriesEnd o_C_pointsLeft C_block C_time C_value] := by
  refine CT.ofW (lvl := [(0, .ref aC)]) (by decide) (Nat.le_of_ble_eq_true rfl) rfl ?_
  intro p e s m args below meth c A ls0 QQ hQQ hx hb hml hr hlocks htc hN hown hK hA hw0 hl0
  rw [m_X1_openChunk] at hfin
  replace hfin := ob5_some hfin
  obtain ⟨V_place_10, V_bitsRead_11, V_started_12, C_entry_13, C_pointsLeft_14, hL_6, hfin⟩ := hfin
  have kx_7 : ∀ (H : Heap) (locs : List Loc) (ls : Array Slot), wS G A s H locs [oX2 aD aDc D_writesDone D_writesLeft D_down, rI aDc cI 4096 D_cells, oX3 aI aD, oX8 aV aD V_place_10 V_bitsRead_11 V_started_12 V_time V_value V_rise, oX1 aC aI aG aV C_isOpen C_series C_from C_to C_entry_13 C_entriesEnd C_pointsLeft_14 C_block C_time C_value] → lv_has ls 1 [] → W p l e rm_X1_openChunk s m args below meth c H locs 0 0 QQ (F0 m 86 ls []) := by
    clear hw0 hl0 ls0 hL_6
    intro H42 locs42 ls42 hw42 hl42
    cases hfin
    rw [hQQ]
    exact ct_vret hx hb hr hlocks hw42.1 hw42.2.1 hw42.2.2 dX1_openChunk_86
  have lp_8 : ∀ (n : Nat) (V_place_1 : Int32) (V_bitsRead_2 : Int32) (V_started_3 : Int32) (C_entry_4 : Int32) (C_pointsLeft_5 : Int32), lp_X1_openChunk_0 D_cells C_from C_entriesEnd n V_place_1 V_bitsRead_2 V_started_3 C_entry_4 C_pointsLeft_5 = some (V_place_10, V_bitsRead_11, V_started_12, C_entry_13, C_pointsLeft_14) → ∀ (H : Heap) (locs : List Loc) (ls : Array Slot), wS G A s H locs [oX2 aD aDc D_writesDone D_writesLeft D_down, rI aDc cI 4096 D_cells, oX3 aI aD, oX8 aV aD V_place_1 V_bitsRead_2 V_started_3 V_time V_value V_rise, oX1 aC aI aG aV C_isOpen C_series C_from C_to C_entry_4 C_entriesEnd C_pointsLeft_5 C_block C_time C_value] → lv_has ls 1 [(0, .ref aC)] → W p l e rm_X1_openChunk s m args below meth c H locs 0 0 QQ (F0 m 0 ls []) := by
    clear hw0 hl0 ls0 hfin
    intro n
    induction n with
    | zero =>
      intro V_place_1 V_bitsRead_2 V_started_3 C_entry_4 C_pointsLeft_5 hB_9
      exact absurd hB_9 (by rw [lp_X1_openChunk_0]; exact fun h9 => nomatch h9)
    | succ n ih =>
      intro V_place_1 V_bitsRead_2 V_started_3 C_entry_4 C_pointsLeft_5 hB_9 H15 locs15 ls15 hw15 hl15
      rw [lp_X1_openChunk_0] at hB_9
      refine lv_aload_n hx hb dX1_openChunk_0 rfl (lv_at hl15 0 rfl) ?_
      refine va_get (D := G) (ci := 1) (v := .int C_entry_4) (C := RX1) (T := TX1) (N := 13) hx hb htc iX1 hown hK hw15.1 4 rfl rfl 7 (by decide) (htc _ mw_268) (fun _ h9 => h9) rfl dX1_openChunk_1 ?_
      refine lv_aload_n hx hb dX1_openChunk_4 rfl (lv_at hl15 0 rfl) ?_
      refine va_get (D := G) (ci := 1) (v := .int C_entriesEnd) (C := RX1) (T := TX1) (N := 13) hx hb htc iX1 hown hK hw15.1 4 rfl rfl 8 (by decide) (htc _ mw_269) (fun _ h9 => h9) rfl dX1_openChunk_5 ?_
      refine lv_icmp_ge (tgt := 86) hx hb dX1_openChunk_8 (by decide) (fun c_16 => ?_) (fun c_16 => ?_)
      · replace hB_9 := it_t c_16 hB_9
        cases hB_9
        exact kx_7 _ _ _ hw15 (lv_sub hl15 [] rfl)
      · replace hB_9 := it_f c_16 hB_9
        refine lv_aload_n hx hb dX1_openChunk_11 rfl (lv_at hl15 0 rfl) ?_
        refine va_get (D := G) (ci := 1) (v := .int C_pointsLeft_5) (C := RX1) (T := TX1) (N := 13) hx hb htc iX1 hown hK hw15.1 4 rfl rfl 9 (by decide) (htc _ mw_270) (fun _ h9 => h9) rfl dX1_openChunk_12 ?_
        refine lv_if_ne (tgt := 86) hx hb dX1_openChunk_15 (by decide) (fun c_17 => ?_) (fun c_17 => ?_)
        · replace hB_9 := it_f c_17 hB_9
          cases hB_9
          exact kx_7 _ _ _ hw15 (lv_sub hl15 [] rfl)
        · replace hB_9 := it_t c_17 hB_9
          refine lv_aload_n hx hb dX1_openChunk_18 rfl (lv_at hl15 0 rfl) ?_
          refine va_get (D := G) (ci := 1) (v := .ref aI) (C := RX1) (T := TX1) (N := 13) hx hb htc iX1 hown hK hw15.1 4 rfl rfl 0 (by decide) (htc _ mw_261) (fun _ h9 => h9) rfl dX1_openChunk_19 ?_
          refine lv_aload_n hx hb dX1_openChunk_22 rfl (lv_at hl15 0 rfl) ?_
          refine va_get (D := G) (ci := 1) (v := .int C_entry_4) (C := RX1) (T := TX1) (N := 13) hx hb htc iX1 hown hK hw15.1 4 rfl rfl 7 (by decide) (htc _ mw_268) (fun _ h9 => h9) rfl dX1_openChunk_23 ?_
          refine lv_iconst (v := (2 : Int32)) hx hb dX1_openChunk_26 (by decide) ?_
          replace hB_9 := ob1_some hB_9
          obtain ⟨r_19, hE_18, hB_9⟩ := hB_9
          refine ctV (a := aI) (As := [.int C_entry_4, .int (2 : Int32)]) (rest := []) (st1 := [.int r_19]) (wc := [oX2 aD aDc D_writesDone D_writesLeft D_down, rI aDc cI 4096 D_cells, oX3 aI aD]) (w1 := [oX2 aD aDc D_writesDone D_writesLeft D_down, rI aDc cI 4096 D_cells, oX3 aI aD]) (wr := [oX8 aV aD V_place_1 V_bitsRead_2 V_started_3 V_time V_value V_rise, oX1 aC aI aG aV C_isOpen C_series C_from C_to C_entry_4 C_entriesEnd C_pointsLeft_5 C_block C_time C_value]) (wb := [oX2 aD aDc D_writesDone D_writesLeft D_down, rI aDc cI 4096 D_cells, oX3 aI aD, oX8 aV aD V_place_1 V_bitsRead_2 V_started_3 V_time V_value V_rise, oX1 aC aI aG aV C_isOpen C_series C_from C_to C_entry_4 C_entriesEnd C_pointsLeft_5 C_block C_time C_value]) (v := (some (.int r_19))) hx hb hml hown htc hN (c_X3_at l G cI cZ cJ aD aDc aI D_writesDone D_writesLeft D_down D_cells C_entry_4 (2 : Int32) hE_18) mw_685 mw_391 mw_392 mw_4 mw_393 hd_X3_at ⟨rfl, rfl⟩ ⟨Nat.le_of_ble_eq_true rfl, Nat.le_of_ble_eq_true rfl⟩ hK hw15 hA [0, 1, 2] [3, 4] [2, 3, 4, 0, 1] rfl rfl rfl rfl rfl (by decide) rfl rfl rfl 2 rfl rfl rfl rfl hl15.1 rfl rfl (Nat.le_of_ble_eq_true rfl) dX1_openChunk_27 ⟨Nat.zero_le _, Nat.zero_le _⟩ (fun H20 locs20 hw20 => ?_)
          clear hw15 H15 locs15
          refine lv_aload_n hx hb dX1_openChunk_30 rfl (lv_at hl15 0 rfl) ?_
          refine va_get (D := G) (ci := 1) (v := .int C_from) (C := RX1) (T := TX1) (N := 13) hx hb htc iX1 hown hK hw20.1 4 rfl rfl 5 (by decide) (htc _ mw_266) (fun _ h9 => h9) rfl dX1_openChunk_31 ?_
          replace hB_9 := ob4_some hB_9
          obtain ⟨V_place_21, V_bitsRead_22, V_started_23, C_pointsLeft_24, hJ_25, hB_9⟩ := hB_9
          have kj_26 : ∀ (H : Heap) (locs : List Loc) (ls : Array Slot), wS G A s H locs [oX2 aD aDc D_writesDone D_writesLeft D_down, rI aDc cI 4096 D_cells, oX3 aI aD, oX8 aV aD V_place_21 V_bitsRead_22 V_started_23 V_time V_value V_rise, oX1 aC aI aG aV C_isOpen C_series C_from C_to C_entry_4 C_entriesEnd C_pointsLeft_24 C_block C_time C_value] → lv_has ls 1 [(0, .ref aC)] → W p l e rm_X1_openChunk s m args below meth c H locs 0 0 QQ (F0 m 73 ls []) := by
            clear hw20 H20 locs20 hl15 ls15 hJ_25
            intro H40 locs40 ls40 hw40 hl40
            refine lv_aload_n hx hb dX1_openChunk_73 rfl (lv_at hl40 0 rfl) ?_
            refine lv_dup hx hb dX1_openChunk_74 rfl ?_
            refine va_get (D := G) (ci := 1) (v := .int C_entry_4) (C := RX1) (T := TX1) (N := 13) hx hb htc iX1 hown hK hw40.1 4 rfl rfl 7 (by decide) (htc _ mw_268) (fun _ h9 => h9) rfl dX1_openChunk_75 ?_
            refine lv_iconst (v := (1 : Int32)) hx hb dX1_openChunk_78 (by decide) ?_
            refine lv_iadd hx hb dX1_openChunk_79 ?_
            refine va_put (D := G) (ci := 1) (v := .int (C_entry_4 + (1 : Int32))) (ty := .int) (C := RX1) (T := TX1) (N := 13) hx hb htc iX1 tyX1 tyX1_ok nmX1 hown hK hw40.1 hw40.2.1 hw40.2.2 4 rfl rfl 7 (by decide) (htc _ mw_268) (fun _ h9 => h9) rfl (tyX1_ok 7 (by decide)) rfl rfl (Nat.le_of_ble_eq_true rfl) dX1_openChunk_80 (fun H41 locs41 hP hD hS => ?_)
            have hw41 : wS G A s H41 locs41 [oX2 aD aDc D_writesDone D_writesLeft D_down, rI aDc cI 4096 D_cells, oX3 aI aD, oX8 aV aD V_place_21 V_bitsRead_22 V_started_23 V_time V_value V_rise, oX1 aC aI aG aV C_isOpen C_series C_from C_to (C_entry_4 + (1 : Int32)) C_entriesEnd C_pointsLeft_24 C_block C_time C_value] := ⟨hP, hD, hS⟩
            clear hP hD hS hw40 H40 locs40
            refine lv_goto (tgt := 0) hx hb dX1_openChunk_83 (by decide) ?_
            exact ih V_place_21 V_bitsRead_22 V_started_23 (C_entry_4 + (1 : Int32)) C_pointsLeft_24 hB_9 _ _ _ hw41 (lv_sub hl40 [0] rfl)
          clear hB_9
          refine lv_icmp_lt (tgt := 73) hx hb dX1_openChunk_34 (by decide) (fun c_27 => ?_) (fun c_27 => ?_)
          · replace hJ_25 := it_t c_27 hJ_25
            cases hJ_25
            exact kj_26 _ _ _ hw20 (lv_sub hl15 [0] rfl)
          · replace hJ_25 := it_f c_27 hJ_25
            refine lv_aload_n hx hb dX1_openChunk_37 rfl (lv_at hl15 0 rfl) ?_
            refine va_get (D := G) (ci := 1) (v := .ref aV) (C := RX1) (T := TX1) (N := 13) hx hb htc iX1 hown hK hw20.1 4 rfl rfl 2 (by decide) (htc _ mw_263) (fun _ h9 => h9) rfl dX1_openChunk_38 ?_
            refine lv_aload_n hx hb dX1_openChunk_41 rfl (lv_at hl15 0 rfl) ?_
            refine va_get (D := G) (ci := 1) (v := .ref aI) (C := RX1) (T := TX1) (N := 13) hx hb htc iX1 hown hK hw20.1 4 rfl rfl 0 (by decide) (htc _ mw_261) (fun _ h9 => h9) rfl dX1_openChunk_42 ?_
            refine lv_aload_n hx hb dX1_openChunk_45 rfl (lv_at hl15 0 rfl) ?_
            refine va_get (D := G) (ci := 1) (v := .int C_entry_4) (C := RX1) (T := TX1) (N := 13) hx hb htc iX1 hown hK hw20.1 4 rfl rfl 7 (by decide) (htc _ mw_268) (fun _ h9 => h9) rfl dX1_openChunk_46 ?_
            refine lv_bipush (v := (8 : Int32)) hx hb dX1_openChunk_49 (by decide) ?_
            replace hJ_25 := ob1_some hJ_25
            obtain ⟨r_29, hE_28, hJ_25⟩ := hJ_25
            refine ctV (a := aI) (As := [.int C_entry_4, .int (8 : Int32)]) (rest := [.ref aV]) (st1 := [.int r_29, .ref aV]) (wc := [oX2 aD aDc D_writesDone D_writesLeft D_down, rI aDc cI 4096 D_cells, oX3 aI aD]) (w1 := [oX2 aD aDc D_writesDone D_writesLeft D_down, rI aDc cI 4096 D_cells, oX3 aI aD]) (wr := [oX8 aV aD V_place_1 V_bitsRead_2 V_started_3 V_time V_value V_rise, oX1 aC aI aG aV C_isOpen C_series C_from C_to C_entry_4 C_entriesEnd C_pointsLeft_5 C_block C_time C_value]) (wb := [oX2 aD aDc D_writesDone D_writesLeft D_down, rI aDc cI 4096 D_cells, oX3 aI aD, oX8 aV aD V_place_1 V_bitsRead_2 V_started_3 V_time V_value V_rise, oX1 aC aI aG aV C_isOpen C_series C_from C_to C_entry_4 C_entriesEnd C_pointsLeft_5 C_block C_time C_value]) (v := (some (.int r_29))) hx hb hml hown htc hN (c_X3_at l G cI cZ cJ aD aDc aI D_writesDone D_writesLeft D_down D_cells C_entry_4 (8 : Int32) hE_28) mw_685 mw_391 mw_392 mw_4 mw_393 hd_X3_at ⟨rfl, rfl⟩ ⟨Nat.le_of_ble_eq_true rfl, Nat.le_of_ble_eq_true rfl⟩ hK hw20 hA [0, 1, 2] [3, 4] [2, 3, 4, 0, 1] rfl rfl rfl rfl rfl (by decide) rfl rfl rfl 2 rfl rfl rfl rfl hl15.1 rfl rfl (Nat.le_of_ble_eq_true rfl) dX1_openChunk_51 ⟨Nat.zero_le _, Nat.zero_le _⟩ (fun H30 locs30 hw30 => ?_)
            clear hw20 H20 locs20
            replace hJ_25 := ob3_some hJ_25
            obtain ⟨V_place_32, V_bitsRead_33, V_started_34, hE_31, hJ_25⟩ := hJ_25
            refine ctV (a := aV) (As := [.int r_29]) (rest := []) (st1 := []) (wc := [oX8 aV aD V_place_1 V_bitsRead_2 V_started_3 V_time V_value V_rise]) (w1 := [oX8 aV aD V_place_32 V_bitsRead_33 V_started_34 V_time V_value V_rise]) (wr := [oX2 aD aDc D_writesDone D_writesLeft D_down, rI aDc cI 4096 D_cells, oX3 aI aD, oX1 aC aI aG aV C_isOpen C_series C_from C_to C_entry_4 C_entriesEnd C_pointsLeft_5 C_block C_time C_value]) (wb := [oX2 aD aDc D_writesDone D_writesLeft D_down, rI aDc cI 4096 D_cells, oX3 aI aD, oX8 aV aD V_place_32 V_bitsRead_33 V_started_34 V_time V_value V_rise, oX1 aC aI aG aV C_isOpen C_series C_from C_to C_entry_4 C_entriesEnd C_pointsLeft_5 C_block C_time C_value]) (v := none) hx hb hml hown htc hN (c_X8_open l G cI cZ cJ aV aD V_place_1 V_bitsRead_2 V_started_3 V_time V_value V_rise r_29 hE_31) mw_686 mw_576 mw_577 mw_6 mw_578 hd_X8_open ⟨rfl, rfl⟩ ⟨Nat.le_of_ble_eq_true rfl, Nat.le_of_ble_eq_true rfl⟩ hK hw30 hA [3] [0, 1, 2, 4] [0, 1, 2, 4, 3] rfl rfl rfl rfl rfl (by decide) rfl rfl rfl 0 rfl rfl rfl rfl hl15.1 rfl rfl (Nat.le_of_ble_eq_true rfl) dX1_openChunk_54 ⟨Nat.zero_le _, Nat.zero_le _⟩ (fun H35 locs35 hw35 => ?_)
            clear hw30 H30 locs30
            refine lv_aload_n hx hb dX1_openChunk_57 rfl (lv_at hl15 0 rfl) ?_
            refine lv_aload_n hx hb dX1_openChunk_58 rfl (lv_at hl15 0 rfl) ?_
            refine va_get (D := G) (ci := 1) (v := .ref aI) (C := RX1) (T := TX1) (N := 13) hx hb htc iX1 hown hK hw35.1 4 rfl rfl 0 (by decide) (htc _ mw_261) (fun _ h9 => h9) rfl dX1_openChunk_59 ?_
            refine lv_aload_n hx hb dX1_openChunk_62 rfl (lv_at hl15 0 rfl) ?_
            refine va_get (D := G) (ci := 1) (v := .int C_entry_4) (C := RX1) (T := TX1) (N := 13) hx hb htc iX1 hown hK hw35.1 4 rfl rfl 7 (by decide) (htc _ mw_268) (fun _ h9 => h9) rfl dX1_openChunk_63 ?_
            refine lv_iconst (v := (3 : Int32)) hx hb dX1_openChunk_66 (by decide) ?_
            replace hJ_25 := ob1_some hJ_25
            obtain ⟨r_37, hE_36, hJ_25⟩ := hJ_25
            refine ctV (a := aI) (As := [.int C_entry_4, .int (3 : Int32)]) (rest := [.ref aC]) (st1 := [.int r_37, .ref aC]) (wc := [oX2 aD aDc D_writesDone D_writesLeft D_down, rI aDc cI 4096 D_cells, oX3 aI aD]) (w1 := [oX2 aD aDc D_writesDone D_writesLeft D_down, rI aDc cI 4096 D_cells, oX3 aI aD]) (wr := [oX8 aV aD V_place_32 V_bitsRead_33 V_started_34 V_time V_value V_rise, oX1 aC aI aG aV C_isOpen C_series C_from C_to C_entry_4 C_entriesEnd C_pointsLeft_5 C_block C_time C_value]) (wb := [oX2 aD aDc D_writesDone D_writesLeft D_down, rI aDc cI 4096 D_cells, oX3 aI aD, oX8 aV aD V_place_32 V_bitsRead_33 V_started_34 V_time V_value V_rise, oX1 aC aI aG aV C_isOpen C_series C_from C_to C_entry_4 C_entriesEnd C_pointsLeft_5 C_block C_time C_value]) (v := (some (.int r_37))) hx hb hml hown htc hN (c_X3_at l G cI cZ cJ aD aDc aI D_writesDone D_writesLeft D_down D_cells C_entry_4 (3 : Int32) hE_36) mw_685 mw_391 mw_392 mw_4 mw_393 hd_X3_at ⟨rfl, rfl⟩ ⟨Nat.le_of_ble_eq_true rfl, Nat.le_of_ble_eq_true rfl⟩ hK hw35 hA [0, 1, 2] [3, 4] [2, 3, 4, 0, 1] rfl rfl rfl rfl rfl (by decide) rfl rfl rfl 2 rfl rfl rfl rfl hl15.1 rfl rfl (Nat.le_of_ble_eq_true rfl) dX1_openChunk_67 ⟨Nat.zero_le _, Nat.zero_le _⟩ (fun H38 locs38 hw38 => ?_)
            clear hw35 H35 locs35
            refine va_put (D := G) (ci := 1) (v := .int r_37) (ty := .int) (C := RX1) (T := TX1) (N := 13) hx hb htc iX1 tyX1 tyX1_ok nmX1 hown hK hw38.1 hw38.2.1 hw38.2.2 4 rfl rfl 9 (by decide) (htc _ mw_270) (fun _ h9 => h9) rfl (tyX1_ok 9 (by decide)) rfl rfl (Nat.le_of_ble_eq_true rfl) dX1_openChunk_70 (fun H39 locs39 hP hD hS => ?_)
            have hw39 : wS G A s H39 locs39 [oX2 aD aDc D_writesDone D_writesLeft D_down, rI aDc cI 4096 D_cells, oX3 aI aD, oX8 aV aD V_place_32 V_bitsRead_33 V_started_34 V_time V_value V_rise, oX1 aC aI aG aV C_isOpen C_series C_from C_to C_entry_4 C_entriesEnd r_37 C_block C_time C_value] := ⟨hP, hD, hS⟩
            clear hP hD hS hw38 H38 locs38
            cases hJ_25
            exact kj_26 _ _ _ hw39 (lv_sub hl15 [0] rfl)
  exact lp_8 NN V_place V_bitsRead V_started C_entry C_pointsLeft hL_6 _ _ _ hw0 (lv_sub hl0 [0] rfl)
abbrev rm_X1_standAt : Room := { frames := 0, cells := 0, slots := 0, locals := 0 }
theorem hd_X1_standAt : yX1_standAt.cls = RX1 ∧ yX1_standAt.cls ≠ "java/lang/invoke/MethodHandle" ∧ yX1_standAt.cls ≠ "java/lang/invoke/VarHandle" ∧ (parseMethodDescriptor yX1_standAt.desc).map (fun d => d.parameters.length) = some 2 := by decide +kernel
set_option maxHeartbeats 4000000 in
set_option maxRecDepth 100000 in
theorem c_X1_standAt (l : Launch) (G : va_G) (cI cZ cJ : ClassId) (aC aI aG aV : Nat) (C_isOpen : Int32) (C_series : Int32) (C_from : Int32) (C_to : Int32) (C_entry : Int32) (C_entriesEnd : Int32) (C_pointsLeft : Int32) (C_block : Int32) (C_time : Int32) (C_value : Int32) (p0 : Int32) (p1 : Int32) {o_C_time : Int32} {o_C_value : Int32} (hfin : m_X1_standAt C_time C_value p0 p1 = some (o_C_time, o_C_value)) : CT l yX1_standAt cX1_standAt 3 none rm_X1_standAt G (tyC cI cZ cJ) [.ref aC, .int p0, .int p1] [oX1 aC aI aG aV C_isOpen C_series C_from C_to C_entry C_entriesEnd C_pointsLeft C_block C_time C_value] none [oX1 aC aI aG aV C_isOpen C_series C_from C_to C_entry C_entriesEnd C_pointsLeft C_block o_C_time o_C_value] := by
  refine CT.ofW (lvl := [(0, .ref aC), (1, .int p0), (2, .int p1)]) (by decide) (Nat.le_of_ble_eq_true rfl) rfl ?_
  intro p e s m args below meth c A ls0 QQ hQQ hx hb hml hr hlocks htc hN hown hK hA hw0 hl0
  rw [m_X1_standAt] at hfin
  refine lv_aload_n hx hb dX1_standAt_0 rfl (lv_at hl0 0 rfl) ?_
  refine lv_iload_n hx hb dX1_standAt_1 rfl (lv_at hl0 1 rfl) ?_
  refine va_put (D := G) (ci := 1) (v := .int p0) (ty := .int) (C := RX1) (T := TX1) (N := 13) hx hb htc iX1 tyX1 tyX1_ok nmX1 hown hK hw0.1 hw0.2.1 hw0.2.2 0 rfl rfl 11 (by decide) (htc _ mw_272) (fun _ h9 => h9) rfl (tyX1_ok 11 (by decide)) rfl rfl (Nat.le_of_ble_eq_true rfl) dX1_standAt_2 (fun H1 locs1 hP hD hS => ?_)
  have hw1 : wS G A s H1 locs1 [oX1 aC aI aG aV C_isOpen C_series C_from C_to C_entry C_entriesEnd C_pointsLeft C_block p0 C_value] := ⟨hP, hD, hS⟩
  clear hP hD hS hw0
  refine lv_aload_n hx hb dX1_standAt_5 rfl (lv_at hl0 0 rfl) ?_
  refine lv_iload_n hx hb dX1_standAt_6 rfl (lv_at hl0 2 rfl) ?_
  refine va_put (D := G) (ci := 1) (v := .int p1) (ty := .int) (C := RX1) (T := TX1) (N := 13) hx hb htc iX1 tyX1 tyX1_ok nmX1 hown hK hw1.1 hw1.2.1 hw1.2.2 0 rfl rfl 12 (by decide) (htc _ mw_274) (fun _ h9 => h9) rfl (tyX1_ok 12 (by decide)) rfl rfl (Nat.le_of_ble_eq_true rfl) dX1_standAt_7 (fun H2 locs2 hP hD hS => ?_)
  have hw2 : wS G A s H2 locs2 [oX1 aC aI aG aV C_isOpen C_series C_from C_to C_entry C_entriesEnd C_pointsLeft C_block p0 p1] := ⟨hP, hD, hS⟩
  clear hP hD hS hw1 H1 locs1
  cases hfin
  rw [hQQ]
  exact ct_vret hx hb hr hlocks hw2.1 hw2.2.1 hw2.2.2 dX1_standAt_10
abbrev rm_X1_findInChunks : Room := { frames := 4, cells := 0, slots := 0, locals := 90 }
theorem hd_X1_findInChunks : yX1_findInChunks.cls = RX1 ∧ yX1_findInChunks.cls ≠ "java/lang/invoke/MethodHandle" ∧ yX1_findInChunks.cls ≠ "java/lang/invoke/VarHandle" ∧ (parseMethodDescriptor yX1_findInChunks.desc).map (fun d => d.parameters.length) = some 0 := by decide +kernel
set_option maxHeartbeats 4000000 in
set_option maxRecDepth 100000 in
theorem c_X1_findInChunks (l : Launch) (G : va_G) (cI cZ cJ : ClassId) (aD aDc aI aV aC aG : Nat) (D_writesDone : Int32) (D_writesLeft : Int32) (D_down : Int32) (D_cells : Nat → Int32) (V_place : Int32) (V_bitsRead : Int32) (V_started : Int32) (V_time : Int32) (V_value : Int32) (V_rise : Int64) (C_isOpen : Int32) (C_series : Int32) (C_from : Int32) (C_to : Int32) (C_entry : Int32) (C_entriesEnd : Int32) (C_pointsLeft : Int32) (C_block : Int32) (C_time : Int32) (C_value : Int32)  {r : Int32} {o_V_place : Int32} {o_V_bitsRead : Int32} {o_V_started : Int32} {o_V_time : Int32} {o_V_value : Int32} {o_V_rise : Int64} {o_C_entry : Int32} {o_C_pointsLeft : Int32} {o_C_time : Int32} {o_C_value : Int32} (hfin : m_X1_findInChunks D_cells V_place V_bitsRead V_started V_time V_value V_rise C_from C_entry C_entriesEnd C_pointsLeft C_time C_value = some (r, o_V_place, o_V_bitsRead, o_V_started, o_V_time, o_V_value, o_V_rise, o_C_entry, o_C_pointsLeft, o_C_time, o_C_value)) : CT l yX1_findInChunks cX1_findInChunks 1 (some .boolean) rm_X1_findInChunks G (tyC cI cZ cJ) [.ref aC] [oX2 aD aDc D_writesDone D_writesLeft D_down, rI aDc cI 4096 D_cells, oX3 aI aD, oX8 aV aD V_place V_bitsRead V_started V_time V_value V_rise, oX1 aC aI aG aV C_isOpen C_series C_from C_to C_entry C_entriesEnd C_pointsLeft C_block C_time C_value] (some (.int r)) [oX2 aD aDc D_writesDone D_writesLeft D_down, rI aDc cI 4096 D_cells, oX3 aI aD, oX8 aV aD o_V_place o_V_bitsRead o_V_started o_V_time o_V_value o_V_rise, oX1 aC aI aG aV C_isOpen C_series C_from C_to o_C_entry C_entriesEnd o_C_pointsLeft C_block o_C_time o_C_value] := by
  refine CT.ofW (lvl := [(0, .ref aC)]) (by decide) (Nat.le_of_ble_eq_true rfl) rfl ?_
  intro p e s m args below meth c A ls0 QQ hQQ hx hb hml hr hlocks htc hN hown hK hA hw0 hl0
  rw [m_X1_findInChunks] at hfin
  refine lv_aload_n hx hb dX1_findInChunks_0 rfl (lv_at hl0 0 rfl) ?_
  refine va_get (D := G) (ci := 1) (v := .int C_pointsLeft) (C := RX1) (T := TX1) (N := 13) hx hb htc iX1 hown hK hw0.1 4 rfl rfl 9 (by decide) (htc _ mw_270) (fun _ h9 => h9) rfl dX1_findInChunks_1 ?_
  replace hfin := ob5_some hfin
  obtain ⟨V_place_1, V_bitsRead_2, V_started_3, C_entry_4, C_pointsLeft_5, hJ_6, hfin⟩ := hfin
  have kj_7 : ∀ (H : Heap) (locs : List Loc) (ls : Array Slot), wS G A s H locs [oX2 aD aDc D_writesDone D_writesLeft D_down, rI aDc cI 4096 D_cells, oX3 aI aD, oX8 aV aD V_place_1 V_bitsRead_2 V_started_3 V_time V_value V_rise, oX1 aC aI aG aV C_isOpen C_series C_from C_to C_entry_4 C_entriesEnd C_pointsLeft_5 C_block C_time C_value] → lv_has ls 1 [(0, .ref aC)] → W p l e rm_X1_findInChunks s m args below meth c H locs 0 0 QQ (F0 m 11 ls []) := by
    clear hw0 hl0 ls0 hJ_6
    intro H16 locs16 ls16 hw16 hl16
    have lp_25 : ∀ (n : Nat) (V_bitsRead_17 : Int32) (V_started_18 : Int32) (V_time_19 : Int32) (V_value_20 : Int32) (V_rise_21 : Int64) (C_pointsLeft_22 : Int32), lp_X1_findInChunks_11 D_cells C_from C_time C_value V_place_1 C_entry_4 n V_bitsRead_17 V_started_18 V_time_19 V_value_20 V_rise_21 C_pointsLeft_22 = some (r, o_V_place, o_V_bitsRead, o_V_started, o_V_time, o_V_value, o_V_rise, o_C_entry, o_C_pointsLeft, o_C_time, o_C_value) → ∀ (H : Heap) (locs : List Loc) (ls : Array Slot), wS G A s H locs [oX2 aD aDc D_writesDone D_writesLeft D_down, rI aDc cI 4096 D_cells, oX3 aI aD, oX8 aV aD V_place_1 V_bitsRead_17 V_started_18 V_time_19 V_value_20 V_rise_21, oX1 aC aI aG aV C_isOpen C_series C_from C_to C_entry_4 C_entriesEnd C_pointsLeft_22 C_block C_time C_value] → lv_has ls 1 [(0, .ref aC)] → W p l e rm_X1_findInChunks s m args below meth c H locs 0 0 QQ (F0 m 11 ls []) := by
      clear hw16 H16 locs16 hl16 ls16 hfin
      intro n
      induction n with
      | zero =>
        intro V_bitsRead_17 V_started_18 V_time_19 V_value_20 V_rise_21 C_pointsLeft_22 hB_26
        exact absurd hB_26 (by rw [lp_X1_findInChunks_11]; exact fun h9 => nomatch h9)
      | succ n ih =>
        intro V_bitsRead_17 V_started_18 V_time_19 V_value_20 V_rise_21 C_pointsLeft_22 hB_26 H27 locs27 ls27 hw27 hl27
        rw [lp_X1_findInChunks_11] at hB_26
        refine lv_aload_n hx hb dX1_findInChunks_11 rfl (lv_at hl27 0 rfl) ?_
        refine va_get (D := G) (ci := 1) (v := .int C_pointsLeft_22) (C := RX1) (T := TX1) (N := 13) hx hb htc iX1 hown hK hw27.1 4 rfl rfl 9 (by decide) (htc _ mw_270) (fun _ h9 => h9) rfl dX1_findInChunks_12 ?_
        refine lv_if_le (tgt := 69) hx hb dX1_findInChunks_15 (by decide) (fun c_28 => ?_) (fun c_28 => ?_)
        · replace hB_26 := it_t c_28 hB_26
          refine lv_iconst (v := (0 : Int32)) hx hb dX1_findInChunks_69 (by decide) ?_
          cases hB_26
          rw [hQQ]
          exact ct_zret hx hb hr hlocks (Or.inl rfl) hw27.1 hw27.2.1 hw27.2.2 dX1_findInChunks_70
        · replace hB_26 := it_f c_28 hB_26
          refine lv_aload_n hx hb dX1_findInChunks_18 rfl (lv_at hl27 0 rfl) ?_
          refine lv_dup hx hb dX1_findInChunks_19 rfl ?_
          refine va_get (D := G) (ci := 1) (v := .int C_pointsLeft_22) (C := RX1) (T := TX1) (N := 13) hx hb htc iX1 hown hK hw27.1 4 rfl rfl 9 (by decide) (htc _ mw_270) (fun _ h9 => h9) rfl dX1_findInChunks_20 ?_
          refine lv_iconst (v := (1 : Int32)) hx hb dX1_findInChunks_23 (by decide) ?_
          refine lv_isub hx hb dX1_findInChunks_24 ?_
          refine va_put (D := G) (ci := 1) (v := .int (C_pointsLeft_22 - (1 : Int32))) (ty := .int) (C := RX1) (T := TX1) (N := 13) hx hb htc iX1 tyX1 tyX1_ok nmX1 hown hK hw27.1 hw27.2.1 hw27.2.2 4 rfl rfl 9 (by decide) (htc _ mw_270) (fun _ h9 => h9) rfl (tyX1_ok 9 (by decide)) rfl rfl (Nat.le_of_ble_eq_true rfl) dX1_findInChunks_25 (fun H29 locs29 hP hD hS => ?_)
          have hw29 : wS G A s H29 locs29 [oX2 aD aDc D_writesDone D_writesLeft D_down, rI aDc cI 4096 D_cells, oX3 aI aD, oX8 aV aD V_place_1 V_bitsRead_17 V_started_18 V_time_19 V_value_20 V_rise_21, oX1 aC aI aG aV C_isOpen C_series C_from C_to C_entry_4 C_entriesEnd (C_pointsLeft_22 - (1 : Int32)) C_block C_time C_value] := ⟨hP, hD, hS⟩
          clear hP hD hS hw27 H27 locs27
          refine lv_aload_n hx hb dX1_findInChunks_28 rfl (lv_at hl27 0 rfl) ?_
          refine va_get (D := G) (ci := 1) (v := .ref aV) (C := RX1) (T := TX1) (N := 13) hx hb htc iX1 hown hK hw29.1 4 rfl rfl 2 (by decide) (htc _ mw_263) (fun _ h9 => h9) rfl dX1_findInChunks_29 ?_
          replace hB_26 := ob5_some hB_26
          obtain ⟨V_bitsRead_31, V_started_32, V_time_33, V_value_34, V_rise_35, hE_30, hB_26⟩ := hB_26
          refine ctV (a := aV) (As := []) (rest := []) (st1 := []) (wc := [oX2 aD aDc D_writesDone D_writesLeft D_down, rI aDc cI 4096 D_cells, oX8 aV aD V_place_1 V_bitsRead_17 V_started_18 V_time_19 V_value_20 V_rise_21]) (w1 := [oX2 aD aDc D_writesDone D_writesLeft D_down, rI aDc cI 4096 D_cells, oX8 aV aD V_place_1 V_bitsRead_31 V_started_32 V_time_33 V_value_34 V_rise_35]) (wr := [oX3 aI aD, oX1 aC aI aG aV C_isOpen C_series C_from C_to C_entry_4 C_entriesEnd (C_pointsLeft_22 - (1 : Int32)) C_block C_time C_value]) (wb := [oX2 aD aDc D_writesDone D_writesLeft D_down, rI aDc cI 4096 D_cells, oX3 aI aD, oX8 aV aD V_place_1 V_bitsRead_31 V_started_32 V_time_33 V_value_34 V_rise_35, oX1 aC aI aG aV C_isOpen C_series C_from C_to C_entry_4 C_entriesEnd (C_pointsLeft_22 - (1 : Int32)) C_block C_time C_value]) (v := none) hx hb hml hown htc hN (c_X8_step l G cI cZ cJ aD aDc aV D_writesDone D_writesLeft D_down D_cells V_place_1 V_bitsRead_17 V_started_18 V_time_19 V_value_20 V_rise_21  hE_30) mw_687 mw_580 mw_581 mw_6 mw_582 hd_X8_step ⟨rfl, rfl⟩ ⟨Nat.le_of_ble_eq_true rfl, Nat.le_of_ble_eq_true rfl⟩ hK hw29 hA [0, 1, 3] [2, 4] [2, 3, 0, 4, 1] rfl rfl rfl rfl rfl (by decide) rfl rfl rfl 2 rfl rfl rfl rfl hl27.1 rfl rfl (Nat.le_of_ble_eq_true rfl) dX1_findInChunks_32 ⟨Nat.zero_le _, Nat.zero_le _⟩ (fun H36 locs36 hw36 => ?_)
          clear hw29 H29 locs29
          refine lv_aload_n hx hb dX1_findInChunks_35 rfl (lv_at hl27 0 rfl) ?_
          refine va_get (D := G) (ci := 1) (v := .ref aV) (C := RX1) (T := TX1) (N := 13) hx hb htc iX1 hown hK hw36.1 4 rfl rfl 2 (by decide) (htc _ mw_263) (fun _ h9 => h9) rfl dX1_findInChunks_36 ?_
          refine va_getN (D := G) (ci := 8) (v := .int V_time_33) (C := RX8) (T := TX8) (N := 7) hx hb htc iX8 hown hK hw36.1 3 rfl rfl 4 (by decide) (va_Nw.use rfl (hN _ mn_1)) (fun _ h9 => h9) rfl dX1_findInChunks_39 ?_
          refine lv_aload_n hx hb dX1_findInChunks_42 rfl (lv_at hl27 0 rfl) ?_
          refine va_get (D := G) (ci := 1) (v := .int C_from) (C := RX1) (T := TX1) (N := 13) hx hb htc iX1 hown hK hw36.1 4 rfl rfl 5 (by decide) (htc _ mw_266) (fun _ h9 => h9) rfl dX1_findInChunks_43 ?_
          refine lv_icmp_lt (tgt := 11) hx hb dX1_findInChunks_46 (by decide) (fun c_37 => ?_) (fun c_37 => ?_)
          · replace hB_26 := it_t c_37 hB_26
            exact ih V_bitsRead_31 V_started_32 V_time_33 V_value_34 V_rise_35 (C_pointsLeft_22 - (1 : Int32)) hB_26 _ _ _ hw36 (lv_sub hl27 [0] rfl)
          · replace hB_26 := it_f c_37 hB_26
            refine lv_aload_n hx hb dX1_findInChunks_49 rfl (lv_at hl27 0 rfl) ?_
            refine lv_aload_n hx hb dX1_findInChunks_50 rfl (lv_at hl27 0 rfl) ?_
            refine va_get (D := G) (ci := 1) (v := .ref aV) (C := RX1) (T := TX1) (N := 13) hx hb htc iX1 hown hK hw36.1 4 rfl rfl 2 (by decide) (htc _ mw_263) (fun _ h9 => h9) rfl dX1_findInChunks_51 ?_
            refine va_getN (D := G) (ci := 8) (v := .int V_time_33) (C := RX8) (T := TX8) (N := 7) hx hb htc iX8 hown hK hw36.1 3 rfl rfl 4 (by decide) (va_Nw.use rfl (hN _ mn_1)) (fun _ h9 => h9) rfl dX1_findInChunks_54 ?_
            refine lv_aload_n hx hb dX1_findInChunks_57 rfl (lv_at hl27 0 rfl) ?_
            refine va_get (D := G) (ci := 1) (v := .ref aV) (C := RX1) (T := TX1) (N := 13) hx hb htc iX1 hown hK hw36.1 4 rfl rfl 2 (by decide) (htc _ mw_263) (fun _ h9 => h9) rfl dX1_findInChunks_58 ?_
            refine va_getN (D := G) (ci := 8) (v := .int V_value_34) (C := RX8) (T := TX8) (N := 7) hx hb htc iX8 hown hK hw36.1 3 rfl rfl 5 (by decide) (va_Nw.use rfl (hN _ mn_4)) (fun _ h9 => h9) rfl dX1_findInChunks_61 ?_
            replace hB_26 := ob2_some hB_26
            obtain ⟨C_time_39, C_value_40, hE_38, hB_26⟩ := hB_26
            refine ctV (a := aC) (As := [.int V_time_33, .int V_value_34]) (rest := []) (st1 := []) (wc := [oX1 aC aI aG aV C_isOpen C_series C_from C_to C_entry_4 C_entriesEnd (C_pointsLeft_22 - (1 : Int32)) C_block C_time C_value]) (w1 := [oX1 aC aI aG aV C_isOpen C_series C_from C_to C_entry_4 C_entriesEnd (C_pointsLeft_22 - (1 : Int32)) C_block C_time_39 C_value_40]) (wr := [oX2 aD aDc D_writesDone D_writesLeft D_down, rI aDc cI 4096 D_cells, oX3 aI aD, oX8 aV aD V_place_1 V_bitsRead_31 V_started_32 V_time_33 V_value_34 V_rise_35]) (wb := [oX2 aD aDc D_writesDone D_writesLeft D_down, rI aDc cI 4096 D_cells, oX3 aI aD, oX8 aV aD V_place_1 V_bitsRead_31 V_started_32 V_time_33 V_value_34 V_rise_35, oX1 aC aI aG aV C_isOpen C_series C_from C_to C_entry_4 C_entriesEnd (C_pointsLeft_22 - (1 : Int32)) C_block C_time_39 C_value_40]) (v := none) hx hb hml hown htc hN (c_X1_standAt l G cI cZ cJ aC aI aG aV C_isOpen C_series C_from C_to C_entry_4 C_entriesEnd (C_pointsLeft_22 - (1 : Int32)) C_block C_time C_value V_time_33 V_value_34 hE_38) mw_688 mw_690 mp_26 mw_11 mw_691 hd_X1_standAt ⟨rfl, rfl⟩ ⟨Nat.le_of_ble_eq_true rfl, Nat.le_of_ble_eq_true rfl⟩ hK hw36 hA [4] [0, 1, 2, 3] [0, 1, 2, 3, 4] rfl rfl rfl rfl rfl (by decide) rfl rfl rfl 0 rfl rfl rfl rfl hl27.1 rfl rfl (Nat.le_of_ble_eq_true rfl) dX1_findInChunks_64 ⟨Nat.zero_le _, Nat.zero_le _⟩ (fun H41 locs41 hw41 => ?_)
            clear hw36 H36 locs36
            refine lv_iconst (v := (1 : Int32)) hx hb dX1_findInChunks_67 (by decide) ?_
            cases hB_26
            rw [hQQ]
            exact ct_zret hx hb hr hlocks (Or.inr rfl) hw41.1 hw41.2.1 hw41.2.2 dX1_findInChunks_68
    exact lp_25 NN V_bitsRead_2 V_started_3 V_time V_value V_rise C_pointsLeft_5 hfin _ _ _ hw16 (lv_sub hl16 [0] rfl)
  clear hfin
  refine lv_if_ne (tgt := 11) hx hb dX1_findInChunks_4 (by decide) (fun c_8 => ?_) (fun c_8 => ?_)
  · replace hJ_6 := it_f c_8 hJ_6
    cases hJ_6
    exact kj_7 _ _ _ hw0 (lv_sub hl0 [0] rfl)
  · replace hJ_6 := it_t c_8 hJ_6
    refine lv_aload_n hx hb dX1_findInChunks_7 rfl (lv_at hl0 0 rfl) ?_
    replace hJ_6 := ob5_some hJ_6
    obtain ⟨V_place_10, V_bitsRead_11, V_started_12, C_entry_13, C_pointsLeft_14, hE_9, hJ_6⟩ := hJ_6
    refine ctV (a := aC) (As := []) (rest := []) (st1 := []) (wc := [oX2 aD aDc D_writesDone D_writesLeft D_down, rI aDc cI 4096 D_cells, oX3 aI aD, oX8 aV aD V_place V_bitsRead V_started V_time V_value V_rise, oX1 aC aI aG aV C_isOpen C_series C_from C_to C_entry C_entriesEnd C_pointsLeft C_block C_time C_value]) (w1 := [oX2 aD aDc D_writesDone D_writesLeft D_down, rI aDc cI 4096 D_cells, oX3 aI aD, oX8 aV aD V_place_10 V_bitsRead_11 V_started_12 V_time V_value V_rise, oX1 aC aI aG aV C_isOpen C_series C_from C_to C_entry_13 C_entriesEnd C_pointsLeft_14 C_block C_time C_value]) (wr := []) (wb := [oX2 aD aDc D_writesDone D_writesLeft D_down, rI aDc cI 4096 D_cells, oX3 aI aD, oX8 aV aD V_place_10 V_bitsRead_11 V_started_12 V_time V_value V_rise, oX1 aC aI aG aV C_isOpen C_series C_from C_to C_entry_13 C_entriesEnd C_pointsLeft_14 C_block C_time C_value]) (v := none) hx hb hml hown htc hN (c_X1_openChunk l G cI cZ cJ aD aDc aI aV aC aG D_writesDone D_writesLeft D_down D_cells V_place V_bitsRead V_started V_time V_value V_rise C_isOpen C_series C_from C_to C_entry C_entriesEnd C_pointsLeft C_block C_time C_value  hE_9) mw_681 mw_683 mp_25 mw_11 mw_684 hd_X1_openChunk ⟨rfl, rfl⟩ ⟨Nat.le_of_ble_eq_true rfl, Nat.le_of_ble_eq_true rfl⟩ hK hw0 hA [0, 1, 2, 3, 4] [] [0, 1, 2, 3, 4] rfl rfl rfl rfl rfl (by decide) rfl rfl rfl 4 rfl rfl rfl rfl hl0.1 rfl rfl (Nat.le_of_ble_eq_true rfl) dX1_findInChunks_8 ⟨Nat.zero_le _, Nat.zero_le _⟩ (fun H15 locs15 hw15 => ?_)
    clear hw0
    cases hJ_6
    exact kj_7 _ _ _ hw15 (lv_sub hl0 [0] rfl)
abbrev rm_X1_findInHead : Room := { frames := 2, cells := 0, slots := 0, locals := 43 }
theorem hd_X1_findInHead : yX1_findInHead.cls = RX1 ∧ yX1_findInHead.cls ≠ "java/lang/invoke/MethodHandle" ∧ yX1_findInHead.cls ≠ "java/lang/invoke/VarHandle" ∧ (parseMethodDescriptor yX1_findInHead.desc).map (fun d => d.parameters.length) = some 0 := by decide +kernel
set_option maxHeartbeats 4000000 in
set_option maxRecDepth 100000 in
theorem c_X1_findInHead (l : Launch) (G : va_G) (cI cZ cJ : ClassId) (aD aDc aG aC aI aV : Nat) (D_writesDone : Int32) (D_writesLeft : Int32) (D_down : Int32) (D_cells : Nat → Int32) (G_logged : Int32) (C_isOpen : Int32) (C_series : Int32) (C_from : Int32) (C_to : Int32) (C_entry : Int32) (C_entriesEnd : Int32) (C_pointsLeft : Int32) (C_block : Int32) (C_time : Int32) (C_value : Int32)  {r : Int32} {o_C_block : Int32} {o_C_time : Int32} {o_C_value : Int32} (hfin : m_X1_findInHead D_cells G_logged C_series C_from C_block C_time C_value = some (r, o_C_block, o_C_time, o_C_value)) : CT l yX1_findInHead cX1_findInHead 2 (some .boolean) rm_X1_findInHead G (tyC cI cZ cJ) [.ref aC] [oX2 aD aDc D_writesDone D_writesLeft D_down, rI aDc cI 4096 D_cells, oX4 aG aD G_logged, oX1 aC aI aG aV C_isOpen C_series C_from C_to C_entry C_entriesEnd C_pointsLeft C_block C_time C_value] (some (.int r)) [oX2 aD aDc D_writesDone D_writesLeft D_down, rI aDc cI 4096 D_cells, oX4 aG aD G_logged, oX1 aC aI aG aV C_isOpen C_series C_from C_to C_entry C_entriesEnd C_pointsLeft o_C_block o_C_time o_C_value] := by
  refine CT.ofW (lvl := [(0, .ref aC)]) (by decide) (Nat.le_of_ble_eq_true rfl) rfl ?_
  intro p e s m args below meth c A ls0 QQ hQQ hx hb hml hr hlocks htc hN hown hK hA hw0 hl0
  rw [m_X1_findInHead] at hfin
  have lp_4 : ∀ (n : Nat) (C_block_1 : Int32), lp_X1_findInHead_0 D_cells G_logged C_series C_from C_time C_value n C_block_1 = some (r, o_C_block, o_C_time, o_C_value) → ∀ (H : Heap) (locs : List Loc) (ls : Array Slot), wS G A s H locs [oX2 aD aDc D_writesDone D_writesLeft D_down, rI aDc cI 4096 D_cells, oX4 aG aD G_logged, oX1 aC aI aG aV C_isOpen C_series C_from C_to C_entry C_entriesEnd C_pointsLeft C_block_1 C_time C_value] → lv_has ls 2 [(0, .ref aC)] → W p l e rm_X1_findInHead s m args below meth c H locs 0 0 QQ (F0 m 0 ls []) := by
    clear hw0 hl0 ls0 hfin
    intro n
    induction n with
    | zero =>
      intro C_block_1 hB_5
      exact absurd hB_5 (by rw [lp_X1_findInHead_0]; exact fun h9 => nomatch h9)
    | succ n ih =>
      intro C_block_1 hB_5 H6 locs6 ls6 hw6 hl6
      rw [lp_X1_findInHead_0] at hB_5
      refine lv_aload_n hx hb dX1_findInHead_0 rfl (lv_at hl6 0 rfl) ?_
      refine va_get (D := G) (ci := 1) (v := .int C_block_1) (C := RX1) (T := TX1) (N := 13) hx hb htc iX1 hown hK hw6.1 3 rfl rfl 10 (by decide) (htc _ mw_271) (fun _ h9 => h9) rfl dX1_findInHead_1 ?_
      refine lv_aload_n hx hb dX1_findInHead_4 rfl (lv_at hl6 0 rfl) ?_
      refine va_get (D := G) (ci := 1) (v := .ref aG) (C := RX1) (T := TX1) (N := 13) hx hb htc iX1 hown hK hw6.1 3 rfl rfl 1 (by decide) (htc _ mw_262) (fun _ h9 => h9) rfl dX1_findInHead_5 ?_
      replace hB_5 := ob1_some hB_5
      obtain ⟨r_8, hE_7, hB_5⟩ := hB_5
      refine ctV (a := aG) (As := []) (rest := [.int C_block_1]) (st1 := [.int r_8, .int C_block_1]) (wc := [oX4 aG aD G_logged]) (w1 := [oX4 aG aD G_logged]) (wr := [oX2 aD aDc D_writesDone D_writesLeft D_down, rI aDc cI 4096 D_cells, oX1 aC aI aG aV C_isOpen C_series C_from C_to C_entry C_entriesEnd C_pointsLeft C_block_1 C_time C_value]) (wb := [oX2 aD aDc D_writesDone D_writesLeft D_down, rI aDc cI 4096 D_cells, oX4 aG aD G_logged, oX1 aC aI aG aV C_isOpen C_series C_from C_to C_entry C_entriesEnd C_pointsLeft C_block_1 C_time C_value]) (v := (some (.int r_8))) hx hb hml hown htc hN (c_X4_logged l G cI cZ cJ aG aD G_logged  hE_7) mw_696 mw_417 mw_418 mw_5 mw_419 hd_X4_logged ⟨rfl, rfl⟩ ⟨Nat.le_of_ble_eq_true rfl, Nat.le_of_ble_eq_true rfl⟩ hK hw6 hA [2] [0, 1, 3] [0, 1, 3, 2] rfl rfl rfl rfl rfl (by decide) rfl rfl rfl 0 rfl rfl rfl rfl hl6.1 rfl rfl (Nat.le_of_ble_eq_true rfl) dX1_findInHead_8 ⟨Nat.zero_le _, Nat.zero_le _⟩ (fun H9 locs9 hw9 => ?_)
      clear hw6 H6 locs6
      refine lv_icmp_ge (tgt := 88) hx hb dX1_findInHead_11 (by decide) (fun c_10 => ?_) (fun c_10 => ?_)
      · replace hB_5 := it_t c_10 hB_5
        refine lv_iconst (v := (0 : Int32)) hx hb dX1_findInHead_88 (by decide) ?_
        cases hB_5
        rw [hQQ]
        exact ct_zret hx hb hr hlocks (Or.inl rfl) hw9.1 hw9.2.1 hw9.2.2 dX1_findInHead_89
      · replace hB_5 := it_f c_10 hB_5
        refine lv_aload_n hx hb dX1_findInHead_14 rfl (lv_at hl6 0 rfl) ?_
        refine va_get (D := G) (ci := 1) (v := .int C_block_1) (C := RX1) (T := TX1) (N := 13) hx hb htc iX1 hown hK hw9.1 3 rfl rfl 10 (by decide) (htc _ mw_271) (fun _ h9 => h9) rfl dX1_findInHead_15 ?_
        refine lv_istore_n (lv' := [(1, .int C_block_1), (0, .ref aC)]) hx hb dX1_findInHead_18 rfl hl6 (by decide) rfl (fun ls11 hl11 => ?_)
        clear hl6 ls6
        refine lv_aload_n hx hb dX1_findInHead_19 rfl (lv_at hl11 1 rfl) ?_
        refine lv_dup hx hb dX1_findInHead_20 rfl ?_
        refine va_get (D := G) (ci := 1) (v := .int C_block_1) (C := RX1) (T := TX1) (N := 13) hx hb htc iX1 hown hK hw9.1 3 rfl rfl 10 (by decide) (htc _ mw_271) (fun _ h9 => h9) rfl dX1_findInHead_21 ?_
        refine lv_iconst (v := (1 : Int32)) hx hb dX1_findInHead_24 (by decide) ?_
        refine lv_iadd hx hb dX1_findInHead_25 ?_
        refine va_put (D := G) (ci := 1) (v := .int (C_block_1 + (1 : Int32))) (ty := .int) (C := RX1) (T := TX1) (N := 13) hx hb htc iX1 tyX1 tyX1_ok nmX1 hown hK hw9.1 hw9.2.1 hw9.2.2 3 rfl rfl 10 (by decide) (htc _ mw_271) (fun _ h9 => h9) rfl (tyX1_ok 10 (by decide)) rfl rfl (Nat.le_of_ble_eq_true rfl) dX1_findInHead_26 (fun H12 locs12 hP hD hS => ?_)
        have hw12 : wS G A s H12 locs12 [oX2 aD aDc D_writesDone D_writesLeft D_down, rI aDc cI 4096 D_cells, oX4 aG aD G_logged, oX1 aC aI aG aV C_isOpen C_series C_from C_to C_entry C_entriesEnd C_pointsLeft (C_block_1 + (1 : Int32)) C_time C_value] := ⟨hP, hD, hS⟩
        clear hP hD hS hw9 H9 locs9
        refine lv_aload_n hx hb dX1_findInHead_29 rfl (lv_at hl11 1 rfl) ?_
        refine va_get (D := G) (ci := 1) (v := .ref aG) (C := RX1) (T := TX1) (N := 13) hx hb htc iX1 hown hK hw12.1 3 rfl rfl 1 (by decide) (htc _ mw_262) (fun _ h9 => h9) rfl dX1_findInHead_30 ?_
        refine lv_iload_n hx hb dX1_findInHead_33 rfl (lv_at hl11 0 rfl) ?_
        refine lv_iconst (v := (0 : Int32)) hx hb dX1_findInHead_34 (by decide) ?_
        replace hB_5 := ob1_some hB_5
        obtain ⟨r_14, hE_13, hB_5⟩ := hB_5
        refine ctV (a := aG) (As := [.int C_block_1, .int (0 : Int32)]) (rest := []) (st1 := [.int r_14]) (wc := [oX2 aD aDc D_writesDone D_writesLeft D_down, rI aDc cI 4096 D_cells, oX4 aG aD G_logged]) (w1 := [oX2 aD aDc D_writesDone D_writesLeft D_down, rI aDc cI 4096 D_cells, oX4 aG aD G_logged]) (wr := [oX1 aC aI aG aV C_isOpen C_series C_from C_to C_entry C_entriesEnd C_pointsLeft (C_block_1 + (1 : Int32)) C_time C_value]) (wb := [oX2 aD aDc D_writesDone D_writesLeft D_down, rI aDc cI 4096 D_cells, oX4 aG aD G_logged, oX1 aC aI aG aV C_isOpen C_series C_from C_to C_entry C_entriesEnd C_pointsLeft (C_block_1 + (1 : Int32)) C_time C_value]) (v := (some (.int r_14))) hx hb hml hown htc hN (c_X4_at l G cI cZ cJ aD aDc aG D_writesDone D_writesLeft D_down D_cells G_logged C_block_1 (0 : Int32) hE_13) mw_697 mw_362 mw_363 mw_5 mw_364 hd_X4_at ⟨rfl, rfl⟩ ⟨Nat.le_of_ble_eq_true rfl, Nat.le_of_ble_eq_true rfl⟩ hK hw12 hA [0, 1, 2] [3] [1, 2, 3, 0] rfl rfl rfl rfl rfl (by decide) rfl rfl rfl 2 rfl rfl rfl rfl hl11.1 rfl rfl (Nat.le_of_ble_eq_true rfl) dX1_findInHead_35 ⟨Nat.zero_le _, Nat.zero_le _⟩ (fun H15 locs15 hw15 => ?_)
        clear hw12 H12 locs12
        refine lv_aload_n hx hb dX1_findInHead_38 rfl (lv_at hl11 1 rfl) ?_
        refine va_get (D := G) (ci := 1) (v := .int C_series) (C := RX1) (T := TX1) (N := 13) hx hb htc iX1 hown hK hw15.1 3 rfl rfl 4 (by decide) (htc _ mw_265) (fun _ h9 => h9) rfl dX1_findInHead_39 ?_
        refine lv_icmp_ne (tgt := 85) hx hb dX1_findInHead_42 (by decide) (fun c_16 => ?_) (fun c_16 => ?_)
        · replace hB_5 := it_f c_16 hB_5
          refine lv_goto (tgt := 0) hx hb dX1_findInHead_85 (by decide) ?_
          exact ih (C_block_1 + (1 : Int32)) hB_5 _ _ _ hw15 (lv_sub hl11 [1] rfl)
        · replace hB_5 := it_t c_16 hB_5
          refine lv_aload_n hx hb dX1_findInHead_45 rfl (lv_at hl11 1 rfl) ?_
          refine va_get (D := G) (ci := 1) (v := .ref aG) (C := RX1) (T := TX1) (N := 13) hx hb htc iX1 hown hK hw15.1 3 rfl rfl 1 (by decide) (htc _ mw_262) (fun _ h9 => h9) rfl dX1_findInHead_46 ?_
          refine lv_iload_n hx hb dX1_findInHead_49 rfl (lv_at hl11 0 rfl) ?_
          refine lv_iconst (v := (1 : Int32)) hx hb dX1_findInHead_50 (by decide) ?_
          replace hB_5 := ob1_some hB_5
          obtain ⟨r_18, hE_17, hB_5⟩ := hB_5
          refine ctV (a := aG) (As := [.int C_block_1, .int (1 : Int32)]) (rest := []) (st1 := [.int r_18]) (wc := [oX2 aD aDc D_writesDone D_writesLeft D_down, rI aDc cI 4096 D_cells, oX4 aG aD G_logged]) (w1 := [oX2 aD aDc D_writesDone D_writesLeft D_down, rI aDc cI 4096 D_cells, oX4 aG aD G_logged]) (wr := [oX1 aC aI aG aV C_isOpen C_series C_from C_to C_entry C_entriesEnd C_pointsLeft (C_block_1 + (1 : Int32)) C_time C_value]) (wb := [oX2 aD aDc D_writesDone D_writesLeft D_down, rI aDc cI 4096 D_cells, oX4 aG aD G_logged, oX1 aC aI aG aV C_isOpen C_series C_from C_to C_entry C_entriesEnd C_pointsLeft (C_block_1 + (1 : Int32)) C_time C_value]) (v := (some (.int r_18))) hx hb hml hown htc hN (c_X4_at l G cI cZ cJ aD aDc aG D_writesDone D_writesLeft D_down D_cells G_logged C_block_1 (1 : Int32) hE_17) mw_697 mw_362 mw_363 mw_5 mw_364 hd_X4_at ⟨rfl, rfl⟩ ⟨Nat.le_of_ble_eq_true rfl, Nat.le_of_ble_eq_true rfl⟩ hK hw15 hA [0, 1, 2] [3] [1, 2, 3, 0] rfl rfl rfl rfl rfl (by decide) rfl rfl rfl 2 rfl rfl rfl rfl hl11.1 rfl rfl (Nat.le_of_ble_eq_true rfl) dX1_findInHead_51 ⟨Nat.zero_le _, Nat.zero_le _⟩ (fun H19 locs19 hw19 => ?_)
          clear hw15 H15 locs15
          refine lv_aload_n hx hb dX1_findInHead_54 rfl (lv_at hl11 1 rfl) ?_
          refine va_get (D := G) (ci := 1) (v := .int C_from) (C := RX1) (T := TX1) (N := 13) hx hb htc iX1 hown hK hw19.1 3 rfl rfl 5 (by decide) (htc _ mw_266) (fun _ h9 => h9) rfl dX1_findInHead_55 ?_
          refine lv_icmp_lt (tgt := 85) hx hb dX1_findInHead_58 (by decide) (fun c_20 => ?_) (fun c_20 => ?_)
          · replace hB_5 := it_t c_20 hB_5
            refine lv_goto (tgt := 0) hx hb dX1_findInHead_85 (by decide) ?_
            exact ih (C_block_1 + (1 : Int32)) hB_5 _ _ _ hw19 (lv_sub hl11 [1] rfl)
          · replace hB_5 := it_f c_20 hB_5
            refine lv_aload_n hx hb dX1_findInHead_61 rfl (lv_at hl11 1 rfl) ?_
            refine lv_aload_n hx hb dX1_findInHead_62 rfl (lv_at hl11 1 rfl) ?_
            refine va_get (D := G) (ci := 1) (v := .ref aG) (C := RX1) (T := TX1) (N := 13) hx hb htc iX1 hown hK hw19.1 3 rfl rfl 1 (by decide) (htc _ mw_262) (fun _ h9 => h9) rfl dX1_findInHead_63 ?_
            refine lv_iload_n hx hb dX1_findInHead_66 rfl (lv_at hl11 0 rfl) ?_
            refine lv_iconst (v := (1 : Int32)) hx hb dX1_findInHead_67 (by decide) ?_
            replace hB_5 := ob1_some hB_5
            obtain ⟨r_22, hE_21, hB_5⟩ := hB_5
            refine ctV (a := aG) (As := [.int C_block_1, .int (1 : Int32)]) (rest := [.ref aC]) (st1 := [.int r_22, .ref aC]) (wc := [oX2 aD aDc D_writesDone D_writesLeft D_down, rI aDc cI 4096 D_cells, oX4 aG aD G_logged]) (w1 := [oX2 aD aDc D_writesDone D_writesLeft D_down, rI aDc cI 4096 D_cells, oX4 aG aD G_logged]) (wr := [oX1 aC aI aG aV C_isOpen C_series C_from C_to C_entry C_entriesEnd C_pointsLeft (C_block_1 + (1 : Int32)) C_time C_value]) (wb := [oX2 aD aDc D_writesDone D_writesLeft D_down, rI aDc cI 4096 D_cells, oX4 aG aD G_logged, oX1 aC aI aG aV C_isOpen C_series C_from C_to C_entry C_entriesEnd C_pointsLeft (C_block_1 + (1 : Int32)) C_time C_value]) (v := (some (.int r_22))) hx hb hml hown htc hN (c_X4_at l G cI cZ cJ aD aDc aG D_writesDone D_writesLeft D_down D_cells G_logged C_block_1 (1 : Int32) hE_21) mw_697 mw_362 mw_363 mw_5 mw_364 hd_X4_at ⟨rfl, rfl⟩ ⟨Nat.le_of_ble_eq_true rfl, Nat.le_of_ble_eq_true rfl⟩ hK hw19 hA [0, 1, 2] [3] [1, 2, 3, 0] rfl rfl rfl rfl rfl (by decide) rfl rfl rfl 2 rfl rfl rfl rfl hl11.1 rfl rfl (Nat.le_of_ble_eq_true rfl) dX1_findInHead_68 ⟨Nat.zero_le _, Nat.zero_le _⟩ (fun H23 locs23 hw23 => ?_)
            clear hw19 H19 locs19
            refine lv_aload_n hx hb dX1_findInHead_71 rfl (lv_at hl11 1 rfl) ?_
            refine va_get (D := G) (ci := 1) (v := .ref aG) (C := RX1) (T := TX1) (N := 13) hx hb htc iX1 hown hK hw23.1 3 rfl rfl 1 (by decide) (htc _ mw_262) (fun _ h9 => h9) rfl dX1_findInHead_72 ?_
            refine lv_iload_n hx hb dX1_findInHead_75 rfl (lv_at hl11 0 rfl) ?_
            refine lv_iconst (v := (2 : Int32)) hx hb dX1_findInHead_76 (by decide) ?_
            replace hB_5 := ob1_some hB_5
            obtain ⟨r_25, hE_24, hB_5⟩ := hB_5
            refine ctV (a := aG) (As := [.int C_block_1, .int (2 : Int32)]) (rest := [.int r_22, .ref aC]) (st1 := [.int r_25, .int r_22, .ref aC]) (wc := [oX2 aD aDc D_writesDone D_writesLeft D_down, rI aDc cI 4096 D_cells, oX4 aG aD G_logged]) (w1 := [oX2 aD aDc D_writesDone D_writesLeft D_down, rI aDc cI 4096 D_cells, oX4 aG aD G_logged]) (wr := [oX1 aC aI aG aV C_isOpen C_series C_from C_to C_entry C_entriesEnd C_pointsLeft (C_block_1 + (1 : Int32)) C_time C_value]) (wb := [oX2 aD aDc D_writesDone D_writesLeft D_down, rI aDc cI 4096 D_cells, oX4 aG aD G_logged, oX1 aC aI aG aV C_isOpen C_series C_from C_to C_entry C_entriesEnd C_pointsLeft (C_block_1 + (1 : Int32)) C_time C_value]) (v := (some (.int r_25))) hx hb hml hown htc hN (c_X4_at l G cI cZ cJ aD aDc aG D_writesDone D_writesLeft D_down D_cells G_logged C_block_1 (2 : Int32) hE_24) mw_697 mw_362 mw_363 mw_5 mw_364 hd_X4_at ⟨rfl, rfl⟩ ⟨Nat.le_of_ble_eq_true rfl, Nat.le_of_ble_eq_true rfl⟩ hK hw23 hA [0, 1, 2] [3] [1, 2, 3, 0] rfl rfl rfl rfl rfl (by decide) rfl rfl rfl 2 rfl rfl rfl rfl hl11.1 rfl rfl (Nat.le_of_ble_eq_true rfl) dX1_findInHead_77 ⟨Nat.zero_le _, Nat.zero_le _⟩ (fun H26 locs26 hw26 => ?_)
            clear hw23 H23 locs23
            replace hB_5 := ob2_some hB_5
            obtain ⟨C_time_28, C_value_29, hE_27, hB_5⟩ := hB_5
            refine ctV (a := aC) (As := [.int r_22, .int r_25]) (rest := []) (st1 := []) (wc := [oX1 aC aI aG aV C_isOpen C_series C_from C_to C_entry C_entriesEnd C_pointsLeft (C_block_1 + (1 : Int32)) C_time C_value]) (w1 := [oX1 aC aI aG aV C_isOpen C_series C_from C_to C_entry C_entriesEnd C_pointsLeft (C_block_1 + (1 : Int32)) C_time_28 C_value_29]) (wr := [oX2 aD aDc D_writesDone D_writesLeft D_down, rI aDc cI 4096 D_cells, oX4 aG aD G_logged]) (wb := [oX2 aD aDc D_writesDone D_writesLeft D_down, rI aDc cI 4096 D_cells, oX4 aG aD G_logged, oX1 aC aI aG aV C_isOpen C_series C_from C_to C_entry C_entriesEnd C_pointsLeft (C_block_1 + (1 : Int32)) C_time_28 C_value_29]) (v := none) hx hb hml hown htc hN (c_X1_standAt l G cI cZ cJ aC aI aG aV C_isOpen C_series C_from C_to C_entry C_entriesEnd C_pointsLeft (C_block_1 + (1 : Int32)) C_time C_value r_22 r_25 hE_27) mw_688 mw_690 mp_26 mw_11 mw_691 hd_X1_standAt ⟨rfl, rfl⟩ ⟨Nat.le_of_ble_eq_true rfl, Nat.le_of_ble_eq_true rfl⟩ hK hw26 hA [3] [0, 1, 2] [0, 1, 2, 3] rfl rfl rfl rfl rfl (by decide) rfl rfl rfl 0 rfl rfl rfl rfl hl11.1 rfl rfl (Nat.le_of_ble_eq_true rfl) dX1_findInHead_80 ⟨Nat.zero_le _, Nat.zero_le _⟩ (fun H30 locs30 hw30 => ?_)
            clear hw26 H26 locs26
            refine lv_iconst (v := (1 : Int32)) hx hb dX1_findInHead_83 (by decide) ?_
            cases hB_5
            rw [hQQ]
            exact ct_zret hx hb hr hlocks (Or.inr rfl) hw30.1 hw30.2.1 hw30.2.2 dX1_findInHead_84
  exact lp_4 NN C_block hfin _ _ _ hw0 (lv_sub hl0 [0] rfl)
abbrev rm_X1_advance : Room := { frames := 5, cells := 0, slots := 0, locals := 110 }
theorem hd_X1_advance : yX1_advance.cls = RX1 ∧ yX1_advance.cls ≠ "java/lang/invoke/MethodHandle" ∧ yX1_advance.cls ≠ "java/lang/invoke/VarHandle" ∧ (parseMethodDescriptor yX1_advance.desc).map (fun d => d.parameters.length) = some 0 := by decide +kernel
set_option maxHeartbeats 4000000 in
set_option maxRecDepth 100000 in
theorem c_X1_advance (l : Launch) (G : va_G) (cI cZ cJ : ClassId) (aD aDc aI aG aV aC : Nat) (D_writesDone : Int32) (D_writesLeft : Int32) (D_down : Int32) (D_cells : Nat → Int32) (G_logged : Int32) (V_place : Int32) (V_bitsRead : Int32) (V_started : Int32) (V_time : Int32) (V_value : Int32) (V_rise : Int64) (C_isOpen : Int32) (C_series : Int32) (C_from : Int32) (C_to : Int32) (C_entry : Int32) (C_entriesEnd : Int32) (C_pointsLeft : Int32) (C_block : Int32) (C_time : Int32) (C_value : Int32)  {r : Int32} {o_V_place : Int32} {o_V_bitsRead : Int32} {o_V_started : Int32} {o_V_time : Int32} {o_V_value : Int32} {o_V_rise : Int64} {o_C_isOpen : Int32} {o_C_entry : Int32} {o_C_pointsLeft : Int32} {o_C_block : Int32} {o_C_time : Int32} {o_C_value : Int32} (hfin : m_X1_advance D_cells G_logged V_place V_bitsRead V_started V_time V_value V_rise C_isOpen C_series C_from C_to C_entry C_entriesEnd C_pointsLeft C_block C_time C_value = some (r, o_V_place, o_V_bitsRead, o_V_started, o_V_time, o_V_value, o_V_rise, o_C_isOpen, o_C_entry, o_C_pointsLeft, o_C_block, o_C_time, o_C_value)) : CT l yX1_advance cX1_advance 1 (some .boolean) rm_X1_advance G (tyC cI cZ cJ) [.ref aC] [oX2 aD aDc D_writesDone D_writesLeft D_down, rI aDc cI 4096 D_cells, oX3 aI aD, oX4 aG aD G_logged, oX8 aV aD V_place V_bitsRead V_started V_time V_value V_rise, oX1 aC aI aG aV C_isOpen C_series C_from C_to C_entry C_entriesEnd C_pointsLeft C_block C_time C_value] (some (.int r)) [oX2 aD aDc D_writesDone D_writesLeft D_down, rI aDc cI 4096 D_cells, oX3 aI aD, oX4 aG aD G_logged, oX8 aV aD o_V_place o_V_bitsRead o_V_started o_V_time o_V_value o_V_rise, oX1 aC aI aG aV o_C_isOpen C_series C_from C_to o_C_entry C_entriesEnd o_C_pointsLeft o_C_block o_C_time o_C_value] := by
  refine CT.ofW (lvl := [(0, .ref aC)]) (by decide) (Nat.le_of_ble_eq_true rfl) rfl ?_
  intro p e s m args below meth c A ls0 QQ hQQ hx hb hml hr hlocks htc hN hown hK hA hw0 hl0
  rw [m_X1_advance] at hfin
  refine lv_aload_n hx hb dX1_advance_0 rfl (lv_at hl0 0 rfl) ?_
  refine va_get (D := G) (ci := 1) (v := .int C_isOpen) (C := RX1) (T := TX1) (N := 13) hx hb htc iX1 hown hK hw0.1 5 rfl rfl 3 (by decide) (htc _ mw_264) (fun _ h9 => h9) rfl dX1_advance_1 ?_
  refine lv_if_eq (tgt := 34) hx hb dX1_advance_4 (by decide) (fun c_1 => ?_) (fun c_1 => ?_)
  · replace hfin := it_t c_1 hfin
    refine lv_aload_n hx hb dX1_advance_34 rfl (lv_at hl0 0 rfl) ?_
    replace hfin := ob3_some hfin
    obtain ⟨C_isOpen_3, C_time_4, C_value_5, hE_2, hfin⟩ := hfin
    refine ctV (a := aC) (As := []) (rest := []) (st1 := []) (wc := [oX1 aC aI aG aV C_isOpen C_series C_from C_to C_entry C_entriesEnd C_pointsLeft C_block C_time C_value]) (w1 := [oX1 aC aI aG aV C_isOpen_3 C_series C_from C_to C_entry C_entriesEnd C_pointsLeft C_block C_time_4 C_value_5]) (wr := [oX2 aD aDc D_writesDone D_writesLeft D_down, rI aDc cI 4096 D_cells, oX3 aI aD, oX4 aG aD G_logged, oX8 aV aD V_place V_bitsRead V_started V_time V_value V_rise]) (wb := [oX2 aD aDc D_writesDone D_writesLeft D_down, rI aDc cI 4096 D_cells, oX3 aI aD, oX4 aG aD G_logged, oX8 aV aD V_place V_bitsRead V_started V_time V_value V_rise, oX1 aC aI aG aV C_isOpen_3 C_series C_from C_to C_entry C_entriesEnd C_pointsLeft C_block C_time_4 C_value_5]) (v := none) hx hb hml hown htc hN (c_X1_close l G cI cZ cJ aC aI aG aV C_isOpen C_series C_from C_to C_entry C_entriesEnd C_pointsLeft C_block C_time C_value  hE_2) mw_698 mw_342 mw_343 mw_11 mw_344 hd_X1_close ⟨rfl, rfl⟩ ⟨Nat.le_of_ble_eq_true rfl, Nat.le_of_ble_eq_true rfl⟩ hK hw0 hA [5] [0, 1, 2, 3, 4] [0, 1, 2, 3, 4, 5] rfl rfl rfl rfl rfl (by decide) rfl rfl rfl 0 rfl rfl rfl rfl hl0.1 rfl rfl (Nat.le_of_ble_eq_true rfl) dX1_advance_35 ⟨Nat.zero_le _, Nat.zero_le _⟩ (fun H6 locs6 hw6 => ?_)
    clear hw0
    refine lv_iconst (v := (0 : Int32)) hx hb dX1_advance_38 (by decide) ?_
    cases hfin
    rw [hQQ]
    exact ct_zret hx hb hr hlocks (Or.inl rfl) hw6.1 hw6.2.1 hw6.2.2 dX1_advance_39
  · replace hfin := it_f c_1 hfin
    refine lv_aload_n hx hb dX1_advance_7 rfl (lv_at hl0 0 rfl) ?_
    replace hfin := ob11_some hfin
    obtain ⟨r_8, V_place_9, V_bitsRead_10, V_started_11, V_time_12, V_value_13, V_rise_14, C_entry_15, C_pointsLeft_16, C_time_17, C_value_18, hE_7, hfin⟩ := hfin
    refine ctV (a := aC) (As := []) (rest := []) (st1 := [.int r_8]) (wc := [oX2 aD aDc D_writesDone D_writesLeft D_down, rI aDc cI 4096 D_cells, oX3 aI aD, oX8 aV aD V_place V_bitsRead V_started V_time V_value V_rise, oX1 aC aI aG aV C_isOpen C_series C_from C_to C_entry C_entriesEnd C_pointsLeft C_block C_time C_value]) (w1 := [oX2 aD aDc D_writesDone D_writesLeft D_down, rI aDc cI 4096 D_cells, oX3 aI aD, oX8 aV aD V_place_9 V_bitsRead_10 V_started_11 V_time_12 V_value_13 V_rise_14, oX1 aC aI aG aV C_isOpen C_series C_from C_to C_entry_15 C_entriesEnd C_pointsLeft_16 C_block C_time_17 C_value_18]) (wr := [oX4 aG aD G_logged]) (wb := [oX2 aD aDc D_writesDone D_writesLeft D_down, rI aDc cI 4096 D_cells, oX3 aI aD, oX4 aG aD G_logged, oX8 aV aD V_place_9 V_bitsRead_10 V_started_11 V_time_12 V_value_13 V_rise_14, oX1 aC aI aG aV C_isOpen C_series C_from C_to C_entry_15 C_entriesEnd C_pointsLeft_16 C_block C_time_17 C_value_18]) (v := (some (.int r_8))) hx hb hml hown htc hN (c_X1_findInChunks l G cI cZ cJ aD aDc aI aV aC aG D_writesDone D_writesLeft D_down D_cells V_place V_bitsRead V_started V_time V_value V_rise C_isOpen C_series C_from C_to C_entry C_entriesEnd C_pointsLeft C_block C_time C_value  hE_7) mw_677 mw_679 mp_24 mw_11 mw_680 hd_X1_findInChunks ⟨rfl, rfl⟩ ⟨Nat.le_of_ble_eq_true rfl, Nat.le_of_ble_eq_true rfl⟩ hK hw0 hA [0, 1, 2, 4, 5] [3] [1, 2, 3, 0, 4, 5] rfl rfl rfl rfl rfl (by decide) rfl rfl rfl 4 rfl rfl rfl rfl hl0.1 rfl rfl (Nat.le_of_ble_eq_true rfl) dX1_advance_8 ⟨Nat.zero_le _, Nat.zero_le _⟩ (fun H19 locs19 hw19 => ?_)
    clear hw0
    refine lv_if_ne (tgt := 21) hx hb dX1_advance_11 (by decide) (fun c_20 => ?_) (fun c_20 => ?_)
    · replace hfin := it_f c_20 hfin
      refine lv_aload_n hx hb dX1_advance_21 rfl (lv_at hl0 0 rfl) ?_
      refine va_get (D := G) (ci := 1) (v := .int C_time_17) (C := RX1) (T := TX1) (N := 13) hx hb htc iX1 hown hK hw19.1 5 rfl rfl 11 (by decide) (htc _ mw_272) (fun _ h9 => h9) rfl dX1_advance_22 ?_
      refine lv_aload_n hx hb dX1_advance_25 rfl (lv_at hl0 0 rfl) ?_
      refine va_get (D := G) (ci := 1) (v := .int C_to) (C := RX1) (T := TX1) (N := 13) hx hb htc iX1 hown hK hw19.1 5 rfl rfl 6 (by decide) (htc _ mw_267) (fun _ h9 => h9) rfl dX1_advance_26 ?_
      refine lv_icmp_gt (tgt := 34) hx hb dX1_advance_29 (by decide) (fun c_21 => ?_) (fun c_21 => ?_)
      · replace hfin := it_t c_21 hfin
        refine lv_aload_n hx hb dX1_advance_34 rfl (lv_at hl0 0 rfl) ?_
        replace hfin := ob3_some hfin
        obtain ⟨C_isOpen_23, C_time_24, C_value_25, hE_22, hfin⟩ := hfin
        refine ctV (a := aC) (As := []) (rest := []) (st1 := []) (wc := [oX1 aC aI aG aV C_isOpen C_series C_from C_to C_entry_15 C_entriesEnd C_pointsLeft_16 C_block C_time_17 C_value_18]) (w1 := [oX1 aC aI aG aV C_isOpen_23 C_series C_from C_to C_entry_15 C_entriesEnd C_pointsLeft_16 C_block C_time_24 C_value_25]) (wr := [oX2 aD aDc D_writesDone D_writesLeft D_down, rI aDc cI 4096 D_cells, oX3 aI aD, oX4 aG aD G_logged, oX8 aV aD V_place_9 V_bitsRead_10 V_started_11 V_time_12 V_value_13 V_rise_14]) (wb := [oX2 aD aDc D_writesDone D_writesLeft D_down, rI aDc cI 4096 D_cells, oX3 aI aD, oX4 aG aD G_logged, oX8 aV aD V_place_9 V_bitsRead_10 V_started_11 V_time_12 V_value_13 V_rise_14, oX1 aC aI aG aV C_isOpen_23 C_series C_from C_to C_entry_15 C_entriesEnd C_pointsLeft_16 C_block C_time_24 C_value_25]) (v := none) hx hb hml hown htc hN (c_X1_close l G cI cZ cJ aC aI aG aV C_isOpen C_series C_from C_to C_entry_15 C_entriesEnd C_pointsLeft_16 C_block C_time_17 C_value_18  hE_22) mw_698 mw_342 mw_343 mw_11 mw_344 hd_X1_close ⟨rfl, rfl⟩ ⟨Nat.le_of_ble_eq_true rfl, Nat.le_of_ble_eq_true rfl⟩ hK hw19 hA [5] [0, 1, 2, 3, 4] [0, 1, 2, 3, 4, 5] rfl rfl rfl rfl rfl (by decide) rfl rfl rfl 0 rfl rfl rfl rfl hl0.1 rfl rfl (Nat.le_of_ble_eq_true rfl) dX1_advance_35 ⟨Nat.zero_le _, Nat.zero_le _⟩ (fun H26 locs26 hw26 => ?_)
        clear hw19 H19 locs19
        refine lv_iconst (v := (0 : Int32)) hx hb dX1_advance_38 (by decide) ?_
        cases hfin
        rw [hQQ]
        exact ct_zret hx hb hr hlocks (Or.inl rfl) hw26.1 hw26.2.1 hw26.2.2 dX1_advance_39
      · replace hfin := it_f c_21 hfin
        refine lv_iconst (v := (1 : Int32)) hx hb dX1_advance_32 (by decide) ?_
        cases hfin
        rw [hQQ]
        exact ct_zret hx hb hr hlocks (Or.inr rfl) hw19.1 hw19.2.1 hw19.2.2 dX1_advance_33
    · replace hfin := it_t c_20 hfin
      refine lv_aload_n hx hb dX1_advance_14 rfl (lv_at hl0 0 rfl) ?_
      replace hfin := ob4_some hfin
      obtain ⟨r_28, C_block_29, C_time_30, C_value_31, hE_27, hfin⟩ := hfin
      refine ctV (a := aC) (As := []) (rest := []) (st1 := [.int r_28]) (wc := [oX2 aD aDc D_writesDone D_writesLeft D_down, rI aDc cI 4096 D_cells, oX4 aG aD G_logged, oX1 aC aI aG aV C_isOpen C_series C_from C_to C_entry_15 C_entriesEnd C_pointsLeft_16 C_block C_time_17 C_value_18]) (w1 := [oX2 aD aDc D_writesDone D_writesLeft D_down, rI aDc cI 4096 D_cells, oX4 aG aD G_logged, oX1 aC aI aG aV C_isOpen C_series C_from C_to C_entry_15 C_entriesEnd C_pointsLeft_16 C_block_29 C_time_30 C_value_31]) (wr := [oX3 aI aD, oX8 aV aD V_place_9 V_bitsRead_10 V_started_11 V_time_12 V_value_13 V_rise_14]) (wb := [oX2 aD aDc D_writesDone D_writesLeft D_down, rI aDc cI 4096 D_cells, oX3 aI aD, oX4 aG aD G_logged, oX8 aV aD V_place_9 V_bitsRead_10 V_started_11 V_time_12 V_value_13 V_rise_14, oX1 aC aI aG aV C_isOpen C_series C_from C_to C_entry_15 C_entriesEnd C_pointsLeft_16 C_block_29 C_time_30 C_value_31]) (v := (some (.int r_28))) hx hb hml hown htc hN (c_X1_findInHead l G cI cZ cJ aD aDc aG aC aI aV D_writesDone D_writesLeft D_down D_cells G_logged C_isOpen C_series C_from C_to C_entry_15 C_entriesEnd C_pointsLeft_16 C_block C_time_17 C_value_18  hE_27) mw_692 mw_694 mp_27 mw_11 mw_695 hd_X1_findInHead ⟨rfl, rfl⟩ ⟨Nat.le_of_ble_eq_true rfl, Nat.le_of_ble_eq_true rfl⟩ hK hw19 hA [0, 1, 3, 5] [2, 4] [2, 3, 0, 4, 1, 5] rfl rfl rfl rfl rfl (by decide) rfl rfl rfl 3 rfl rfl rfl rfl hl0.1 rfl rfl (Nat.le_of_ble_eq_true rfl) dX1_advance_15 ⟨Nat.zero_le _, Nat.zero_le _⟩ (fun H32 locs32 hw32 => ?_)
      clear hw19 H19 locs19
      refine lv_if_eq (tgt := 34) hx hb dX1_advance_18 (by decide) (fun c_33 => ?_) (fun c_33 => ?_)
      · replace hfin := it_t c_33 hfin
        refine lv_aload_n hx hb dX1_advance_34 rfl (lv_at hl0 0 rfl) ?_
        replace hfin := ob3_some hfin
        obtain ⟨C_isOpen_35, C_time_36, C_value_37, hE_34, hfin⟩ := hfin
        refine ctV (a := aC) (As := []) (rest := []) (st1 := []) (wc := [oX1 aC aI aG aV C_isOpen C_series C_from C_to C_entry_15 C_entriesEnd C_pointsLeft_16 C_block_29 C_time_30 C_value_31]) (w1 := [oX1 aC aI aG aV C_isOpen_35 C_series C_from C_to C_entry_15 C_entriesEnd C_pointsLeft_16 C_block_29 C_time_36 C_value_37]) (wr := [oX2 aD aDc D_writesDone D_writesLeft D_down, rI aDc cI 4096 D_cells, oX3 aI aD, oX4 aG aD G_logged, oX8 aV aD V_place_9 V_bitsRead_10 V_started_11 V_time_12 V_value_13 V_rise_14]) (wb := [oX2 aD aDc D_writesDone D_writesLeft D_down, rI aDc cI 4096 D_cells, oX3 aI aD, oX4 aG aD G_logged, oX8 aV aD V_place_9 V_bitsRead_10 V_started_11 V_time_12 V_value_13 V_rise_14, oX1 aC aI aG aV C_isOpen_35 C_series C_from C_to C_entry_15 C_entriesEnd C_pointsLeft_16 C_block_29 C_time_36 C_value_37]) (v := none) hx hb hml hown htc hN (c_X1_close l G cI cZ cJ aC aI aG aV C_isOpen C_series C_from C_to C_entry_15 C_entriesEnd C_pointsLeft_16 C_block_29 C_time_30 C_value_31  hE_34) mw_698 mw_342 mw_343 mw_11 mw_344 hd_X1_close ⟨rfl, rfl⟩ ⟨Nat.le_of_ble_eq_true rfl, Nat.le_of_ble_eq_true rfl⟩ hK hw32 hA [5] [0, 1, 2, 3, 4] [0, 1, 2, 3, 4, 5] rfl rfl rfl rfl rfl (by decide) rfl rfl rfl 0 rfl rfl rfl rfl hl0.1 rfl rfl (Nat.le_of_ble_eq_true rfl) dX1_advance_35 ⟨Nat.zero_le _, Nat.zero_le _⟩ (fun H38 locs38 hw38 => ?_)
        clear hw32 H32 locs32
        refine lv_iconst (v := (0 : Int32)) hx hb dX1_advance_38 (by decide) ?_
        cases hfin
        rw [hQQ]
        exact ct_zret hx hb hr hlocks (Or.inl rfl) hw38.1 hw38.2.1 hw38.2.2 dX1_advance_39
      · replace hfin := it_f c_33 hfin
        refine lv_aload_n hx hb dX1_advance_21 rfl (lv_at hl0 0 rfl) ?_
        refine va_get (D := G) (ci := 1) (v := .int C_time_30) (C := RX1) (T := TX1) (N := 13) hx hb htc iX1 hown hK hw32.1 5 rfl rfl 11 (by decide) (htc _ mw_272) (fun _ h9 => h9) rfl dX1_advance_22 ?_
        refine lv_aload_n hx hb dX1_advance_25 rfl (lv_at hl0 0 rfl) ?_
        refine va_get (D := G) (ci := 1) (v := .int C_to) (C := RX1) (T := TX1) (N := 13) hx hb htc iX1 hown hK hw32.1 5 rfl rfl 6 (by decide) (htc _ mw_267) (fun _ h9 => h9) rfl dX1_advance_26 ?_
        refine lv_icmp_gt (tgt := 34) hx hb dX1_advance_29 (by decide) (fun c_39 => ?_) (fun c_39 => ?_)
        · replace hfin := it_t c_39 hfin
          refine lv_aload_n hx hb dX1_advance_34 rfl (lv_at hl0 0 rfl) ?_
          replace hfin := ob3_some hfin
          obtain ⟨C_isOpen_41, C_time_42, C_value_43, hE_40, hfin⟩ := hfin
          refine ctV (a := aC) (As := []) (rest := []) (st1 := []) (wc := [oX1 aC aI aG aV C_isOpen C_series C_from C_to C_entry_15 C_entriesEnd C_pointsLeft_16 C_block_29 C_time_30 C_value_31]) (w1 := [oX1 aC aI aG aV C_isOpen_41 C_series C_from C_to C_entry_15 C_entriesEnd C_pointsLeft_16 C_block_29 C_time_42 C_value_43]) (wr := [oX2 aD aDc D_writesDone D_writesLeft D_down, rI aDc cI 4096 D_cells, oX3 aI aD, oX4 aG aD G_logged, oX8 aV aD V_place_9 V_bitsRead_10 V_started_11 V_time_12 V_value_13 V_rise_14]) (wb := [oX2 aD aDc D_writesDone D_writesLeft D_down, rI aDc cI 4096 D_cells, oX3 aI aD, oX4 aG aD G_logged, oX8 aV aD V_place_9 V_bitsRead_10 V_started_11 V_time_12 V_value_13 V_rise_14, oX1 aC aI aG aV C_isOpen_41 C_series C_from C_to C_entry_15 C_entriesEnd C_pointsLeft_16 C_block_29 C_time_42 C_value_43]) (v := none) hx hb hml hown htc hN (c_X1_close l G cI cZ cJ aC aI aG aV C_isOpen C_series C_from C_to C_entry_15 C_entriesEnd C_pointsLeft_16 C_block_29 C_time_30 C_value_31  hE_40) mw_698 mw_342 mw_343 mw_11 mw_344 hd_X1_close ⟨rfl, rfl⟩ ⟨Nat.le_of_ble_eq_true rfl, Nat.le_of_ble_eq_true rfl⟩ hK hw32 hA [5] [0, 1, 2, 3, 4] [0, 1, 2, 3, 4, 5] rfl rfl rfl rfl rfl (by decide) rfl rfl rfl 0 rfl rfl rfl rfl hl0.1 rfl rfl (Nat.le_of_ble_eq_true rfl) dX1_advance_35 ⟨Nat.zero_le _, Nat.zero_le _⟩ (fun H44 locs44 hw44 => ?_)
          clear hw32 H32 locs32
          refine lv_iconst (v := (0 : Int32)) hx hb dX1_advance_38 (by decide) ?_
          cases hfin
          rw [hQQ]
          exact ct_zret hx hb hr hlocks (Or.inl rfl) hw44.1 hw44.2.1 hw44.2.2 dX1_advance_39
        · replace hfin := it_f c_39 hfin
          refine lv_iconst (v := (1 : Int32)) hx hb dX1_advance_32 (by decide) ?_
          cases hfin
          rw [hQQ]
          exact ct_zret hx hb hr hlocks (Or.inr rfl) hw32.1 hw32.2.1 hw32.2.2 dX1_advance_33
