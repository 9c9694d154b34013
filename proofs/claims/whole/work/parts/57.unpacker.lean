theorem dX8_open_0 : decode cX8_open 0 = .ok (.aload_n 0, 1) := by decide +kernel
theorem dX8_open_1 : decode cX8_open 1 = .ok (.iload_n 1, 1) := by decide +kernel
theorem dX8_open_2 : decode cX8_open 2 = .ok (.putfield 9, 3) := by decide +kernel
theorem dX8_open_5 : decode cX8_open 5 = .ok (.aload_n 0, 1) := by decide +kernel
theorem dX8_open_6 : decode cX8_open 6 = .ok (.iconst 0, 1) := by decide +kernel
theorem dX8_open_7 : decode cX8_open 7 = .ok (.putfield 15, 3) := by decide +kernel
theorem dX8_open_10 : decode cX8_open 10 = .ok (.aload_n 0, 1) := by decide +kernel
theorem dX8_open_11 : decode cX8_open 11 = .ok (.iconst 0, 1) := by decide +kernel
theorem dX8_open_12 : decode cX8_open 12 = .ok (.putfield 18, 3) := by decide +kernel
theorem dX8_open_15 : decode cX8_open 15 = .ok (.return_, 1) := by decide +kernel
theorem dX8_step_0 : decode cX8_step 0 = .ok (.aload_n 0, 1) := by decide +kernel
theorem dX8_step_1 : decode cX8_step 1 = .ok (.getfield 18, 3) := by decide +kernel
theorem dX8_step_4 : decode cX8_step 4 = .ok (.ifCond .ne 46, 3) := by decide +kernel
theorem dX8_step_7 : decode cX8_step 7 = .ok (.aload_n 0, 1) := by decide +kernel
theorem dX8_step_8 : decode cX8_step 8 = .ok (.iconst 1, 1) := by decide +kernel
theorem dX8_step_9 : decode cX8_step 9 = .ok (.putfield 18, 3) := by decide +kernel
theorem dX8_step_12 : decode cX8_step 12 = .ok (.aload_n 0, 1) := by decide +kernel
theorem dX8_step_13 : decode cX8_step 13 = .ok (.aload_n 0, 1) := by decide +kernel
theorem dX8_step_14 : decode cX8_step 14 = .ok (.getfield 32, 3) := by decide +kernel
theorem dX8_step_17 : decode cX8_step 17 = .ok (.aload_n 0, 1) := by decide +kernel
theorem dX8_step_18 : decode cX8_step 18 = .ok (.getfield 9, 3) := by decide +kernel
theorem dX8_step_21 : decode cX8_step 21 = .ok (.invokevirtual 36, 3) := by decide +kernel
theorem dX8_step_24 : decode cX8_step 24 = .ok (.putfield 22, 3) := by decide +kernel
theorem dX8_step_27 : decode cX8_step 27 = .ok (.aload_n 0, 1) := by decide +kernel
theorem dX8_step_28 : decode cX8_step 28 = .ok (.aload_n 0, 1) := by decide +kernel
theorem dX8_step_29 : decode cX8_step 29 = .ok (.getfield 32, 3) := by decide +kernel
theorem dX8_step_32 : decode cX8_step 32 = .ok (.aload_n 0, 1) := by decide +kernel
theorem dX8_step_33 : decode cX8_step 33 = .ok (.getfield 9, 3) := by decide +kernel
theorem dX8_step_36 : decode cX8_step 36 = .ok (.iconst 1, 1) := by decide +kernel
theorem dX8_step_37 : decode cX8_step 37 = .ok (.iadd, 1) := by decide +kernel
theorem dX8_step_38 : decode cX8_step 38 = .ok (.invokevirtual 36, 3) := by decide +kernel
theorem dX8_step_41 : decode cX8_step 41 = .ok (.putfield 25, 3) := by decide +kernel
theorem dX8_step_44 : decode cX8_step 44 = .ok (.aload_n 0, 1) := by decide +kernel
theorem dX8_step_45 : decode cX8_step 45 = .ok (.lconst 0, 1) := by decide +kernel
theorem dX8_step_46 : decode cX8_step 46 = .ok (.putfield 28, 3) := by decide +kernel
theorem dX8_step_49 : decode cX8_step 49 = .ok (.return_, 1) := by decide +kernel
theorem dX8_step_50 : decode cX8_step 50 = .ok (.aload_n 0, 1) := by decide +kernel
theorem dX8_step_51 : decode cX8_step 51 = .ok (.dup, 1) := by decide +kernel
theorem dX8_step_52 : decode cX8_step 52 = .ok (.getfield 28, 3) := by decide +kernel
theorem dX8_step_55 : decode cX8_step 55 = .ok (.aload_n 0, 1) := by decide +kernel
theorem dX8_step_56 : decode cX8_step 56 = .ok (.invokevirtual 42, 3) := by decide +kernel
theorem dX8_step_59 : decode cX8_step 59 = .ok (.ladd, 1) := by decide +kernel
theorem dX8_step_60 : decode cX8_step 60 = .ok (.putfield 28, 3) := by decide +kernel
theorem dX8_step_63 : decode cX8_step 63 = .ok (.aload_n 0, 1) := by decide +kernel
theorem dX8_step_64 : decode cX8_step 64 = .ok (.aload_n 0, 1) := by decide +kernel
theorem dX8_step_65 : decode cX8_step 65 = .ok (.getfield 22, 3) := by decide +kernel
theorem dX8_step_68 : decode cX8_step 68 = .ok (.i2l, 1) := by decide +kernel
theorem dX8_step_69 : decode cX8_step 69 = .ok (.aload_n 0, 1) := by decide +kernel
theorem dX8_step_70 : decode cX8_step 70 = .ok (.getfield 28, 3) := by decide +kernel
theorem dX8_step_73 : decode cX8_step 73 = .ok (.ladd, 1) := by decide +kernel
theorem dX8_step_74 : decode cX8_step 74 = .ok (.l2i, 1) := by decide +kernel
theorem dX8_step_75 : decode cX8_step 75 = .ok (.putfield 22, 3) := by decide +kernel
theorem dX8_step_78 : decode cX8_step 78 = .ok (.aload_n 0, 1) := by decide +kernel
theorem dX8_step_79 : decode cX8_step 79 = .ok (.dup, 1) := by decide +kernel
theorem dX8_step_80 : decode cX8_step 80 = .ok (.getfield 25, 3) := by decide +kernel
theorem dX8_step_83 : decode cX8_step 83 = .ok (.aload_n 0, 1) := by decide +kernel
theorem dX8_step_84 : decode cX8_step 84 = .ok (.invokevirtual 46, 3) := by decide +kernel
theorem dX8_step_87 : decode cX8_step 87 = .ok (.iadd, 1) := by decide +kernel
theorem dX8_step_88 : decode cX8_step 88 = .ok (.putfield 25, 3) := by decide +kernel
theorem dX8_step_91 : decode cX8_step 91 = .ok (.return_, 1) := by decide +kernel
theorem dX8_readChange_0 : decode cX8_readChange 0 = .ok (.iconst 0, 1) := by decide +kernel
theorem dX8_readChange_1 : decode cX8_readChange 1 = .ok (.istore_n 1, 1) := by decide +kernel
theorem dX8_readChange_2 : decode cX8_readChange 2 = .ok (.iload_n 1, 1) := by decide +kernel
theorem dX8_readChange_3 : decode cX8_readChange 3 = .ok (.iconst 4, 1) := by decide +kernel
theorem dX8_readChange_4 : decode cX8_readChange 4 = .ok (.if_icmp .ge 19, 3) := by decide +kernel
theorem dX8_readChange_7 : decode cX8_readChange 7 = .ok (.aload_n 0, 1) := by decide +kernel
theorem dX8_readChange_8 : decode cX8_readChange 8 = .ok (.iconst 1, 1) := by decide +kernel
theorem dX8_readChange_9 : decode cX8_readChange 9 = .ok (.invokevirtual 50, 3) := by decide +kernel
theorem dX8_readChange_12 : decode cX8_readChange 12 = .ok (.lconst 1, 1) := by decide +kernel
theorem dX8_readChange_13 : decode cX8_readChange 13 = .ok (.lcmp, 1) := by decide +kernel
theorem dX8_readChange_14 : decode cX8_readChange 14 = .ok (.ifCond .ne 9, 3) := by decide +kernel
theorem dX8_readChange_17 : decode cX8_readChange 17 = .ok (.iinc 1 1, 3) := by decide +kernel
theorem dX8_readChange_20 : decode cX8_readChange 20 = .ok (.goto (-18), 3) := by decide +kernel
theorem dX8_readChange_23 : decode cX8_readChange 23 = .ok (.iload_n 1, 1) := by decide +kernel
theorem dX8_readChange_24 : decode cX8_readChange 24 = .ok (.tableswitch 67 0 3 #[32, 34, 45, 56], 32) := by decide +kernel
theorem dX8_readChange_56 : decode cX8_readChange 56 = .ok (.lconst 0, 1) := by decide +kernel
theorem dX8_readChange_57 : decode cX8_readChange 57 = .ok (.lreturn, 1) := by decide +kernel
theorem dX8_readChange_58 : decode cX8_readChange 58 = .ok (.aload_n 0, 1) := by decide +kernel
theorem dX8_readChange_59 : decode cX8_readChange 59 = .ok (.bipush 7, 2) := by decide +kernel
theorem dX8_readChange_61 : decode cX8_readChange 61 = .ok (.invokevirtual 50, 3) := by decide +kernel
theorem dX8_readChange_64 : decode cX8_readChange 64 = .ok (.ldc2_w 54, 3) := by decide +kernel
theorem dX8_readChange_67 : decode cX8_readChange 67 = .ok (.lsub, 1) := by decide +kernel
theorem dX8_readChange_68 : decode cX8_readChange 68 = .ok (.lreturn, 1) := by decide +kernel
theorem dX8_readChange_69 : decode cX8_readChange 69 = .ok (.aload_n 0, 1) := by decide +kernel
theorem dX8_readChange_70 : decode cX8_readChange 70 = .ok (.bipush 9, 2) := by decide +kernel
theorem dX8_readChange_72 : decode cX8_readChange 72 = .ok (.invokevirtual 50, 3) := by decide +kernel
theorem dX8_readChange_75 : decode cX8_readChange 75 = .ok (.ldc2_w 56, 3) := by decide +kernel
theorem dX8_readChange_78 : decode cX8_readChange 78 = .ok (.lsub, 1) := by decide +kernel
theorem dX8_readChange_79 : decode cX8_readChange 79 = .ok (.lreturn, 1) := by decide +kernel
theorem dX8_readChange_80 : decode cX8_readChange 80 = .ok (.aload_n 0, 1) := by decide +kernel
theorem dX8_readChange_81 : decode cX8_readChange 81 = .ok (.bipush 12, 2) := by decide +kernel
theorem dX8_readChange_83 : decode cX8_readChange 83 = .ok (.invokevirtual 50, 3) := by decide +kernel
theorem dX8_readChange_86 : decode cX8_readChange 86 = .ok (.ldc2_w 58, 3) := by decide +kernel
theorem dX8_readChange_89 : decode cX8_readChange 89 = .ok (.lsub, 1) := by decide +kernel
theorem dX8_readChange_90 : decode cX8_readChange 90 = .ok (.lreturn, 1) := by decide +kernel
theorem dX8_readChange_91 : decode cX8_readChange 91 = .ok (.aload_n 0, 1) := by decide +kernel
theorem dX8_readChange_92 : decode cX8_readChange 92 = .ok (.iconst 2, 1) := by decide +kernel
theorem dX8_readChange_93 : decode cX8_readChange 93 = .ok (.invokevirtual 50, 3) := by decide +kernel
theorem dX8_readChange_96 : decode cX8_readChange 96 = .ok (.lstore_n 2, 1) := by decide +kernel
theorem dX8_readChange_97 : decode cX8_readChange 97 = .ok (.lload_n 2, 1) := by decide +kernel
theorem dX8_readChange_98 : decode cX8_readChange 98 = .ok (.bipush 32, 2) := by decide +kernel
theorem dX8_readChange_100 : decode cX8_readChange 100 = .ok (.lshl, 1) := by decide +kernel
theorem dX8_readChange_101 : decode cX8_readChange 101 = .ok (.aload_n 0, 1) := by decide +kernel
theorem dX8_readChange_102 : decode cX8_readChange 102 = .ok (.bipush 32, 2) := by decide +kernel
theorem dX8_readChange_104 : decode cX8_readChange 104 = .ok (.invokevirtual 50, 3) := by decide +kernel
theorem dX8_readChange_107 : decode cX8_readChange 107 = .ok (.lor, 1) := by decide +kernel
theorem dX8_readChange_108 : decode cX8_readChange 108 = .ok (.ldc2_w 60, 3) := by decide +kernel
theorem dX8_readChange_111 : decode cX8_readChange 111 = .ok (.lsub, 1) := by decide +kernel
theorem dX8_readChange_112 : decode cX8_readChange 112 = .ok (.lreturn, 1) := by decide +kernel
theorem dX8_readDifference_0 : decode cX8_readDifference 0 = .ok (.iconst 0, 1) := by decide +kernel
theorem dX8_readDifference_1 : decode cX8_readDifference 1 = .ok (.istore_n 1, 1) := by decide +kernel
theorem dX8_readDifference_2 : decode cX8_readDifference 2 = .ok (.iconst 0, 1) := by decide +kernel
theorem dX8_readDifference_3 : decode cX8_readDifference 3 = .ok (.istore_n 2, 1) := by decide +kernel
theorem dX8_readDifference_4 : decode cX8_readDifference 4 = .ok (.aload_n 0, 1) := by decide +kernel
theorem dX8_readDifference_5 : decode cX8_readDifference 5 = .ok (.iconst 1, 1) := by decide +kernel
theorem dX8_readDifference_6 : decode cX8_readDifference 6 = .ok (.invokevirtual 50, 3) := by decide +kernel
theorem dX8_readDifference_9 : decode cX8_readDifference 9 = .ok (.lconst 1, 1) := by decide +kernel
theorem dX8_readDifference_10 : decode cX8_readDifference 10 = .ok (.lcmp, 1) := by decide +kernel
theorem dX8_readDifference_11 : decode cX8_readDifference 11 = .ok (.ifCond .ne 26, 3) := by decide +kernel
theorem dX8_readDifference_14 : decode cX8_readDifference 14 = .ok (.iload_n 2, 1) := by decide +kernel
theorem dX8_readDifference_15 : decode cX8_readDifference 15 = .ok (.bipush 32, 2) := by decide +kernel
theorem dX8_readDifference_17 : decode cX8_readDifference 17 = .ok (.if_icmp .ge 20, 3) := by decide +kernel
theorem dX8_readDifference_20 : decode cX8_readDifference 20 = .ok (.iload_n 1, 1) := by decide +kernel
theorem dX8_readDifference_21 : decode cX8_readDifference 21 = .ok (.aload_n 0, 1) := by decide +kernel
theorem dX8_readDifference_22 : decode cX8_readDifference 22 = .ok (.iconst 4, 1) := by decide +kernel
theorem dX8_readDifference_23 : decode cX8_readDifference 23 = .ok (.invokevirtual 50, 3) := by decide +kernel
theorem dX8_readDifference_26 : decode cX8_readDifference 26 = .ok (.l2i, 1) := by decide +kernel
theorem dX8_readDifference_27 : decode cX8_readDifference 27 = .ok (.iload_n 2, 1) := by decide +kernel
theorem dX8_readDifference_28 : decode cX8_readDifference 28 = .ok (.ishl, 1) := by decide +kernel
theorem dX8_readDifference_29 : decode cX8_readDifference 29 = .ok (.ior, 1) := by decide +kernel
theorem dX8_readDifference_30 : decode cX8_readDifference 30 = .ok (.istore_n 1, 1) := by decide +kernel
theorem dX8_readDifference_31 : decode cX8_readDifference 31 = .ok (.iinc 2 4, 3) := by decide +kernel
theorem dX8_readDifference_34 : decode cX8_readDifference 34 = .ok (.goto (-30), 3) := by decide +kernel
theorem dX8_readDifference_37 : decode cX8_readDifference 37 = .ok (.iload_n 1, 1) := by decide +kernel
theorem dX8_readDifference_38 : decode cX8_readDifference 38 = .ok (.iconst 1, 1) := by decide +kernel
theorem dX8_readDifference_39 : decode cX8_readDifference 39 = .ok (.iand, 1) := by decide +kernel
theorem dX8_readDifference_40 : decode cX8_readDifference 40 = .ok (.ifCond .ne 9, 3) := by decide +kernel
theorem dX8_readDifference_43 : decode cX8_readDifference 43 = .ok (.iload_n 1, 1) := by decide +kernel
theorem dX8_readDifference_44 : decode cX8_readDifference 44 = .ok (.iconst 1, 1) := by decide +kernel
theorem dX8_readDifference_45 : decode cX8_readDifference 45 = .ok (.iushr, 1) := by decide +kernel
theorem dX8_readDifference_46 : decode cX8_readDifference 46 = .ok (.goto 9, 3) := by decide +kernel
theorem dX8_readDifference_49 : decode cX8_readDifference 49 = .ok (.iload_n 1, 1) := by decide +kernel
theorem dX8_readDifference_50 : decode cX8_readDifference 50 = .ok (.iconst 1, 1) := by decide +kernel
theorem dX8_readDifference_51 : decode cX8_readDifference 51 = .ok (.iushr, 1) := by decide +kernel
theorem dX8_readDifference_52 : decode cX8_readDifference 52 = .ok (.ineg, 1) := by decide +kernel
theorem dX8_readDifference_53 : decode cX8_readDifference 53 = .ok (.iconst 1, 1) := by decide +kernel
theorem dX8_readDifference_54 : decode cX8_readDifference 54 = .ok (.isub, 1) := by decide +kernel
theorem dX8_readDifference_55 : decode cX8_readDifference 55 = .ok (.ireturn, 1) := by decide +kernel
theorem dX8_readBits_0 : decode cX8_readBits 0 = .ok (.aload_n 0, 1) := by decide +kernel
theorem dX8_readBits_1 : decode cX8_readBits 1 = .ok (.getfield 9, 3) := by decide +kernel
theorem dX8_readBits_4 : decode cX8_readBits 4 = .ok (.iconst 2, 1) := by decide +kernel
theorem dX8_readBits_5 : decode cX8_readBits 5 = .ok (.iadd, 1) := by decide +kernel
theorem dX8_readBits_6 : decode cX8_readBits 6 = .ok (.aload_n 0, 1) := by decide +kernel
theorem dX8_readBits_7 : decode cX8_readBits 7 = .ok (.getfield 15, 3) := by decide +kernel
theorem dX8_readBits_10 : decode cX8_readBits 10 = .ok (.bipush 32, 2) := by decide +kernel
theorem dX8_readBits_12 : decode cX8_readBits 12 = .ok (.idiv, 1) := by decide +kernel
theorem dX8_readBits_13 : decode cX8_readBits 13 = .ok (.iadd, 1) := by decide +kernel
theorem dX8_readBits_14 : decode cX8_readBits 14 = .ok (.istore_n 2, 1) := by decide +kernel
theorem dX8_readBits_15 : decode cX8_readBits 15 = .ok (.aload_n 0, 1) := by decide +kernel
theorem dX8_readBits_16 : decode cX8_readBits 16 = .ok (.getfield 32, 3) := by decide +kernel
theorem dX8_readBits_19 : decode cX8_readBits 19 = .ok (.iload_n 2, 1) := by decide +kernel
theorem dX8_readBits_20 : decode cX8_readBits 20 = .ok (.invokevirtual 36, 3) := by decide +kernel
theorem dX8_readBits_23 : decode cX8_readBits 23 = .ok (.i2l, 1) := by decide +kernel
theorem dX8_readBits_24 : decode cX8_readBits 24 = .ok (.bipush 32, 2) := by decide +kernel
theorem dX8_readBits_26 : decode cX8_readBits 26 = .ok (.lshl, 1) := by decide +kernel
theorem dX8_readBits_27 : decode cX8_readBits 27 = .ok (.aload_n 0, 1) := by decide +kernel
theorem dX8_readBits_28 : decode cX8_readBits 28 = .ok (.getfield 32, 3) := by decide +kernel
theorem dX8_readBits_31 : decode cX8_readBits 31 = .ok (.iload_n 2, 1) := by decide +kernel
theorem dX8_readBits_32 : decode cX8_readBits 32 = .ok (.iconst 1, 1) := by decide +kernel
theorem dX8_readBits_33 : decode cX8_readBits 33 = .ok (.iadd, 1) := by decide +kernel
theorem dX8_readBits_34 : decode cX8_readBits 34 = .ok (.invokevirtual 36, 3) := by decide +kernel
theorem dX8_readBits_37 : decode cX8_readBits 37 = .ok (.i2l, 1) := by decide +kernel
theorem dX8_readBits_38 : decode cX8_readBits 38 = .ok (.ldc2_w 62, 3) := by decide +kernel
theorem dX8_readBits_41 : decode cX8_readBits 41 = .ok (.land, 1) := by decide +kernel
theorem dX8_readBits_42 : decode cX8_readBits 42 = .ok (.lor, 1) := by decide +kernel
theorem dX8_readBits_43 : decode cX8_readBits 43 = .ok (.lstore_n 3, 1) := by decide +kernel
theorem dX8_readBits_44 : decode cX8_readBits 44 = .ok (.lload_n 3, 1) := by decide +kernel
theorem dX8_readBits_45 : decode cX8_readBits 45 = .ok (.aload_n 0, 1) := by decide +kernel
theorem dX8_readBits_46 : decode cX8_readBits 46 = .ok (.getfield 15, 3) := by decide +kernel
theorem dX8_readBits_49 : decode cX8_readBits 49 = .ok (.bipush 32, 2) := by decide +kernel
theorem dX8_readBits_51 : decode cX8_readBits 51 = .ok (.irem, 1) := by decide +kernel
theorem dX8_readBits_52 : decode cX8_readBits 52 = .ok (.lshl, 1) := by decide +kernel
theorem dX8_readBits_53 : decode cX8_readBits 53 = .ok (.lstore 5, 2) := by decide +kernel
theorem dX8_readBits_55 : decode cX8_readBits 55 = .ok (.aload_n 0, 1) := by decide +kernel
theorem dX8_readBits_56 : decode cX8_readBits 56 = .ok (.dup, 1) := by decide +kernel
theorem dX8_readBits_57 : decode cX8_readBits 57 = .ok (.getfield 15, 3) := by decide +kernel
theorem dX8_readBits_60 : decode cX8_readBits 60 = .ok (.iload_n 1, 1) := by decide +kernel
theorem dX8_readBits_61 : decode cX8_readBits 61 = .ok (.iadd, 1) := by decide +kernel
theorem dX8_readBits_62 : decode cX8_readBits 62 = .ok (.putfield 15, 3) := by decide +kernel
theorem dX8_readBits_65 : decode cX8_readBits 65 = .ok (.lload 5, 2) := by decide +kernel
theorem dX8_readBits_67 : decode cX8_readBits 67 = .ok (.bipush 64, 2) := by decide +kernel
theorem dX8_readBits_69 : decode cX8_readBits 69 = .ok (.iload_n 1, 1) := by decide +kernel
theorem dX8_readBits_70 : decode cX8_readBits 70 = .ok (.isub, 1) := by decide +kernel
theorem dX8_readBits_71 : decode cX8_readBits 71 = .ok (.lushr, 1) := by decide +kernel
theorem dX8_readBits_72 : decode cX8_readBits 72 = .ok (.lreturn, 1) := by decide +kernel
abbrev rm_X8_open : Room := { frames := 0, cells := 0, slots := 0, locals := 0 }
theorem hd_X8_open : yX8_open.cls = RX8 ∧ yX8_open.cls ≠ "java/lang/invoke/MethodHandle" ∧ yX8_open.cls ≠ "java/lang/invoke/VarHandle" ∧ (parseMethodDescriptor yX8_open.desc).map (fun d => d.parameters.length) = some 1 := by decide +kernel
set_option maxHeartbeats 4000000 in
set_option maxRecDepth 100000 in
theorem c_X8_open (l : Launch) (G : va_G) (cI cZ cJ : ClassId) (aU aD : Nat) (U_place : Int32) (U_bitsRead : Int32) (U_started : Int32) (U_time : Int32) (U_value : Int32) (U_rise : Int64) (p0 : Int32) {o_U_place : Int32} {o_U_bitsRead : Int32} {o_U_started : Int32} (hfin : m_X8_open U_place U_bitsRead U_started p0 = some (o_U_place, o_U_bitsRead, o_U_started)) : CT l yX8_open cX8_open 2 none rm_X8_open G (tyC cI cZ cJ) [.ref aU, .int p0] [oX8 aU aD U_place U_bitsRead U_started U_time U_value U_rise] none [oX8 aU aD o_U_place o_U_bitsRead o_U_started U_time U_value U_rise] := by
  refine CT.ofW (lvl := [(0, .ref aU), (1, .int p0)]) (by decide) (Nat.le_of_ble_eq_true rfl) rfl ?_
  intro p e s m args below meth c A ls0 QQ hQQ hx hb hml hr hlocks htc hN hown hK hA hw0 hl0
  rw [m_X8_open] at hfin
  refine lv_aload_n hx hb dX8_open_0 rfl (lv_at hl0 0 rfl) ?_
  refine lv_iload_n hx hb dX8_open_1 rfl (lv_at hl0 1 rfl) ?_
  refine va_put (D := G) (ci := 8) (v := .int p0) (ty := .int) (C := RX8) (T := TX8) (N := 7) hx hb htc iX8 tyX8 tyX8_ok nmX8 hown hK hw0.1 hw0.2.1 hw0.2.2 0 rfl rfl 1 (by decide) (htc _ mw_86) (fun _ h9 => h9) rfl (tyX8_ok 1 (by decide)) rfl rfl (Nat.le_of_ble_eq_true rfl) dX8_open_2 (fun H1 locs1 hP hD hS => ?_)
  have hw1 : wS G A s H1 locs1 [oX8 aU aD p0 U_bitsRead U_started U_time U_value U_rise] := ⟨hP, hD, hS⟩
  clear hP hD hS hw0
  refine lv_aload_n hx hb dX8_open_5 rfl (lv_at hl0 0 rfl) ?_
  refine lv_iconst (v := (0 : Int32)) hx hb dX8_open_6 (by decide) ?_
  refine va_put (D := G) (ci := 8) (v := .int (0 : Int32)) (ty := .int) (C := RX8) (T := TX8) (N := 7) hx hb htc iX8 tyX8 tyX8_ok nmX8 hown hK hw1.1 hw1.2.1 hw1.2.2 0 rfl rfl 2 (by decide) (htc _ mw_87) (fun _ h9 => h9) rfl (tyX8_ok 2 (by decide)) rfl rfl (Nat.le_of_ble_eq_true rfl) dX8_open_7 (fun H2 locs2 hP hD hS => ?_)
  have hw2 : wS G A s H2 locs2 [oX8 aU aD p0 (0 : Int32) U_started U_time U_value U_rise] := ⟨hP, hD, hS⟩
  clear hP hD hS hw1 H1 locs1
  refine lv_aload_n hx hb dX8_open_10 rfl (lv_at hl0 0 rfl) ?_
  refine lv_iconst (v := (0 : Int32)) hx hb dX8_open_11 (by decide) ?_
  refine va_put (D := G) (ci := 8) (v := .int (0 : Int32)) (ty := .boolean) (C := RX8) (T := TX8) (N := 7) hx hb htc iX8 tyX8 tyX8_ok nmX8 hown hK hw2.1 hw2.2.1 hw2.2.2 0 rfl rfl 3 (by decide) (htc _ mw_88) (fun _ h9 => h9) rfl (tyX8_ok 3 (by decide)) rfl rfl (Nat.le_of_ble_eq_true rfl) dX8_open_12 (fun H3 locs3 hP hD hS => ?_)
  have hw3 : wS G A s H3 locs3 [oX8 aU aD p0 (0 : Int32) (0 : Int32) U_time U_value U_rise] := ⟨hP, hD, hS⟩
  clear hP hD hS hw2 H2 locs2
  cases hfin
  rw [hQQ]
  exact ct_vret hx hb hr hlocks hw3.1 hw3.2.1 hw3.2.2 dX8_open_15
abbrev rm_X8_readBits : Room := { frames := 1, cells := 0, slots := 0, locals := 21 }
theorem hd_X8_readBits : yX8_readBits.cls = RX8 ∧ yX8_readBits.cls ≠ "java/lang/invoke/MethodHandle" ∧ yX8_readBits.cls ≠ "java/lang/invoke/VarHandle" ∧ (parseMethodDescriptor yX8_readBits.desc).map (fun d => d.parameters.length) = some 1 := by decide +kernel
set_option maxHeartbeats 4000000 in
set_option maxRecDepth 100000 in
theorem c_X8_readBits (l : Launch) (G : va_G) (cI cZ cJ : ClassId) (aD aDc aU : Nat) (D_writesDone : Int32) (D_writesLeft : Int32) (D_down : Int32) (D_cells : Nat → Int32) (U_place : Int32) (U_bitsRead : Int32) (U_started : Int32) (U_time : Int32) (U_value : Int32) (U_rise : Int64) (p0 : Int32) {r : Int64} {o_U_bitsRead : Int32} (hfin : m_X8_readBits D_cells U_place U_bitsRead p0 = some (r, o_U_bitsRead)) : CT l yX8_readBits cX8_readBits 7 (some .long) rm_X8_readBits G (tyC cI cZ cJ) [.ref aU, .int p0] [oX2 aD aDc D_writesDone D_writesLeft D_down, rI aDc cI 4096 D_cells, oX8 aU aD U_place U_bitsRead U_started U_time U_value U_rise] (some (.long r)) [oX2 aD aDc D_writesDone D_writesLeft D_down, rI aDc cI 4096 D_cells, oX8 aU aD U_place o_U_bitsRead U_started U_time U_value U_rise] := by
  refine CT.ofW (lvl := [(0, .ref aU), (1, .int p0)]) (by decide) (Nat.le_of_ble_eq_true rfl) rfl ?_
  intro p e s m args below meth c A ls0 QQ hQQ hx hb hml hr hlocks htc hN hown hK hA hw0 hl0
  rw [m_X8_readBits] at hfin
  refine lv_aload_n hx hb dX8_readBits_0 rfl (lv_at hl0 0 rfl) ?_
  refine va_get (D := G) (ci := 8) (v := .int U_place) (C := RX8) (T := TX8) (N := 7) hx hb htc iX8 hown hK hw0.1 2 rfl rfl 1 (by decide) (htc _ mw_86) (fun _ h9 => h9) rfl dX8_readBits_1 ?_
  refine lv_iconst (v := (2 : Int32)) hx hb dX8_readBits_4 (by decide) ?_
  refine lv_iadd hx hb dX8_readBits_5 ?_
  refine lv_aload_n hx hb dX8_readBits_6 rfl (lv_at hl0 0 rfl) ?_
  refine va_get (D := G) (ci := 8) (v := .int U_bitsRead) (C := RX8) (T := TX8) (N := 7) hx hb htc iX8 hown hK hw0.1 2 rfl rfl 2 (by decide) (htc _ mw_87) (fun _ h9 => h9) rfl dX8_readBits_7 ?_
  refine lv_bipush (v := (32 : Int32)) hx hb dX8_readBits_10 (by decide) ?_
  refine lv_idiv hx hb dX8_readBits_12 (by decide) ?_
  refine lv_iadd hx hb dX8_readBits_13 ?_
  refine lv_istore_n (lv' := [(2, .int ((U_place + (2 : Int32)) + (U_bitsRead / (32 : Int32)))), (0, .ref aU), (1, .int p0)]) hx hb dX8_readBits_14 rfl hl0 (by decide) rfl (fun ls1 hl1 => ?_)
  clear hl0 ls0
  refine lv_aload_n hx hb dX8_readBits_15 rfl (lv_at hl1 1 rfl) ?_
  refine va_get (D := G) (ci := 8) (v := .ref aD) (C := RX8) (T := TX8) (N := 7) hx hb htc iX8 hown hK hw0.1 2 rfl rfl 0 (by decide) (htc _ mw_85) (fun _ h9 => h9) rfl dX8_readBits_16 ?_
  refine lv_iload_n hx hb dX8_readBits_19 rfl (lv_at hl1 0 rfl) ?_
  replace hfin := ob1_some hfin
  obtain ⟨r_3, hE_2, hfin⟩ := hfin
  refine ctV (a := aD) (As := [.int ((U_place + (2 : Int32)) + (U_bitsRead / (32 : Int32)))]) (rest := []) (st1 := [.int r_3]) (wc := [oX2 aD aDc D_writesDone D_writesLeft D_down, rI aDc cI 4096 D_cells]) (w1 := [oX2 aD aDc D_writesDone D_writesLeft D_down, rI aDc cI 4096 D_cells]) (wr := [oX8 aU aD U_place U_bitsRead U_started U_time U_value U_rise]) (wb := [oX2 aD aDc D_writesDone D_writesLeft D_down, rI aDc cI 4096 D_cells, oX8 aU aD U_place U_bitsRead U_started U_time U_value U_rise]) (v := (some (.int r_3))) hx hb hml hown htc hN (c_X2_read l G cI cZ cJ aD aDc D_writesDone D_writesLeft D_down D_cells ((U_place + (2 : Int32)) + (U_bitsRead / (32 : Int32))) hE_2) mw_583 mw_366 mw_367 mw_3 mw_368 hd_X2_read ⟨rfl, rfl⟩ ⟨Nat.le_of_ble_eq_true rfl, Nat.le_of_ble_eq_true rfl⟩ hK hw0 hA [0, 1] [2] [1, 2, 0] rfl rfl rfl rfl rfl (by decide) rfl rfl rfl 0 rfl rfl rfl rfl hl1.1 rfl rfl (Nat.le_of_ble_eq_true rfl) dX8_readBits_20 ⟨Nat.zero_le _, Nat.zero_le _⟩ (fun H4 locs4 hw4 => ?_)
  clear hw0
  refine lv_i2l hx hb dX8_readBits_23 rfl ?_
  refine lv_bipush (v := (32 : Int32)) hx hb dX8_readBits_24 (by decide) ?_
  refine lv_lshl hx hb dX8_readBits_26 rfl ?_
  refine lv_aload_n hx hb dX8_readBits_27 rfl (lv_at hl1 1 rfl) ?_
  refine va_get (D := G) (ci := 8) (v := .ref aD) (C := RX8) (T := TX8) (N := 7) hx hb htc iX8 hown hK hw4.1 2 rfl rfl 0 (by decide) (htc _ mw_85) (fun _ h9 => h9) rfl dX8_readBits_28 ?_
  refine lv_iload_n hx hb dX8_readBits_31 rfl (lv_at hl1 0 rfl) ?_
  refine lv_iconst (v := (1 : Int32)) hx hb dX8_readBits_32 (by decide) ?_
  refine lv_iadd hx hb dX8_readBits_33 ?_
  replace hfin := ob1_some hfin
  obtain ⟨r_6, hE_5, hfin⟩ := hfin
  refine ctV (a := aD) (As := [.int (((U_place + (2 : Int32)) + (U_bitsRead / (32 : Int32))) + (1 : Int32))]) (rest := [.long ((Int32.toInt64 r_3) <<< (Int32.toInt64 (32 : Int32) &&& 63))]) (st1 := [.int r_6, .long ((Int32.toInt64 r_3) <<< (Int32.toInt64 (32 : Int32) &&& 63))]) (wc := [oX2 aD aDc D_writesDone D_writesLeft D_down, rI aDc cI 4096 D_cells]) (w1 := [oX2 aD aDc D_writesDone D_writesLeft D_down, rI aDc cI 4096 D_cells]) (wr := [oX8 aU aD U_place U_bitsRead U_started U_time U_value U_rise]) (wb := [oX2 aD aDc D_writesDone D_writesLeft D_down, rI aDc cI 4096 D_cells, oX8 aU aD U_place U_bitsRead U_started U_time U_value U_rise]) (v := (some (.int r_6))) hx hb hml hown htc hN (c_X2_read l G cI cZ cJ aD aDc D_writesDone D_writesLeft D_down D_cells (((U_place + (2 : Int32)) + (U_bitsRead / (32 : Int32))) + (1 : Int32)) hE_5) mw_583 mw_366 mw_367 mw_3 mw_368 hd_X2_read ⟨rfl, rfl⟩ ⟨Nat.le_of_ble_eq_true rfl, Nat.le_of_ble_eq_true rfl⟩ hK hw4 hA [0, 1] [2] [1, 2, 0] rfl rfl rfl rfl rfl (by decide) rfl rfl rfl 0 rfl rfl rfl rfl hl1.1 rfl rfl (Nat.le_of_ble_eq_true rfl) dX8_readBits_34 ⟨Nat.zero_le _, Nat.zero_le _⟩ (fun H7 locs7 hw7 => ?_)
  clear hw4 H4 locs4
  refine lv_i2l hx hb dX8_readBits_37 rfl ?_
  refine lv_ldc2 (v := (4294967295 : Int64)) hx hb hown (htc _ mw_592) dX8_readBits_38 ?_
  refine lv_land hx hb dX8_readBits_41 ?_
  refine lv_lor hx hb dX8_readBits_42 ?_
  refine lv_lstore_n (lv' := [(3, .long (((Int32.toInt64 r_3) <<< (Int32.toInt64 (32 : Int32) &&& 63)) ||| ((Int32.toInt64 r_6) &&& (4294967295 : Int64)))), (2, .int ((U_place + (2 : Int32)) + (U_bitsRead / (32 : Int32)))), (0, .ref aU), (1, .int p0)]) hx hb dX8_readBits_43 rfl hl1 (by decide) rfl (fun ls8 hl8 => ?_)
  clear hl1 ls1
  refine lv_lload_n hx hb dX8_readBits_44 rfl (lv_at hl8 0 rfl) ?_
  refine lv_aload_n hx hb dX8_readBits_45 rfl (lv_at hl8 2 rfl) ?_
  refine va_get (D := G) (ci := 8) (v := .int U_bitsRead) (C := RX8) (T := TX8) (N := 7) hx hb htc iX8 hown hK hw7.1 2 rfl rfl 2 (by decide) (htc _ mw_87) (fun _ h9 => h9) rfl dX8_readBits_46 ?_
  refine lv_bipush (v := (32 : Int32)) hx hb dX8_readBits_49 (by decide) ?_
  refine lv_irem hx hb dX8_readBits_51 (by decide) ?_
  refine lv_lshl hx hb dX8_readBits_52 rfl ?_
  refine lv_lstore (lv' := [(5, .long ((((Int32.toInt64 r_3) <<< (Int32.toInt64 (32 : Int32) &&& 63)) ||| ((Int32.toInt64 r_6) &&& (4294967295 : Int64))) <<< (Int32.toInt64 (U_bitsRead - U_bitsRead / (32 : Int32) * (32 : Int32)) &&& 63))), (3, .long (((Int32.toInt64 r_3) <<< (Int32.toInt64 (32 : Int32) &&& 63)) ||| ((Int32.toInt64 r_6) &&& (4294967295 : Int64)))), (2, .int ((U_place + (2 : Int32)) + (U_bitsRead / (32 : Int32)))), (0, .ref aU), (1, .int p0)]) hx hb dX8_readBits_53 hl8 (by decide) rfl (fun ls9 hl9 => ?_)
  clear hl8 ls8
  refine lv_aload_n hx hb dX8_readBits_55 rfl (lv_at hl9 3 rfl) ?_
  refine lv_dup hx hb dX8_readBits_56 rfl ?_
  refine va_get (D := G) (ci := 8) (v := .int U_bitsRead) (C := RX8) (T := TX8) (N := 7) hx hb htc iX8 hown hK hw7.1 2 rfl rfl 2 (by decide) (htc _ mw_87) (fun _ h9 => h9) rfl dX8_readBits_57 ?_
  refine lv_iload_n hx hb dX8_readBits_60 rfl (lv_at hl9 4 rfl) ?_
  refine lv_iadd hx hb dX8_readBits_61 ?_
  refine va_put (D := G) (ci := 8) (v := .int (U_bitsRead + p0)) (ty := .int) (C := RX8) (T := TX8) (N := 7) hx hb htc iX8 tyX8 tyX8_ok nmX8 hown hK hw7.1 hw7.2.1 hw7.2.2 2 rfl rfl 2 (by decide) (htc _ mw_87) (fun _ h9 => h9) rfl (tyX8_ok 2 (by decide)) rfl rfl (Nat.le_of_ble_eq_true rfl) dX8_readBits_62 (fun H10 locs10 hP hD hS => ?_)
  have hw10 : wS G A s H10 locs10 [oX2 aD aDc D_writesDone D_writesLeft D_down, rI aDc cI 4096 D_cells, oX8 aU aD U_place (U_bitsRead + p0) U_started U_time U_value U_rise] := ⟨hP, hD, hS⟩
  clear hP hD hS hw7 H7 locs7
  refine lv_lload hx hb dX8_readBits_65 (lv_at hl9 0 rfl) ?_
  refine lv_bipush (v := (64 : Int32)) hx hb dX8_readBits_67 (by decide) ?_
  refine lv_iload_n hx hb dX8_readBits_69 rfl (lv_at hl9 4 rfl) ?_
  refine lv_isub hx hb dX8_readBits_70 ?_
  refine lv_lushr hx hb dX8_readBits_71 rfl ?_
  cases hfin
  rw [hQQ]
  exact ct_lret hx hb hr hlocks hw10.1 hw10.2.1 hw10.2.2 dX8_readBits_72
abbrev rm_X8_readChange : Room := { frames := 2, cells := 0, slots := 0, locals := 47 }
theorem hd_X8_readChange : yX8_readChange.cls = RX8 ∧ yX8_readChange.cls ≠ "java/lang/invoke/MethodHandle" ∧ yX8_readChange.cls ≠ "java/lang/invoke/VarHandle" ∧ (parseMethodDescriptor yX8_readChange.desc).map (fun d => d.parameters.length) = some 0 := by decide +kernel
set_option maxHeartbeats 4000000 in
set_option maxRecDepth 100000 in
theorem c_X8_readChange (l : Launch) (G : va_G) (cI cZ cJ : ClassId) (aD aDc aU : Nat) (D_writesDone : Int32) (D_writesLeft : Int32) (D_down : Int32) (D_cells : Nat → Int32) (U_place : Int32) (U_bitsRead : Int32) (U_started : Int32) (U_time : Int32) (U_value : Int32) (U_rise : Int64)  {r : Int64} {o_U_bitsRead : Int32} (hfin : m_X8_readChange D_cells U_place U_bitsRead = some (r, o_U_bitsRead)) : CT l yX8_readChange cX8_readChange 4 (some .long) rm_X8_readChange G (tyC cI cZ cJ) [.ref aU] [oX2 aD aDc D_writesDone D_writesLeft D_down, rI aDc cI 4096 D_cells, oX8 aU aD U_place U_bitsRead U_started U_time U_value U_rise] (some (.long r)) [oX2 aD aDc D_writesDone D_writesLeft D_down, rI aDc cI 4096 D_cells, oX8 aU aD U_place o_U_bitsRead U_started U_time U_value U_rise] := by
  refine CT.ofW (lvl := [(0, .ref aU)]) (by decide) (Nat.le_of_ble_eq_true rfl) rfl ?_
  intro p e s m args below meth c A ls0 QQ hQQ hx hb hml hr hlocks htc hN hown hK hA hw0 hl0
  rw [m_X8_readChange] at hfin
  refine lv_iconst (v := (0 : Int32)) hx hb dX8_readChange_0 (by decide) ?_
  refine lv_istore_n (lv' := [(1, .int (0 : Int32)), (0, .ref aU)]) hx hb dX8_readChange_1 rfl hl0 (by decide) rfl (fun ls1 hl1 => ?_)
  clear hl0 ls0
  replace hfin := ob2_some hfin
  obtain ⟨v1_8, U_bitsRead_9, hL_4, hfin⟩ := hfin
  have kx_5 : ∀ (H : Heap) (locs : List Loc) (ls : Array Slot), wS G A s H locs [oX2 aD aDc D_writesDone D_writesLeft D_down, rI aDc cI 4096 D_cells, oX8 aU aD U_place U_bitsRead_9 U_started U_time U_value U_rise] → lv_has ls 4 [(0, .ref aU), (1, .int v1_8)] → W p l e rm_X8_readChange s m args below meth c H locs 0 0 QQ (F0 m 23 ls []) := by
    clear hw0 hl1 ls1 hL_4
    intro H18 locs18 ls18 hw18 hl18
    refine lv_iload_n hx hb dX8_readChange_23 rfl (lv_at hl18 1 rfl) ?_
    by_cases c_19 : v1_8 = (0 : Int32)
    · replace hfin := it_t c_19 hfin
      refine lv_tableIn (tgt := 56) hx hb dX8_readChange_24 (by rw [c_19]; decide) (by rw [c_19]; decide) (by rw [c_19]; rfl) (by decide) ?_
      refine lv_lconst (v := (0 : Int64)) hx hb dX8_readChange_56 (by decide) ?_
      cases hfin
      rw [hQQ]
      exact ct_lret hx hb hr hlocks hw18.1 hw18.2.1 hw18.2.2 dX8_readChange_57
    · replace hfin := it_f c_19 hfin
      by_cases c_20 : v1_8 = (1 : Int32)
      · replace hfin := it_t c_20 hfin
        refine lv_tableIn (tgt := 58) hx hb dX8_readChange_24 (by rw [c_20]; decide) (by rw [c_20]; decide) (by rw [c_20]; rfl) (by decide) ?_
        refine lv_aload_n hx hb dX8_readChange_58 rfl (lv_at hl18 0 rfl) ?_
        refine lv_bipush (v := (7 : Int32)) hx hb dX8_readChange_59 (by decide) ?_
        replace hfin := ob2_some hfin
        obtain ⟨r_22, U_bitsRead_23, hE_21, hfin⟩ := hfin
        refine ctV (a := aU) (As := [.int (7 : Int32)]) (rest := []) (st1 := [.long r_22]) (wc := [oX2 aD aDc D_writesDone D_writesLeft D_down, rI aDc cI 4096 D_cells, oX8 aU aD U_place U_bitsRead_9 U_started U_time U_value U_rise]) (w1 := [oX2 aD aDc D_writesDone D_writesLeft D_down, rI aDc cI 4096 D_cells, oX8 aU aD U_place U_bitsRead_23 U_started U_time U_value U_rise]) (wr := []) (wb := [oX2 aD aDc D_writesDone D_writesLeft D_down, rI aDc cI 4096 D_cells, oX8 aU aD U_place U_bitsRead_23 U_started U_time U_value U_rise]) (v := (some (.long r_22))) hx hb hml hown htc hN (c_X8_readBits l G cI cZ cJ aD aDc aU D_writesDone D_writesLeft D_down D_cells U_place U_bitsRead_9 U_started U_time U_value U_rise (7 : Int32) hE_21) mw_588 mw_590 mp_19 mw_6 mw_591 hd_X8_readBits ⟨rfl, rfl⟩ ⟨Nat.le_of_ble_eq_true rfl, Nat.le_of_ble_eq_true rfl⟩ hK hw18 hA [0, 1, 2] [] [0, 1, 2] rfl rfl rfl rfl rfl (by decide) rfl rfl rfl 2 rfl rfl rfl rfl hl18.1 rfl rfl (Nat.le_of_ble_eq_true rfl) dX8_readChange_61 ⟨Nat.zero_le _, Nat.zero_le _⟩ (fun H24 locs24 hw24 => ?_)
        clear hw18 H18 locs18
        refine lv_ldc2 (v := (64 : Int64)) hx hb hown (htc _ mw_593) dX8_readChange_64 ?_
        refine lv_lsub hx hb dX8_readChange_67 ?_
        cases hfin
        rw [hQQ]
        exact ct_lret hx hb hr hlocks hw24.1 hw24.2.1 hw24.2.2 dX8_readChange_68
      · replace hfin := it_f c_20 hfin
        by_cases c_25 : v1_8 = (2 : Int32)
        · replace hfin := it_t c_25 hfin
          refine lv_tableIn (tgt := 69) hx hb dX8_readChange_24 (by rw [c_25]; decide) (by rw [c_25]; decide) (by rw [c_25]; rfl) (by decide) ?_
          refine lv_aload_n hx hb dX8_readChange_69 rfl (lv_at hl18 0 rfl) ?_
          refine lv_bipush (v := (9 : Int32)) hx hb dX8_readChange_70 (by decide) ?_
          replace hfin := ob2_some hfin
          obtain ⟨r_27, U_bitsRead_28, hE_26, hfin⟩ := hfin
          refine ctV (a := aU) (As := [.int (9 : Int32)]) (rest := []) (st1 := [.long r_27]) (wc := [oX2 aD aDc D_writesDone D_writesLeft D_down, rI aDc cI 4096 D_cells, oX8 aU aD U_place U_bitsRead_9 U_started U_time U_value U_rise]) (w1 := [oX2 aD aDc D_writesDone D_writesLeft D_down, rI aDc cI 4096 D_cells, oX8 aU aD U_place U_bitsRead_28 U_started U_time U_value U_rise]) (wr := []) (wb := [oX2 aD aDc D_writesDone D_writesLeft D_down, rI aDc cI 4096 D_cells, oX8 aU aD U_place U_bitsRead_28 U_started U_time U_value U_rise]) (v := (some (.long r_27))) hx hb hml hown htc hN (c_X8_readBits l G cI cZ cJ aD aDc aU D_writesDone D_writesLeft D_down D_cells U_place U_bitsRead_9 U_started U_time U_value U_rise (9 : Int32) hE_26) mw_588 mw_590 mp_19 mw_6 mw_591 hd_X8_readBits ⟨rfl, rfl⟩ ⟨Nat.le_of_ble_eq_true rfl, Nat.le_of_ble_eq_true rfl⟩ hK hw18 hA [0, 1, 2] [] [0, 1, 2] rfl rfl rfl rfl rfl (by decide) rfl rfl rfl 2 rfl rfl rfl rfl hl18.1 rfl rfl (Nat.le_of_ble_eq_true rfl) dX8_readChange_72 ⟨Nat.zero_le _, Nat.zero_le _⟩ (fun H29 locs29 hw29 => ?_)
          clear hw18 H18 locs18
          refine lv_ldc2 (v := (256 : Int64)) hx hb hown (htc _ mw_594) dX8_readChange_75 ?_
          refine lv_lsub hx hb dX8_readChange_78 ?_
          cases hfin
          rw [hQQ]
          exact ct_lret hx hb hr hlocks hw29.1 hw29.2.1 hw29.2.2 dX8_readChange_79
        · replace hfin := it_f c_25 hfin
          by_cases c_30 : v1_8 = (3 : Int32)
          · replace hfin := it_t c_30 hfin
            refine lv_tableIn (tgt := 80) hx hb dX8_readChange_24 (by rw [c_30]; decide) (by rw [c_30]; decide) (by rw [c_30]; rfl) (by decide) ?_
            refine lv_aload_n hx hb dX8_readChange_80 rfl (lv_at hl18 0 rfl) ?_
            refine lv_bipush (v := (12 : Int32)) hx hb dX8_readChange_81 (by decide) ?_
            replace hfin := ob2_some hfin
            obtain ⟨r_32, U_bitsRead_33, hE_31, hfin⟩ := hfin
            refine ctV (a := aU) (As := [.int (12 : Int32)]) (rest := []) (st1 := [.long r_32]) (wc := [oX2 aD aDc D_writesDone D_writesLeft D_down, rI aDc cI 4096 D_cells, oX8 aU aD U_place U_bitsRead_9 U_started U_time U_value U_rise]) (w1 := [oX2 aD aDc D_writesDone D_writesLeft D_down, rI aDc cI 4096 D_cells, oX8 aU aD U_place U_bitsRead_33 U_started U_time U_value U_rise]) (wr := []) (wb := [oX2 aD aDc D_writesDone D_writesLeft D_down, rI aDc cI 4096 D_cells, oX8 aU aD U_place U_bitsRead_33 U_started U_time U_value U_rise]) (v := (some (.long r_32))) hx hb hml hown htc hN (c_X8_readBits l G cI cZ cJ aD aDc aU D_writesDone D_writesLeft D_down D_cells U_place U_bitsRead_9 U_started U_time U_value U_rise (12 : Int32) hE_31) mw_588 mw_590 mp_19 mw_6 mw_591 hd_X8_readBits ⟨rfl, rfl⟩ ⟨Nat.le_of_ble_eq_true rfl, Nat.le_of_ble_eq_true rfl⟩ hK hw18 hA [0, 1, 2] [] [0, 1, 2] rfl rfl rfl rfl rfl (by decide) rfl rfl rfl 2 rfl rfl rfl rfl hl18.1 rfl rfl (Nat.le_of_ble_eq_true rfl) dX8_readChange_83 ⟨Nat.zero_le _, Nat.zero_le _⟩ (fun H34 locs34 hw34 => ?_)
            clear hw18 H18 locs18
            refine lv_ldc2 (v := (2048 : Int64)) hx hb hown (htc _ mw_595) dX8_readChange_86 ?_
            refine lv_lsub hx hb dX8_readChange_89 ?_
            cases hfin
            rw [hQQ]
            exact ct_lret hx hb hr hlocks hw34.1 hw34.2.1 hw34.2.2 dX8_readChange_90
          · replace hfin := it_f c_30 hfin
            refine lv_tableOut (tgt := 91) hx hb dX8_readChange_24 (sw_out3 c_19 c_20 c_25 c_30) (by decide) ?_
            refine lv_aload_n hx hb dX8_readChange_91 rfl (lv_at hl18 0 rfl) ?_
            refine lv_iconst (v := (2 : Int32)) hx hb dX8_readChange_92 (by decide) ?_
            replace hfin := ob2_some hfin
            obtain ⟨r_36, U_bitsRead_37, hE_35, hfin⟩ := hfin
            refine ctV (a := aU) (As := [.int (2 : Int32)]) (rest := []) (st1 := [.long r_36]) (wc := [oX2 aD aDc D_writesDone D_writesLeft D_down, rI aDc cI 4096 D_cells, oX8 aU aD U_place U_bitsRead_9 U_started U_time U_value U_rise]) (w1 := [oX2 aD aDc D_writesDone D_writesLeft D_down, rI aDc cI 4096 D_cells, oX8 aU aD U_place U_bitsRead_37 U_started U_time U_value U_rise]) (wr := []) (wb := [oX2 aD aDc D_writesDone D_writesLeft D_down, rI aDc cI 4096 D_cells, oX8 aU aD U_place U_bitsRead_37 U_started U_time U_value U_rise]) (v := (some (.long r_36))) hx hb hml hown htc hN (c_X8_readBits l G cI cZ cJ aD aDc aU D_writesDone D_writesLeft D_down D_cells U_place U_bitsRead_9 U_started U_time U_value U_rise (2 : Int32) hE_35) mw_588 mw_590 mp_19 mw_6 mw_591 hd_X8_readBits ⟨rfl, rfl⟩ ⟨Nat.le_of_ble_eq_true rfl, Nat.le_of_ble_eq_true rfl⟩ hK hw18 hA [0, 1, 2] [] [0, 1, 2] rfl rfl rfl rfl rfl (by decide) rfl rfl rfl 2 rfl rfl rfl rfl hl18.1 rfl rfl (Nat.le_of_ble_eq_true rfl) dX8_readChange_93 ⟨Nat.zero_le _, Nat.zero_le _⟩ (fun H38 locs38 hw38 => ?_)
            clear hw18 H18 locs18
            refine lv_lstore_n (lv' := [(2, .long r_36), (0, .ref aU), (1, .int v1_8)]) hx hb dX8_readChange_96 rfl hl18 (by decide) rfl (fun ls39 hl39 => ?_)
            clear hl18 ls18
            refine lv_lload_n hx hb dX8_readChange_97 rfl (lv_at hl39 0 rfl) ?_
            refine lv_bipush (v := (32 : Int32)) hx hb dX8_readChange_98 (by decide) ?_
            refine lv_lshl hx hb dX8_readChange_100 rfl ?_
            refine lv_aload_n hx hb dX8_readChange_101 rfl (lv_at hl39 1 rfl) ?_
            refine lv_bipush (v := (32 : Int32)) hx hb dX8_readChange_102 (by decide) ?_
            replace hfin := ob2_some hfin
            obtain ⟨r_41, U_bitsRead_42, hE_40, hfin⟩ := hfin
            refine ctV (a := aU) (As := [.int (32 : Int32)]) (rest := [.long (r_36 <<< (Int32.toInt64 (32 : Int32) &&& 63))]) (st1 := [.long r_41, .long (r_36 <<< (Int32.toInt64 (32 : Int32) &&& 63))]) (wc := [oX2 aD aDc D_writesDone D_writesLeft D_down, rI aDc cI 4096 D_cells, oX8 aU aD U_place U_bitsRead_37 U_started U_time U_value U_rise]) (w1 := [oX2 aD aDc D_writesDone D_writesLeft D_down, rI aDc cI 4096 D_cells, oX8 aU aD U_place U_bitsRead_42 U_started U_time U_value U_rise]) (wr := []) (wb := [oX2 aD aDc D_writesDone D_writesLeft D_down, rI aDc cI 4096 D_cells, oX8 aU aD U_place U_bitsRead_42 U_started U_time U_value U_rise]) (v := (some (.long r_41))) hx hb hml hown htc hN (c_X8_readBits l G cI cZ cJ aD aDc aU D_writesDone D_writesLeft D_down D_cells U_place U_bitsRead_37 U_started U_time U_value U_rise (32 : Int32) hE_40) mw_588 mw_590 mp_19 mw_6 mw_591 hd_X8_readBits ⟨rfl, rfl⟩ ⟨Nat.le_of_ble_eq_true rfl, Nat.le_of_ble_eq_true rfl⟩ hK hw38 hA [0, 1, 2] [] [0, 1, 2] rfl rfl rfl rfl rfl (by decide) rfl rfl rfl 2 rfl rfl rfl rfl hl39.1 rfl rfl (Nat.le_of_ble_eq_true rfl) dX8_readChange_104 ⟨Nat.zero_le _, Nat.zero_le _⟩ (fun H43 locs43 hw43 => ?_)
            clear hw38 H38 locs38
            refine lv_lor hx hb dX8_readChange_107 ?_
            refine lv_ldc2 (v := (8589934592 : Int64)) hx hb hown (htc _ mw_596) dX8_readChange_108 ?_
            refine lv_lsub hx hb dX8_readChange_111 ?_
            cases hfin
            rw [hQQ]
            exact ct_lret hx hb hr hlocks hw43.1 hw43.2.1 hw43.2.2 dX8_readChange_112
  have lp_6 : ∀ (n : Nat) (v1_2 : Int32) (U_bitsRead_3 : Int32), lp_X8_readChange_2 D_cells U_place n v1_2 U_bitsRead_3 = some (v1_8, U_bitsRead_9) → ∀ (H : Heap) (locs : List Loc) (ls : Array Slot), wS G A s H locs [oX2 aD aDc D_writesDone D_writesLeft D_down, rI aDc cI 4096 D_cells, oX8 aU aD U_place U_bitsRead_3 U_started U_time U_value U_rise] → lv_has ls 4 [(0, .ref aU), (1, .int v1_2)] → W p l e rm_X8_readChange s m args below meth c H locs 0 0 QQ (F0 m 2 ls []) := by
    clear hw0 hl1 ls1 hfin
    intro n
    induction n with
    | zero =>
      intro v1_2 U_bitsRead_3 hB_7
      exact absurd hB_7 (by rw [lp_X8_readChange_2]; exact fun h9 => nomatch h9)
    | succ n ih =>
      intro v1_2 U_bitsRead_3 hB_7 H10 locs10 ls10 hw10 hl10
      rw [lp_X8_readChange_2] at hB_7
      refine lv_iload_n hx hb dX8_readChange_2 rfl (lv_at hl10 1 rfl) ?_
      refine lv_iconst (v := (4 : Int32)) hx hb dX8_readChange_3 (by decide) ?_
      refine lv_icmp_ge (tgt := 23) hx hb dX8_readChange_4 (by decide) (fun c_11 => ?_) (fun c_11 => ?_)
      · replace hB_7 := it_t c_11 hB_7
        cases hB_7
        exact kx_5 _ _ _ hw10 (lv_sub hl10 [0, 1] rfl)
      · replace hB_7 := it_f c_11 hB_7
        refine lv_aload_n hx hb dX8_readChange_7 rfl (lv_at hl10 0 rfl) ?_
        refine lv_iconst (v := (1 : Int32)) hx hb dX8_readChange_8 (by decide) ?_
        replace hB_7 := ob2_some hB_7
        obtain ⟨r_13, U_bitsRead_14, hE_12, hB_7⟩ := hB_7
        refine ctV (a := aU) (As := [.int (1 : Int32)]) (rest := []) (st1 := [.long r_13]) (wc := [oX2 aD aDc D_writesDone D_writesLeft D_down, rI aDc cI 4096 D_cells, oX8 aU aD U_place U_bitsRead_3 U_started U_time U_value U_rise]) (w1 := [oX2 aD aDc D_writesDone D_writesLeft D_down, rI aDc cI 4096 D_cells, oX8 aU aD U_place U_bitsRead_14 U_started U_time U_value U_rise]) (wr := []) (wb := [oX2 aD aDc D_writesDone D_writesLeft D_down, rI aDc cI 4096 D_cells, oX8 aU aD U_place U_bitsRead_14 U_started U_time U_value U_rise]) (v := (some (.long r_13))) hx hb hml hown htc hN (c_X8_readBits l G cI cZ cJ aD aDc aU D_writesDone D_writesLeft D_down D_cells U_place U_bitsRead_3 U_started U_time U_value U_rise (1 : Int32) hE_12) mw_588 mw_590 mp_19 mw_6 mw_591 hd_X8_readBits ⟨rfl, rfl⟩ ⟨Nat.le_of_ble_eq_true rfl, Nat.le_of_ble_eq_true rfl⟩ hK hw10 hA [0, 1, 2] [] [0, 1, 2] rfl rfl rfl rfl rfl (by decide) rfl rfl rfl 2 rfl rfl rfl rfl hl10.1 rfl rfl (Nat.le_of_ble_eq_true rfl) dX8_readChange_9 ⟨Nat.zero_le _, Nat.zero_le _⟩ (fun H15 locs15 hw15 => ?_)
        clear hw10 H10 locs10
        refine lv_lconst (v := (1 : Int64)) hx hb dX8_readChange_12 (by decide) ?_
        refine W.lcmp hx hb dX8_readChange_13 ?_
        refine lv_if_ne (tgt := 23) hx hb dX8_readChange_14 (by decide) (fun c_16 => ?_) (fun c_16 => ?_)
        · replace hB_7 := it_f c_16 hB_7
          cases hB_7
          exact kx_5 _ _ _ hw15 (lv_sub hl10 [0, 1] rfl)
        · replace hB_7 := it_t c_16 hB_7
          refine lv_iinc (v := (v1_2 + (1 : Int32))) (lv' := [(1, .int (v1_2 + (1 : Int32))), (0, .ref aU)]) hx hb dX8_readChange_17 hl10 (k := 1) rfl rfl (by decide) rfl (fun ls17 hl17 => ?_)
          clear hl10 ls10
          refine lv_goto (tgt := 2) hx hb dX8_readChange_20 (by decide) ?_
          exact ih (v1_2 + (1 : Int32)) U_bitsRead_14 hB_7 _ _ _ hw15 (lv_sub hl17 [1, 0] rfl)
  exact lp_6 NN (0 : Int32) U_bitsRead hL_4 _ _ _ hw0 (lv_sub hl1 [1, 0] rfl)
abbrev rm_X8_readDifference : Room := { frames := 2, cells := 0, slots := 0, locals := 47 }
theorem hd_X8_readDifference : yX8_readDifference.cls = RX8 ∧ yX8_readDifference.cls ≠ "java/lang/invoke/MethodHandle" ∧ yX8_readDifference.cls ≠ "java/lang/invoke/VarHandle" ∧ (parseMethodDescriptor yX8_readDifference.desc).map (fun d => d.parameters.length) = some 0 := by decide +kernel
set_option maxHeartbeats 4000000 in
set_option maxRecDepth 100000 in
theorem c_X8_readDifference (l : Launch) (G : va_G) (cI cZ cJ : ClassId) (aD aDc aU : Nat) (D_writesDone : Int32) (D_writesLeft : Int32) (D_down : Int32) (D_cells : Nat → Int32) (U_place : Int32) (U_bitsRead : Int32) (U_started : Int32) (U_time : Int32) (U_value : Int32) (U_rise : Int64)  {r : Int32} {o_U_bitsRead : Int32} (hfin : m_X8_readDifference D_cells U_place U_bitsRead = some (r, o_U_bitsRead)) : CT l yX8_readDifference cX8_readDifference 3 (some .int) rm_X8_readDifference G (tyC cI cZ cJ) [.ref aU] [oX2 aD aDc D_writesDone D_writesLeft D_down, rI aDc cI 4096 D_cells, oX8 aU aD U_place U_bitsRead U_started U_time U_value U_rise] (some (.int r)) [oX2 aD aDc D_writesDone D_writesLeft D_down, rI aDc cI 4096 D_cells, oX8 aU aD U_place o_U_bitsRead U_started U_time U_value U_rise] := by
  refine CT.ofW (lvl := [(0, .ref aU)]) (by decide) (Nat.le_of_ble_eq_true rfl) rfl ?_
  intro p e s m args below meth c A ls0 QQ hQQ hx hb hml hr hlocks htc hN hown hK hA hw0 hl0
  rw [m_X8_readDifference] at hfin
  refine lv_iconst (v := (0 : Int32)) hx hb dX8_readDifference_0 (by decide) ?_
  refine lv_istore_n (lv' := [(1, .int (0 : Int32)), (0, .ref aU)]) hx hb dX8_readDifference_1 rfl hl0 (by decide) rfl (fun ls1 hl1 => ?_)
  clear hl0 ls0
  refine lv_iconst (v := (0 : Int32)) hx hb dX8_readDifference_2 (by decide) ?_
  refine lv_istore_n (lv' := [(2, .int (0 : Int32)), (1, .int (0 : Int32)), (0, .ref aU)]) hx hb dX8_readDifference_3 rfl hl1 (by decide) rfl (fun ls2 hl2 => ?_)
  clear hl1 ls1
  replace hfin := ob2_some hfin
  obtain ⟨v1_10, U_bitsRead_11, hL_6, hfin⟩ := hfin
  have kx_7 : ∀ (H : Heap) (locs : List Loc) (ls : Array Slot), wS G A s H locs [oX2 aD aDc D_writesDone D_writesLeft D_down, rI aDc cI 4096 D_cells, oX8 aU aD U_place U_bitsRead_11 U_started U_time U_value U_rise] → lv_has ls 3 [(1, .int v1_10)] → W p l e rm_X8_readDifference s m args below meth c H locs 0 0 QQ (F0 m 37 ls []) := by
    clear hw0 hl2 ls2 hL_6
    intro H25 locs25 ls25 hw25 hl25
    refine lv_iload_n hx hb dX8_readDifference_37 rfl (lv_at hl25 0 rfl) ?_
    refine lv_iconst (v := (1 : Int32)) hx hb dX8_readDifference_38 (by decide) ?_
    refine lv_iand hx hb dX8_readDifference_39 ?_
    replace hfin := ob1_some hfin
    obtain ⟨s_26, hJ_27, hfin⟩ := hfin
    have kj_28 : ∀ (H : Heap) (locs : List Loc) (ls : Array Slot), wS G A s H locs [oX2 aD aDc D_writesDone D_writesLeft D_down, rI aDc cI 4096 D_cells, oX8 aU aD U_place U_bitsRead_11 U_started U_time U_value U_rise] → lv_has ls 3 [] → W p l e rm_X8_readDifference s m args below meth c H locs 0 0 QQ (F0 m 55 ls [.int s_26]) := by
      clear hw25 H25 locs25 hl25 ls25 hJ_27
      intro H30 locs30 ls30 hw30 hl30
      cases hfin
      rw [hQQ]
      exact ct_iret hx hb hr hlocks hw30.1 hw30.2.1 hw30.2.2 dX8_readDifference_55
    clear hfin
    refine lv_if_ne (tgt := 49) hx hb dX8_readDifference_40 (by decide) (fun c_29 => ?_) (fun c_29 => ?_)
    · replace hJ_27 := it_f c_29 hJ_27
      refine lv_iload_n hx hb dX8_readDifference_49 rfl (lv_at hl25 0 rfl) ?_
      refine lv_iconst (v := (1 : Int32)) hx hb dX8_readDifference_50 (by decide) ?_
      refine lv_iushr hx hb dX8_readDifference_51 rfl ?_
      refine lv_ineg hx hb dX8_readDifference_52 ?_
      refine lv_iconst (v := (1 : Int32)) hx hb dX8_readDifference_53 (by decide) ?_
      refine lv_isub hx hb dX8_readDifference_54 ?_
      cases hJ_27
      exact kj_28 _ _ _ hw25 (lv_sub hl25 [] rfl)
    · replace hJ_27 := it_t c_29 hJ_27
      refine lv_iload_n hx hb dX8_readDifference_43 rfl (lv_at hl25 0 rfl) ?_
      refine lv_iconst (v := (1 : Int32)) hx hb dX8_readDifference_44 (by decide) ?_
      refine lv_iushr hx hb dX8_readDifference_45 rfl ?_
      refine lv_goto (tgt := 55) hx hb dX8_readDifference_46 (by decide) ?_
      cases hJ_27
      exact kj_28 _ _ _ hw25 (lv_sub hl25 [] rfl)
  have lp_8 : ∀ (n : Nat) (v1_3 : Int32) (v2_4 : Int32) (U_bitsRead_5 : Int32), lp_X8_readDifference_4 D_cells U_place n v1_3 v2_4 U_bitsRead_5 = some (v1_10, U_bitsRead_11) → ∀ (H : Heap) (locs : List Loc) (ls : Array Slot), wS G A s H locs [oX2 aD aDc D_writesDone D_writesLeft D_down, rI aDc cI 4096 D_cells, oX8 aU aD U_place U_bitsRead_5 U_started U_time U_value U_rise] → lv_has ls 3 [(0, .ref aU), (1, .int v1_3), (2, .int v2_4)] → W p l e rm_X8_readDifference s m args below meth c H locs 0 0 QQ (F0 m 4 ls []) := by
    clear hw0 hl2 ls2 hfin
    intro n
    induction n with
    | zero =>
      intro v1_3 v2_4 U_bitsRead_5 hB_9
      exact absurd hB_9 (by rw [lp_X8_readDifference_4]; exact fun h9 => nomatch h9)
    | succ n ih =>
      intro v1_3 v2_4 U_bitsRead_5 hB_9 H12 locs12 ls12 hw12 hl12
      rw [lp_X8_readDifference_4] at hB_9
      refine lv_aload_n hx hb dX8_readDifference_4 rfl (lv_at hl12 0 rfl) ?_
      refine lv_iconst (v := (1 : Int32)) hx hb dX8_readDifference_5 (by decide) ?_
      replace hB_9 := ob2_some hB_9
      obtain ⟨r_14, U_bitsRead_15, hE_13, hB_9⟩ := hB_9
      refine ctV (a := aU) (As := [.int (1 : Int32)]) (rest := []) (st1 := [.long r_14]) (wc := [oX2 aD aDc D_writesDone D_writesLeft D_down, rI aDc cI 4096 D_cells, oX8 aU aD U_place U_bitsRead_5 U_started U_time U_value U_rise]) (w1 := [oX2 aD aDc D_writesDone D_writesLeft D_down, rI aDc cI 4096 D_cells, oX8 aU aD U_place U_bitsRead_15 U_started U_time U_value U_rise]) (wr := []) (wb := [oX2 aD aDc D_writesDone D_writesLeft D_down, rI aDc cI 4096 D_cells, oX8 aU aD U_place U_bitsRead_15 U_started U_time U_value U_rise]) (v := (some (.long r_14))) hx hb hml hown htc hN (c_X8_readBits l G cI cZ cJ aD aDc aU D_writesDone D_writesLeft D_down D_cells U_place U_bitsRead_5 U_started U_time U_value U_rise (1 : Int32) hE_13) mw_588 mw_590 mp_19 mw_6 mw_591 hd_X8_readBits ⟨rfl, rfl⟩ ⟨Nat.le_of_ble_eq_true rfl, Nat.le_of_ble_eq_true rfl⟩ hK hw12 hA [0, 1, 2] [] [0, 1, 2] rfl rfl rfl rfl rfl (by decide) rfl rfl rfl 2 rfl rfl rfl rfl hl12.1 rfl rfl (Nat.le_of_ble_eq_true rfl) dX8_readDifference_6 ⟨Nat.zero_le _, Nat.zero_le _⟩ (fun H16 locs16 hw16 => ?_)
      clear hw12 H12 locs12
      refine lv_lconst (v := (1 : Int64)) hx hb dX8_readDifference_9 (by decide) ?_
      refine W.lcmp hx hb dX8_readDifference_10 ?_
      refine lv_if_ne (tgt := 37) hx hb dX8_readDifference_11 (by decide) (fun c_17 => ?_) (fun c_17 => ?_)
      · replace hB_9 := it_f c_17 hB_9
        cases hB_9
        exact kx_7 _ _ _ hw16 (lv_sub hl12 [1] rfl)
      · replace hB_9 := it_t c_17 hB_9
        refine lv_iload_n hx hb dX8_readDifference_14 rfl (lv_at hl12 2 rfl) ?_
        refine lv_bipush (v := (32 : Int32)) hx hb dX8_readDifference_15 (by decide) ?_
        refine lv_icmp_ge (tgt := 37) hx hb dX8_readDifference_17 (by decide) (fun c_18 => ?_) (fun c_18 => ?_)
        · replace hB_9 := it_t c_18 hB_9
          cases hB_9
          exact kx_7 _ _ _ hw16 (lv_sub hl12 [1] rfl)
        · replace hB_9 := it_f c_18 hB_9
          refine lv_iload_n hx hb dX8_readDifference_20 rfl (lv_at hl12 1 rfl) ?_
          refine lv_aload_n hx hb dX8_readDifference_21 rfl (lv_at hl12 0 rfl) ?_
          refine lv_iconst (v := (4 : Int32)) hx hb dX8_readDifference_22 (by decide) ?_
          replace hB_9 := ob2_some hB_9
          obtain ⟨r_20, U_bitsRead_21, hE_19, hB_9⟩ := hB_9
          refine ctV (a := aU) (As := [.int (4 : Int32)]) (rest := [.int v1_3]) (st1 := [.long r_20, .int v1_3]) (wc := [oX2 aD aDc D_writesDone D_writesLeft D_down, rI aDc cI 4096 D_cells, oX8 aU aD U_place U_bitsRead_15 U_started U_time U_value U_rise]) (w1 := [oX2 aD aDc D_writesDone D_writesLeft D_down, rI aDc cI 4096 D_cells, oX8 aU aD U_place U_bitsRead_21 U_started U_time U_value U_rise]) (wr := []) (wb := [oX2 aD aDc D_writesDone D_writesLeft D_down, rI aDc cI 4096 D_cells, oX8 aU aD U_place U_bitsRead_21 U_started U_time U_value U_rise]) (v := (some (.long r_20))) hx hb hml hown htc hN (c_X8_readBits l G cI cZ cJ aD aDc aU D_writesDone D_writesLeft D_down D_cells U_place U_bitsRead_15 U_started U_time U_value U_rise (4 : Int32) hE_19) mw_588 mw_590 mp_19 mw_6 mw_591 hd_X8_readBits ⟨rfl, rfl⟩ ⟨Nat.le_of_ble_eq_true rfl, Nat.le_of_ble_eq_true rfl⟩ hK hw16 hA [0, 1, 2] [] [0, 1, 2] rfl rfl rfl rfl rfl (by decide) rfl rfl rfl 2 rfl rfl rfl rfl hl12.1 rfl rfl (Nat.le_of_ble_eq_true rfl) dX8_readDifference_23 ⟨Nat.zero_le _, Nat.zero_le _⟩ (fun H22 locs22 hw22 => ?_)
          clear hw16 H16 locs16
          refine lv_l2i hx hb dX8_readDifference_26 rfl ?_
          refine lv_iload_n hx hb dX8_readDifference_27 rfl (lv_at hl12 2 rfl) ?_
          refine lv_ishl hx hb dX8_readDifference_28 ?_
          refine lv_ior hx hb dX8_readDifference_29 ?_
          refine lv_istore_n (lv' := [(1, .int (v1_3 ||| ((Int64.toInt32 r_20) <<< (v2_4 &&& 31)))), (0, .ref aU), (2, .int v2_4)]) hx hb dX8_readDifference_30 rfl hl12 (by decide) rfl (fun ls23 hl23 => ?_)
          clear hl12 ls12
          refine lv_iinc (v := (v2_4 + (4 : Int32))) (lv' := [(2, .int (v2_4 + (4 : Int32))), (1, .int (v1_3 ||| ((Int64.toInt32 r_20) <<< (v2_4 &&& 31)))), (0, .ref aU)]) hx hb dX8_readDifference_31 hl23 (k := 2) rfl rfl (by decide) rfl (fun ls24 hl24 => ?_)
          clear hl23 ls23
          refine lv_goto (tgt := 4) hx hb dX8_readDifference_34 (by decide) ?_
          exact ih (v1_3 ||| ((Int64.toInt32 r_20) <<< (v2_4 &&& 31))) (v2_4 + (4 : Int32)) U_bitsRead_21 hB_9 _ _ _ hw22 (lv_sub hl24 [2, 1, 0] rfl)
  exact lp_8 NN (0 : Int32) (0 : Int32) U_bitsRead hL_6 _ _ _ hw0 (lv_sub hl2 [2, 1, 0] rfl)
abbrev rm_X8_step : Room := { frames := 3, cells := 0, slots := 0, locals := 70 }
theorem hd_X8_step : yX8_step.cls = RX8 ∧ yX8_step.cls ≠ "java/lang/invoke/MethodHandle" ∧ yX8_step.cls ≠ "java/lang/invoke/VarHandle" ∧ (parseMethodDescriptor yX8_step.desc).map (fun d => d.parameters.length) = some 0 := by decide +kernel
set_option maxHeartbeats 4000000 in
set_option maxRecDepth 100000 in
theorem c_X8_step (l : Launch) (G : va_G) (cI cZ cJ : ClassId) (aD aDc aU : Nat) (D_writesDone : Int32) (D_writesLeft : Int32) (D_down : Int32) (D_cells : Nat → Int32) (U_place : Int32) (U_bitsRead : Int32) (U_started : Int32) (U_time : Int32) (U_value : Int32) (U_rise : Int64)  {o_U_bitsRead : Int32} {o_U_started : Int32} {o_U_time : Int32} {o_U_value : Int32} {o_U_rise : Int64} (hfin : m_X8_step D_cells U_place U_bitsRead U_started U_time U_value U_rise = some (o_U_bitsRead, o_U_started, o_U_time, o_U_value, o_U_rise)) : CT l yX8_step cX8_step 1 none rm_X8_step G (tyC cI cZ cJ) [.ref aU] [oX2 aD aDc D_writesDone D_writesLeft D_down, rI aDc cI 4096 D_cells, oX8 aU aD U_place U_bitsRead U_started U_time U_value U_rise] none [oX2 aD aDc D_writesDone D_writesLeft D_down, rI aDc cI 4096 D_cells, oX8 aU aD U_place o_U_bitsRead o_U_started o_U_time o_U_value o_U_rise] := by
  refine CT.ofW (lvl := [(0, .ref aU)]) (by decide) (Nat.le_of_ble_eq_true rfl) rfl ?_
  intro p e s m args below meth c A ls0 QQ hQQ hx hb hml hr hlocks htc hN hown hK hA hw0 hl0
  rw [m_X8_step] at hfin
  refine lv_aload_n hx hb dX8_step_0 rfl (lv_at hl0 0 rfl) ?_
  refine va_get (D := G) (ci := 8) (v := .int U_started) (C := RX8) (T := TX8) (N := 7) hx hb htc iX8 hown hK hw0.1 2 rfl rfl 3 (by decide) (htc _ mw_88) (fun _ h9 => h9) rfl dX8_step_1 ?_
  refine lv_if_ne (tgt := 50) hx hb dX8_step_4 (by decide) (fun c_1 => ?_) (fun c_1 => ?_)
  · replace hfin := it_f c_1 hfin
    refine lv_aload_n hx hb dX8_step_50 rfl (lv_at hl0 0 rfl) ?_
    refine lv_dup hx hb dX8_step_51 rfl ?_
    refine va_get (D := G) (ci := 8) (v := .long U_rise) (C := RX8) (T := TX8) (N := 7) hx hb htc iX8 hown hK hw0.1 2 rfl rfl 6 (by decide) (htc _ mw_97) (fun _ h9 => h9) rfl dX8_step_52 ?_
    refine lv_aload_n hx hb dX8_step_55 rfl (lv_at hl0 0 rfl) ?_
    replace hfin := ob2_some hfin
    obtain ⟨r_3, U_bitsRead_4, hE_2, hfin⟩ := hfin
    refine ctV (a := aU) (As := []) (rest := [.long U_rise, .ref aU]) (st1 := [.long r_3, .long U_rise, .ref aU]) (wc := [oX2 aD aDc D_writesDone D_writesLeft D_down, rI aDc cI 4096 D_cells, oX8 aU aD U_place U_bitsRead U_started U_time U_value U_rise]) (w1 := [oX2 aD aDc D_writesDone D_writesLeft D_down, rI aDc cI 4096 D_cells, oX8 aU aD U_place U_bitsRead_4 U_started U_time U_value U_rise]) (wr := []) (wb := [oX2 aD aDc D_writesDone D_writesLeft D_down, rI aDc cI 4096 D_cells, oX8 aU aD U_place U_bitsRead_4 U_started U_time U_value U_rise]) (v := (some (.long r_3))) hx hb hml hown htc hN (c_X8_readChange l G cI cZ cJ aD aDc aU D_writesDone D_writesLeft D_down D_cells U_place U_bitsRead U_started U_time U_value U_rise  hE_2) mw_584 mw_586 mp_18 mw_6 mw_587 hd_X8_readChange ⟨rfl, rfl⟩ ⟨Nat.le_of_ble_eq_true rfl, Nat.le_of_ble_eq_true rfl⟩ hK hw0 hA [0, 1, 2] [] [0, 1, 2] rfl rfl rfl rfl rfl (by decide) rfl rfl rfl 2 rfl rfl rfl rfl hl0.1 rfl rfl (Nat.le_of_ble_eq_true rfl) dX8_step_56 ⟨Nat.zero_le _, Nat.zero_le _⟩ (fun H5 locs5 hw5 => ?_)
    clear hw0
    refine lv_ladd hx hb dX8_step_59 ?_
    refine va_put (D := G) (ci := 8) (v := .long (U_rise + r_3)) (ty := .long) (C := RX8) (T := TX8) (N := 7) hx hb htc iX8 tyX8 tyX8_ok nmX8 hown hK hw5.1 hw5.2.1 hw5.2.2 2 rfl rfl 6 (by decide) (htc _ mw_97) (fun _ h9 => h9) rfl (tyX8_ok 6 (by decide)) rfl rfl (Nat.le_of_ble_eq_true rfl) dX8_step_60 (fun H6 locs6 hP hD hS => ?_)
    have hw6 : wS G A s H6 locs6 [oX2 aD aDc D_writesDone D_writesLeft D_down, rI aDc cI 4096 D_cells, oX8 aU aD U_place U_bitsRead_4 U_started U_time U_value (U_rise + r_3)] := ⟨hP, hD, hS⟩
    clear hP hD hS hw5 H5 locs5
    refine lv_aload_n hx hb dX8_step_63 rfl (lv_at hl0 0 rfl) ?_
    refine lv_aload_n hx hb dX8_step_64 rfl (lv_at hl0 0 rfl) ?_
    refine va_get (D := G) (ci := 8) (v := .int U_time) (C := RX8) (T := TX8) (N := 7) hx hb htc iX8 hown hK hw6.1 2 rfl rfl 4 (by decide) (htc _ mw_89) (fun _ h9 => h9) rfl dX8_step_65 ?_
    refine lv_i2l hx hb dX8_step_68 rfl ?_
    refine lv_aload_n hx hb dX8_step_69 rfl (lv_at hl0 0 rfl) ?_
    refine va_get (D := G) (ci := 8) (v := .long (U_rise + r_3)) (C := RX8) (T := TX8) (N := 7) hx hb htc iX8 hown hK hw6.1 2 rfl rfl 6 (by decide) (htc _ mw_97) (fun _ h9 => h9) rfl dX8_step_70 ?_
    refine lv_ladd hx hb dX8_step_73 ?_
    refine lv_l2i hx hb dX8_step_74 rfl ?_
    refine va_put (D := G) (ci := 8) (v := .int (Int64.toInt32 ((Int32.toInt64 U_time) + (U_rise + r_3)))) (ty := .int) (C := RX8) (T := TX8) (N := 7) hx hb htc iX8 tyX8 tyX8_ok nmX8 hown hK hw6.1 hw6.2.1 hw6.2.2 2 rfl rfl 4 (by decide) (htc _ mw_89) (fun _ h9 => h9) rfl (tyX8_ok 4 (by decide)) rfl rfl (Nat.le_of_ble_eq_true rfl) dX8_step_75 (fun H7 locs7 hP hD hS => ?_)
    have hw7 : wS G A s H7 locs7 [oX2 aD aDc D_writesDone D_writesLeft D_down, rI aDc cI 4096 D_cells, oX8 aU aD U_place U_bitsRead_4 U_started (Int64.toInt32 ((Int32.toInt64 U_time) + (U_rise + r_3))) U_value (U_rise + r_3)] := ⟨hP, hD, hS⟩
    clear hP hD hS hw6 H6 locs6
    refine lv_aload_n hx hb dX8_step_78 rfl (lv_at hl0 0 rfl) ?_
    refine lv_dup hx hb dX8_step_79 rfl ?_
    refine va_get (D := G) (ci := 8) (v := .int U_value) (C := RX8) (T := TX8) (N := 7) hx hb htc iX8 hown hK hw7.1 2 rfl rfl 5 (by decide) (htc _ mw_93) (fun _ h9 => h9) rfl dX8_step_80 ?_
    refine lv_aload_n hx hb dX8_step_83 rfl (lv_at hl0 0 rfl) ?_
    replace hfin := ob2_some hfin
    obtain ⟨r_9, U_bitsRead_10, hE_8, hfin⟩ := hfin
    refine ctV (a := aU) (As := []) (rest := [.int U_value, .ref aU]) (st1 := [.int r_9, .int U_value, .ref aU]) (wc := [oX2 aD aDc D_writesDone D_writesLeft D_down, rI aDc cI 4096 D_cells, oX8 aU aD U_place U_bitsRead_4 U_started (Int64.toInt32 ((Int32.toInt64 U_time) + (U_rise + r_3))) U_value (U_rise + r_3)]) (w1 := [oX2 aD aDc D_writesDone D_writesLeft D_down, rI aDc cI 4096 D_cells, oX8 aU aD U_place U_bitsRead_10 U_started (Int64.toInt32 ((Int32.toInt64 U_time) + (U_rise + r_3))) U_value (U_rise + r_3)]) (wr := []) (wb := [oX2 aD aDc D_writesDone D_writesLeft D_down, rI aDc cI 4096 D_cells, oX8 aU aD U_place U_bitsRead_10 U_started (Int64.toInt32 ((Int32.toInt64 U_time) + (U_rise + r_3))) U_value (U_rise + r_3)]) (v := (some (.int r_9))) hx hb hml hown htc hN (c_X8_readDifference l G cI cZ cJ aD aDc aU D_writesDone D_writesLeft D_down D_cells U_place U_bitsRead_4 U_started (Int64.toInt32 ((Int32.toInt64 U_time) + (U_rise + r_3))) U_value (U_rise + r_3)  hE_8) mw_597 mw_599 mp_20 mw_6 mw_600 hd_X8_readDifference ⟨rfl, rfl⟩ ⟨Nat.le_of_ble_eq_true rfl, Nat.le_of_ble_eq_true rfl⟩ hK hw7 hA [0, 1, 2] [] [0, 1, 2] rfl rfl rfl rfl rfl (by decide) rfl rfl rfl 2 rfl rfl rfl rfl hl0.1 rfl rfl (Nat.le_of_ble_eq_true rfl) dX8_step_84 ⟨Nat.zero_le _, Nat.zero_le _⟩ (fun H11 locs11 hw11 => ?_)
    clear hw7 H7 locs7
    refine lv_iadd hx hb dX8_step_87 ?_
    refine va_put (D := G) (ci := 8) (v := .int (U_value + r_9)) (ty := .int) (C := RX8) (T := TX8) (N := 7) hx hb htc iX8 tyX8 tyX8_ok nmX8 hown hK hw11.1 hw11.2.1 hw11.2.2 2 rfl rfl 5 (by decide) (htc _ mw_93) (fun _ h9 => h9) rfl (tyX8_ok 5 (by decide)) rfl rfl (Nat.le_of_ble_eq_true rfl) dX8_step_88 (fun H12 locs12 hP hD hS => ?_)
    have hw12 : wS G A s H12 locs12 [oX2 aD aDc D_writesDone D_writesLeft D_down, rI aDc cI 4096 D_cells, oX8 aU aD U_place U_bitsRead_10 U_started (Int64.toInt32 ((Int32.toInt64 U_time) + (U_rise + r_3))) (U_value + r_9) (U_rise + r_3)] := ⟨hP, hD, hS⟩
    clear hP hD hS hw11 H11 locs11
    cases hfin
    rw [hQQ]
    exact ct_vret hx hb hr hlocks hw12.1 hw12.2.1 hw12.2.2 dX8_step_91
  · replace hfin := it_t c_1 hfin
    refine lv_aload_n hx hb dX8_step_7 rfl (lv_at hl0 0 rfl) ?_
    refine lv_iconst (v := (1 : Int32)) hx hb dX8_step_8 (by decide) ?_
    refine va_put (D := G) (ci := 8) (v := .int (1 : Int32)) (ty := .boolean) (C := RX8) (T := TX8) (N := 7) hx hb htc iX8 tyX8 tyX8_ok nmX8 hown hK hw0.1 hw0.2.1 hw0.2.2 2 rfl rfl 3 (by decide) (htc _ mw_88) (fun _ h9 => h9) rfl (tyX8_ok 3 (by decide)) rfl rfl (Nat.le_of_ble_eq_true rfl) dX8_step_9 (fun H13 locs13 hP hD hS => ?_)
    have hw13 : wS G A s H13 locs13 [oX2 aD aDc D_writesDone D_writesLeft D_down, rI aDc cI 4096 D_cells, oX8 aU aD U_place U_bitsRead (1 : Int32) U_time U_value U_rise] := ⟨hP, hD, hS⟩
    clear hP hD hS hw0
    refine lv_aload_n hx hb dX8_step_12 rfl (lv_at hl0 0 rfl) ?_
    refine lv_aload_n hx hb dX8_step_13 rfl (lv_at hl0 0 rfl) ?_
    refine va_get (D := G) (ci := 8) (v := .ref aD) (C := RX8) (T := TX8) (N := 7) hx hb htc iX8 hown hK hw13.1 2 rfl rfl 0 (by decide) (htc _ mw_85) (fun _ h9 => h9) rfl dX8_step_14 ?_
    refine lv_aload_n hx hb dX8_step_17 rfl (lv_at hl0 0 rfl) ?_
    refine va_get (D := G) (ci := 8) (v := .int U_place) (C := RX8) (T := TX8) (N := 7) hx hb htc iX8 hown hK hw13.1 2 rfl rfl 1 (by decide) (htc _ mw_86) (fun _ h9 => h9) rfl dX8_step_18 ?_
    replace hfin := ob1_some hfin
    obtain ⟨r_15, hE_14, hfin⟩ := hfin
    refine ctV (a := aD) (As := [.int U_place]) (rest := [.ref aU]) (st1 := [.int r_15, .ref aU]) (wc := [oX2 aD aDc D_writesDone D_writesLeft D_down, rI aDc cI 4096 D_cells]) (w1 := [oX2 aD aDc D_writesDone D_writesLeft D_down, rI aDc cI 4096 D_cells]) (wr := [oX8 aU aD U_place U_bitsRead (1 : Int32) U_time U_value U_rise]) (wb := [oX2 aD aDc D_writesDone D_writesLeft D_down, rI aDc cI 4096 D_cells, oX8 aU aD U_place U_bitsRead (1 : Int32) U_time U_value U_rise]) (v := (some (.int r_15))) hx hb hml hown htc hN (c_X2_read l G cI cZ cJ aD aDc D_writesDone D_writesLeft D_down D_cells U_place hE_14) mw_583 mw_366 mw_367 mw_3 mw_368 hd_X2_read ⟨rfl, rfl⟩ ⟨Nat.le_of_ble_eq_true rfl, Nat.le_of_ble_eq_true rfl⟩ hK hw13 hA [0, 1] [2] [1, 2, 0] rfl rfl rfl rfl rfl (by decide) rfl rfl rfl 0 rfl rfl rfl rfl hl0.1 rfl rfl (Nat.le_of_ble_eq_true rfl) dX8_step_21 ⟨Nat.zero_le _, Nat.zero_le _⟩ (fun H16 locs16 hw16 => ?_)
    clear hw13 H13 locs13
    refine va_put (D := G) (ci := 8) (v := .int r_15) (ty := .int) (C := RX8) (T := TX8) (N := 7) hx hb htc iX8 tyX8 tyX8_ok nmX8 hown hK hw16.1 hw16.2.1 hw16.2.2 2 rfl rfl 4 (by decide) (htc _ mw_89) (fun _ h9 => h9) rfl (tyX8_ok 4 (by decide)) rfl rfl (Nat.le_of_ble_eq_true rfl) dX8_step_24 (fun H17 locs17 hP hD hS => ?_)
    have hw17 : wS G A s H17 locs17 [oX2 aD aDc D_writesDone D_writesLeft D_down, rI aDc cI 4096 D_cells, oX8 aU aD U_place U_bitsRead (1 : Int32) r_15 U_value U_rise] := ⟨hP, hD, hS⟩
    clear hP hD hS hw16 H16 locs16
    refine lv_aload_n hx hb dX8_step_27 rfl (lv_at hl0 0 rfl) ?_
    refine lv_aload_n hx hb dX8_step_28 rfl (lv_at hl0 0 rfl) ?_
    refine va_get (D := G) (ci := 8) (v := .ref aD) (C := RX8) (T := TX8) (N := 7) hx hb htc iX8 hown hK hw17.1 2 rfl rfl 0 (by decide) (htc _ mw_85) (fun _ h9 => h9) rfl dX8_step_29 ?_
    refine lv_aload_n hx hb dX8_step_32 rfl (lv_at hl0 0 rfl) ?_
    refine va_get (D := G) (ci := 8) (v := .int U_place) (C := RX8) (T := TX8) (N := 7) hx hb htc iX8 hown hK hw17.1 2 rfl rfl 1 (by decide) (htc _ mw_86) (fun _ h9 => h9) rfl dX8_step_33 ?_
    refine lv_iconst (v := (1 : Int32)) hx hb dX8_step_36 (by decide) ?_
    refine lv_iadd hx hb dX8_step_37 ?_
    replace hfin := ob1_some hfin
    obtain ⟨r_19, hE_18, hfin⟩ := hfin
    refine ctV (a := aD) (As := [.int (U_place + (1 : Int32))]) (rest := [.ref aU]) (st1 := [.int r_19, .ref aU]) (wc := [oX2 aD aDc D_writesDone D_writesLeft D_down, rI aDc cI 4096 D_cells]) (w1 := [oX2 aD aDc D_writesDone D_writesLeft D_down, rI aDc cI 4096 D_cells]) (wr := [oX8 aU aD U_place U_bitsRead (1 : Int32) r_15 U_value U_rise]) (wb := [oX2 aD aDc D_writesDone D_writesLeft D_down, rI aDc cI 4096 D_cells, oX8 aU aD U_place U_bitsRead (1 : Int32) r_15 U_value U_rise]) (v := (some (.int r_19))) hx hb hml hown htc hN (c_X2_read l G cI cZ cJ aD aDc D_writesDone D_writesLeft D_down D_cells (U_place + (1 : Int32)) hE_18) mw_583 mw_366 mw_367 mw_3 mw_368 hd_X2_read ⟨rfl, rfl⟩ ⟨Nat.le_of_ble_eq_true rfl, Nat.le_of_ble_eq_true rfl⟩ hK hw17 hA [0, 1] [2] [1, 2, 0] rfl rfl rfl rfl rfl (by decide) rfl rfl rfl 0 rfl rfl rfl rfl hl0.1 rfl rfl (Nat.le_of_ble_eq_true rfl) dX8_step_38 ⟨Nat.zero_le _, Nat.zero_le _⟩ (fun H20 locs20 hw20 => ?_)
    clear hw17 H17 locs17
    refine va_put (D := G) (ci := 8) (v := .int r_19) (ty := .int) (C := RX8) (T := TX8) (N := 7) hx hb htc iX8 tyX8 tyX8_ok nmX8 hown hK hw20.1 hw20.2.1 hw20.2.2 2 rfl rfl 5 (by decide) (htc _ mw_93) (fun _ h9 => h9) rfl (tyX8_ok 5 (by decide)) rfl rfl (Nat.le_of_ble_eq_true rfl) dX8_step_41 (fun H21 locs21 hP hD hS => ?_)
    have hw21 : wS G A s H21 locs21 [oX2 aD aDc D_writesDone D_writesLeft D_down, rI aDc cI 4096 D_cells, oX8 aU aD U_place U_bitsRead (1 : Int32) r_15 r_19 U_rise] := ⟨hP, hD, hS⟩
    clear hP hD hS hw20 H20 locs20
    refine lv_aload_n hx hb dX8_step_44 rfl (lv_at hl0 0 rfl) ?_
    refine lv_lconst (v := (0 : Int64)) hx hb dX8_step_45 (by decide) ?_
    refine va_put (D := G) (ci := 8) (v := .long (0 : Int64)) (ty := .long) (C := RX8) (T := TX8) (N := 7) hx hb htc iX8 tyX8 tyX8_ok nmX8 hown hK hw21.1 hw21.2.1 hw21.2.2 2 rfl rfl 6 (by decide) (htc _ mw_97) (fun _ h9 => h9) rfl (tyX8_ok 6 (by decide)) rfl rfl (Nat.le_of_ble_eq_true rfl) dX8_step_46 (fun H22 locs22 hP hD hS => ?_)
    have hw22 : wS G A s H22 locs22 [oX2 aD aDc D_writesDone D_writesLeft D_down, rI aDc cI 4096 D_cells, oX8 aU aD U_place U_bitsRead (1 : Int32) r_15 r_19 (0 : Int64)] := ⟨hP, hD, hS⟩
    clear hP hD hS hw21 H21 locs21
    cases hfin
    rw [hQQ]
    exact ct_vret hx hb hr hlocks hw22.1 hw22.2.1 hw22.2.2 dX8_step_49
