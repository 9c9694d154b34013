theorem dX8_open_0 : decode cX8_open 0 = .ok (.aload_n 0, 1) := by decide +kernel
theorem dX8_open_1 : decode cX8_open 1 = .ok (.iload_n 1, 1) := by decide +kernel
theorem dX8_open_2 : decode cX8_open 2 = .ok (.putfield 9, 3) := by decide +kernel
theorem dX8_open_5 : decode cX8_open 5 = .ok (.aload_n 0, 1) := by decide +kernel
theorem dX8_open_6 : decode cX8_open 6 = .ok (.iconst 0, 1) := by decide +kernel
theorem dX8_open_7 : decode cX8_open 7 = .ok (.putfield 15, 3) := by decide +kernel
theorem dX8_open_10 : decode cX8_open 10 = .ok (.aload_n 0, 1) := by decide +kernel
theorem dX8_open_11 : decode cX8_open 11 = .ok (.iconst 0, 1) := by decide +kernel
theorem dX8_open_12 : decode cX8_open 12 = .ok (.putfield 18, 3) := by decide +kernel
theorem dX8_open_15 : decode cX8_open 15 = .ok (.return_, 1) := by decide +kernel
theorem dX8_step_0 : decode cX8_step 0 = .ok (.aload_n 0, 1) := by decide +kernel
theorem dX8_step_1 : decode cX8_step 1 = .ok (.getfield 18, 3) := by decide +kernel
theorem dX8_step_4 : decode cX8_step 4 = .ok (.ifCond .ne 46, 3) := by decide +kernel
theorem dX8_step_7 : decode cX8_step 7 = .ok (.aload_n 0, 1) := by decide +kernel
theorem dX8_step_8 : decode cX8_step 8 = .ok (.iconst 1, 1) := by decide +kernel
theorem dX8_step_9 : decode cX8_step 9 = .ok (.putfield 18, 3) := by decide +kernel
theorem dX8_step_12 : decode cX8_step 12 = .ok (.aload_n 0, 1) := by decide +kernel
theorem dX8_step_13 : decode cX8_step 13 = .ok (.aload_n 0, 1) := by decide +kernel
theorem dX8_step_14 : decode cX8_step 14 = .ok (.getfield 32, 3) := by decide +kernel
theorem dX8_step_17 : decode cX8_step 17 = .ok (.aload_n 0, 1) := by decide +kernel
theorem dX8_step_18 : decode cX8_step 18 = .ok (.getfield 9, 3) := by decide +kernel
theorem dX8_step_21 : decode cX8_step 21 = .ok (.invokevirtual 36, 3) := by decide +kernel
theorem dX8_step_24 : decode cX8_step 24 = .ok (.putfield 22, 3) := by decide +kernel
theorem dX8_step_27 : decode cX8_step 27 = .ok (.aload_n 0, 1) := by decide +kernel
theorem dX8_step_28 : decode cX8_step 28 = .ok (.aload_n 0, 1) := by decide +kernel
theorem dX8_step_29 : decode cX8_step 29 = .ok (.getfield 32, 3) := by decide +kernel
theorem dX8_step_32 : decode cX8_step 32 = .ok (.aload_n 0, 1) := by decide +kernel
theorem dX8_step_33 : decode cX8_step 33 = .ok (.getfield 9, 3) := by decide +kernel
theorem dX8_step_36 : decode cX8_step 36 = .ok (.iconst 1, 1) := by decide +kernel
theorem dX8_step_37 : decode cX8_step 37 = .ok (.iadd, 1) := by decide +kernel
theorem dX8_step_38 : decode cX8_step 38 = .ok (.invokevirtual 36, 3) := by decide +kernel
theorem dX8_step_41 : decode cX8_step 41 = .ok (.putfield 25, 3) := by decide +kernel
theorem dX8_step_44 : decode cX8_step 44 = .ok (.aload_n 0, 1) := by decide +kernel
theorem dX8_step_45 : decode cX8_step 45 = .ok (.lconst 0, 1) := by decide +kernel
theorem dX8_step_46 : decode cX8_step 46 = .ok (.putfield 28, 3) := by decide +kernel
theorem dX8_step_49 : decode cX8_step 49 = .ok (.return_, 1) := by decide +kernel
theorem dX8_step_50 : decode cX8_step 50 = .ok (.aload_n 0, 1) := by decide +kernel
theorem dX8_step_51 : decode cX8_step 51 = .ok (.dup, 1) := by decide +kernel
theorem dX8_step_52 : decode cX8_step 52 = .ok (.getfield 28, 3) := by decide +kernel
theorem dX8_step_55 : decode cX8_step 55 = .ok (.aload_n 0, 1) := by decide +kernel
theorem dX8_step_56 : decode cX8_step 56 = .ok (.invokevirtual 42, 3) := by decide +kernel
theorem dX8_step_59 : decode cX8_step 59 = .ok (.ladd, 1) := by decide +kernel
theorem dX8_step_60 : decode cX8_step 60 = .ok (.putfield 28, 3) := by decide +kernel
theorem dX8_step_63 : decode cX8_step 63 = .ok (.aload_n 0, 1) := by decide +kernel
theorem dX8_step_64 : decode cX8_step 64 = .ok (.aload_n 0, 1) := by decide +kernel
theorem dX8_step_65 : decode cX8_step 65 = .ok (.getfield 22, 3) := by decide +kernel
theorem dX8_step_68 : decode cX8_step 68 = .ok (.i2l, 1) := by decide +kernel
theorem dX8_step_69 : decode cX8_step 69 = .ok (.aload_n 0, 1) := by decide +kernel
theorem dX8_step_70 : decode cX8_step 70 = .ok (.getfield 28, 3) := by decide +kernel
theorem dX8_step_73 : decode cX8_step 73 = .ok (.ladd, 1) := by decide +kernel
theorem dX8_step_74 : decode cX8_step 74 = .ok (.l2i, 1) := by decide +kernel
theorem dX8_step_75 : decode cX8_step 75 = .ok (.putfield 22, 3) := by decide +kernel
theorem dX8_step_78 : decode cX8_step 78 = .ok (.aload_n 0, 1) := by decide +kernel
theorem dX8_step_79 : decode cX8_step 79 = .ok (.dup, 1) := by decide +kernel
theorem dX8_step_80 : decode cX8_step 80 = .ok (.getfield 25, 3) := by decide +kernel
theorem dX8_step_83 : decode cX8_step 83 = .ok (.aload_n 0, 1) := by decide +kernel
theorem dX8_step_84 : decode cX8_step 84 = .ok (.invokevirtual 46, 3) := by decide +kernel
theorem dX8_step_87 : decode cX8_step 87 = .ok (.iadd, 1) := by decide +kernel
theorem dX8_step_88 : decode cX8_step 88 = .ok (.putfield 25, 3) := by decide +kernel
theorem dX8_step_91 : decode cX8_step 91 = .ok (.return_, 1) := by decide +kernel
theorem dX8_readChange_0 : decode cX8_readChange 0 = .ok (.iconst 0, 1) := by decide +kernel
theorem dX8_readChange_1 : decode cX8_readChange 1 = .ok (.istore_n 1, 1) := by decide +kernel
theorem dX8_readChange_2 : decode cX8_readChange 2 = .ok (.iload_n 1, 1) := by decide +kernel
theorem dX8_readChange_3 : decode cX8_readChange 3 = .ok (.iconst 4, 1) := by decide +kernel
theorem dX8_readChange_4 : decode cX8_readChange 4 = .ok (.if_icmp .ge 19, 3) := by decide +kernel
theorem dX8_readChange_7 : decode cX8_readChange 7 = .ok (.aload_n 0, 1) := by decide +kernel
theorem dX8_readChange_8 : decode cX8_readChange 8 = .ok (.iconst 1, 1) := by decide +kernel
theorem dX8_readChange_9 : decode cX8_readChange 9 = .ok (.invokevirtual 50, 3) := by decide +kernel
theorem dX8_readChange_12 : decode cX8_readChange 12 = .ok (.lconst 1, 1) := by decide +kernel
theorem dX8_readChange_13 : decode cX8_readChange 13 = .ok (.lcmp, 1) := by decide +kernel
theorem dX8_readChange_14 : decode cX8_readChange 14 = .ok (.ifCond .ne 9, 3) := by decide +kernel
theorem dX8_readChange_17 : decode cX8_readChange 17 = .ok (.iinc 1 1, 3) := by decide +kernel
theorem dX8_readChange_20 : decode cX8_readChange 20 = .ok (.goto (-18), 3) := by decide +kernel
theorem dX8_readChange_23 : decode cX8_readChange 23 = .ok (.iload_n 1, 1) := by decide +kernel
theorem dX8_readChange_24 : decode cX8_readChange 24 = .ok (.tableswitch 67 0 3 #[32, 34, 45, 56], 32) := by decide +kernel
theorem dX8_readChange_56 : decode cX8_readChange 56 = .ok (.lconst 0, 1) := by decide +kernel
theorem dX8_readChange_57 : decode cX8_readChange 57 = .ok (.lreturn, 1) := by decide +kernel
theorem dX8_readChange_58 : decode cX8_readChange 58 = .ok (.aload_n 0, 1) := by decide +kernel
theorem dX8_readChange_59 : decode cX8_readChange 59 = .ok (.bipush 7, 2) := by decide +kernel
theorem dX8_readChange_61 : decode cX8_readChange 61 = .ok (.invokevirtual 50, 3) := by decide +kernel
theorem dX8_readChange_64 : decode cX8_readChange 64 = .ok (.ldc2_w 54, 3) := by decide +kernel
theorem dX8_readChange_67 : decode cX8_readChange 67 = .ok (.lsub, 1) := by decide +kernel
theorem dX8_readChange_68 : decode cX8_readChange 68 = .ok (.lreturn, 1) := by decide +kernel
theorem dX8_readChange_69 : decode cX8_readChange 69 = .ok (.aload_n 0, 1) := by decide +kernel
theorem dX8_readChange_70 : decode cX8_readChange 70 = .ok (.bipush 9, 2) := by decide +kernel
theorem dX8_readChange_72 : decode cX8_readChange 72 = .ok (.invokevirtual 50, 3) := by decide +kernel
theorem dX8_readChange_75 : decode cX8_readChange 75 = .ok (.ldc2_w 56, 3) := by decide +kernel
theorem dX8_readChange_78 : decode cX8_readChange 78 = .ok (.lsub, 1) := by decide +kernel
theorem dX8_readChange_79 : decode cX8_readChange 79 = .ok (.lreturn, 1) := by decide +kernel
theorem dX8_readChange_80 : decode cX8_readChange 80 = .ok (.aload_n 0, 1) := by decide +kernel
theorem dX8_readChange_81 : decode cX8_readChange 81 = .ok (.bipush 12, 2) := by decide +kernel
theorem dX8_readChange_83 : decode cX8_readChange 83 = .ok (.invokevirtual 50, 3) := by decide +kernel
theorem dX8_readChange_86 : decode cX8_readChange 86 = .ok (.ldc2_w 58, 3) := by decide +kernel
theorem dX8_readChange_89 : decode cX8_readChange 89 = .ok (.lsub, 1) := by decide +kernel
theorem dX8_readChange_90 : decode cX8_readChange 90 = .ok (.lreturn, 1) := by decide +kernel
theorem dX8_readChange_91 : decode cX8_readChange 91 = .ok (.aload_n 0, 1) := by decide +kernel
theorem dX8_readChange_92 : decode cX8_readChange 92 = .ok (.iconst 2, 1) := by decide +kernel
theorem dX8_readChange_93 : decode cX8_readChange 93 = .ok (.invokevirtual 50, 3) := by decide +kernel
theorem dX8_readChange_96 : decode cX8_readChange 96 = .ok (.lstore_n 2, 1) := by decide +kernel
theorem dX8_readChange_97 : decode cX8_readChange 97 = .ok (.lload_n 2, 1) := by decide +kernel
theorem dX8_readChange_98 : decode cX8_readChange 98 = .ok (.bipush 32, 2) := by decide +kernel
theorem dX8_readChange_100 : decode cX8_readChange 100 = .ok (.lshl, 1) := by decide +kernel
theorem dX8_readChange_101 : decode cX8_readChange 101 = .ok (.aload_n 0, 1) := by decide +kernel
theorem dX8_readChange_102 : decode cX8_readChange 102 = .ok (.bipush 32, 2) := by decide +kernel
theorem dX8_readChange_104 : decode cX8_readChange 104 = .ok (.invokevirtual 50, 3) := by decide +kernel
theorem dX8_readChange_107 : decode cX8_readChange 107 = .ok (.lor, 1) := by decide +kernel
theorem dX8_readChange_108 : decode cX8_readChange 108 = .ok (.ldc2_w 60, 3) := by decide +kernel
theorem dX8_readChange_111 : decode cX8_readChange 111 = .ok (.lsub, 1) := by decide +kernel
theorem dX8_readChange_112 : decode cX8_readChange 112 = .ok (.lreturn, 1) := by decide +kernel
theorem dX8_readDifference_0 : decode cX8_readDifference 0 = .ok (.iconst 0, 1) := by decide +kernel
theorem dX8_readDifference_1 : decode cX8_readDifference 1 = .ok (.istore_n 1, 1) := by decide +kernel
theorem dX8_readDifference_2 : decode cX8_readDifference 2 = .ok (.iconst 0, 1) := by decide +kernel
theorem dX8_readDifference_3 : decode cX8_readDifference 3 = .ok (.istore_n 2, 1) := by decide +kernel
theorem dX8_readDifference_4 : decode cX8_readDifference 4 = .ok (.aload_n 0, 1) := by decide +kernel
theorem dX8_readDifference_5 : decode cX8_readDifference 5 = .ok (.iconst 1, 1) := by decide +kernel
theorem dX8_readDifference_6 : decode cX8_readDifference 6 = .ok (.invokevirtual 50, 3) := by decide +kernel
theorem dX8_readDifference_9 : decode cX8_readDifference 9 = .ok (.lconst 1, 1) := by decide +kernel
theorem dX8_readDifference_10 : decode cX8_readDifference 10 = .ok (.lcmp, 1) := by decide +kernel
theorem dX8_readDifference_11 : decode cX8_readDifference 11 = .ok (.ifCond .ne 26, 3) := by decide +kernel
theorem dX8_readDifference_14 : decode cX8_readDifference 14 = .ok (.iload_n 2, 1) := by decide +kernel
theorem dX8_readDifference_15 : decode cX8_readDifference 15 = .ok (.bipush 32, 2) := by decide +kernel
theorem dX8_readDifference_17 : decode cX8_readDifference 17 = .ok (.if_icmp .ge 20, 3) := by decide +kernel
theorem dX8_readDifference_20 : decode cX8_readDifference 20 = .ok (.iload_n 1, 1) := by decide +kernel
theorem dX8_readDifference_21 : decode cX8_readDifference 21 = .ok (.aload_n 0, 1) := by decide +kernel
theorem dX8_readDifference_22 : decode cX8_readDifference 22 = .ok (.iconst 4, 1) := by decide +kernel
theorem dX8_readDifference_23 : decode cX8_readDifference 23 = .ok (.invokevirtual 50, 3) := by decide +kernel
theorem dX8_readDifference_26 : decode cX8_readDifference 26 = .ok (.l2i, 1) := by decide +kernel
theorem dX8_readDifference_27 : decode cX8_readDifference 27 = .ok (.iload_n 2, 1) := by decide +kernel
theorem dX8_readDifference_28 : decode cX8_readDifference 28 = .ok (.ishl, 1) := by decide +kernel
theorem dX8_readDifference_29 : decode cX8_readDifference 29 = .ok (.ior, 1) := by decide +kernel
theorem dX8_readDifference_30 : decode cX8_readDifference 30 = .ok (.istore_n 1, 1) := by decide +kernel
theorem dX8_readDifference_31 : decode cX8_readDifference 31 = .ok (.iinc 2 4, 3) := by decide +kernel
theorem dX8_readDifference_34 : decode cX8_readDifference 34 = .ok (.goto (-30), 3) := by decide +kernel
theorem dX8_readDifference_37 : decode cX8_readDifference 37 = .ok (.iload_n 1, 1) := by decide +kernel
theorem dX8_readDifference_38 : decode cX8_readDifference 38 = .ok (.iconst 1, 1) := by decide +kernel
theorem dX8_readDifference_39 : decode cX8_readDifference 39 = .ok (.iand, 1) := by decide +kernel
theorem dX8_readDifference_40 : decode cX8_readDifference 40 = .ok (.ifCond .ne 9, 3) := by decide +kernel
theorem dX8_readDifference_43 : decode cX8_readDifference 43 = .ok (.iload_n 1, 1) := by decide +kernel
theorem dX8_readDifference_44 : decode cX8_readDifference 44 = .ok (.iconst 1, 1) := by decide +kernel
theorem dX8_readDifference_45 : decode cX8_readDifference 45 = .ok (.iushr, 1) := by decide +kernel
theorem dX8_readDifference_46 : decode cX8_readDifference 46 = .ok (.goto 9, 3) := by decide +kernel
theorem dX8_readDifference_49 : decode cX8_readDifference 49 = .ok (.iload_n 1, 1) := by decide +kernel
theorem dX8_readDifference_50 : decode cX8_readDifference 50 = .ok (.iconst 1, 1) := by decide +kernel
theorem dX8_readDifference_51 : decode cX8_readDifference 51 = .ok (.iushr, 1) := by decide +kernel
theorem dX8_readDifference_52 : decode cX8_readDifference 52 = .ok (.ineg, 1) := by decide +kernel
theorem dX8_readDifference_53 : decode cX8_readDifference 53 = .ok (.iconst 1, 1) := by decide +kernel
theorem dX8_readDifference_54 : decode cX8_readDifference 54 = .ok (.isub, 1) := by decide +kernel
theorem dX8_readDifference_55 : decode cX8_readDifference 55 = .ok (.ireturn, 1) := by decide +kernel
theorem dX8_readBits_0 : decode cX8_readBits 0 = .ok (.aload_n 0, 1) := by decide +kernel
theorem dX8_readBits_1 : decode cX8_readBits 1 = .ok (.getfield 9, 3) := by decide +kernel
theorem dX8_readBits_4 : decode cX8_readBits 4 = .ok (.iconst 2, 1) := by decide +kernel
theorem dX8_readBits_5 : decode cX8_readBits 5 = .ok (.iadd, 1) := by decide +kernel
theorem dX8_readBits_6 : decode cX8_readBits 6 = .ok (.aload_n 0, 1) := by decide +kernel
theorem dX8_readBits_7 : decode cX8_readBits 7 = .ok (.getfield 15, 3) := by decide +kernel
theorem dX8_readBits_10 : decode cX8_readBits 10 = .ok (.bipush 32, 2) := by decide +kernel
theorem dX8_readBits_12 : decode cX8_readBits 12 = .ok (.idiv, 1) := by decide +kernel
theorem dX8_readBits_13 : decode cX8_readBits 13 = .ok (.iadd, 1) := by decide +kernel
theorem dX8_readBits_14 : decode cX8_readBits 14 = .ok (.istore_n 2, 1) := by decide +kernel
theorem dX8_readBits_15 : decode cX8_readBits 15 = .ok (.aload_n 0, 1) := by decide +kernel
theorem dX8_readBits_16 : decode cX8_readBits 16 = .ok (.getfield 32, 3) := by decide +kernel
theorem dX8_readBits_19 : decode cX8_readBits 19 = .ok (.iload_n 2, 1) := by decide +kernel
theorem dX8_readBits_20 : decode cX8_readBits 20 = .ok (.invokevirtual 36, 3) := by decide +kernel
theorem dX8_readBits_23 : decode cX8_readBits 23 = .ok (.i2l, 1) := by decide +kernel
theorem dX8_readBits_24 : decode cX8_readBits 24 = .ok (.bipush 32, 2) := by decide +kernel
theorem dX8_readBits_26 : decode cX8_readBits 26 = .ok (.lshl, 1) := by decide +kernel
theorem dX8_readBits_27 : decode cX8_readBits 27 = .ok (.aload_n 0, 1) := by decide +kernel
theorem dX8_readBits_28 : decode cX8_readBits 28 = .ok (.getfield 32, 3) := by decide +kernel
theorem dX8_readBits_31 : decode cX8_readBits 31 = .ok (.iload_n 2, 1) := by decide +kernel
theorem dX8_readBits_32 : decode cX8_readBits 32 = .ok (.iconst 1, 1) := by decide +kernel
theorem dX8_readBits_33 : decode cX8_readBits 33 = .ok (.iadd, 1) := by decide +kernel
theorem dX8_readBits_34 : decode cX8_readBits 34 = .ok (.invokevirtual 36, 3) := by decide +kernel
theorem dX8_readBits_37 : decode cX8_readBits 37 = .ok (.i2l, 1) := by decide +kernel
theorem dX8_readBits_38 : decode cX8_readBits 38 = .ok (.ldc2_w 62, 3) := by decide +kernel
theorem dX8_readBits_41 : decode cX8_readBits 41 = .ok (.land, 1) := by decide +kernel
theorem dX8_readBits_42 : decode cX8_readBits 42 = .ok (.lor, 1) := by decide +kernel
theorem dX8_readBits_43 : decode cX8_readBits 43 = .ok (.lstore_n 3, 1) := by decide +kernel
theorem dX8_readBits_44 : decode cX8_readBits 44 = .ok (.lload_n 3, 1) := by decide +kernel
theorem dX8_readBits_45 : decode cX8_readBits 45 = .ok (.aload_n 0, 1) := by decide +kernel
theorem dX8_readBits_46 : decode cX8_readBits 46 = .ok (.getfield 15, 3) := by decide +kernel
theorem dX8_readBits_49 : decode cX8_readBits 49 = .ok (.bipush 32, 2) := by decide +kernel
theorem dX8_readBits_51 : decode cX8_readBits 51 = .ok (.irem, 1) := by decide +kernel
theorem dX8_readBits_52 : decode cX8_readBits 52 = .ok (.lshl, 1) := by decide +kernel
theorem dX8_readBits_53 : decode cX8_readBits 53 = .ok (.lstore 5, 2) := by decide +kernel
theorem dX8_readBits_55 : decode cX8_readBits 55 = .ok (.aload_n 0, 1) := by decide +kernel
theorem dX8_readBits_56 : decode cX8_readBits 56 = .ok (.dup, 1) := by decide +kernel
theorem dX8_readBits_57 : decode cX8_readBits 57 = .ok (.getfield 15, 3) := by decide +kernel
theorem dX8_readBits_60 : decode cX8_readBits 60 = .ok (.iload_n 1, 1) := by decide +kernel
theorem dX8_readBits_61 : decode cX8_readBits 61 = .ok (.iadd, 1) := by decide +kernel
theorem dX8_readBits_62 : decode cX8_readBits 62 = .ok (.putfield 15, 3) := by decide +kernel
theorem dX8_readBits_65 : decode cX8_readBits 65 = .ok (.lload 5, 2) := by decide +kernel
theorem dX8_readBits_67 : decode cX8_readBits 67 = .ok (.bipush 64, 2) := by decide +kernel
theorem dX8_readBits_69 : decode cX8_readBits 69 = .ok (.iload_n 1, 1) := by decide +kernel
theorem dX8_readBits_70 : decode cX8_readBits 70 = .ok (.isub, 1) := by decide +kernel
theorem dX8_readBits_71 : decode cX8_readBits 71 = .ok (.lushr, 1) := by decide +kernel
theorem dX8_readBits_72 : decode cX8_readBits 72 = .ok (.lreturn, 1) := by decide +kernel
def m_X8_open (U_place : Int32) (U_bitsRead : Int32) (U_started : Int32) (p0 : Int32) : Option (Int32 × Int32 × Int32) :=
  some (p0, (0 : Int32), (0 : Int32))
abbrev rm_X8_open : Room := { frames := 0, cells := 0, slots := 0, locals := 0 }
theorem hd_X8_open : yX8_open.cls = RX8 ∧ yX8_open.cls ≠ "java/lang/invoke/MethodHandle" ∧ yX8_open.cls ≠ "java/lang/invoke/VarHandle" ∧ (parseMethodDescriptor yX8_open.desc).map (fun d => d.parameters.length) = some 1 := by decide +kernel
set_option maxHeartbeats 4000000 in
set_option maxRecDepth 100000 in
theorem c_X8_open (l : Launch) (G : va_G) (cI cZ cJ : ClassId) (aU aD : Nat) (U_place : Int32) (U_bitsRead : Int32) (U_started : Int32) (U_time : Int32) (U_value : Int32) (U_rise : Int64) (p0 : Int32) {o_U_place : Int32} {o_U_bitsRead : Int32} {o_U_started : Int32} (hfin : m_X8_open U_place U_bitsRead U_started p0 = some (o_U_place, o_U_bitsRead, o_U_started)) : CT l yX8_open cX8_open 2 none rm_X8_open G (tyC cI cZ cJ) [.ref aU, .int p0] [(aU, .inr (8, [.ref aD, .int U_place, .int U_bitsRead, .int U_started, .int U_time, .int U_value, .long U_rise]))] none [(aU, .inr (8, [.ref aD, .int o_U_place, .int o_U_bitsRead, .int o_U_started, .int U_time, .int U_value, .long U_rise]))] := by
  refine CT.ofW (lvl := [(0, .ref aU), (1, .int p0)]) (by decide) (Nat.le_of_ble_eq_true rfl) rfl ?_
  intro p e s m args below meth c A ls QQ hQQ hx hb hml hr hlocks htc hN hown hK hA hP hD hS hl
  rw [m_X8_open] at hfin
  refine lv_aload_n hx hb dX8_open_0 rfl (lv_at hl 0 rfl) ?_
  refine lv_iload_n hx hb dX8_open_1 rfl (lv_at hl 1 rfl) ?_
  refine va_put (D := G) (ci := 8) (v := .int p0) (ty := .int) (C := RX8) (T := TX8) (N := 7) hx hb htc iX8 tyX8 tyX8_ok nmX8 hown hK hP hD hS 0 rfl rfl 1 (by decide) (htc _ mw_86) (fun _ h9 => h9) rfl (tyX8_ok 1 (by decide)) rfl rfl (Nat.le_of_ble_eq_true rfl) dX8_open_2 (fun H locs hP hD hS => ?_)
  have hP : va_P G classes [(aU, .inr (8, [.ref aD, .int p0, .int U_bitsRead, .int U_started, .int U_time, .int U_value, .long U_rise]))] H := hP
  have hD : va_D A [(aU, .inr (8, [.ref aD, .int p0, .int U_bitsRead, .int U_started, .int U_time, .int U_value, .long U_rise]))] := hD
  refine lv_aload_n hx hb dX8_open_5 rfl (lv_at hl 0 rfl) ?_
  refine lv_iconst (v := (0 : Int32)) hx hb dX8_open_6 (by decide) ?_
  refine va_put (D := G) (ci := 8) (v := .int (0 : Int32)) (ty := .int) (C := RX8) (T := TX8) (N := 7) hx hb htc iX8 tyX8 tyX8_ok nmX8 hown hK hP hD hS 0 rfl rfl 2 (by decide) (htc _ mw_87) (fun _ h9 => h9) rfl (tyX8_ok 2 (by decide)) rfl rfl (Nat.le_of_ble_eq_true rfl) dX8_open_7 (fun H locs hP hD hS => ?_)
  have hP : va_P G classes [(aU, .inr (8, [.ref aD, .int p0, .int (0 : Int32), .int U_started, .int U_time, .int U_value, .long U_rise]))] H := hP
  have hD : va_D A [(aU, .inr (8, [.ref aD, .int p0, .int (0 : Int32), .int U_started, .int U_time, .int U_value, .long U_rise]))] := hD
  refine lv_aload_n hx hb dX8_open_10 rfl (lv_at hl 0 rfl) ?_
  refine lv_iconst (v := (0 : Int32)) hx hb dX8_open_11 (by decide) ?_
  refine va_put (D := G) (ci := 8) (v := .int (0 : Int32)) (ty := .boolean) (C := RX8) (T := TX8) (N := 7) hx hb htc iX8 tyX8 tyX8_ok nmX8 hown hK hP hD hS 0 rfl rfl 3 (by decide) (htc _ mw_88) (fun _ h9 => h9) rfl (tyX8_ok 3 (by decide)) rfl rfl (Nat.le_of_ble_eq_true rfl) dX8_open_12 (fun H locs hP hD hS => ?_)
  have hP : va_P G classes [(aU, .inr (8, [.ref aD, .int p0, .int (0 : Int32), .int (0 : Int32), .int U_time, .int U_value, .long U_rise]))] H := hP
  have hD : va_D A [(aU, .inr (8, [.ref aD, .int p0, .int (0 : Int32), .int (0 : Int32), .int U_time, .int U_value, .long U_rise]))] := hD
  cases hfin
  rw [hQQ]
  exact ct_vret hx hb hr hlocks hP hD hS dX8_open_15
def m_X8_readBits (D_cells : Nat → Int32) (U_place : Int32) (U_bitsRead : Int32) (p0 : Int32) : Option (Int64 × Int32) :=
  ob1 (m_X2_read D_cells ((U_place + (2 : Int32)) + (U_bitsRead / (32 : Int32)))) fun r_2 =>
  ob1 (m_X2_read D_cells (((U_place + (2 : Int32)) + (U_bitsRead / (32 : Int32))) + (1 : Int32))) fun r_4 =>
  some (((Int64.toUInt64 ((((Int32.toInt64 r_2) <<< (Int32.toInt64 (32 : Int32) &&& 63)) ||| ((Int32.toInt64 r_4) &&& (4294967295 : Int64))) <<< (Int32.toInt64 (U_bitsRead - U_bitsRead / (32 : Int32) * (32 : Int32)) &&& 63)) >>> ((Int32.toInt64 ((64 : Int32) - p0)).toUInt64 &&& Int64.toUInt64 63)).toInt64), (U_bitsRead + p0))
abbrev rm_X8_readBits : Room := { frames := 1, cells := 0, slots := 0, locals := 21 }
theorem hd_X8_readBits : yX8_readBits.cls = RX8 ∧ yX8_readBits.cls ≠ "java/lang/invoke/MethodHandle" ∧ yX8_readBits.cls ≠ "java/lang/invoke/VarHandle" ∧ (parseMethodDescriptor yX8_readBits.desc).map (fun d => d.parameters.length) = some 1 := by decide +kernel
set_option maxHeartbeats 4000000 in
set_option maxRecDepth 100000 in
theorem c_X8_readBits (l : Launch) (G : va_G) (cI cZ cJ : ClassId) (aD aDc aU : Nat) (D_writesDone : Int32) (D_writesLeft : Int32) (D_down : Int32) (D_cells : Nat → Int32) (U_place : Int32) (U_bitsRead : Int32) (U_started : Int32) (U_time : Int32) (U_value : Int32) (U_rise : Int64) (p0 : Int32) {r : Int64} {o_U_bitsRead : Int32} (hfin : m_X8_readBits D_cells U_place U_bitsRead p0 = some (r, o_U_bitsRead)) : CT l yX8_readBits cX8_readBits 7 (some .long) rm_X8_readBits G (tyC cI cZ cJ) [.ref aU, .int p0] [(aD, .inr (2, [.ref aDc, .int D_writesDone, .int D_writesLeft, .int D_down])), (aDc, .inl (cI, 4096, .inl D_cells)), (aU, .inr (8, [.ref aD, .int U_place, .int U_bitsRead, .int U_started, .int U_time, .int U_value, .long U_rise]))] (some (.long r)) [(aD, .inr (2, [.ref aDc, .int D_writesDone, .int D_writesLeft, .int D_down])), (aDc, .inl (cI, 4096, .inl D_cells)), (aU, .inr (8, [.ref aD, .int U_place, .int o_U_bitsRead, .int U_started, .int U_time, .int U_value, .long U_rise]))] := by
  refine CT.ofW (lvl := [(0, .ref aU), (1, .int p0)]) (by decide) (Nat.le_of_ble_eq_true rfl) rfl ?_
  intro p e s m args below meth c A ls QQ hQQ hx hb hml hr hlocks htc hN hown hK hA hP hD hS hl
  rw [m_X8_readBits] at hfin
  refine lv_aload_n hx hb dX8_readBits_0 rfl (lv_at hl 0 rfl) ?_
  refine va_get (D := G) (ci := 8) (v := .int U_place) (C := RX8) (T := TX8) (N := 7) hx hb htc iX8 hown hK hP 2 rfl rfl 1 (by decide) (htc _ mw_86) (fun _ h9 => h9) rfl dX8_readBits_1 ?_
  refine lv_iconst (v := (2 : Int32)) hx hb dX8_readBits_4 (by decide) ?_
  refine lv_iadd hx hb dX8_readBits_5 ?_
  refine lv_aload_n hx hb dX8_readBits_6 rfl (lv_at hl 0 rfl) ?_
  refine va_get (D := G) (ci := 8) (v := .int U_bitsRead) (C := RX8) (T := TX8) (N := 7) hx hb htc iX8 hown hK hP 2 rfl rfl 2 (by decide) (htc _ mw_87) (fun _ h9 => h9) rfl dX8_readBits_7 ?_
  refine lv_bipush (v := (32 : Int32)) hx hb dX8_readBits_10 (by decide) ?_
  refine lv_idiv hx hb dX8_readBits_12 (by decide) ?_
  refine lv_iadd hx hb dX8_readBits_13 ?_
  refine lv_istore_n (lv' := [(2, .int ((U_place + (2 : Int32)) + (U_bitsRead / (32 : Int32)))), (0, .ref aU), (1, .int p0)]) hx hb dX8_readBits_14 rfl hl (by decide) rfl (fun ls hl => ?_)
  refine lv_aload_n hx hb dX8_readBits_15 rfl (lv_at hl 1 rfl) ?_
  refine va_get (D := G) (ci := 8) (v := .ref aD) (C := RX8) (T := TX8) (N := 7) hx hb htc iX8 hown hK hP 2 rfl rfl 0 (by decide) (htc _ mw_85) (fun _ h9 => h9) rfl dX8_readBits_16 ?_
  refine lv_iload_n hx hb dX8_readBits_19 rfl (lv_at hl 0 rfl) ?_
  obtain ⟨r_2, hE_1, hfin⟩ := ob1_some hfin
  refine ctV (a := aD) (As := [.int ((U_place + (2 : Int32)) + (U_bitsRead / (32 : Int32)))]) (rest := []) (st1 := [.int r_2]) (wc := [(aD, .inr (2, [.ref aDc, .int D_writesDone, .int D_writesLeft, .int D_down])), (aDc, .inl (cI, 4096, .inl D_cells))]) (w1 := [(aD, .inr (2, [.ref aDc, .int D_writesDone, .int D_writesLeft, .int D_down])), (aDc, .inl (cI, 4096, .inl D_cells))]) (wr := [(aU, .inr (8, [.ref aD, .int U_place, .int U_bitsRead, .int U_started, .int U_time, .int U_value, .long U_rise]))]) (wb := [(aD, .inr (2, [.ref aDc, .int D_writesDone, .int D_writesLeft, .int D_down])), (aDc, .inl (cI, 4096, .inl D_cells)), (aU, .inr (8, [.ref aD, .int U_place, .int U_bitsRead, .int U_started, .int U_time, .int U_value, .long U_rise]))]) (v := (some (.int r_2))) hx hb hml hown htc hN (c_X2_read l G cI cZ cJ aD aDc D_writesDone D_writesLeft D_down D_cells ((U_place + (2 : Int32)) + (U_bitsRead / (32 : Int32))) hE_1) mw_583 mw_366 mw_367 mw_3 mw_368 hd_X2_read ⟨rfl, rfl⟩ ⟨Nat.le_of_ble_eq_true rfl, Nat.le_of_ble_eq_true rfl⟩ hK hP hD hS hA [0, 1] [2] [1, 2, 0] rfl rfl rfl rfl rfl (by decide) rfl rfl rfl 0 rfl rfl rfl rfl hl.1 rfl rfl (Nat.le_of_ble_eq_true rfl) dX8_readBits_20 ⟨Nat.zero_le _, Nat.zero_le _⟩ (fun H locs hP hD hS => ?_)
  refine lv_i2l hx hb dX8_readBits_23 rfl ?_
  refine lv_bipush (v := (32 : Int32)) hx hb dX8_readBits_24 (by decide) ?_
  refine lv_lshl hx hb dX8_readBits_26 rfl ?_
  refine lv_aload_n hx hb dX8_readBits_27 rfl (lv_at hl 1 rfl) ?_
  refine va_get (D := G) (ci := 8) (v := .ref aD) (C := RX8) (T := TX8) (N := 7) hx hb htc iX8 hown hK hP 2 rfl rfl 0 (by decide) (htc _ mw_85) (fun _ h9 => h9) rfl dX8_readBits_28 ?_
  refine lv_iload_n hx hb dX8_readBits_31 rfl (lv_at hl 0 rfl) ?_
  refine lv_iconst (v := (1 : Int32)) hx hb dX8_readBits_32 (by decide) ?_
  refine lv_iadd hx hb dX8_readBits_33 ?_
  obtain ⟨r_4, hE_3, hfin⟩ := ob1_some hfin
  refine ctV (a := aD) (As := [.int (((U_place + (2 : Int32)) + (U_bitsRead / (32 : Int32))) + (1 : Int32))]) (rest := [.long ((Int32.toInt64 r_2) <<< (Int32.toInt64 (32 : Int32) &&& 63))]) (st1 := [.int r_4, .long ((Int32.toInt64 r_2) <<< (Int32.toInt64 (32 : Int32) &&& 63))]) (wc := [(aD, .inr (2, [.ref aDc, .int D_writesDone, .int D_writesLeft, .int D_down])), (aDc, .inl (cI, 4096, .inl D_cells))]) (w1 := [(aD, .inr (2, [.ref aDc, .int D_writesDone, .int D_writesLeft, .int D_down])), (aDc, .inl (cI, 4096, .inl D_cells))]) (wr := [(aU, .inr (8, [.ref aD, .int U_place, .int U_bitsRead, .int U_started, .int U_time, .int U_value, .long U_rise]))]) (wb := [(aD, .inr (2, [.ref aDc, .int D_writesDone, .int D_writesLeft, .int D_down])), (aDc, .inl (cI, 4096, .inl D_cells)), (aU, .inr (8, [.ref aD, .int U_place, .int U_bitsRead, .int U_started, .int U_time, .int U_value, .long U_rise]))]) (v := (some (.int r_4))) hx hb hml hown htc hN (c_X2_read l G cI cZ cJ aD aDc D_writesDone D_writesLeft D_down D_cells (((U_place + (2 : Int32)) + (U_bitsRead / (32 : Int32))) + (1 : Int32)) hE_3) mw_583 mw_366 mw_367 mw_3 mw_368 hd_X2_read ⟨rfl, rfl⟩ ⟨Nat.le_of_ble_eq_true rfl, Nat.le_of_ble_eq_true rfl⟩ hK hP hD hS hA [0, 1] [2] [1, 2, 0] rfl rfl rfl rfl rfl (by decide) rfl rfl rfl 0 rfl rfl rfl rfl hl.1 rfl rfl (Nat.le_of_ble_eq_true rfl) dX8_readBits_34 ⟨Nat.zero_le _, Nat.zero_le _⟩ (fun H locs hP hD hS => ?_)
  refine lv_i2l hx hb dX8_readBits_37 rfl ?_
  refine lv_ldc2 (v := (4294967295 : Int64)) hx hb hown (htc _ mw_592) dX8_readBits_38 ?_
  refine lv_land hx hb dX8_readBits_41 ?_
  refine lv_lor hx hb dX8_readBits_42 ?_
  refine lv_lstore_n (lv' := [(3, .long (((Int32.toInt64 r_2) <<< (Int32.toInt64 (32 : Int32) &&& 63)) ||| ((Int32.toInt64 r_4) &&& (4294967295 : Int64)))), (2, .int ((U_place + (2 : Int32)) + (U_bitsRead / (32 : Int32)))), (0, .ref aU), (1, .int p0)]) hx hb dX8_readBits_43 rfl hl (by decide) rfl (fun ls hl => ?_)
  refine lv_lload_n hx hb dX8_readBits_44 rfl (lv_at hl 0 rfl) ?_
  refine lv_aload_n hx hb dX8_readBits_45 rfl (lv_at hl 2 rfl) ?_
  refine va_get (D := G) (ci := 8) (v := .int U_bitsRead) (C := RX8) (T := TX8) (N := 7) hx hb htc iX8 hown hK hP 2 rfl rfl 2 (by decide) (htc _ mw_87) (fun _ h9 => h9) rfl dX8_readBits_46 ?_
  refine lv_bipush (v := (32 : Int32)) hx hb dX8_readBits_49 (by decide) ?_
  refine lv_irem hx hb dX8_readBits_51 (by decide) ?_
  refine lv_lshl hx hb dX8_readBits_52 rfl ?_
  refine lv_lstore (lv' := [(5, .long ((((Int32.toInt64 r_2) <<< (Int32.toInt64 (32 : Int32) &&& 63)) ||| ((Int32.toInt64 r_4) &&& (4294967295 : Int64))) <<< (Int32.toInt64 (U_bitsRead - U_bitsRead / (32 : Int32) * (32 : Int32)) &&& 63))), (3, .long (((Int32.toInt64 r_2) <<< (Int32.toInt64 (32 : Int32) &&& 63)) ||| ((Int32.toInt64 r_4) &&& (4294967295 : Int64)))), (2, .int ((U_place + (2 : Int32)) + (U_bitsRead / (32 : Int32)))), (0, .ref aU), (1, .int p0)]) hx hb dX8_readBits_53 hl (by decide) rfl (fun ls hl => ?_)
  refine lv_aload_n hx hb dX8_readBits_55 rfl (lv_at hl 3 rfl) ?_
  refine lv_dup hx hb dX8_readBits_56 rfl ?_
  refine va_get (D := G) (ci := 8) (v := .int U_bitsRead) (C := RX8) (T := TX8) (N := 7) hx hb htc iX8 hown hK hP 2 rfl rfl 2 (by decide) (htc _ mw_87) (fun _ h9 => h9) rfl dX8_readBits_57 ?_
  refine lv_iload_n hx hb dX8_readBits_60 rfl (lv_at hl 4 rfl) ?_
  refine lv_iadd hx hb dX8_readBits_61 ?_
  refine va_put (D := G) (ci := 8) (v := .int (U_bitsRead + p0)) (ty := .int) (C := RX8) (T := TX8) (N := 7) hx hb htc iX8 tyX8 tyX8_ok nmX8 hown hK hP hD hS 2 rfl rfl 2 (by decide) (htc _ mw_87) (fun _ h9 => h9) rfl (tyX8_ok 2 (by decide)) rfl rfl (Nat.le_of_ble_eq_true rfl) dX8_readBits_62 (fun H locs hP hD hS => ?_)
  have hP : va_P G classes [(aD, .inr (2, [.ref aDc, .int D_writesDone, .int D_writesLeft, .int D_down])), (aDc, .inl (cI, 4096, .inl D_cells)), (aU, .inr (8, [.ref aD, .int U_place, .int (U_bitsRead + p0), .int U_started, .int U_time, .int U_value, .long U_rise]))] H := hP
  have hD : va_D A [(aD, .inr (2, [.ref aDc, .int D_writesDone, .int D_writesLeft, .int D_down])), (aDc, .inl (cI, 4096, .inl D_cells)), (aU, .inr (8, [.ref aD, .int U_place, .int (U_bitsRead + p0), .int U_started, .int U_time, .int U_value, .long U_rise]))] := hD
  refine lv_lload hx hb dX8_readBits_65 (lv_at hl 0 rfl) ?_
  refine lv_bipush (v := (64 : Int32)) hx hb dX8_readBits_67 (by decide) ?_
  refine lv_iload_n hx hb dX8_readBits_69 rfl (lv_at hl 4 rfl) ?_
  refine lv_isub hx hb dX8_readBits_70 ?_
  refine lv_lushr hx hb dX8_readBits_71 rfl ?_
  cases hfin
  rw [hQQ]
  exact ct_lret hx hb hr hlocks hP hD hS dX8_readBits_72
def lp_X8_readChange_2 (D_cells : Nat → Int32) (U_place : Int32) : Nat → Int32 → Int32 → Option (Int32 × Int32)
  | 0, _, _ => none
  | n + 1, v1_1, U_bitsRead_2 =>
    if (4 : Int32) ≤ v1_1 then (
      some (v1_1, U_bitsRead_2)) else (
      ob2 (m_X8_readBits D_cells U_place U_bitsRead_2 (1 : Int32)) fun r_11 U_bitsRead_12 =>
      if (lg_cmp r_11 (1 : Int64)) = 0 then (
        lp_X8_readChange_2 D_cells U_place n (v1_1 + (1 : Int32)) U_bitsRead_12) else (
        some (v1_1, U_bitsRead_12)))
def m_X8_readChange (D_cells : Nat → Int32) (U_place : Int32) (U_bitsRead : Int32) : Option (Int64 × Int32) :=
  ob2 (lp_X8_readChange_2 D_cells U_place NN (0 : Int32) U_bitsRead) fun v1_7 U_bitsRead_8 =>
  if v1_7 = (0 : Int32) then (
    some ((0 : Int64), U_bitsRead_8)) else if v1_7 = (1 : Int32) then (
    ob2 (m_X8_readBits D_cells U_place U_bitsRead_8 (7 : Int32)) fun r_17 U_bitsRead_18 =>
    some ((r_17 - (64 : Int64)), U_bitsRead_18)) else if v1_7 = (2 : Int32) then (
    ob2 (m_X8_readBits D_cells U_place U_bitsRead_8 (9 : Int32)) fun r_21 U_bitsRead_22 =>
    some ((r_21 - (256 : Int64)), U_bitsRead_22)) else if v1_7 = (3 : Int32) then (
    ob2 (m_X8_readBits D_cells U_place U_bitsRead_8 (12 : Int32)) fun r_25 U_bitsRead_26 =>
    some ((r_25 - (2048 : Int64)), U_bitsRead_26)) else (
    ob2 (m_X8_readBits D_cells U_place U_bitsRead_8 (2 : Int32)) fun r_28 U_bitsRead_29 =>
    ob2 (m_X8_readBits D_cells U_place U_bitsRead_29 (32 : Int32)) fun r_31 U_bitsRead_32 =>
    some ((((r_28 <<< (Int32.toInt64 (32 : Int32) &&& 63)) ||| r_31) - (8589934592 : Int64)), U_bitsRead_32))
abbrev rm_X8_readChange : Room := { frames := 2, cells := 0, slots := 0, locals := 47 }
theorem hd_X8_readChange : yX8_readChange.cls = RX8 ∧ yX8_readChange.cls ≠ "java/lang/invoke/MethodHandle" ∧ yX8_readChange.cls ≠ "java/lang/invoke/VarHandle" ∧ (parseMethodDescriptor yX8_readChange.desc).map (fun d => d.parameters.length) = some 0 := by decide +kernel
set_option maxHeartbeats 4000000 in
set_option maxRecDepth 100000 in
theorem c_X8_readChange (l : Launch) (G : va_G) (cI cZ cJ : ClassId) (aD aDc aU : Nat) (D_writesDone : Int32) (D_writesLeft : Int32) (D_down : Int32) (D_cells : Nat → Int32) (U_place : Int32) (U_bitsRead : Int32) (U_started : Int32) (U_time : Int32) (U_value : Int32) (U_rise : Int64)  {r : Int64} {o_U_bitsRead : Int32} (hfin : m_X8_readChange D_cells U_place U_bitsRead = some (r, o_U_bitsRead)) : CT l yX8_readChange cX8_readChange 4 (some .long) rm_X8_readChange G (tyC cI cZ cJ) [.ref aU] [(aD, .inr (2, [.ref aDc, .int D_writesDone, .int D_writesLeft, .int D_down])), (aDc, .inl (cI, 4096, .inl D_cells)), (aU, .inr (8, [.ref aD, .int U_place, .int U_bitsRead, .int U_started, .int U_time, .int U_value, .long U_rise]))] (some (.long r)) [(aD, .inr (2, [.ref aDc, .int D_writesDone, .int D_writesLeft, .int D_down])), (aDc, .inl (cI, 4096, .inl D_cells)), (aU, .inr (8, [.ref aD, .int U_place, .int o_U_bitsRead, .int U_started, .int U_time, .int U_value, .long U_rise]))] := by
  refine CT.ofW (lvl := [(0, .ref aU)]) (by decide) (Nat.le_of_ble_eq_true rfl) rfl ?_
  intro p e s m args below meth c A ls QQ hQQ hx hb hml hr hlocks htc hN hown hK hA hP hD hS hl
  rw [m_X8_readChange] at hfin
  refine lv_iconst (v := (0 : Int32)) hx hb dX8_readChange_0 (by decide) ?_
  refine lv_istore_n (lv' := [(1, .int (0 : Int32)), (0, .ref aU)]) hx hb dX8_readChange_1 rfl hl (by decide) rfl (fun ls hl => ?_)
  obtain ⟨v1_7, U_bitsRead_8, hL_3, hfin⟩ := ob2_some hfin
  have kx_4 : ∀ (H : Heap) (locs : List Loc) (ls : Array Slot), va_P G classes [(aD, .inr (2, [.ref aDc, .int D_writesDone, .int D_writesLeft, .int D_down])), (aDc, .inl (cI, 4096, .inl D_cells)), (aU, .inr (8, [.ref aD, .int U_place, .int U_bitsRead_8, .int U_started, .int U_time, .int U_value, .long U_rise]))] H → va_D A [(aD, .inr (2, [.ref aDc, .int D_writesDone, .int D_writesLeft, .int D_down])), (aDc, .inl (cI, 4096, .inl D_cells)), (aU, .inr (8, [.ref aD, .int U_place, .int U_bitsRead_8, .int U_started, .int U_time, .int U_value, .long U_rise]))] → va_S A s.heap H locs → lv_has ls 4 [(0, .ref aU), (1, .int v1_7)] → W p l e rm_X8_readChange s m args below meth c H locs 0 0 QQ (F0 m 23 ls []) := by
    intro H locs ls hP hD hS hl
    refine lv_iload_n hx hb dX8_readChange_23 rfl (lv_at hl 1 rfl) ?_
    by_cases c_14 : v1_7 = (0 : Int32)
    · have hfin := it_t c_14 hfin
      refine lv_tableIn (tgt := 56) hx hb dX8_readChange_24 (by rw [c_14]; decide) (by rw [c_14]; decide) (by rw [c_14]; rfl) (by decide) ?_
      refine lv_lconst (v := (0 : Int64)) hx hb dX8_readChange_56 (by decide) ?_
      cases hfin
      rw [hQQ]
      exact ct_lret hx hb hr hlocks hP hD hS dX8_readChange_57
    · have hfin := it_f c_14 hfin
      by_cases c_15 : v1_7 = (1 : Int32)
      · have hfin := it_t c_15 hfin
        refine lv_tableIn (tgt := 58) hx hb dX8_readChange_24 (by rw [c_15]; decide) (by rw [c_15]; decide) (by rw [c_15]; rfl) (by decide) ?_
        refine lv_aload_n hx hb dX8_readChange_58 rfl (lv_at hl 0 rfl) ?_
        refine lv_bipush (v := (7 : Int32)) hx hb dX8_readChange_59 (by decide) ?_
        obtain ⟨r_17, U_bitsRead_18, hE_16, hfin⟩ := ob2_some hfin
        refine ctV (a := aU) (As := [.int (7 : Int32)]) (rest := []) (st1 := [.long r_17]) (wc := [(aD, .inr (2, [.ref aDc, .int D_writesDone, .int D_writesLeft, .int D_down])), (aDc, .inl (cI, 4096, .inl D_cells)), (aU, .inr (8, [.ref aD, .int U_place, .int U_bitsRead_8, .int U_started, .int U_time, .int U_value, .long U_rise]))]) (w1 := [(aD, .inr (2, [.ref aDc, .int D_writesDone, .int D_writesLeft, .int D_down])), (aDc, .inl (cI, 4096, .inl D_cells)), (aU, .inr (8, [.ref aD, .int U_place, .int U_bitsRead_18, .int U_started, .int U_time, .int U_value, .long U_rise]))]) (wr := []) (wb := [(aD, .inr (2, [.ref aDc, .int D_writesDone, .int D_writesLeft, .int D_down])), (aDc, .inl (cI, 4096, .inl D_cells)), (aU, .inr (8, [.ref aD, .int U_place, .int U_bitsRead_18, .int U_started, .int U_time, .int U_value, .long U_rise]))]) (v := (some (.long r_17))) hx hb hml hown htc hN (c_X8_readBits l G cI cZ cJ aD aDc aU D_writesDone D_writesLeft D_down D_cells U_place U_bitsRead_8 U_started U_time U_value U_rise (7 : Int32) hE_16) mw_588 mw_590 mp_19 mw_6 mw_591 hd_X8_readBits ⟨rfl, rfl⟩ ⟨Nat.le_of_ble_eq_true rfl, Nat.le_of_ble_eq_true rfl⟩ hK hP hD hS hA [0, 1, 2] [] [0, 1, 2] rfl rfl rfl rfl rfl (by decide) rfl rfl rfl 2 rfl rfl rfl rfl hl.1 rfl rfl (Nat.le_of_ble_eq_true rfl) dX8_readChange_61 ⟨Nat.zero_le _, Nat.zero_le _⟩ (fun H locs hP hD hS => ?_)
        refine lv_ldc2 (v := (64 : Int64)) hx hb hown (htc _ mw_593) dX8_readChange_64 ?_
        refine lv_lsub hx hb dX8_readChange_67 ?_
        cases hfin
        rw [hQQ]
        exact ct_lret hx hb hr hlocks hP hD hS dX8_readChange_68
      · have hfin := it_f c_15 hfin
        by_cases c_19 : v1_7 = (2 : Int32)
        · have hfin := it_t c_19 hfin
          refine lv_tableIn (tgt := 69) hx hb dX8_readChange_24 (by rw [c_19]; decide) (by rw [c_19]; decide) (by rw [c_19]; rfl) (by decide) ?_
          refine lv_aload_n hx hb dX8_readChange_69 rfl (lv_at hl 0 rfl) ?_
          refine lv_bipush (v := (9 : Int32)) hx hb dX8_readChange_70 (by decide) ?_
          obtain ⟨r_21, U_bitsRead_22, hE_20, hfin⟩ := ob2_some hfin
          refine ctV (a := aU) (As := [.int (9 : Int32)]) (rest := []) (st1 := [.long r_21]) (wc := [(aD, .inr (2, [.ref aDc, .int D_writesDone, .int D_writesLeft, .int D_down])), (aDc, .inl (cI, 4096, .inl D_cells)), (aU, .inr (8, [.ref aD, .int U_place, .int U_bitsRead_8, .int U_started, .int U_time, .int U_value, .long U_rise]))]) (w1 := [(aD, .inr (2, [.ref aDc, .int D_writesDone, .int D_writesLeft, .int D_down])), (aDc, .inl (cI, 4096, .inl D_cells)), (aU, .inr (8, [.ref aD, .int U_place, .int U_bitsRead_22, .int U_started, .int U_time, .int U_value, .long U_rise]))]) (wr := []) (wb := [(aD, .inr (2, [.ref aDc, .int D_writesDone, .int D_writesLeft, .int D_down])), (aDc, .inl (cI, 4096, .inl D_cells)), (aU, .inr (8, [.ref aD, .int U_place, .int U_bitsRead_22, .int U_started, .int U_time, .int U_value, .long U_rise]))]) (v := (some (.long r_21))) hx hb hml hown htc hN (c_X8_readBits l G cI cZ cJ aD aDc aU D_writesDone D_writesLeft D_down D_cells U_place U_bitsRead_8 U_started U_time U_value U_rise (9 : Int32) hE_20) mw_588 mw_590 mp_19 mw_6 mw_591 hd_X8_readBits ⟨rfl, rfl⟩ ⟨Nat.le_of_ble_eq_true rfl, Nat.le_of_ble_eq_true rfl⟩ hK hP hD hS hA [0, 1, 2] [] [0, 1, 2] rfl rfl rfl rfl rfl (by decide) rfl rfl rfl 2 rfl rfl rfl rfl hl.1 rfl rfl (Nat.le_of_ble_eq_true rfl) dX8_readChange_72 ⟨Nat.zero_le _, Nat.zero_le _⟩ (fun H locs hP hD hS => ?_)
          refine lv_ldc2 (v := (256 : Int64)) hx hb hown (htc _ mw_594) dX8_readChange_75 ?_
          refine lv_lsub hx hb dX8_readChange_78 ?_
          cases hfin
          rw [hQQ]
          exact ct_lret hx hb hr hlocks hP hD hS dX8_readChange_79
        · have hfin := it_f c_19 hfin
          by_cases c_23 : v1_7 = (3 : Int32)
          · have hfin := it_t c_23 hfin
            refine lv_tableIn (tgt := 80) hx hb dX8_readChange_24 (by rw [c_23]; decide) (by rw [c_23]; decide) (by rw [c_23]; rfl) (by decide) ?_
            refine lv_aload_n hx hb dX8_readChange_80 rfl (lv_at hl 0 rfl) ?_
            refine lv_bipush (v := (12 : Int32)) hx hb dX8_readChange_81 (by decide) ?_
            obtain ⟨r_25, U_bitsRead_26, hE_24, hfin⟩ := ob2_some hfin
            refine ctV (a := aU) (As := [.int (12 : Int32)]) (rest := []) (st1 := [.long r_25]) (wc := [(aD, .inr (2, [.ref aDc, .int D_writesDone, .int D_writesLeft, .int D_down])), (aDc, .inl (cI, 4096, .inl D_cells)), (aU, .inr (8, [.ref aD, .int U_place, .int U_bitsRead_8, .int U_started, .int U_time, .int U_value, .long U_rise]))]) (w1 := [(aD, .inr (2, [.ref aDc, .int D_writesDone, .int D_writesLeft, .int D_down])), (aDc, .inl (cI, 4096, .inl D_cells)), (aU, .inr (8, [.ref aD, .int U_place, .int U_bitsRead_26, .int U_started, .int U_time, .int U_value, .long U_rise]))]) (wr := []) (wb := [(aD, .inr (2, [.ref aDc, .int D_writesDone, .int D_writesLeft, .int D_down])), (aDc, .inl (cI, 4096, .inl D_cells)), (aU, .inr (8, [.ref aD, .int U_place, .int U_bitsRead_26, .int U_started, .int U_time, .int U_value, .long U_rise]))]) (v := (some (.long r_25))) hx hb hml hown htc hN (c_X8_readBits l G cI cZ cJ aD aDc aU D_writesDone D_writesLeft D_down D_cells U_place U_bitsRead_8 U_started U_time U_value U_rise (12 : Int32) hE_24) mw_588 mw_590 mp_19 mw_6 mw_591 hd_X8_readBits ⟨rfl, rfl⟩ ⟨Nat.le_of_ble_eq_true rfl, Nat.le_of_ble_eq_true rfl⟩ hK hP hD hS hA [0, 1, 2] [] [0, 1, 2] rfl rfl rfl rfl rfl (by decide) rfl rfl rfl 2 rfl rfl rfl rfl hl.1 rfl rfl (Nat.le_of_ble_eq_true rfl) dX8_readChange_83 ⟨Nat.zero_le _, Nat.zero_le _⟩ (fun H locs hP hD hS => ?_)
            refine lv_ldc2 (v := (2048 : Int64)) hx hb hown (htc _ mw_595) dX8_readChange_86 ?_
            refine lv_lsub hx hb dX8_readChange_89 ?_
            cases hfin
            rw [hQQ]
            exact ct_lret hx hb hr hlocks hP hD hS dX8_readChange_90
          · have hfin := it_f c_23 hfin
            refine lv_tableOut (tgt := 91) hx hb dX8_readChange_24 (sw_out3 c_14 c_15 c_19 c_23) (by decide) ?_
            refine lv_aload_n hx hb dX8_readChange_91 rfl (lv_at hl 0 rfl) ?_
            refine lv_iconst (v := (2 : Int32)) hx hb dX8_readChange_92 (by decide) ?_
            obtain ⟨r_28, U_bitsRead_29, hE_27, hfin⟩ := ob2_some hfin
            refine ctV (a := aU) (As := [.int (2 : Int32)]) (rest := []) (st1 := [.long r_28]) (wc := [(aD, .inr (2, [.ref aDc, .int D_writesDone, .int D_writesLeft, .int D_down])), (aDc, .inl (cI, 4096, .inl D_cells)), (aU, .inr (8, [.ref aD, .int U_place, .int U_bitsRead_8, .int U_started, .int U_time, .int U_value, .long U_rise]))]) (w1 := [(aD, .inr (2, [.ref aDc, .int D_writesDone, .int D_writesLeft, .int D_down])), (aDc, .inl (cI, 4096, .inl D_cells)), (aU, .inr (8, [.ref aD, .int U_place, .int U_bitsRead_29, .int U_started, .int U_time, .int U_value, .long U_rise]))]) (wr := []) (wb := [(aD, .inr (2, [.ref aDc, .int D_writesDone, .int D_writesLeft, .int D_down])), (aDc, .inl (cI, 4096, .inl D_cells)), (aU, .inr (8, [.ref aD, .int U_place, .int U_bitsRead_29, .int U_started, .int U_time, .int U_value, .long U_rise]))]) (v := (some (.long r_28))) hx hb hml hown htc hN (c_X8_readBits l G cI cZ cJ aD aDc aU D_writesDone D_writesLeft D_down D_cells U_place U_bitsRead_8 U_started U_time U_value U_rise (2 : Int32) hE_27) mw_588 mw_590 mp_19 mw_6 mw_591 hd_X8_readBits ⟨rfl, rfl⟩ ⟨Nat.le_of_ble_eq_true rfl, Nat.le_of_ble_eq_true rfl⟩ hK hP hD hS hA [0, 1, 2] [] [0, 1, 2] rfl rfl rfl rfl rfl (by decide) rfl rfl rfl 2 rfl rfl rfl rfl hl.1 rfl rfl (Nat.le_of_ble_eq_true rfl) dX8_readChange_93 ⟨Nat.zero_le _, Nat.zero_le _⟩ (fun H locs hP hD hS => ?_)
            refine lv_lstore_n (lv' := [(2, .long r_28), (0, .ref aU), (1, .int v1_7)]) hx hb dX8_readChange_96 rfl hl (by decide) rfl (fun ls hl => ?_)
            refine lv_lload_n hx hb dX8_readChange_97 rfl (lv_at hl 0 rfl) ?_
            refine lv_bipush (v := (32 : Int32)) hx hb dX8_readChange_98 (by decide) ?_
            refine lv_lshl hx hb dX8_readChange_100 rfl ?_
            refine lv_aload_n hx hb dX8_readChange_101 rfl (lv_at hl 1 rfl) ?_
            refine lv_bipush (v := (32 : Int32)) hx hb dX8_readChange_102 (by decide) ?_
            obtain ⟨r_31, U_bitsRead_32, hE_30, hfin⟩ := ob2_some hfin
            refine ctV (a := aU) (As := [.int (32 : Int32)]) (rest := [.long (r_28 <<< (Int32.toInt64 (32 : Int32) &&& 63))]) (st1 := [.long r_31, .long (r_28 <<< (Int32.toInt64 (32 : Int32) &&& 63))]) (wc := [(aD, .inr (2, [.ref aDc, .int D_writesDone, .int D_writesLeft, .int D_down])), (aDc, .inl (cI, 4096, .inl D_cells)), (aU, .inr (8, [.ref aD, .int U_place, .int U_bitsRead_29, .int U_started, .int U_time, .int U_value, .long U_rise]))]) (w1 := [(aD, .inr (2, [.ref aDc, .int D_writesDone, .int D_writesLeft, .int D_down])), (aDc, .inl (cI, 4096, .inl D_cells)), (aU, .inr (8, [.ref aD, .int U_place, .int U_bitsRead_32, .int U_started, .int U_time, .int U_value, .long U_rise]))]) (wr := []) (wb := [(aD, .inr (2, [.ref aDc, .int D_writesDone, .int D_writesLeft, .int D_down])), (aDc, .inl (cI, 4096, .inl D_cells)), (aU, .inr (8, [.ref aD, .int U_place, .int U_bitsRead_32, .int U_started, .int U_time, .int U_value, .long U_rise]))]) (v := (some (.long r_31))) hx hb hml hown htc hN (c_X8_readBits l G cI cZ cJ aD aDc aU D_writesDone D_writesLeft D_down D_cells U_place U_bitsRead_29 U_started U_time U_value U_rise (32 : Int32) hE_30) mw_588 mw_590 mp_19 mw_6 mw_591 hd_X8_readBits ⟨rfl, rfl⟩ ⟨Nat.le_of_ble_eq_true rfl, Nat.le_of_ble_eq_true rfl⟩ hK hP hD hS hA [0, 1, 2] [] [0, 1, 2] rfl rfl rfl rfl rfl (by decide) rfl rfl rfl 2 rfl rfl rfl rfl hl.1 rfl rfl (Nat.le_of_ble_eq_true rfl) dX8_readChange_104 ⟨Nat.zero_le _, Nat.zero_le _⟩ (fun H locs hP hD hS => ?_)
            refine lv_lor hx hb dX8_readChange_107 ?_
            refine lv_ldc2 (v := (8589934592 : Int64)) hx hb hown (htc _ mw_596) dX8_readChange_108 ?_
            refine lv_lsub hx hb dX8_readChange_111 ?_
            cases hfin
            rw [hQQ]
            exact ct_lret hx hb hr hlocks hP hD hS dX8_readChange_112
  have lp_5 : ∀ (n : Nat) (v1_1 : Int32) (U_bitsRead_2 : Int32), lp_X8_readChange_2 D_cells U_place n v1_1 U_bitsRead_2 = some (v1_7, U_bitsRead_8) → ∀ (H : Heap) (locs : List Loc) (ls : Array Slot), va_P G classes [(aD, .inr (2, [.ref aDc, .int D_writesDone, .int D_writesLeft, .int D_down])), (aDc, .inl (cI, 4096, .inl D_cells)), (aU, .inr (8, [.ref aD, .int U_place, .int U_bitsRead_2, .int U_started, .int U_time, .int U_value, .long U_rise]))] H → va_D A [(aD, .inr (2, [.ref aDc, .int D_writesDone, .int D_writesLeft, .int D_down])), (aDc, .inl (cI, 4096, .inl D_cells)), (aU, .inr (8, [.ref aD, .int U_place, .int U_bitsRead_2, .int U_started, .int U_time, .int U_value, .long U_rise]))] → va_S A s.heap H locs → lv_has ls 4 [(0, .ref aU), (1, .int v1_1)] → W p l e rm_X8_readChange s m args below meth c H locs 0 0 QQ (F0 m 2 ls []) := by
    intro n
    induction n with
    | zero =>
      intro v1_1 U_bitsRead_2 hB_6
      exact absurd hB_6 (by rw [lp_X8_readChange_2]; exact fun h9 => nomatch h9)
    | succ n ih =>
      intro v1_1 U_bitsRead_2 hB_6 H locs ls hP hD hS hl
      rw [lp_X8_readChange_2] at hB_6
      refine lv_iload_n hx hb dX8_readChange_2 rfl (lv_at hl 1 rfl) ?_
      refine lv_iconst (v := (4 : Int32)) hx hb dX8_readChange_3 (by decide) ?_
      refine lv_icmp_ge (tgt := 23) hx hb dX8_readChange_4 (by decide) (fun c_9 => ?_) (fun c_9 => ?_)
      · have hB_6 := it_t c_9 hB_6
        cases hB_6
        exact kx_4 _ _ _ hP hD hS (lv_sub hl [0, 1] rfl)
      · have hB_6 := it_f c_9 hB_6
        refine lv_aload_n hx hb dX8_readChange_7 rfl (lv_at hl 0 rfl) ?_
        refine lv_iconst (v := (1 : Int32)) hx hb dX8_readChange_8 (by decide) ?_
        obtain ⟨r_11, U_bitsRead_12, hE_10, hB_6⟩ := ob2_some hB_6
        refine ctV (a := aU) (As := [.int (1 : Int32)]) (rest := []) (st1 := [.long r_11]) (wc := [(aD, .inr (2, [.ref aDc, .int D_writesDone, .int D_writesLeft, .int D_down])), (aDc, .inl (cI, 4096, .inl D_cells)), (aU, .inr (8, [.ref aD, .int U_place, .int U_bitsRead_2, .int U_started, .int U_time, .int U_value, .long U_rise]))]) (w1 := [(aD, .inr (2, [.ref aDc, .int D_writesDone, .int D_writesLeft, .int D_down])), (aDc, .inl (cI, 4096, .inl D_cells)), (aU, .inr (8, [.ref aD, .int U_place, .int U_bitsRead_12, .int U_started, .int U_time, .int U_value, .long U_rise]))]) (wr := []) (wb := [(aD, .inr (2, [.ref aDc, .int D_writesDone, .int D_writesLeft, .int D_down])), (aDc, .inl (cI, 4096, .inl D_cells)), (aU, .inr (8, [.ref aD, .int U_place, .int U_bitsRead_12, .int U_started, .int U_time, .int U_value, .long U_rise]))]) (v := (some (.long r_11))) hx hb hml hown htc hN (c_X8_readBits l G cI cZ cJ aD aDc aU D_writesDone D_writesLeft D_down D_cells U_place U_bitsRead_2 U_started U_time U_value U_rise (1 : Int32) hE_10) mw_588 mw_590 mp_19 mw_6 mw_591 hd_X8_readBits ⟨rfl, rfl⟩ ⟨Nat.le_of_ble_eq_true rfl, Nat.le_of_ble_eq_true rfl⟩ hK hP hD hS hA [0, 1, 2] [] [0, 1, 2] rfl rfl rfl rfl rfl (by decide) rfl rfl rfl 2 rfl rfl rfl rfl hl.1 rfl rfl (Nat.le_of_ble_eq_true rfl) dX8_readChange_9 ⟨Nat.zero_le _, Nat.zero_le _⟩ (fun H locs hP hD hS => ?_)
        refine lv_lconst (v := (1 : Int64)) hx hb dX8_readChange_12 (by decide) ?_
        refine W.lcmp hx hb dX8_readChange_13 ?_
        refine lv_if_ne (tgt := 23) hx hb dX8_readChange_14 (by decide) (fun c_13 => ?_) (fun c_13 => ?_)
        · have hB_6 := it_f c_13 hB_6
          cases hB_6
          exact kx_4 _ _ _ hP hD hS (lv_sub hl [0, 1] rfl)
        · have hB_6 := it_t c_13 hB_6
          refine lv_iinc (v := (v1_1 + (1 : Int32))) (lv' := [(1, .int (v1_1 + (1 : Int32))), (0, .ref aU)]) hx hb dX8_readChange_17 hl (k := 1) rfl rfl (by decide) rfl (fun ls hl => ?_)
          refine lv_goto (tgt := 2) hx hb dX8_readChange_20 (by decide) ?_
          exact ih (v1_1 + (1 : Int32)) U_bitsRead_12 hB_6 _ _ _ hP hD hS (lv_sub hl [1, 0] rfl)
  exact lp_5 NN (0 : Int32) U_bitsRead hL_3 _ _ _ hP hD hS (lv_sub hl [1, 0] rfl)
def lp_X8_readDifference_4 (D_cells : Nat → Int32) (U_place : Int32) : Nat → Int32 → Int32 → Int32 → Option (Int32 × Int32)
  | 0, _, _, _ => none
  | n + 1, v1_1, v2_2, U_bitsRead_3 =>
    ob2 (m_X8_readBits D_cells U_place U_bitsRead_3 (1 : Int32)) fun r_11 U_bitsRead_12 =>
    if (lg_cmp r_11 (1 : Int64)) = 0 then (
      if (32 : Int32) ≤ v2_2 then (
        some (v1_1, U_bitsRead_12)) else (
        ob2 (m_X8_readBits D_cells U_place U_bitsRead_12 (4 : Int32)) fun r_16 U_bitsRead_17 =>
        lp_X8_readDifference_4 D_cells U_place n (v1_1 ||| ((Int64.toInt32 r_16) <<< (v2_2 &&& 31))) (v2_2 + (4 : Int32)) U_bitsRead_17)) else (
      some (v1_1, U_bitsRead_12))
def m_X8_readDifference (D_cells : Nat → Int32) (U_place : Int32) (U_bitsRead : Int32) : Option (Int32 × Int32) :=
  ob2 (lp_X8_readDifference_4 D_cells U_place NN (0 : Int32) (0 : Int32) U_bitsRead) fun v1_8 U_bitsRead_9 =>
  ob1 (
    if (v1_8 &&& (1 : Int32)) = 0 then (
      some (((Int32.toUInt32 v1_8 >>> (Int32.toUInt32 (1 : Int32) &&& Int32.toUInt32 31)).toInt32))) else (
      some (((-((Int32.toUInt32 v1_8 >>> (Int32.toUInt32 (1 : Int32) &&& Int32.toUInt32 31)).toInt32)) - (1 : Int32))))) fun s_18 =>
  some (s_18, U_bitsRead_9)
abbrev rm_X8_readDifference : Room := { frames := 2, cells := 0, slots := 0, locals := 47 }
theorem hd_X8_readDifference : yX8_readDifference.cls = RX8 ∧ yX8_readDifference.cls ≠ "java/lang/invoke/MethodHandle" ∧ yX8_readDifference.cls ≠ "java/lang/invoke/VarHandle" ∧ (parseMethodDescriptor yX8_readDifference.desc).map (fun d => d.parameters.length) = some 0 := by decide +kernel
set_option maxHeartbeats 4000000 in
set_option maxRecDepth 100000 in
theorem c_X8_readDifference (l : Launch) (G : va_G) (cI cZ cJ : ClassId) (aD aDc aU : Nat) (D_writesDone : Int32) (D_writesLeft : Int32) (D_down : Int32) (D_cells : Nat → Int32) (U_place : Int32) (U_bitsRead : Int32) (U_started : Int32) (U_time : Int32) (U_value : Int32) (U_rise : Int64)  {r : Int32} {o_U_bitsRead : Int32} (hfin : m_X8_readDifference D_cells U_place U_bitsRead = some (r, o_U_bitsRead)) : CT l yX8_readDifference cX8_readDifference 3 (some .int) rm_X8_readDifference G (tyC cI cZ cJ) [.ref aU] [(aD, .inr (2, [.ref aDc, .int D_writesDone, .int D_writesLeft, .int D_down])), (aDc, .inl (cI, 4096, .inl D_cells)), (aU, .inr (8, [.ref aD, .int U_place, .int U_bitsRead, .int U_started, .int U_time, .int U_value, .long U_rise]))] (some (.int r)) [(aD, .inr (2, [.ref aDc, .int D_writesDone, .int D_writesLeft, .int D_down])), (aDc, .inl (cI, 4096, .inl D_cells)), (aU, .inr (8, [.ref aD, .int U_place, .int o_U_bitsRead, .int U_started, .int U_time, .int U_value, .long U_rise]))] := by
  refine CT.ofW (lvl := [(0, .ref aU)]) (by decide) (Nat.le_of_ble_eq_true rfl) rfl ?_
  intro p e s m args below meth c A ls QQ hQQ hx hb hml hr hlocks htc hN hown hK hA hP hD hS hl
  rw [m_X8_readDifference] at hfin
  refine lv_iconst (v := (0 : Int32)) hx hb dX8_readDifference_0 (by decide) ?_
  refine lv_istore_n (lv' := [(1, .int (0 : Int32)), (0, .ref aU)]) hx hb dX8_readDifference_1 rfl hl (by decide) rfl (fun ls hl => ?_)
  refine lv_iconst (v := (0 : Int32)) hx hb dX8_readDifference_2 (by decide) ?_
  refine lv_istore_n (lv' := [(2, .int (0 : Int32)), (1, .int (0 : Int32)), (0, .ref aU)]) hx hb dX8_readDifference_3 rfl hl (by decide) rfl (fun ls hl => ?_)
  obtain ⟨v1_8, U_bitsRead_9, hL_4, hfin⟩ := ob2_some hfin
  have kx_5 : ∀ (H : Heap) (locs : List Loc) (ls : Array Slot), va_P G classes [(aD, .inr (2, [.ref aDc, .int D_writesDone, .int D_writesLeft, .int D_down])), (aDc, .inl (cI, 4096, .inl D_cells)), (aU, .inr (8, [.ref aD, .int U_place, .int U_bitsRead_9, .int U_started, .int U_time, .int U_value, .long U_rise]))] H → va_D A [(aD, .inr (2, [.ref aDc, .int D_writesDone, .int D_writesLeft, .int D_down])), (aDc, .inl (cI, 4096, .inl D_cells)), (aU, .inr (8, [.ref aD, .int U_place, .int U_bitsRead_9, .int U_started, .int U_time, .int U_value, .long U_rise]))] → va_S A s.heap H locs → lv_has ls 3 [(1, .int v1_8)] → W p l e rm_X8_readDifference s m args below meth c H locs 0 0 QQ (F0 m 37 ls []) := by
    intro H locs ls hP hD hS hl
    refine lv_iload_n hx hb dX8_readDifference_37 rfl (lv_at hl 0 rfl) ?_
    refine lv_iconst (v := (1 : Int32)) hx hb dX8_readDifference_38 (by decide) ?_
    refine lv_iand hx hb dX8_readDifference_39 ?_
    obtain ⟨s_18, hJ_19, hfin⟩ := ob1_some hfin
    have kj_20 : ∀ (H : Heap) (locs : List Loc) (ls : Array Slot), va_P G classes [(aD, .inr (2, [.ref aDc, .int D_writesDone, .int D_writesLeft, .int D_down])), (aDc, .inl (cI, 4096, .inl D_cells)), (aU, .inr (8, [.ref aD, .int U_place, .int U_bitsRead_9, .int U_started, .int U_time, .int U_value, .long U_rise]))] H → va_D A [(aD, .inr (2, [.ref aDc, .int D_writesDone, .int D_writesLeft, .int D_down])), (aDc, .inl (cI, 4096, .inl D_cells)), (aU, .inr (8, [.ref aD, .int U_place, .int U_bitsRead_9, .int U_started, .int U_time, .int U_value, .long U_rise]))] → va_S A s.heap H locs → lv_has ls 3 [] → W p l e rm_X8_readDifference s m args below meth c H locs 0 0 QQ (F0 m 55 ls [.int s_18]) := by
      intro H locs ls hP hD hS hl
      cases hfin
      rw [hQQ]
      exact ct_iret hx hb hr hlocks hP hD hS dX8_readDifference_55
    refine lv_if_ne (tgt := 49) hx hb dX8_readDifference_40 (by decide) (fun c_21 => ?_) (fun c_21 => ?_)
    · have hJ_19 := it_f c_21 hJ_19
      refine lv_iload_n hx hb dX8_readDifference_49 rfl (lv_at hl 0 rfl) ?_
      refine lv_iconst (v := (1 : Int32)) hx hb dX8_readDifference_50 (by decide) ?_
      refine lv_iushr hx hb dX8_readDifference_51 rfl ?_
      refine lv_ineg hx hb dX8_readDifference_52 ?_
      refine lv_iconst (v := (1 : Int32)) hx hb dX8_readDifference_53 (by decide) ?_
      refine lv_isub hx hb dX8_readDifference_54 ?_
      cases hJ_19
      exact kj_20 _ _ _ hP hD hS (lv_sub hl [] rfl)
    · have hJ_19 := it_t c_21 hJ_19
      refine lv_iload_n hx hb dX8_readDifference_43 rfl (lv_at hl 0 rfl) ?_
      refine lv_iconst (v := (1 : Int32)) hx hb dX8_readDifference_44 (by decide) ?_
      refine lv_iushr hx hb dX8_readDifference_45 rfl ?_
      refine lv_goto (tgt := 55) hx hb dX8_readDifference_46 (by decide) ?_
      cases hJ_19
      exact kj_20 _ _ _ hP hD hS (lv_sub hl [] rfl)
  have lp_6 : ∀ (n : Nat) (v1_1 : Int32) (v2_2 : Int32) (U_bitsRead_3 : Int32), lp_X8_readDifference_4 D_cells U_place n v1_1 v2_2 U_bitsRead_3 = some (v1_8, U_bitsRead_9) → ∀ (H : Heap) (locs : List Loc) (ls : Array Slot), va_P G classes [(aD, .inr (2, [.ref aDc, .int D_writesDone, .int D_writesLeft, .int D_down])), (aDc, .inl (cI, 4096, .inl D_cells)), (aU, .inr (8, [.ref aD, .int U_place, .int U_bitsRead_3, .int U_started, .int U_time, .int U_value, .long U_rise]))] H → va_D A [(aD, .inr (2, [.ref aDc, .int D_writesDone, .int D_writesLeft, .int D_down])), (aDc, .inl (cI, 4096, .inl D_cells)), (aU, .inr (8, [.ref aD, .int U_place, .int U_bitsRead_3, .int U_started, .int U_time, .int U_value, .long U_rise]))] → va_S A s.heap H locs → lv_has ls 3 [(0, .ref aU), (1, .int v1_1), (2, .int v2_2)] → W p l e rm_X8_readDifference s m args below meth c H locs 0 0 QQ (F0 m 4 ls []) := by
    intro n
    induction n with
    | zero =>
      intro v1_1 v2_2 U_bitsRead_3 hB_7
      exact absurd hB_7 (by rw [lp_X8_readDifference_4]; exact fun h9 => nomatch h9)
    | succ n ih =>
      intro v1_1 v2_2 U_bitsRead_3 hB_7 H locs ls hP hD hS hl
      rw [lp_X8_readDifference_4] at hB_7
      refine lv_aload_n hx hb dX8_readDifference_4 rfl (lv_at hl 0 rfl) ?_
      refine lv_iconst (v := (1 : Int32)) hx hb dX8_readDifference_5 (by decide) ?_
      obtain ⟨r_11, U_bitsRead_12, hE_10, hB_7⟩ := ob2_some hB_7
      refine ctV (a := aU) (As := [.int (1 : Int32)]) (rest := []) (st1 := [.long r_11]) (wc := [(aD, .inr (2, [.ref aDc, .int D_writesDone, .int D_writesLeft, .int D_down])), (aDc, .inl (cI, 4096, .inl D_cells)), (aU, .inr (8, [.ref aD, .int U_place, .int U_bitsRead_3, .int U_started, .int U_time, .int U_value, .long U_rise]))]) (w1 := [(aD, .inr (2, [.ref aDc, .int D_writesDone, .int D_writesLeft, .int D_down])), (aDc, .inl (cI, 4096, .inl D_cells)), (aU, .inr (8, [.ref aD, .int U_place, .int U_bitsRead_12, .int U_started, .int U_time, .int U_value, .long U_rise]))]) (wr := []) (wb := [(aD, .inr (2, [.ref aDc, .int D_writesDone, .int D_writesLeft, .int D_down])), (aDc, .inl (cI, 4096, .inl D_cells)), (aU, .inr (8, [.ref aD, .int U_place, .int U_bitsRead_12, .int U_started, .int U_time, .int U_value, .long U_rise]))]) (v := (some (.long r_11))) hx hb hml hown htc hN (c_X8_readBits l G cI cZ cJ aD aDc aU D_writesDone D_writesLeft D_down D_cells U_place U_bitsRead_3 U_started U_time U_value U_rise (1 : Int32) hE_10) mw_588 mw_590 mp_19 mw_6 mw_591 hd_X8_readBits ⟨rfl, rfl⟩ ⟨Nat.le_of_ble_eq_true rfl, Nat.le_of_ble_eq_true rfl⟩ hK hP hD hS hA [0, 1, 2] [] [0, 1, 2] rfl rfl rfl rfl rfl (by decide) rfl rfl rfl 2 rfl rfl rfl rfl hl.1 rfl rfl (Nat.le_of_ble_eq_true rfl) dX8_readDifference_6 ⟨Nat.zero_le _, Nat.zero_le _⟩ (fun H locs hP hD hS => ?_)
      refine lv_lconst (v := (1 : Int64)) hx hb dX8_readDifference_9 (by decide) ?_
      refine W.lcmp hx hb dX8_readDifference_10 ?_
      refine lv_if_ne (tgt := 37) hx hb dX8_readDifference_11 (by decide) (fun c_13 => ?_) (fun c_13 => ?_)
      · have hB_7 := it_f c_13 hB_7
        cases hB_7
        exact kx_5 _ _ _ hP hD hS (lv_sub hl [1] rfl)
      · have hB_7 := it_t c_13 hB_7
        refine lv_iload_n hx hb dX8_readDifference_14 rfl (lv_at hl 2 rfl) ?_
        refine lv_bipush (v := (32 : Int32)) hx hb dX8_readDifference_15 (by decide) ?_
        refine lv_icmp_ge (tgt := 37) hx hb dX8_readDifference_17 (by decide) (fun c_14 => ?_) (fun c_14 => ?_)
        · have hB_7 := it_t c_14 hB_7
          cases hB_7
          exact kx_5 _ _ _ hP hD hS (lv_sub hl [1] rfl)
        · have hB_7 := it_f c_14 hB_7
          refine lv_iload_n hx hb dX8_readDifference_20 rfl (lv_at hl 1 rfl) ?_
          refine lv_aload_n hx hb dX8_readDifference_21 rfl (lv_at hl 0 rfl) ?_
          refine lv_iconst (v := (4 : Int32)) hx hb dX8_readDifference_22 (by decide) ?_
          obtain ⟨r_16, U_bitsRead_17, hE_15, hB_7⟩ := ob2_some hB_7
          refine ctV (a := aU) (As := [.int (4 : Int32)]) (rest := [.int v1_1]) (st1 := [.long r_16, .int v1_1]) (wc := [(aD, .inr (2, [.ref aDc, .int D_writesDone, .int D_writesLeft, .int D_down])), (aDc, .inl (cI, 4096, .inl D_cells)), (aU, .inr (8, [.ref aD, .int U_place, .int U_bitsRead_12, .int U_started, .int U_time, .int U_value, .long U_rise]))]) (w1 := [(aD, .inr (2, [.ref aDc, .int D_writesDone, .int D_writesLeft, .int D_down])), (aDc, .inl (cI, 4096, .inl D_cells)), (aU, .inr (8, [.ref aD, .int U_place, .int U_bitsRead_17, .int U_started, .int U_time, .int U_value, .long U_rise]))]) (wr := []) (wb := [(aD, .inr (2, [.ref aDc, .int D_writesDone, .int D_writesLeft, .int D_down])), (aDc, .inl (cI, 4096, .inl D_cells)), (aU, .inr (8, [.ref aD, .int U_place, .int U_bitsRead_17, .int U_started, .int U_time, .int U_value, .long U_rise]))]) (v := (some (.long r_16))) hx hb hml hown htc hN (c_X8_readBits l G cI cZ cJ aD aDc aU D_writesDone D_writesLeft D_down D_cells U_place U_bitsRead_12 U_started U_time U_value U_rise (4 : Int32) hE_15) mw_588 mw_590 mp_19 mw_6 mw_591 hd_X8_readBits ⟨rfl, rfl⟩ ⟨Nat.le_of_ble_eq_true rfl, Nat.le_of_ble_eq_true rfl⟩ hK hP hD hS hA [0, 1, 2] [] [0, 1, 2] rfl rfl rfl rfl rfl (by decide) rfl rfl rfl 2 rfl rfl rfl rfl hl.1 rfl rfl (Nat.le_of_ble_eq_true rfl) dX8_readDifference_23 ⟨Nat.zero_le _, Nat.zero_le _⟩ (fun H locs hP hD hS => ?_)
          refine lv_l2i hx hb dX8_readDifference_26 rfl ?_
          refine lv_iload_n hx hb dX8_readDifference_27 rfl (lv_at hl 2 rfl) ?_
          refine lv_ishl hx hb dX8_readDifference_28 ?_
          refine lv_ior hx hb dX8_readDifference_29 ?_
          refine lv_istore_n (lv' := [(1, .int (v1_1 ||| ((Int64.toInt32 r_16) <<< (v2_2 &&& 31)))), (0, .ref aU), (2, .int v2_2)]) hx hb dX8_readDifference_30 rfl hl (by decide) rfl (fun ls hl => ?_)
          refine lv_iinc (v := (v2_2 + (4 : Int32))) (lv' := [(2, .int (v2_2 + (4 : Int32))), (1, .int (v1_1 ||| ((Int64.toInt32 r_16) <<< (v2_2 &&& 31)))), (0, .ref aU)]) hx hb dX8_readDifference_31 hl (k := 2) rfl rfl (by decide) rfl (fun ls hl => ?_)
          refine lv_goto (tgt := 4) hx hb dX8_readDifference_34 (by decide) ?_
          exact ih (v1_1 ||| ((Int64.toInt32 r_16) <<< (v2_2 &&& 31))) (v2_2 + (4 : Int32)) U_bitsRead_17 hB_7 _ _ _ hP hD hS (lv_sub hl [2, 1, 0] rfl)
  exact lp_6 NN (0 : Int32) (0 : Int32) U_bitsRead hL_4 _ _ _ hP hD hS (lv_sub hl [2, 1, 0] rfl)
def m_X8_step (D_cells : Nat → Int32) (U_place : Int32) (U_bitsRead : Int32) (U_started : Int32) (U_time : Int32) (U_value : Int32) (U_rise : Int64) : Option (Int32 × Int32 × Int32 × Int32 × Int64) :=
  if U_started = 0 then (
    ob1 (m_X2_read D_cells U_place) fun r_9 =>
    ob1 (m_X2_read D_cells (U_place + (1 : Int32))) fun r_11 =>
    some (U_bitsRead, (1 : Int32), r_9, r_11, (0 : Int64))) else (
    ob2 (m_X8_readChange D_cells U_place U_bitsRead) fun r_3 U_bitsRead_4 =>
    ob2 (m_X8_readDifference D_cells U_place U_bitsRead_4) fun r_6 U_bitsRead_7 =>
    some (U_bitsRead_7, U_started, (Int64.toInt32 ((Int32.toInt64 U_time) + (U_rise + r_3))), (U_value + r_6), (U_rise + r_3)))
abbrev rm_X8_step : Room := { frames := 3, cells := 0, slots := 0, locals := 70 }
theorem hd_X8_step : yX8_step.cls = RX8 ∧ yX8_step.cls ≠ "java/lang/invoke/MethodHandle" ∧ yX8_step.cls ≠ "java/lang/invoke/VarHandle" ∧ (parseMethodDescriptor yX8_step.desc).map (fun d => d.parameters.length) = some 0 := by decide +kernel
set_option maxHeartbeats 4000000 in
set_option maxRecDepth 100000 in
theorem c_X8_step (l : Launch) (G : va_G) (cI cZ cJ : ClassId) (aD aDc aU : Nat) (D_writesDone : Int32) (D_writesLeft : Int32) (D_down : Int32) (D_cells : Nat → Int32) (U_place : Int32) (U_bitsRead : Int32) (U_started : Int32) (U_time : Int32) (U_value : Int32) (U_rise : Int64)  {o_U_bitsRead : Int32} {o_U_started : Int32} {o_U_time : Int32} {o_U_value : Int32} {o_U_rise : Int64} (hfin : m_X8_step D_cells U_place U_bitsRead U_started U_time U_value U_rise = some (o_U_bitsRead, o_U_started, o_U_time, o_U_value, o_U_rise)) : CT l yX8_step cX8_step 1 none rm_X8_step G (tyC cI cZ cJ) [.ref aU] [(aD, .inr (2, [.ref aDc, .int D_writesDone, .int D_writesLeft, .int D_down])), (aDc, .inl (cI, 4096, .inl D_cells)), (aU, .inr (8, [.ref aD, .int U_place, .int U_bitsRead, .int U_started, .int U_time, .int U_value, .long U_rise]))] none [(aD, .inr (2, [.ref aDc, .int D_writesDone, .int D_writesLeft, .int D_down])), (aDc, .inl (cI, 4096, .inl D_cells)), (aU, .inr (8, [.ref aD, .int U_place, .int o_U_bitsRead, .int o_U_started, .int o_U_time, .int o_U_value, .long o_U_rise]))] := by
  refine CT.ofW (lvl := [(0, .ref aU)]) (by decide) (Nat.le_of_ble_eq_true rfl) rfl ?_
  intro p e s m args below meth c A ls QQ hQQ hx hb hml hr hlocks htc hN hown hK hA hP hD hS hl
  rw [m_X8_step] at hfin
  refine lv_aload_n hx hb dX8_step_0 rfl (lv_at hl 0 rfl) ?_
  refine va_get (D := G) (ci := 8) (v := .int U_started) (C := RX8) (T := TX8) (N := 7) hx hb htc iX8 hown hK hP 2 rfl rfl 3 (by decide) (htc _ mw_88) (fun _ h9 => h9) rfl dX8_step_1 ?_
  refine lv_if_ne (tgt := 50) hx hb dX8_step_4 (by decide) (fun c_1 => ?_) (fun c_1 => ?_)
  · have hfin := it_f c_1 hfin
    refine lv_aload_n hx hb dX8_step_50 rfl (lv_at hl 0 rfl) ?_
    refine lv_dup hx hb dX8_step_51 rfl ?_
    refine va_get (D := G) (ci := 8) (v := .long U_rise) (C := RX8) (T := TX8) (N := 7) hx hb htc iX8 hown hK hP 2 rfl rfl 6 (by decide) (htc _ mw_97) (fun _ h9 => h9) rfl dX8_step_52 ?_
    refine lv_aload_n hx hb dX8_step_55 rfl (lv_at hl 0 rfl) ?_
    obtain ⟨r_3, U_bitsRead_4, hE_2, hfin⟩ := ob2_some hfin
    refine ctV (a := aU) (As := []) (rest := [.long U_rise, .ref aU]) (st1 := [.long r_3, .long U_rise, .ref aU]) (wc := [(aD, .inr (2, [.ref aDc, .int D_writesDone, .int D_writesLeft, .int D_down])), (aDc, .inl (cI, 4096, .inl D_cells)), (aU, .inr (8, [.ref aD, .int U_place, .int U_bitsRead, .int U_started, .int U_time, .int U_value, .long U_rise]))]) (w1 := [(aD, .inr (2, [.ref aDc, .int D_writesDone, .int D_writesLeft, .int D_down])), (aDc, .inl (cI, 4096, .inl D_cells)), (aU, .inr (8, [.ref aD, .int U_place, .int U_bitsRead_4, .int U_started, .int U_time, .int U_value, .long U_rise]))]) (wr := []) (wb := [(aD, .inr (2, [.ref aDc, .int D_writesDone, .int D_writesLeft, .int D_down])), (aDc, .inl (cI, 4096, .inl D_cells)), (aU, .inr (8, [.ref aD, .int U_place, .int U_bitsRead_4, .int U_started, .int U_time, .int U_value, .long U_rise]))]) (v := (some (.long r_3))) hx hb hml hown htc hN (c_X8_readChange l G cI cZ cJ aD aDc aU D_writesDone D_writesLeft D_down D_cells U_place U_bitsRead U_started U_time U_value U_rise  hE_2) mw_584 mw_586 mp_18 mw_6 mw_587 hd_X8_readChange ⟨rfl, rfl⟩ ⟨Nat.le_of_ble_eq_true rfl, Nat.le_of_ble_eq_true rfl⟩ hK hP hD hS hA [0, 1, 2] [] [0, 1, 2] rfl rfl rfl rfl rfl (by decide) rfl rfl rfl 2 rfl rfl rfl rfl hl.1 rfl rfl (Nat.le_of_ble_eq_true rfl) dX8_step_56 ⟨Nat.zero_le _, Nat.zero_le _⟩ (fun H locs hP hD hS => ?_)
    refine lv_ladd hx hb dX8_step_59 ?_
    refine va_put (D := G) (ci := 8) (v := .long (U_rise + r_3)) (ty := .long) (C := RX8) (T := TX8) (N := 7) hx hb htc iX8 tyX8 tyX8_ok nmX8 hown hK hP hD hS 2 rfl rfl 6 (by decide) (htc _ mw_97) (fun _ h9 => h9) rfl (tyX8_ok 6 (by decide)) rfl rfl (Nat.le_of_ble_eq_true rfl) dX8_step_60 (fun H locs hP hD hS => ?_)
    have hP : va_P G classes [(aD, .inr (2, [.ref aDc, .int D_writesDone, .int D_writesLeft, .int D_down])), (aDc, .inl (cI, 4096, .inl D_cells)), (aU, .inr (8, [.ref aD, .int U_place, .int U_bitsRead_4, .int U_started, .int U_time, .int U_value, .long (U_rise + r_3)]))] H := hP
    have hD : va_D A [(aD, .inr (2, [.ref aDc, .int D_writesDone, .int D_writesLeft, .int D_down])), (aDc, .inl (cI, 4096, .inl D_cells)), (aU, .inr (8, [.ref aD, .int U_place, .int U_bitsRead_4, .int U_started, .int U_time, .int U_value, .long (U_rise + r_3)]))] := hD
    refine lv_aload_n hx hb dX8_step_63 rfl (lv_at hl 0 rfl) ?_
    refine lv_aload_n hx hb dX8_step_64 rfl (lv_at hl 0 rfl) ?_
    refine va_get (D := G) (ci := 8) (v := .int U_time) (C := RX8) (T := TX8) (N := 7) hx hb htc iX8 hown hK hP 2 rfl rfl 4 (by decide) (htc _ mw_89) (fun _ h9 => h9) rfl dX8_step_65 ?_
    refine lv_i2l hx hb dX8_step_68 rfl ?_
    refine lv_aload_n hx hb dX8_step_69 rfl (lv_at hl 0 rfl) ?_
    refine va_get (D := G) (ci := 8) (v := .long (U_rise + r_3)) (C := RX8) (T := TX8) (N := 7) hx hb htc iX8 hown hK hP 2 rfl rfl 6 (by decide) (htc _ mw_97) (fun _ h9 => h9) rfl dX8_step_70 ?_
    refine lv_ladd hx hb dX8_step_73 ?_
    refine lv_l2i hx hb dX8_step_74 rfl ?_
    refine va_put (D := G) (ci := 8) (v := .int (Int64.toInt32 ((Int32.toInt64 U_time) + (U_rise + r_3)))) (ty := .int) (C := RX8) (T := TX8) (N := 7) hx hb htc iX8 tyX8 tyX8_ok nmX8 hown hK hP hD hS 2 rfl rfl 4 (by decide) (htc _ mw_89) (fun _ h9 => h9) rfl (tyX8_ok 4 (by decide)) rfl rfl (Nat.le_of_ble_eq_true rfl) dX8_step_75 (fun H locs hP hD hS => ?_)
    have hP : va_P G classes [(aD, .inr (2, [.ref aDc, .int D_writesDone, .int D_writesLeft, .int D_down])), (aDc, .inl (cI, 4096, .inl D_cells)), (aU, .inr (8, [.ref aD, .int U_place, .int U_bitsRead_4, .int U_started, .int (Int64.toInt32 ((Int32.toInt64 U_time) + (U_rise + r_3))), .int U_value, .long (U_rise + r_3)]))] H := hP
    have hD : va_D A [(aD, .inr (2, [.ref aDc, .int D_writesDone, .int D_writesLeft, .int D_down])), (aDc, .inl (cI, 4096, .inl D_cells)), (aU, .inr (8, [.ref aD, .int U_place, .int U_bitsRead_4, .int U_started, .int (Int64.toInt32 ((Int32.toInt64 U_time) + (U_rise + r_3))), .int U_value, .long (U_rise + r_3)]))] := hD
    refine lv_aload_n hx hb dX8_step_78 rfl (lv_at hl 0 rfl) ?_
    refine lv_dup hx hb dX8_step_79 rfl ?_
    refine va_get (D := G) (ci := 8) (v := .int U_value) (C := RX8) (T := TX8) (N := 7) hx hb htc iX8 hown hK hP 2 rfl rfl 5 (by decide) (htc _ mw_93) (fun _ h9 => h9) rfl dX8_step_80 ?_
    refine lv_aload_n hx hb dX8_step_83 rfl (lv_at hl 0 rfl) ?_
    obtain ⟨r_6, U_bitsRead_7, hE_5, hfin⟩ := ob2_some hfin
    refine ctV (a := aU) (As := []) (rest := [.int U_value, .ref aU]) (st1 := [.int r_6, .int U_value, .ref aU]) (wc := [(aD, .inr (2, [.ref aDc, .int D_writesDone, .int D_writesLeft, .int D_down])), (aDc, .inl (cI, 4096, .inl D_cells)), (aU, .inr (8, [.ref aD, .int U_place, .int U_bitsRead_4, .int U_started, .int (Int64.toInt32 ((Int32.toInt64 U_time) + (U_rise + r_3))), .int U_value, .long (U_rise + r_3)]))]) (w1 := [(aD, .inr (2, [.ref aDc, .int D_writesDone, .int D_writesLeft, .int D_down])), (aDc, .inl (cI, 4096, .inl D_cells)), (aU, .inr (8, [.ref aD, .int U_place, .int U_bitsRead_7, .int U_started, .int (Int64.toInt32 ((Int32.toInt64 U_time) + (U_rise + r_3))), .int U_value, .long (U_rise + r_3)]))]) (wr := []) (wb := [(aD, .inr (2, [.ref aDc, .int D_writesDone, .int D_writesLeft, .int D_down])), (aDc, .inl (cI, 4096, .inl D_cells)), (aU, .inr (8, [.ref aD, .int U_place, .int U_bitsRead_7, .int U_started, .int (Int64.toInt32 ((Int32.toInt64 U_time) + (U_rise + r_3))), .int U_value, .long (U_rise + r_3)]))]) (v := (some (.int r_6))) hx hb hml hown htc hN (c_X8_readDifference l G cI cZ cJ aD aDc aU D_writesDone D_writesLeft D_down D_cells U_place U_bitsRead_4 U_started (Int64.toInt32 ((Int32.toInt64 U_time) + (U_rise + r_3))) U_value (U_rise + r_3)  hE_5) mw_597 mw_599 mp_20 mw_6 mw_600 hd_X8_readDifference ⟨rfl, rfl⟩ ⟨Nat.le_of_ble_eq_true rfl, Nat.le_of_ble_eq_true rfl⟩ hK hP hD hS hA [0, 1, 2] [] [0, 1, 2] rfl rfl rfl rfl rfl (by decide) rfl rfl rfl 2 rfl rfl rfl rfl hl.1 rfl rfl (Nat.le_of_ble_eq_true rfl) dX8_step_84 ⟨Nat.zero_le _, Nat.zero_le _⟩ (fun H locs hP hD hS => ?_)
    refine lv_iadd hx hb dX8_step_87 ?_
    refine va_put (D := G) (ci := 8) (v := .int (U_value + r_6)) (ty := .int) (C := RX8) (T := TX8) (N := 7) hx hb htc iX8 tyX8 tyX8_ok nmX8 hown hK hP hD hS 2 rfl rfl 5 (by decide) (htc _ mw_93) (fun _ h9 => h9) rfl (tyX8_ok 5 (by decide)) rfl rfl (Nat.le_of_ble_eq_true rfl) dX8_step_88 (fun H locs hP hD hS => ?_)
    have hP : va_P G classes [(aD, .inr (2, [.ref aDc, .int D_writesDone, .int D_writesLeft, .int D_down])), (aDc, .inl (cI, 4096, .inl D_cells)), (aU, .inr (8, [.ref aD, .int U_place, .int U_bitsRead_7, .int U_started, .int (Int64.toInt32 ((Int32.toInt64 U_time) + (U_rise + r_3))), .int (U_value + r_6), .long (U_rise + r_3)]))] H := hP
    have hD : va_D A [(aD, .inr (2, [.ref aDc, .int D_writesDone, .int D_writesLeft, .int D_down])), (aDc, .inl (cI, 4096, .inl D_cells)), (aU, .inr (8, [.ref aD, .int U_place, .int U_bitsRead_7, .int U_started, .int (Int64.toInt32 ((Int32.toInt64 U_time) + (U_rise + r_3))), .int (U_value + r_6), .long (U_rise + r_3)]))] := hD
    cases hfin
    rw [hQQ]
    exact ct_vret hx hb hr hlocks hP hD hS dX8_step_91
  · have hfin := it_t c_1 hfin
    refine lv_aload_n hx hb dX8_step_7 rfl (lv_at hl 0 rfl) ?_
    refine lv_iconst (v := (1 : Int32)) hx hb dX8_step_8 (by decide) ?_
    refine va_put (D := G) (ci := 8) (v := .int (1 : Int32)) (ty := .boolean) (C := RX8) (T := TX8) (N := 7) hx hb htc iX8 tyX8 tyX8_ok nmX8 hown hK hP hD hS 2 rfl rfl 3 (by decide) (htc _ mw_88) (fun _ h9 => h9) rfl (tyX8_ok 3 (by decide)) rfl rfl (Nat.le_of_ble_eq_true rfl) dX8_step_9 (fun H locs hP hD hS => ?_)
    have hP : va_P G classes [(aD, .inr (2, [.ref aDc, .int D_writesDone, .int D_writesLeft, .int D_down])), (aDc, .inl (cI, 4096, .inl D_cells)), (aU, .inr (8, [.ref aD, .int U_place, .int U_bitsRead, .int (1 : Int32), .int U_time, .int U_value, .long U_rise]))] H := hP
    have hD : va_D A [(aD, .inr (2, [.ref aDc, .int D_writesDone, .int D_writesLeft, .int D_down])), (aDc, .inl (cI, 4096, .inl D_cells)), (aU, .inr (8, [.ref aD, .int U_place, .int U_bitsRead, .int (1 : Int32), .int U_time, .int U_value, .long U_rise]))] := hD
    refine lv_aload_n hx hb dX8_step_12 rfl (lv_at hl 0 rfl) ?_
    refine lv_aload_n hx hb dX8_step_13 rfl (lv_at hl 0 rfl) ?_
    refine va_get (D := G) (ci := 8) (v := .ref aD) (C := RX8) (T := TX8) (N := 7) hx hb htc iX8 hown hK hP 2 rfl rfl 0 (by decide) (htc _ mw_85) (fun _ h9 => h9) rfl dX8_step_14 ?_
    refine lv_aload_n hx hb dX8_step_17 rfl (lv_at hl 0 rfl) ?_
    refine va_get (D := G) (ci := 8) (v := .int U_place) (C := RX8) (T := TX8) (N := 7) hx hb htc iX8 hown hK hP 2 rfl rfl 1 (by decide) (htc _ mw_86) (fun _ h9 => h9) rfl dX8_step_18 ?_
    obtain ⟨r_9, hE_8, hfin⟩ := ob1_some hfin
    refine ctV (a := aD) (As := [.int U_place]) (rest := [.ref aU]) (st1 := [.int r_9, .ref aU]) (wc := [(aD, .inr (2, [.ref aDc, .int D_writesDone, .int D_writesLeft, .int D_down])), (aDc, .inl (cI, 4096, .inl D_cells))]) (w1 := [(aD, .inr (2, [.ref aDc, .int D_writesDone, .int D_writesLeft, .int D_down])), (aDc, .inl (cI, 4096, .inl D_cells))]) (wr := [(aU, .inr (8, [.ref aD, .int U_place, .int U_bitsRead, .int (1 : Int32), .int U_time, .int U_value, .long U_rise]))]) (wb := [(aD, .inr (2, [.ref aDc, .int D_writesDone, .int D_writesLeft, .int D_down])), (aDc, .inl (cI, 4096, .inl D_cells)), (aU, .inr (8, [.ref aD, .int U_place, .int U_bitsRead, .int (1 : Int32), .int U_time, .int U_value, .long U_rise]))]) (v := (some (.int r_9))) hx hb hml hown htc hN (c_X2_read l G cI cZ cJ aD aDc D_writesDone D_writesLeft D_down D_cells U_place hE_8) mw_583 mw_366 mw_367 mw_3 mw_368 hd_X2_read ⟨rfl, rfl⟩ ⟨Nat.le_of_ble_eq_true rfl, Nat.le_of_ble_eq_true rfl⟩ hK hP hD hS hA [0, 1] [2] [1, 2, 0] rfl rfl rfl rfl rfl (by decide) rfl rfl rfl 0 rfl rfl rfl rfl hl.1 rfl rfl (Nat.le_of_ble_eq_true rfl) dX8_step_21 ⟨Nat.zero_le _, Nat.zero_le _⟩ (fun H locs hP hD hS => ?_)
    refine va_put (D := G) (ci := 8) (v := .int r_9) (ty := .int) (C := RX8) (T := TX8) (N := 7) hx hb htc iX8 tyX8 tyX8_ok nmX8 hown hK hP hD hS 2 rfl rfl 4 (by decide) (htc _ mw_89) (fun _ h9 => h9) rfl (tyX8_ok 4 (by decide)) rfl rfl (Nat.le_of_ble_eq_true rfl) dX8_step_24 (fun H locs hP hD hS => ?_)
    have hP : va_P G classes [(aD, .inr (2, [.ref aDc, .int D_writesDone, .int D_writesLeft, .int D_down])), (aDc, .inl (cI, 4096, .inl D_cells)), (aU, .inr (8, [.ref aD, .int U_place, .int U_bitsRead, .int (1 : Int32), .int r_9, .int U_value, .long U_rise]))] H := hP
    have hD : va_D A [(aD, .inr (2, [.ref aDc, .int D_writesDone, .int D_writesLeft, .int D_down])), (aDc, .inl (cI, 4096, .inl D_cells)), (aU, .inr (8, [.ref aD, .int U_place, .int U_bitsRead, .int (1 : Int32), .int r_9, .int U_value, .long U_rise]))] := hD
    refine lv_aload_n hx hb dX8_step_27 rfl (lv_at hl 0 rfl) ?_
    refine lv_aload_n hx hb dX8_step_28 rfl (lv_at hl 0 rfl) ?_
    refine va_get (D := G) (ci := 8) (v := .ref aD) (C := RX8) (T := TX8) (N := 7) hx hb htc iX8 hown hK hP 2 rfl rfl 0 (by decide) (htc _ mw_85) (fun _ h9 => h9) rfl dX8_step_29 ?_
    refine lv_aload_n hx hb dX8_step_32 rfl (lv_at hl 0 rfl) ?_
    refine va_get (D := G) (ci := 8) (v := .int U_place) (C := RX8) (T := TX8) (N := 7) hx hb htc iX8 hown hK hP 2 rfl rfl 1 (by decide) (htc _ mw_86) (fun _ h9 => h9) rfl dX8_step_33 ?_
    refine lv_iconst (v := (1 : Int32)) hx hb dX8_step_36 (by decide) ?_
    refine lv_iadd hx hb dX8_step_37 ?_
    obtain ⟨r_11, hE_10, hfin⟩ := ob1_some hfin
    refine ctV (a := aD) (As := [.int (U_place + (1 : Int32))]) (rest := [.ref aU]) (st1 := [.int r_11, .ref aU]) (wc := [(aD, .inr (2, [.ref aDc, .int D_writesDone, .int D_writesLeft, .int D_down])), (aDc, .inl (cI, 4096, .inl D_cells))]) (w1 := [(aD, .inr (2, [.ref aDc, .int D_writesDone, .int D_writesLeft, .int D_down])), (aDc, .inl (cI, 4096, .inl D_cells))]) (wr := [(aU, .inr (8, [.ref aD, .int U_place, .int U_bitsRead, .int (1 : Int32), .int r_9, .int U_value, .long U_rise]))]) (wb := [(aD, .inr (2, [.ref aDc, .int D_writesDone, .int D_writesLeft, .int D_down])), (aDc, .inl (cI, 4096, .inl D_cells)), (aU, .inr (8, [.ref aD, .int U_place, .int U_bitsRead, .int (1 : Int32), .int r_9, .int U_value, .long U_rise]))]) (v := (some (.int r_11))) hx hb hml hown htc hN (c_X2_read l G cI cZ cJ aD aDc D_writesDone D_writesLeft D_down D_cells (U_place + (1 : Int32)) hE_10) mw_583 mw_366 mw_367 mw_3 mw_368 hd_X2_read ⟨rfl, rfl⟩ ⟨Nat.le_of_ble_eq_true rfl, Nat.le_of_ble_eq_true rfl⟩ hK hP hD hS hA [0, 1] [2] [1, 2, 0] rfl rfl rfl rfl rfl (by decide) rfl rfl rfl 0 rfl rfl rfl rfl hl.1 rfl rfl (Nat.le_of_ble_eq_true rfl) dX8_step_38 ⟨Nat.zero_le _, Nat.zero_le _⟩ (fun H locs hP hD hS => ?_)
    refine va_put (D := G) (ci := 8) (v := .int r_11) (ty := .int) (C := RX8) (T := TX8) (N := 7) hx hb htc iX8 tyX8 tyX8_ok nmX8 hown hK hP hD hS 2 rfl rfl 5 (by decide) (htc _ mw_93) (fun _ h9 => h9) rfl (tyX8_ok 5 (by decide)) rfl rfl (Nat.le_of_ble_eq_true rfl) dX8_step_41 (fun H locs hP hD hS => ?_)
    have hP : va_P G classes [(aD, .inr (2, [.ref aDc, .int D_writesDone, .int D_writesLeft, .int D_down])), (aDc, .inl (cI, 4096, .inl D_cells)), (aU, .inr (8, [.ref aD, .int U_place, .int U_bitsRead, .int (1 : Int32), .int r_9, .int r_11, .long U_rise]))] H := hP
    have hD : va_D A [(aD, .inr (2, [.ref aDc, .int D_writesDone, .int D_writesLeft, .int D_down])), (aDc, .inl (cI, 4096, .inl D_cells)), (aU, .inr (8, [.ref aD, .int U_place, .int U_bitsRead, .int (1 : Int32), .int r_9, .int r_11, .long U_rise]))] := hD
    refine lv_aload_n hx hb dX8_step_44 rfl (lv_at hl 0 rfl) ?_
    refine lv_lconst (v := (0 : Int64)) hx hb dX8_step_45 (by decide) ?_
    refine va_put (D := G) (ci := 8) (v := .long (0 : Int64)) (ty := .long) (C := RX8) (T := TX8) (N := 7) hx hb htc iX8 tyX8 tyX8_ok nmX8 hown hK hP hD hS 2 rfl rfl 6 (by decide) (htc _ mw_97) (fun _ h9 => h9) rfl (tyX8_ok 6 (by decide)) rfl rfl (Nat.le_of_ble_eq_true rfl) dX8_step_46 (fun H locs hP hD hS => ?_)
    have hP : va_P G classes [(aD, .inr (2, [.ref aDc, .int D_writesDone, .int D_writesLeft, .int D_down])), (aDc, .inl (cI, 4096, .inl D_cells)), (aU, .inr (8, [.ref aD, .int U_place, .int U_bitsRead, .int (1 : Int32), .int r_9, .int r_11, .long (0 : Int64)]))] H := hP
    have hD : va_D A [(aD, .inr (2, [.ref aDc, .int D_writesDone, .int D_writesLeft, .int D_down])), (aDc, .inl (cI, 4096, .inl D_cells)), (aU, .inr (8, [.ref aD, .int U_place, .int U_bitsRead, .int (1 : Int32), .int r_9, .int r_11, .long (0 : Int64)]))] := hD
    cases hfin
    rw [hQQ]
    exact ct_vret hx hb hr hlocks hP hD hS dX8_step_49
