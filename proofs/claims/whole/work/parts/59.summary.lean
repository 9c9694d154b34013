theorem dX6_clear_0 : decode cX6_clear 0 = .ok (.aload_n 0, 1) := by decide +kernel
theorem dX6_clear_1 : decode cX6_clear 1 = .ok (.iconst 0, 1) := by decide +kernel
theorem dX6_clear_2 : decode cX6_clear 2 = .ok (.putfield 9, 3) := by decide +kernel
theorem dX6_clear_5 : decode cX6_clear 5 = .ok (.aload_n 0, 1) := by decide +kernel
theorem dX6_clear_6 : decode cX6_clear 6 = .ok (.iconst 0, 1) := by decide +kernel
theorem dX6_clear_7 : decode cX6_clear 7 = .ok (.putfield 15, 3) := by decide +kernel
theorem dX6_clear_10 : decode cX6_clear 10 = .ok (.aload_n 0, 1) := by decide +kernel
theorem dX6_clear_11 : decode cX6_clear 11 = .ok (.iconst 0, 1) := by decide +kernel
theorem dX6_clear_12 : decode cX6_clear 12 = .ok (.putfield 18, 3) := by decide +kernel
theorem dX6_clear_15 : decode cX6_clear 15 = .ok (.aload_n 0, 1) := by decide +kernel
theorem dX6_clear_16 : decode cX6_clear 16 = .ok (.iconst 0, 1) := by decide +kernel
theorem dX6_clear_17 : decode cX6_clear 17 = .ok (.putfield 21, 3) := by decide +kernel
theorem dX6_clear_20 : decode cX6_clear 20 = .ok (.aload_n 0, 1) := by decide +kernel
theorem dX6_clear_21 : decode cX6_clear 21 = .ok (.iconst 0, 1) := by decide +kernel
theorem dX6_clear_22 : decode cX6_clear 22 = .ok (.putfield 24, 3) := by decide +kernel
theorem dX6_clear_25 : decode cX6_clear 25 = .ok (.aload_n 0, 1) := by decide +kernel
theorem dX6_clear_26 : decode cX6_clear 26 = .ok (.lconst 0, 1) := by decide +kernel
theorem dX6_clear_27 : decode cX6_clear 27 = .ok (.putfield 27, 3) := by decide +kernel
theorem dX6_clear_30 : decode cX6_clear 30 = .ok (.return_, 1) := by decide +kernel
theorem dX6_addPoint_0 : decode cX6_addPoint 0 = .ok (.aload_n 0, 1) := by decide +kernel
theorem dX6_addPoint_1 : decode cX6_addPoint 1 = .ok (.iload_n 1, 1) := by decide +kernel
theorem dX6_addPoint_2 : decode cX6_addPoint 2 = .ok (.iload_n 1, 1) := by decide +kernel
theorem dX6_addPoint_3 : decode cX6_addPoint 3 = .ok (.iconst 1, 1) := by decide +kernel
theorem dX6_addPoint_4 : decode cX6_addPoint 4 = .ok (.iload_n 2, 1) := by decide +kernel
theorem dX6_addPoint_5 : decode cX6_addPoint 5 = .ok (.iload_n 2, 1) := by decide +kernel
theorem dX6_addPoint_6 : decode cX6_addPoint 6 = .ok (.iload_n 2, 1) := by decide +kernel
theorem dX6_addPoint_7 : decode cX6_addPoint 7 = .ok (.i2l, 1) := by decide +kernel
theorem dX6_addPoint_8 : decode cX6_addPoint 8 = .ok (.invokevirtual 31, 3) := by decide +kernel
theorem dX6_addPoint_11 : decode cX6_addPoint 11 = .ok (.return_, 1) := by decide +kernel
theorem dX6_addEntry_0 : decode cX6_addEntry 0 = .ok (.aload_n 1, 1) := by decide +kernel
theorem dX6_addEntry_1 : decode cX6_addEntry 1 = .ok (.iload_n 2, 1) := by decide +kernel
theorem dX6_addEntry_2 : decode cX6_addEntry 2 = .ok (.bipush 6, 2) := by decide +kernel
theorem dX6_addEntry_4 : decode cX6_addEntry 4 = .ok (.invokevirtual 35, 3) := by decide +kernel
theorem dX6_addEntry_7 : decode cX6_addEntry 7 = .ok (.i2l, 1) := by decide +kernel
theorem dX6_addEntry_8 : decode cX6_addEntry 8 = .ok (.bipush 32, 2) := by decide +kernel
theorem dX6_addEntry_10 : decode cX6_addEntry 10 = .ok (.lshl, 1) := by decide +kernel
theorem dX6_addEntry_11 : decode cX6_addEntry 11 = .ok (.lstore_n 3, 1) := by decide +kernel
theorem dX6_addEntry_12 : decode cX6_addEntry 12 = .ok (.aload_n 1, 1) := by decide +kernel
theorem dX6_addEntry_13 : decode cX6_addEntry 13 = .ok (.iload_n 2, 1) := by decide +kernel
theorem dX6_addEntry_14 : decode cX6_addEntry 14 = .ok (.bipush 7, 2) := by decide +kernel
theorem dX6_addEntry_16 : decode cX6_addEntry 16 = .ok (.invokevirtual 35, 3) := by decide +kernel
theorem dX6_addEntry_19 : decode cX6_addEntry 19 = .ok (.i2l, 1) := by decide +kernel
theorem dX6_addEntry_20 : decode cX6_addEntry 20 = .ok (.ldc2_w 41, 3) := by decide +kernel
theorem dX6_addEntry_23 : decode cX6_addEntry 23 = .ok (.land, 1) := by decide +kernel
theorem dX6_addEntry_24 : decode cX6_addEntry 24 = .ok (.lstore 5, 2) := by decide +kernel
theorem dX6_addEntry_26 : decode cX6_addEntry 26 = .ok (.aload_n 0, 1) := by decide +kernel
theorem dX6_addEntry_27 : decode cX6_addEntry 27 = .ok (.aload_n 1, 1) := by decide +kernel
theorem dX6_addEntry_28 : decode cX6_addEntry 28 = .ok (.iload_n 2, 1) := by decide +kernel
theorem dX6_addEntry_29 : decode cX6_addEntry 29 = .ok (.iconst 1, 1) := by decide +kernel
theorem dX6_addEntry_30 : decode cX6_addEntry 30 = .ok (.invokevirtual 35, 3) := by decide +kernel
theorem dX6_addEntry_33 : decode cX6_addEntry 33 = .ok (.aload_n 1, 1) := by decide +kernel
theorem dX6_addEntry_34 : decode cX6_addEntry 34 = .ok (.iload_n 2, 1) := by decide +kernel
theorem dX6_addEntry_35 : decode cX6_addEntry 35 = .ok (.iconst 2, 1) := by decide +kernel
theorem dX6_addEntry_36 : decode cX6_addEntry 36 = .ok (.invokevirtual 35, 3) := by decide +kernel
theorem dX6_addEntry_39 : decode cX6_addEntry 39 = .ok (.aload_n 1, 1) := by decide +kernel
theorem dX6_addEntry_40 : decode cX6_addEntry 40 = .ok (.iload_n 2, 1) := by decide +kernel
theorem dX6_addEntry_41 : decode cX6_addEntry 41 = .ok (.iconst 3, 1) := by decide +kernel
theorem dX6_addEntry_42 : decode cX6_addEntry 42 = .ok (.invokevirtual 35, 3) := by decide +kernel
theorem dX6_addEntry_45 : decode cX6_addEntry 45 = .ok (.aload_n 1, 1) := by decide +kernel
theorem dX6_addEntry_46 : decode cX6_addEntry 46 = .ok (.iload_n 2, 1) := by decide +kernel
theorem dX6_addEntry_47 : decode cX6_addEntry 47 = .ok (.iconst 4, 1) := by decide +kernel
theorem dX6_addEntry_48 : decode cX6_addEntry 48 = .ok (.invokevirtual 35, 3) := by decide +kernel
theorem dX6_addEntry_51 : decode cX6_addEntry 51 = .ok (.aload_n 1, 1) := by decide +kernel
theorem dX6_addEntry_52 : decode cX6_addEntry 52 = .ok (.iload_n 2, 1) := by decide +kernel
theorem dX6_addEntry_53 : decode cX6_addEntry 53 = .ok (.iconst 5, 1) := by decide +kernel
theorem dX6_addEntry_54 : decode cX6_addEntry 54 = .ok (.invokevirtual 35, 3) := by decide +kernel
theorem dX6_addEntry_57 : decode cX6_addEntry 57 = .ok (.lload_n 3, 1) := by decide +kernel
theorem dX6_addEntry_58 : decode cX6_addEntry 58 = .ok (.lload 5, 2) := by decide +kernel
theorem dX6_addEntry_60 : decode cX6_addEntry 60 = .ok (.lor, 1) := by decide +kernel
theorem dX6_addEntry_61 : decode cX6_addEntry 61 = .ok (.invokevirtual 31, 3) := by decide +kernel
theorem dX6_addEntry_64 : decode cX6_addEntry 64 = .ok (.return_, 1) := by decide +kernel
theorem dX6_addSummary_0 : decode cX6_addSummary 0 = .ok (.aload_n 0, 1) := by decide +kernel
theorem dX6_addSummary_1 : decode cX6_addSummary 1 = .ok (.aload_n 1, 1) := by decide +kernel
theorem dX6_addSummary_2 : decode cX6_addSummary 2 = .ok (.getfield 9, 3) := by decide +kernel
theorem dX6_addSummary_5 : decode cX6_addSummary 5 = .ok (.aload_n 1, 1) := by decide +kernel
theorem dX6_addSummary_6 : decode cX6_addSummary 6 = .ok (.getfield 15, 3) := by decide +kernel
theorem dX6_addSummary_9 : decode cX6_addSummary 9 = .ok (.aload_n 1, 1) := by decide +kernel
theorem dX6_addSummary_10 : decode cX6_addSummary 10 = .ok (.getfield 18, 3) := by decide +kernel
theorem dX6_addSummary_13 : decode cX6_addSummary 13 = .ok (.aload_n 1, 1) := by decide +kernel
theorem dX6_addSummary_14 : decode cX6_addSummary 14 = .ok (.getfield 21, 3) := by decide +kernel
theorem dX6_addSummary_17 : decode cX6_addSummary 17 = .ok (.aload_n 1, 1) := by decide +kernel
theorem dX6_addSummary_18 : decode cX6_addSummary 18 = .ok (.getfield 24, 3) := by decide +kernel
theorem dX6_addSummary_21 : decode cX6_addSummary 21 = .ok (.aload_n 1, 1) := by decide +kernel
theorem dX6_addSummary_22 : decode cX6_addSummary 22 = .ok (.getfield 27, 3) := by decide +kernel
theorem dX6_addSummary_25 : decode cX6_addSummary 25 = .ok (.invokevirtual 31, 3) := by decide +kernel
theorem dX6_addSummary_28 : decode cX6_addSummary 28 = .ok (.return_, 1) := by decide +kernel
theorem dX6_isOut_0 : decode cX6_isOut 0 = .ok (.aload_n 0, 1) := by decide +kernel
theorem dX6_isOut_1 : decode cX6_isOut 1 = .ok (.getfield 15, 3) := by decide +kernel
theorem dX6_isOut_4 : decode cX6_isOut 4 = .ok (.iload_n 1, 1) := by decide +kernel
theorem dX6_isOut_5 : decode cX6_isOut 5 = .ok (.if_icmp .lt 11, 3) := by decide +kernel
theorem dX6_isOut_8 : decode cX6_isOut 8 = .ok (.aload_n 0, 1) := by decide +kernel
theorem dX6_isOut_9 : decode cX6_isOut 9 = .ok (.getfield 9, 3) := by decide +kernel
theorem dX6_isOut_12 : decode cX6_isOut 12 = .ok (.iload_n 2, 1) := by decide +kernel
theorem dX6_isOut_13 : decode cX6_isOut 13 = .ok (.if_icmp .le 7, 3) := by decide +kernel
theorem dX6_isOut_16 : decode cX6_isOut 16 = .ok (.iconst 1, 1) := by decide +kernel
theorem dX6_isOut_17 : decode cX6_isOut 17 = .ok (.goto 4, 3) := by decide +kernel
theorem dX6_isOut_20 : decode cX6_isOut 20 = .ok (.iconst 0, 1) := by decide +kernel
theorem dX6_isOut_21 : decode cX6_isOut 21 = .ok (.ireturn, 1) := by decide +kernel
theorem dX6_isIn_0 : decode cX6_isIn 0 = .ok (.aload_n 0, 1) := by decide +kernel
theorem dX6_isIn_1 : decode cX6_isIn 1 = .ok (.getfield 9, 3) := by decide +kernel
theorem dX6_isIn_4 : decode cX6_isIn 4 = .ok (.iload_n 1, 1) := by decide +kernel
theorem dX6_isIn_5 : decode cX6_isIn 5 = .ok (.if_icmp .lt 15, 3) := by decide +kernel
theorem dX6_isIn_8 : decode cX6_isIn 8 = .ok (.aload_n 0, 1) := by decide +kernel
theorem dX6_isIn_9 : decode cX6_isIn 9 = .ok (.getfield 15, 3) := by decide +kernel
theorem dX6_isIn_12 : decode cX6_isIn 12 = .ok (.iload_n 2, 1) := by decide +kernel
theorem dX6_isIn_13 : decode cX6_isIn 13 = .ok (.if_icmp .gt 7, 3) := by decide +kernel
theorem dX6_isIn_16 : decode cX6_isIn 16 = .ok (.iconst 1, 1) := by decide +kernel
theorem dX6_isIn_17 : decode cX6_isIn 17 = .ok (.goto 4, 3) := by decide +kernel
theorem dX6_isIn_20 : decode cX6_isIn 20 = .ok (.iconst 0, 1) := by decide +kernel
theorem dX6_isIn_21 : decode cX6_isIn 21 = .ok (.ireturn, 1) := by decide +kernel
theorem dX6_add_0 : decode cX6_add 0 = .ok (.aload_n 0, 1) := by decide +kernel
theorem dX6_add_1 : decode cX6_add 1 = .ok (.getfield 18, 3) := by decide +kernel
theorem dX6_add_4 : decode cX6_add 4 = .ok (.ifCond .ne 7, 3) := by decide +kernel
theorem dX6_add_7 : decode cX6_add 7 = .ok (.iconst 1, 1) := by decide +kernel
theorem dX6_add_8 : decode cX6_add 8 = .ok (.goto 4, 3) := by decide +kernel
theorem dX6_add_11 : decode cX6_add 11 = .ok (.iconst 0, 1) := by decide +kernel
theorem dX6_add_12 : decode cX6_add 12 = .ok (.istore 8, 2) := by decide +kernel
theorem dX6_add_14 : decode cX6_add 14 = .ok (.aload_n 0, 1) := by decide +kernel
theorem dX6_add_15 : decode cX6_add 15 = .ok (.iload 8, 2) := by decide +kernel
theorem dX6_add_17 : decode cX6_add 17 = .ok (.ifCond .eq 7, 3) := by decide +kernel
theorem dX6_add_20 : decode cX6_add 20 = .ok (.iload_n 1, 1) := by decide +kernel
theorem dX6_add_21 : decode cX6_add 21 = .ok (.goto 7, 3) := by decide +kernel
theorem dX6_add_24 : decode cX6_add 24 = .ok (.aload_n 0, 1) := by decide +kernel
theorem dX6_add_25 : decode cX6_add 25 = .ok (.getfield 9, 3) := by decide +kernel
theorem dX6_add_28 : decode cX6_add 28 = .ok (.putfield 9, 3) := by decide +kernel
theorem dX6_add_31 : decode cX6_add 31 = .ok (.aload_n 0, 1) := by decide +kernel
theorem dX6_add_32 : decode cX6_add 32 = .ok (.iload_n 2, 1) := by decide +kernel
theorem dX6_add_33 : decode cX6_add 33 = .ok (.putfield 15, 3) := by decide +kernel
theorem dX6_add_36 : decode cX6_add 36 = .ok (.aload_n 0, 1) := by decide +kernel
theorem dX6_add_37 : decode cX6_add 37 = .ok (.dup, 1) := by decide +kernel
theorem dX6_add_38 : decode cX6_add 38 = .ok (.getfield 18, 3) := by decide +kernel
theorem dX6_add_41 : decode cX6_add 41 = .ok (.iload_n 3, 1) := by decide +kernel
theorem dX6_add_42 : decode cX6_add 42 = .ok (.iadd, 1) := by decide +kernel
theorem dX6_add_43 : decode cX6_add 43 = .ok (.putfield 18, 3) := by decide +kernel
theorem dX6_add_46 : decode cX6_add 46 = .ok (.aload_n 0, 1) := by decide +kernel
theorem dX6_add_47 : decode cX6_add 47 = .ok (.iload 8, 2) := by decide +kernel
theorem dX6_add_49 : decode cX6_add 49 = .ok (.ifCond .eq 8, 3) := by decide +kernel
theorem dX6_add_52 : decode cX6_add 52 = .ok (.iload 4, 2) := by decide +kernel
theorem dX6_add_54 : decode cX6_add 54 = .ok (.goto 12, 3) := by decide +kernel
theorem dX6_add_57 : decode cX6_add 57 = .ok (.aload_n 0, 1) := by decide +kernel
theorem dX6_add_58 : decode cX6_add 58 = .ok (.getfield 21, 3) := by decide +kernel
theorem dX6_add_61 : decode cX6_add 61 = .ok (.iload 4, 2) := by decide +kernel
theorem dX6_add_63 : decode cX6_add 63 = .ok (.invokestatic 43, 3) := by decide +kernel
theorem dX6_add_66 : decode cX6_add 66 = .ok (.putfield 21, 3) := by decide +kernel
theorem dX6_add_69 : decode cX6_add 69 = .ok (.aload_n 0, 1) := by decide +kernel
theorem dX6_add_70 : decode cX6_add 70 = .ok (.iload 8, 2) := by decide +kernel
theorem dX6_add_72 : decode cX6_add 72 = .ok (.ifCond .eq 8, 3) := by decide +kernel
theorem dX6_add_75 : decode cX6_add 75 = .ok (.iload 5, 2) := by decide +kernel
theorem dX6_add_77 : decode cX6_add 77 = .ok (.goto 12, 3) := by decide +kernel
theorem dX6_add_80 : decode cX6_add 80 = .ok (.aload_n 0, 1) := by decide +kernel
theorem dX6_add_81 : decode cX6_add 81 = .ok (.getfield 24, 3) := by decide +kernel
theorem dX6_add_84 : decode cX6_add 84 = .ok (.iload 5, 2) := by decide +kernel
theorem dX6_add_86 : decode cX6_add 86 = .ok (.invokestatic 48, 3) := by decide +kernel
theorem dX6_add_89 : decode cX6_add 89 = .ok (.putfield 24, 3) := by decide +kernel
theorem dX6_add_92 : decode cX6_add 92 = .ok (.aload_n 0, 1) := by decide +kernel
theorem dX6_add_93 : decode cX6_add 93 = .ok (.dup, 1) := by decide +kernel
theorem dX6_add_94 : decode cX6_add 94 = .ok (.getfield 27, 3) := by decide +kernel
theorem dX6_add_97 : decode cX6_add 97 = .ok (.lload 6, 2) := by decide +kernel
theorem dX6_add_99 : decode cX6_add 99 = .ok (.ladd, 1) := by decide +kernel
theorem dX6_add_100 : decode cX6_add 100 = .ok (.putfield 27, 3) := by decide +kernel
theorem dX6_add_103 : decode cX6_add 103 = .ok (.return_, 1) := by decide +kernel
abbrev rm_X6_clear : Room := { frames := 0, cells := 0, slots := 0, locals := 0 }
theorem hd_X6_clear : yX6_clear.cls = RX6 ∧ yX6_clear.cls ≠ "java/lang/invoke/MethodHandle" ∧ yX6_clear.cls ≠ "java/lang/invoke/VarHandle" ∧ (parseMethodDescriptor yX6_clear.desc).map (fun d => d.parameters.length) = some 0 := by decide +kernel
set_option maxHeartbeats 4000000 in
set_option maxRecDepth 100000 in
theorem c_X6_clear (l : Launch) (G : va_G) (cI cZ cJ : ClassId) (aS : Nat) (S_first : Int32) (S_last : Int32) (S_points : Int32) (S_least : Int32) (S_greatest : Int32) (S_sum : Int64)  {o_S_first : Int32} {o_S_last : Int32} {o_S_points : Int32} {o_S_least : Int32} {o_S_greatest : Int32} {o_S_sum : Int64} (hfin : m_X6_clear S_first S_last S_points S_least S_greatest S_sum = some (o_S_first, o_S_last, o_S_points, o_S_least, o_S_greatest, o_S_sum)) : CT l yX6_clear cX6_clear 1 none rm_X6_clear G (tyC cI cZ cJ) [.ref aS] [oX6 aS S_first S_last S_points S_least S_greatest S_sum] none [oX6 aS o_S_first o_S_last o_S_points o_S_least o_S_greatest o_S_sum] := by
  refine CT.ofW (lvl := [(0, .ref aS)]) (by decide) (Nat.le_of_ble_eq_true rfl) rfl ?_
  intro p e s m args below meth c A ls0 QQ hQQ hx hb hml hr hlocks htc hN hown hK hA hw0 hl0
  rw [m_X6_clear] at hfin
  refine lv_aload_n hx hb dX6_clear_0 rfl (lv_at hl0 0 rfl) ?_
  refine lv_iconst (v := (0 : Int32)) hx hb dX6_clear_1 (by decide) ?_
  refine va_put (D := G) (ci := 6) (v := .int (0 : Int32)) (ty := .int) (C := RX6) (T := TX6) (N := 6) hx hb htc iX6 tyX6 tyX6_ok nmX6 hown hK hw0.1 hw0.2.1 hw0.2.2 0 rfl rfl 0 (by decide) (htc _ mw_153) (fun _ h9 => h9) rfl (tyX6_ok 0 (by decide)) rfl rfl (Nat.le_of_ble_eq_true rfl) dX6_clear_2 (fun H1 locs1 hP hD hS => ?_)
  have hw1 : wS G A s H1 locs1 [oX6 aS (0 : Int32) S_last S_points S_least S_greatest S_sum] := ⟨hP, hD, hS⟩
  clear hP hD hS hw0
  refine lv_aload_n hx hb dX6_clear_5 rfl (lv_at hl0 0 rfl) ?_
  refine lv_iconst (v := (0 : Int32)) hx hb dX6_clear_6 (by decide) ?_
  refine va_put (D := G) (ci := 6) (v := .int (0 : Int32)) (ty := .int) (C := RX6) (T := TX6) (N := 6) hx hb htc iX6 tyX6 tyX6_ok nmX6 hown hK hw1.1 hw1.2.1 hw1.2.2 0 rfl rfl 1 (by decide) (htc _ mw_156) (fun _ h9 => h9) rfl (tyX6_ok 1 (by decide)) rfl rfl (Nat.le_of_ble_eq_true rfl) dX6_clear_7 (fun H2 locs2 hP hD hS => ?_)
  have hw2 : wS G A s H2 locs2 [oX6 aS (0 : Int32) (0 : Int32) S_points S_least S_greatest S_sum] := ⟨hP, hD, hS⟩
  clear hP hD hS hw1 H1 locs1
  refine lv_aload_n hx hb dX6_clear_10 rfl (lv_at hl0 0 rfl) ?_
  refine lv_iconst (v := (0 : Int32)) hx hb dX6_clear_11 (by decide) ?_
  refine va_put (D := G) (ci := 6) (v := .int (0 : Int32)) (ty := .int) (C := RX6) (T := TX6) (N := 6) hx hb htc iX6 tyX6 tyX6_ok nmX6 hown hK hw2.1 hw2.2.1 hw2.2.2 0 rfl rfl 2 (by decide) (htc _ mw_159) (fun _ h9 => h9) rfl (tyX6_ok 2 (by decide)) rfl rfl (Nat.le_of_ble_eq_true rfl) dX6_clear_12 (fun H3 locs3 hP hD hS => ?_)
  have hw3 : wS G A s H3 locs3 [oX6 aS (0 : Int32) (0 : Int32) (0 : Int32) S_least S_greatest S_sum] := ⟨hP, hD, hS⟩
  clear hP hD hS hw2 H2 locs2
  refine lv_aload_n hx hb dX6_clear_15 rfl (lv_at hl0 0 rfl) ?_
  refine lv_iconst (v := (0 : Int32)) hx hb dX6_clear_16 (by decide) ?_
  refine va_put (D := G) (ci := 6) (v := .int (0 : Int32)) (ty := .int) (C := RX6) (T := TX6) (N := 6) hx hb htc iX6 tyX6 tyX6_ok nmX6 hown hK hw3.1 hw3.2.1 hw3.2.2 0 rfl rfl 3 (by decide) (htc _ mw_163) (fun _ h9 => h9) rfl (tyX6_ok 3 (by decide)) rfl rfl (Nat.le_of_ble_eq_true rfl) dX6_clear_17 (fun H4 locs4 hP hD hS => ?_)
  have hw4 : wS G A s H4 locs4 [oX6 aS (0 : Int32) (0 : Int32) (0 : Int32) (0 : Int32) S_greatest S_sum] := ⟨hP, hD, hS⟩
  clear hP hD hS hw3 H3 locs3
  refine lv_aload_n hx hb dX6_clear_20 rfl (lv_at hl0 0 rfl) ?_
  refine lv_iconst (v := (0 : Int32)) hx hb dX6_clear_21 (by decide) ?_
  refine va_put (D := G) (ci := 6) (v := .int (0 : Int32)) (ty := .int) (C := RX6) (T := TX6) (N := 6) hx hb htc iX6 tyX6 tyX6_ok nmX6 hown hK hw4.1 hw4.2.1 hw4.2.2 0 rfl rfl 4 (by decide) (htc _ mw_166) (fun _ h9 => h9) rfl (tyX6_ok 4 (by decide)) rfl rfl (Nat.le_of_ble_eq_true rfl) dX6_clear_22 (fun H5 locs5 hP hD hS => ?_)
  have hw5 : wS G A s H5 locs5 [oX6 aS (0 : Int32) (0 : Int32) (0 : Int32) (0 : Int32) (0 : Int32) S_sum] := ⟨hP, hD, hS⟩
  clear hP hD hS hw4 H4 locs4
  refine lv_aload_n hx hb dX6_clear_25 rfl (lv_at hl0 0 rfl) ?_
  refine lv_lconst (v := (0 : Int64)) hx hb dX6_clear_26 (by decide) ?_
  refine va_put (D := G) (ci := 6) (v := .long (0 : Int64)) (ty := .long) (C := RX6) (T := TX6) (N := 6) hx hb htc iX6 tyX6 tyX6_ok nmX6 hown hK hw5.1 hw5.2.1 hw5.2.2 0 rfl rfl 5 (by decide) (htc _ mw_169) (fun _ h9 => h9) rfl (tyX6_ok 5 (by decide)) rfl rfl (Nat.le_of_ble_eq_true rfl) dX6_clear_27 (fun H6 locs6 hP hD hS => ?_)
  have hw6 : wS G A s H6 locs6 [oX6 aS (0 : Int32) (0 : Int32) (0 : Int32) (0 : Int32) (0 : Int32) (0 : Int64)] := ⟨hP, hD, hS⟩
  clear hP hD hS hw5 H5 locs5
  cases hfin
  rw [hQQ]
  exact ct_vret hx hb hr hlocks hw6.1 hw6.2.1 hw6.2.2 dX6_clear_30
abbrev rm_X6_add : Room := { frames := 1, cells := 0, slots := 0, locals := 21 }
theorem hd_X6_add : yX6_add.cls = RX6 ∧ yX6_add.cls ≠ "java/lang/invoke/MethodHandle" ∧ yX6_add.cls ≠ "java/lang/invoke/VarHandle" ∧ (parseMethodDescriptor yX6_add.desc).map (fun d => d.parameters.length) = some 6 := by decide +kernel
set_option maxHeartbeats 4000000 in
set_option maxRecDepth 100000 in
theorem c_X6_add (l : Launch) (G : va_G) (cI cZ cJ : ClassId) (aS : Nat) (S_first : Int32) (S_last : Int32) (S_points : Int32) (S_least : Int32) (S_greatest : Int32) (S_sum : Int64) (p0 : Int32) (p1 : Int32) (p2 : Int32) (p3 : Int32) (p4 : Int32) (p5 : Int64) {o_S_first : Int32} {o_S_last : Int32} {o_S_points : Int32} {o_S_least : Int32} {o_S_greatest : Int32} {o_S_sum : Int64} (hfin : m_X6_add S_first S_last S_points S_least S_greatest S_sum p0 p1 p2 p3 p4 p5 = some (o_S_first, o_S_last, o_S_points, o_S_least, o_S_greatest, o_S_sum)) : CT l yX6_add cX6_add 9 none rm_X6_add G (tyC cI cZ cJ) [.ref aS, .int p0, .int p1, .int p2, .int p3, .int p4, .long p5] [oX6 aS S_first S_last S_points S_least S_greatest S_sum] none [oX6 aS o_S_first o_S_last o_S_points o_S_least o_S_greatest o_S_sum] := by
  refine CT.ofW (lvl := [(0, .ref aS), (1, .int p0), (2, .int p1), (3, .int p2), (4, .int p3), (5, .int p4), (6, .long p5)]) (by decide) (Nat.le_of_ble_eq_true rfl) rfl ?_
  intro p e s m args below meth c A ls0 QQ hQQ hx hb hml hr hlocks htc hN hown hK hA hw0 hl0
  rw [m_X6_add] at hfin
  refine lv_aload_n hx hb dX6_add_0 rfl (lv_at hl0 0 rfl) ?_
  refine va_get (D := G) (ci := 6) (v := .int S_points) (C := RX6) (T := TX6) (N := 6) hx hb htc iX6 hown hK hw0.1 0 rfl rfl 2 (by decide) (htc _ mw_159) (fun _ h9 => h9) rfl dX6_add_1 ?_
  replace hfin := ob1_some hfin
  obtain ⟨s_1, hJ_2, hfin⟩ := hfin
  have kj_3 : ∀ (H : Heap) (locs : List Loc) (ls : Array Slot), wS G A s H locs [oX6 aS S_first S_last S_points S_least S_greatest S_sum] → lv_has ls 9 [(0, .ref aS), (1, .int p0), (2, .int p1), (3, .int p2), (4, .int p3), (5, .int p4), (6, .long p5)] → W p l e rm_X6_add s m args below meth c H locs 0 0 QQ (F0 m 12 ls [.int s_1]) := by
    clear hw0 hl0 ls0 hJ_2
    intro H5 locs5 ls5 hw5 hl5
    refine lv_istore (lv' := [(8, .int s_1), (0, .ref aS), (1, .int p0), (2, .int p1), (3, .int p2), (4, .int p3), (5, .int p4), (6, .long p5)]) hx hb dX6_add_12 hl5 (by decide) rfl (fun ls6 hl6 => ?_)
    clear hl5 ls5
    refine lv_aload_n hx hb dX6_add_14 rfl (lv_at hl6 1 rfl) ?_
    refine lv_iload hx hb dX6_add_15 (lv_at hl6 0 rfl) ?_
    replace hfin := ob1_some hfin
    obtain ⟨s_7, hJ_8, hfin⟩ := hfin
    have kj_9 : ∀ (H : Heap) (locs : List Loc) (ls : Array Slot), wS G A s H locs [oX6 aS S_first S_last S_points S_least S_greatest S_sum] → lv_has ls 9 [(0, .ref aS), (2, .int p1), (3, .int p2), (4, .int p3), (5, .int p4), (6, .long p5), (8, .int s_1)] → W p l e rm_X6_add s m args below meth c H locs 0 0 QQ (F0 m 28 ls [.int s_7, .ref aS]) := by
      clear hw5 H5 locs5 hl6 ls6 hJ_8
      intro H11 locs11 ls11 hw11 hl11
      refine va_put (D := G) (ci := 6) (v := .int s_7) (ty := .int) (C := RX6) (T := TX6) (N := 6) hx hb htc iX6 tyX6 tyX6_ok nmX6 hown hK hw11.1 hw11.2.1 hw11.2.2 0 rfl rfl 0 (by decide) (htc _ mw_153) (fun _ h9 => h9) rfl (tyX6_ok 0 (by decide)) rfl rfl (Nat.le_of_ble_eq_true rfl) dX6_add_28 (fun H12 locs12 hP hD hS => ?_)
      have hw12 : wS G A s H12 locs12 [oX6 aS s_7 S_last S_points S_least S_greatest S_sum] := ⟨hP, hD, hS⟩
      clear hP hD hS hw11 H11 locs11
      refine lv_aload_n hx hb dX6_add_31 rfl (lv_at hl11 0 rfl) ?_
      refine lv_iload_n hx hb dX6_add_32 rfl (lv_at hl11 1 rfl) ?_
      refine va_put (D := G) (ci := 6) (v := .int p1) (ty := .int) (C := RX6) (T := TX6) (N := 6) hx hb htc iX6 tyX6 tyX6_ok nmX6 hown hK hw12.1 hw12.2.1 hw12.2.2 0 rfl rfl 1 (by decide) (htc _ mw_156) (fun _ h9 => h9) rfl (tyX6_ok 1 (by decide)) rfl rfl (Nat.le_of_ble_eq_true rfl) dX6_add_33 (fun H13 locs13 hP hD hS => ?_)
      have hw13 : wS G A s H13 locs13 [oX6 aS s_7 p1 S_points S_least S_greatest S_sum] := ⟨hP, hD, hS⟩
      clear hP hD hS hw12 H12 locs12
      refine lv_aload_n hx hb dX6_add_36 rfl (lv_at hl11 0 rfl) ?_
      refine lv_dup hx hb dX6_add_37 rfl ?_
      refine va_get (D := G) (ci := 6) (v := .int S_points) (C := RX6) (T := TX6) (N := 6) hx hb htc iX6 hown hK hw13.1 0 rfl rfl 2 (by decide) (htc _ mw_159) (fun _ h9 => h9) rfl dX6_add_38 ?_
      refine lv_iload_n hx hb dX6_add_41 rfl (lv_at hl11 2 rfl) ?_
      refine lv_iadd hx hb dX6_add_42 ?_
      refine va_put (D := G) (ci := 6) (v := .int (S_points + p2)) (ty := .int) (C := RX6) (T := TX6) (N := 6) hx hb htc iX6 tyX6 tyX6_ok nmX6 hown hK hw13.1 hw13.2.1 hw13.2.2 0 rfl rfl 2 (by decide) (htc _ mw_159) (fun _ h9 => h9) rfl (tyX6_ok 2 (by decide)) rfl rfl (Nat.le_of_ble_eq_true rfl) dX6_add_43 (fun H14 locs14 hP hD hS => ?_)
      have hw14 : wS G A s H14 locs14 [oX6 aS s_7 p1 (S_points + p2) S_least S_greatest S_sum] := ⟨hP, hD, hS⟩
      clear hP hD hS hw13 H13 locs13
      refine lv_aload_n hx hb dX6_add_46 rfl (lv_at hl11 0 rfl) ?_
      refine lv_iload hx hb dX6_add_47 (lv_at hl11 6 rfl) ?_
      replace hfin := ob1_some hfin
      obtain ⟨s_15, hJ_16, hfin⟩ := hfin
      have kj_17 : ∀ (H : Heap) (locs : List Loc) (ls : Array Slot), wS G A s H locs [oX6 aS s_7 p1 (S_points + p2) S_least S_greatest S_sum] → lv_has ls 9 [(0, .ref aS), (5, .int p4), (6, .long p5), (8, .int s_1)] → W p l e rm_X6_add s m args below meth c H locs 0 0 QQ (F0 m 66 ls [.int s_15, .ref aS]) := by
        clear hw14 H14 locs14 hl11 ls11 hJ_16
        intro H19 locs19 ls19 hw19 hl19
        refine va_put (D := G) (ci := 6) (v := .int s_15) (ty := .int) (C := RX6) (T := TX6) (N := 6) hx hb htc iX6 tyX6 tyX6_ok nmX6 hown hK hw19.1 hw19.2.1 hw19.2.2 0 rfl rfl 3 (by decide) (htc _ mw_163) (fun _ h9 => h9) rfl (tyX6_ok 3 (by decide)) rfl rfl (Nat.le_of_ble_eq_true rfl) dX6_add_66 (fun H20 locs20 hP hD hS => ?_)
        have hw20 : wS G A s H20 locs20 [oX6 aS s_7 p1 (S_points + p2) s_15 S_greatest S_sum] := ⟨hP, hD, hS⟩
        clear hP hD hS hw19 H19 locs19
        refine lv_aload_n hx hb dX6_add_69 rfl (lv_at hl19 0 rfl) ?_
        refine lv_iload hx hb dX6_add_70 (lv_at hl19 3 rfl) ?_
        replace hfin := ob1_some hfin
        obtain ⟨s_21, hJ_22, hfin⟩ := hfin
        have kj_23 : ∀ (H : Heap) (locs : List Loc) (ls : Array Slot), wS G A s H locs [oX6 aS s_7 p1 (S_points + p2) s_15 S_greatest S_sum] → lv_has ls 9 [(0, .ref aS), (6, .long p5)] → W p l e rm_X6_add s m args below meth c H locs 0 0 QQ (F0 m 89 ls [.int s_21, .ref aS]) := by
          clear hw20 H20 locs20 hl19 ls19 hJ_22
          intro H25 locs25 ls25 hw25 hl25
          refine va_put (D := G) (ci := 6) (v := .int s_21) (ty := .int) (C := RX6) (T := TX6) (N := 6) hx hb htc iX6 tyX6 tyX6_ok nmX6 hown hK hw25.1 hw25.2.1 hw25.2.2 0 rfl rfl 4 (by decide) (htc _ mw_166) (fun _ h9 => h9) rfl (tyX6_ok 4 (by decide)) rfl rfl (Nat.le_of_ble_eq_true rfl) dX6_add_89 (fun H26 locs26 hP hD hS => ?_)
          have hw26 : wS G A s H26 locs26 [oX6 aS s_7 p1 (S_points + p2) s_15 s_21 S_sum] := ⟨hP, hD, hS⟩
          clear hP hD hS hw25 H25 locs25
          refine lv_aload_n hx hb dX6_add_92 rfl (lv_at hl25 0 rfl) ?_
          refine lv_dup hx hb dX6_add_93 rfl ?_
          refine va_get (D := G) (ci := 6) (v := .long S_sum) (C := RX6) (T := TX6) (N := 6) hx hb htc iX6 hown hK hw26.1 0 rfl rfl 5 (by decide) (htc _ mw_169) (fun _ h9 => h9) rfl dX6_add_94 ?_
          refine lv_lload hx hb dX6_add_97 (lv_at hl25 1 rfl) ?_
          refine lv_ladd hx hb dX6_add_99 ?_
          refine va_put (D := G) (ci := 6) (v := .long (S_sum + p5)) (ty := .long) (C := RX6) (T := TX6) (N := 6) hx hb htc iX6 tyX6 tyX6_ok nmX6 hown hK hw26.1 hw26.2.1 hw26.2.2 0 rfl rfl 5 (by decide) (htc _ mw_169) (fun _ h9 => h9) rfl (tyX6_ok 5 (by decide)) rfl rfl (Nat.le_of_ble_eq_true rfl) dX6_add_100 (fun H27 locs27 hP hD hS => ?_)
          have hw27 : wS G A s H27 locs27 [oX6 aS s_7 p1 (S_points + p2) s_15 s_21 (S_sum + p5)] := ⟨hP, hD, hS⟩
          clear hP hD hS hw26 H26 locs26
          cases hfin
          rw [hQQ]
          exact ct_vret hx hb hr hlocks hw27.1 hw27.2.1 hw27.2.2 dX6_add_103
        clear hfin
        refine lv_if_eq (tgt := 80) hx hb dX6_add_72 (by decide) (fun c_24 => ?_) (fun c_24 => ?_)
        · replace hJ_22 := it_t c_24 hJ_22
          refine lv_aload_n hx hb dX6_add_80 rfl (lv_at hl19 0 rfl) ?_
          refine va_get (D := G) (ci := 6) (v := .int S_greatest) (C := RX6) (T := TX6) (N := 6) hx hb htc iX6 hown hK hw20.1 0 rfl rfl 4 (by decide) (htc _ mw_166) (fun _ h9 => h9) rfl dX6_add_81 ?_
          refine lv_iload hx hb dX6_add_84 (lv_at hl19 1 rfl) ?_
          refine va_mmax hx hb (hml.trans hl19.1.symm) hown (htc _ mw_522) (htc _ mw_34) (htc _ mw_2) (htc _ mw_35) (Nat.le_of_ble_eq_true rfl) (Nat.le_of_ble_eq_true rfl) (Nat.zero_le _) (Nat.zero_le _) dX6_add_86 ?_
          cases hJ_22
          exact kj_23 _ _ _ hw20 (lv_sub hl19 [0, 2] rfl)
        · replace hJ_22 := it_f c_24 hJ_22
          refine lv_iload hx hb dX6_add_75 (lv_at hl19 1 rfl) ?_
          refine lv_goto (tgt := 89) hx hb dX6_add_77 (by decide) ?_
          cases hJ_22
          exact kj_23 _ _ _ hw20 (lv_sub hl19 [0, 2] rfl)
      clear hfin
      refine lv_if_eq (tgt := 57) hx hb dX6_add_49 (by decide) (fun c_18 => ?_) (fun c_18 => ?_)
      · replace hJ_16 := it_t c_18 hJ_16
        refine lv_aload_n hx hb dX6_add_57 rfl (lv_at hl11 0 rfl) ?_
        refine va_get (D := G) (ci := 6) (v := .int S_least) (C := RX6) (T := TX6) (N := 6) hx hb htc iX6 hown hK hw14.1 0 rfl rfl 3 (by decide) (htc _ mw_163) (fun _ h9 => h9) rfl dX6_add_58 ?_
        refine lv_iload hx hb dX6_add_61 (lv_at hl11 3 rfl) ?_
        refine va_mmin hx hb (hml.trans hl11.1.symm) hown (htc _ mw_521) (htc _ mw_31) (htc _ mw_2) (htc _ mw_32) (Nat.le_of_ble_eq_true rfl) (Nat.le_of_ble_eq_true rfl) (Nat.zero_le _) (Nat.zero_le _) dX6_add_63 ?_
        cases hJ_16
        exact kj_17 _ _ _ hw14 (lv_sub hl11 [0, 4, 5, 6] rfl)
      · replace hJ_16 := it_f c_18 hJ_16
        refine lv_iload hx hb dX6_add_52 (lv_at hl11 3 rfl) ?_
        refine lv_goto (tgt := 66) hx hb dX6_add_54 (by decide) ?_
        cases hJ_16
        exact kj_17 _ _ _ hw14 (lv_sub hl11 [0, 4, 5, 6] rfl)
    clear hfin
    refine lv_if_eq (tgt := 24) hx hb dX6_add_17 (by decide) (fun c_10 => ?_) (fun c_10 => ?_)
    · replace hJ_8 := it_t c_10 hJ_8
      refine lv_aload_n hx hb dX6_add_24 rfl (lv_at hl6 1 rfl) ?_
      refine va_get (D := G) (ci := 6) (v := .int S_first) (C := RX6) (T := TX6) (N := 6) hx hb htc iX6 hown hK hw5.1 0 rfl rfl 0 (by decide) (htc _ mw_153) (fun _ h9 => h9) rfl dX6_add_25 ?_
      cases hJ_8
      exact kj_9 _ _ _ hw5 (lv_sub hl6 [1, 3, 4, 5, 6, 7, 0] rfl)
    · replace hJ_8 := it_f c_10 hJ_8
      refine lv_iload_n hx hb dX6_add_20 rfl (lv_at hl6 2 rfl) ?_
      refine lv_goto (tgt := 28) hx hb dX6_add_21 (by decide) ?_
      cases hJ_8
      exact kj_9 _ _ _ hw5 (lv_sub hl6 [1, 3, 4, 5, 6, 7, 0] rfl)
  clear hfin
  refine lv_if_ne (tgt := 11) hx hb dX6_add_4 (by decide) (fun c_4 => ?_) (fun c_4 => ?_)
  · replace hJ_2 := it_f c_4 hJ_2
    refine lv_iconst (v := (0 : Int32)) hx hb dX6_add_11 (by decide) ?_
    cases hJ_2
    exact kj_3 _ _ _ hw0 (lv_sub hl0 [0, 1, 2, 3, 4, 5, 6] rfl)
  · replace hJ_2 := it_t c_4 hJ_2
    refine lv_iconst (v := (1 : Int32)) hx hb dX6_add_7 (by decide) ?_
    refine lv_goto (tgt := 12) hx hb dX6_add_8 (by decide) ?_
    cases hJ_2
    exact kj_3 _ _ _ hw0 (lv_sub hl0 [0, 1, 2, 3, 4, 5, 6] rfl)
abbrev rm_X6_addPoint : Room := { frames := 2, cells := 0, slots := 0, locals := 49 }
theorem hd_X6_addPoint : yX6_addPoint.cls = RX6 ∧ yX6_addPoint.cls ≠ "java/lang/invoke/MethodHandle" ∧ yX6_addPoint.cls ≠ "java/lang/invoke/VarHandle" ∧ (parseMethodDescriptor yX6_addPoint.desc).map (fun d => d.parameters.length) = some 2 := by decide +kernel
set_option maxHeartbeats 4000000 in
set_option maxRecDepth 100000 in
theorem c_X6_addPoint (l : Launch) (G : va_G) (cI cZ cJ : ClassId) (aS : Nat) (S_first : Int32) (S_last : Int32) (S_points : Int32) (S_least : Int32) (S_greatest : Int32) (S_sum : Int64) (p0 : Int32) (p1 : Int32) {o_S_first : Int32} {o_S_last : Int32} {o_S_points : Int32} {o_S_least : Int32} {o_S_greatest : Int32} {o_S_sum : Int64} (hfin : m_X6_addPoint S_first S_last S_points S_least S_greatest S_sum p0 p1 = some (o_S_first, o_S_last, o_S_points, o_S_least, o_S_greatest, o_S_sum)) : CT l yX6_addPoint cX6_addPoint 3 none rm_X6_addPoint G (tyC cI cZ cJ) [.ref aS, .int p0, .int p1] [oX6 aS S_first S_last S_points S_least S_greatest S_sum] none [oX6 aS o_S_first o_S_last o_S_points o_S_least o_S_greatest o_S_sum] := by
  refine CT.ofW (lvl := [(0, .ref aS), (1, .int p0), (2, .int p1)]) (by decide) (Nat.le_of_ble_eq_true rfl) rfl ?_
  intro p e s m args below meth c A ls0 QQ hQQ hx hb hml hr hlocks htc hN hown hK hA hw0 hl0
  rw [m_X6_addPoint] at hfin
  refine lv_aload_n hx hb dX6_addPoint_0 rfl (lv_at hl0 0 rfl) ?_
  refine lv_iload_n hx hb dX6_addPoint_1 rfl (lv_at hl0 1 rfl) ?_
  refine lv_iload_n hx hb dX6_addPoint_2 rfl (lv_at hl0 1 rfl) ?_
  refine lv_iconst (v := (1 : Int32)) hx hb dX6_addPoint_3 (by decide) ?_
  refine lv_iload_n hx hb dX6_addPoint_4 rfl (lv_at hl0 2 rfl) ?_
  refine lv_iload_n hx hb dX6_addPoint_5 rfl (lv_at hl0 2 rfl) ?_
  refine lv_iload_n hx hb dX6_addPoint_6 rfl (lv_at hl0 2 rfl) ?_
  refine lv_i2l hx hb dX6_addPoint_7 rfl ?_
  replace hfin := ob6_some hfin
  obtain ⟨S_first_2, S_last_3, S_points_4, S_least_5, S_greatest_6, S_sum_7, hE_1, hfin⟩ := hfin
  refine ctV (a := aS) (As := [.int p0, .int p0, .int (1 : Int32), .int p1, .int p1, .long (Int32.toInt64 p1)]) (rest := []) (st1 := []) (wc := [oX6 aS S_first S_last S_points S_least S_greatest S_sum]) (w1 := [oX6 aS S_first_2 S_last_3 S_points_4 S_least_5 S_greatest_6 S_sum_7]) (wr := []) (wb := [oX6 aS S_first_2 S_last_3 S_points_4 S_least_5 S_greatest_6 S_sum_7]) (v := none) hx hb hml hown htc hN (c_X6_add l G cI cZ cJ aS S_first S_last S_points S_least S_greatest S_sum p0 p0 (1 : Int32) p1 p1 (Int32.toInt64 p1) hE_1) mw_517 mw_519 mp_11 mw_9 mw_520 hd_X6_add ⟨rfl, rfl⟩ ⟨Nat.le_of_ble_eq_true rfl, Nat.le_of_ble_eq_true rfl⟩ hK hw0 hA [0] [] [0] rfl rfl rfl rfl rfl (by decide) rfl rfl rfl 0 rfl rfl rfl rfl hl0.1 rfl rfl (Nat.le_of_ble_eq_true rfl) dX6_addPoint_8 ⟨Nat.zero_le _, Nat.zero_le _⟩ (fun H8 locs8 hw8 => ?_)
  clear hw0
  cases hfin
  rw [hQQ]
  exact ct_vret hx hb hr hlocks hw8.1 hw8.2.1 hw8.2.2 dX6_addPoint_11
abbrev rm_X6_addEntry : Room := { frames := 2, cells := 0, slots := 0, locals := 49 }
theorem hd_X6_addEntry : yX6_addEntry.cls = RX6 ∧ yX6_addEntry.cls ≠ "java/lang/invoke/MethodHandle" ∧ yX6_addEntry.cls ≠ "java/lang/invoke/VarHandle" ∧ (parseMethodDescriptor yX6_addEntry.desc).map (fun d => d.parameters.length) = some 2 := by decide +kernel
set_option maxHeartbeats 4000000 in
set_option maxRecDepth 100000 in
theorem c_X6_addEntry (l : Launch) (G : va_G) (cI cZ cJ : ClassId) (aD aDc aI aS : Nat) (D_writesDone : Int32) (D_writesLeft : Int32) (D_down : Int32) (D_cells : Nat → Int32) (S_first : Int32) (S_last : Int32) (S_points : Int32) (S_least : Int32) (S_greatest : Int32) (S_sum : Int64) (p1 : Int32) {o_S_first : Int32} {o_S_last : Int32} {o_S_points : Int32} {o_S_least : Int32} {o_S_greatest : Int32} {o_S_sum : Int64} (hfin : m_X6_addEntry D_cells S_first S_last S_points S_least S_greatest S_sum p1 = some (o_S_first, o_S_last, o_S_points, o_S_least, o_S_greatest, o_S_sum)) : CT l yX6_addEntry cX6_addEntry 7 none rm_X6_addEntry G (tyC cI cZ cJ) [.ref aS, .ref aI, .int p1] [oX2 aD aDc D_writesDone D_writesLeft D_down, rI aDc cI 4096 D_cells, oX3 aI aD, oX6 aS S_first S_last S_points S_least S_greatest S_sum] none [oX2 aD aDc D_writesDone D_writesLeft D_down, rI aDc cI 4096 D_cells, oX3 aI aD, oX6 aS o_S_first o_S_last o_S_points o_S_least o_S_greatest o_S_sum] := by
  refine CT.ofW (lvl := [(0, .ref aS), (1, .ref aI), (2, .int p1)]) (by decide) (Nat.le_of_ble_eq_true rfl) rfl ?_
  intro p e s m args below meth c A ls0 QQ hQQ hx hb hml hr hlocks htc hN hown hK hA hw0 hl0
  rw [m_X6_addEntry] at hfin
  refine lv_aload_n hx hb dX6_addEntry_0 rfl (lv_at hl0 1 rfl) ?_
  refine lv_iload_n hx hb dX6_addEntry_1 rfl (lv_at hl0 2 rfl) ?_
  refine lv_bipush (v := (6 : Int32)) hx hb dX6_addEntry_2 (by decide) ?_
  replace hfin := ob1_some hfin
  obtain ⟨r_2, hE_1, hfin⟩ := hfin
  refine ctV (a := aI) (As := [.int p1, .int (6 : Int32)]) (rest := []) (st1 := [.int r_2]) (wc := [oX2 aD aDc D_writesDone D_writesLeft D_down, rI aDc cI 4096 D_cells, oX3 aI aD]) (w1 := [oX2 aD aDc D_writesDone D_writesLeft D_down, rI aDc cI 4096 D_cells, oX3 aI aD]) (wr := [oX6 aS S_first S_last S_points S_least S_greatest S_sum]) (wb := [oX2 aD aDc D_writesDone D_writesLeft D_down, rI aDc cI 4096 D_cells, oX3 aI aD, oX6 aS S_first S_last S_points S_least S_greatest S_sum]) (v := (some (.int r_2))) hx hb hml hown htc hN (c_X3_at l G cI cZ cJ aD aDc aI D_writesDone D_writesLeft D_down D_cells p1 (6 : Int32) hE_1) mw_637 mw_391 mw_392 mw_4 mw_393 hd_X3_at ⟨rfl, rfl⟩ ⟨Nat.le_of_ble_eq_true rfl, Nat.le_of_ble_eq_true rfl⟩ hK hw0 hA [0, 1, 2] [3] [1, 2, 3, 0] rfl rfl rfl rfl rfl (by decide) rfl rfl rfl 2 rfl rfl rfl rfl hl0.1 rfl rfl (Nat.le_of_ble_eq_true rfl) dX6_addEntry_4 ⟨Nat.zero_le _, Nat.zero_le _⟩ (fun H3 locs3 hw3 => ?_)
  clear hw0
  refine lv_i2l hx hb dX6_addEntry_7 rfl ?_
  refine lv_bipush (v := (32 : Int32)) hx hb dX6_addEntry_8 (by decide) ?_
  refine lv_lshl hx hb dX6_addEntry_10 rfl ?_
  refine lv_lstore_n (lv' := [(3, .long ((Int32.toInt64 r_2) <<< (Int32.toInt64 (32 : Int32) &&& 63))), (0, .ref aS), (1, .ref aI), (2, .int p1)]) hx hb dX6_addEntry_11 rfl hl0 (by decide) rfl (fun ls4 hl4 => ?_)
  clear hl0 ls0
  refine lv_aload_n hx hb dX6_addEntry_12 rfl (lv_at hl4 2 rfl) ?_
  refine lv_iload_n hx hb dX6_addEntry_13 rfl (lv_at hl4 3 rfl) ?_
  refine lv_bipush (v := (7 : Int32)) hx hb dX6_addEntry_14 (by decide) ?_
  replace hfin := ob1_some hfin
  obtain ⟨r_6, hE_5, hfin⟩ := hfin
  refine ctV (a := aI) (As := [.int p1, .int (7 : Int32)]) (rest := []) (st1 := [.int r_6]) (wc := [oX2 aD aDc D_writesDone D_writesLeft D_down, rI aDc cI 4096 D_cells, oX3 aI aD]) (w1 := [oX2 aD aDc D_writesDone D_writesLeft D_down, rI aDc cI 4096 D_cells, oX3 aI aD]) (wr := [oX6 aS S_first S_last S_points S_least S_greatest S_sum]) (wb := [oX2 aD aDc D_writesDone D_writesLeft D_down, rI aDc cI 4096 D_cells, oX3 aI aD, oX6 aS S_first S_last S_points S_least S_greatest S_sum]) (v := (some (.int r_6))) hx hb hml hown htc hN (c_X3_at l G cI cZ cJ aD aDc aI D_writesDone D_writesLeft D_down D_cells p1 (7 : Int32) hE_5) mw_637 mw_391 mw_392 mw_4 mw_393 hd_X3_at ⟨rfl, rfl⟩ ⟨Nat.le_of_ble_eq_true rfl, Nat.le_of_ble_eq_true rfl⟩ hK hw3 hA [0, 1, 2] [3] [1, 2, 3, 0] rfl rfl rfl rfl rfl (by decide) rfl rfl rfl 2 rfl rfl rfl rfl hl4.1 rfl rfl (Nat.le_of_ble_eq_true rfl) dX6_addEntry_16 ⟨Nat.zero_le _, Nat.zero_le _⟩ (fun H7 locs7 hw7 => ?_)
  clear hw3 H3 locs3
  refine lv_i2l hx hb dX6_addEntry_19 rfl ?_
  refine lv_ldc2 (v := (4294967295 : Int64)) hx hb hown (htc _ mw_638) dX6_addEntry_20 ?_
  refine lv_land hx hb dX6_addEntry_23 ?_
  refine lv_lstore (lv' := [(5, .long ((Int32.toInt64 r_6) &&& (4294967295 : Int64))), (3, .long ((Int32.toInt64 r_2) <<< (Int32.toInt64 (32 : Int32) &&& 63))), (0, .ref aS), (1, .ref aI), (2, .int p1)]) hx hb dX6_addEntry_24 hl4 (by decide) rfl (fun ls8 hl8 => ?_)
  clear hl4 ls4
  refine lv_aload_n hx hb dX6_addEntry_26 rfl (lv_at hl8 2 rfl) ?_
  refine lv_aload_n hx hb dX6_addEntry_27 rfl (lv_at hl8 3 rfl) ?_
  refine lv_iload_n hx hb dX6_addEntry_28 rfl (lv_at hl8 4 rfl) ?_
  refine lv_iconst (v := (1 : Int32)) hx hb dX6_addEntry_29 (by decide) ?_
  replace hfin := ob1_some hfin
  obtain ⟨r_10, hE_9, hfin⟩ := hfin
  refine ctV (a := aI) (As := [.int p1, .int (1 : Int32)]) (rest := [.ref aS]) (st1 := [.int r_10, .ref aS]) (wc := [oX2 aD aDc D_writesDone D_writesLeft D_down, rI aDc cI 4096 D_cells, oX3 aI aD]) (w1 := [oX2 aD aDc D_writesDone D_writesLeft D_down, rI aDc cI 4096 D_cells, oX3 aI aD]) (wr := [oX6 aS S_first S_last S_points S_least S_greatest S_sum]) (wb := [oX2 aD aDc D_writesDone D_writesLeft D_down, rI aDc cI 4096 D_cells, oX3 aI aD, oX6 aS S_first S_last S_points S_least S_greatest S_sum]) (v := (some (.int r_10))) hx hb hml hown htc hN (c_X3_at l G cI cZ cJ aD aDc aI D_writesDone D_writesLeft D_down D_cells p1 (1 : Int32) hE_9) mw_637 mw_391 mw_392 mw_4 mw_393 hd_X3_at ⟨rfl, rfl⟩ ⟨Nat.le_of_ble_eq_true rfl, Nat.le_of_ble_eq_true rfl⟩ hK hw7 hA [0, 1, 2] [3] [1, 2, 3, 0] rfl rfl rfl rfl rfl (by decide) rfl rfl rfl 2 rfl rfl rfl rfl hl8.1 rfl rfl (Nat.le_of_ble_eq_true rfl) dX6_addEntry_30 ⟨Nat.zero_le _, Nat.zero_le _⟩ (fun H11 locs11 hw11 => ?_)
  clear hw7 H7 locs7
  refine lv_aload_n hx hb dX6_addEntry_33 rfl (lv_at hl8 3 rfl) ?_
  refine lv_iload_n hx hb dX6_addEntry_34 rfl (lv_at hl8 4 rfl) ?_
  refine lv_iconst (v := (2 : Int32)) hx hb dX6_addEntry_35 (by decide) ?_
  replace hfin := ob1_some hfin
  obtain ⟨r_13, hE_12, hfin⟩ := hfin
  refine ctV (a := aI) (As := [.int p1, .int (2 : Int32)]) (rest := [.int r_10, .ref aS]) (st1 := [.int r_13, .int r_10, .ref aS]) (wc := [oX2 aD aDc D_writesDone D_writesLeft D_down, rI aDc cI 4096 D_cells, oX3 aI aD]) (w1 := [oX2 aD aDc D_writesDone D_writesLeft D_down, rI aDc cI 4096 D_cells, oX3 aI aD]) (wr := [oX6 aS S_first S_last S_points S_least S_greatest S_sum]) (wb := [oX2 aD aDc D_writesDone D_writesLeft D_down, rI aDc cI 4096 D_cells, oX3 aI aD, oX6 aS S_first S_last S_points S_least S_greatest S_sum]) (v := (some (.int r_13))) hx hb hml hown htc hN (c_X3_at l G cI cZ cJ aD aDc aI D_writesDone D_writesLeft D_down D_cells p1 (2 : Int32) hE_12) mw_637 mw_391 mw_392 mw_4 mw_393 hd_X3_at ⟨rfl, rfl⟩ ⟨Nat.le_of_ble_eq_true rfl, Nat.le_of_ble_eq_true rfl⟩ hK hw11 hA [0, 1, 2] [3] [1, 2, 3, 0] rfl rfl rfl rfl rfl (by decide) rfl rfl rfl 2 rfl rfl rfl rfl hl8.1 rfl rfl (Nat.le_of_ble_eq_true rfl) dX6_addEntry_36 ⟨Nat.zero_le _, Nat.zero_le _⟩ (fun H14 locs14 hw14 => ?_)
  clear hw11 H11 locs11
  refine lv_aload_n hx hb dX6_addEntry_39 rfl (lv_at hl8 3 rfl) ?_
  refine lv_iload_n hx hb dX6_addEntry_40 rfl (lv_at hl8 4 rfl) ?_
  refine lv_iconst (v := (3 : Int32)) hx hb dX6_addEntry_41 (by decide) ?_
  replace hfin := ob1_some hfin
  obtain ⟨r_16, hE_15, hfin⟩ := hfin
  refine ctV (a := aI) (As := [.int p1, .int (3 : Int32)]) (rest := [.int r_13, .int r_10, .ref aS]) (st1 := [.int r_16, .int r_13, .int r_10, .ref aS]) (wc := [oX2 aD aDc D_writesDone D_writesLeft D_down, rI aDc cI 4096 D_cells, oX3 aI aD]) (w1 := [oX2 aD aDc D_writesDone D_writesLeft D_down, rI aDc cI 4096 D_cells, oX3 aI aD]) (wr := [oX6 aS S_first S_last S_points S_least S_greatest S_sum]) (wb := [oX2 aD aDc D_writesDone D_writesLeft D_down, rI aDc cI 4096 D_cells, oX3 aI aD, oX6 aS S_first S_last S_points S_least S_greatest S_sum]) (v := (some (.int r_16))) hx hb hml hown htc hN (c_X3_at l G cI cZ cJ aD aDc aI D_writesDone D_writesLeft D_down D_cells p1 (3 : Int32) hE_15) mw_637 mw_391 mw_392 mw_4 mw_393 hd_X3_at ⟨rfl, rfl⟩ ⟨Nat.le_of_ble_eq_true rfl, Nat.le_of_ble_eq_true rfl⟩ hK hw14 hA [0, 1, 2] [3] [1, 2, 3, 0] rfl rfl rfl rfl rfl (by decide) rfl rfl rfl 2 rfl rfl rfl rfl hl8.1 rfl rfl (Nat.le_of_ble_eq_true rfl) dX6_addEntry_42 ⟨Nat.zero_le _, Nat.zero_le _⟩ (fun H17 locs17 hw17 => ?_)
  clear hw14 H14 locs14
  refine lv_aload_n hx hb dX6_addEntry_45 rfl (lv_at hl8 3 rfl) ?_
  refine lv_iload_n hx hb dX6_addEntry_46 rfl (lv_at hl8 4 rfl) ?_
  refine lv_iconst (v := (4 : Int32)) hx hb dX6_addEntry_47 (by decide) ?_
  replace hfin := ob1_some hfin
  obtain ⟨r_19, hE_18, hfin⟩ := hfin
  refine ctV (a := aI) (As := [.int p1, .int (4 : Int32)]) (rest := [.int r_16, .int r_13, .int r_10, .ref aS]) (st1 := [.int r_19, .int r_16, .int r_13, .int r_10, .ref aS]) (wc := [oX2 aD aDc D_writesDone D_writesLeft D_down, rI aDc cI 4096 D_cells, oX3 aI aD]) (w1 := [oX2 aD aDc D_writesDone D_writesLeft D_down, rI aDc cI 4096 D_cells, oX3 aI aD]) (wr := [oX6 aS S_first S_last S_points S_least S_greatest S_sum]) (wb := [oX2 aD aDc D_writesDone D_writesLeft D_down, rI aDc cI 4096 D_cells, oX3 aI aD, oX6 aS S_first S_last S_points S_least S_greatest S_sum]) (v := (some (.int r_19))) hx hb hml hown htc hN (c_X3_at l G cI cZ cJ aD aDc aI D_writesDone D_writesLeft D_down D_cells p1 (4 : Int32) hE_18) mw_637 mw_391 mw_392 mw_4 mw_393 hd_X3_at ⟨rfl, rfl⟩ ⟨Nat.le_of_ble_eq_true rfl, Nat.le_of_ble_eq_true rfl⟩ hK hw17 hA [0, 1, 2] [3] [1, 2, 3, 0] rfl rfl rfl rfl rfl (by decide) rfl rfl rfl 2 rfl rfl rfl rfl hl8.1 rfl rfl (Nat.le_of_ble_eq_true rfl) dX6_addEntry_48 ⟨Nat.zero_le _, Nat.zero_le _⟩ (fun H20 locs20 hw20 => ?_)
  clear hw17 H17 locs17
  refine lv_aload_n hx hb dX6_addEntry_51 rfl (lv_at hl8 3 rfl) ?_
  refine lv_iload_n hx hb dX6_addEntry_52 rfl (lv_at hl8 4 rfl) ?_
  refine lv_iconst (v := (5 : Int32)) hx hb dX6_addEntry_53 (by decide) ?_
  replace hfin := ob1_some hfin
  obtain ⟨r_22, hE_21, hfin⟩ := hfin
  refine ctV (a := aI) (As := [.int p1, .int (5 : Int32)]) (rest := [.int r_19, .int r_16, .int r_13, .int r_10, .ref aS]) (st1 := [.int r_22, .int r_19, .int r_16, .int r_13, .int r_10, .ref aS]) (wc := [oX2 aD aDc D_writesDone D_writesLeft D_down, rI aDc cI 4096 D_cells, oX3 aI aD]) (w1 := [oX2 aD aDc D_writesDone D_writesLeft D_down, rI aDc cI 4096 D_cells, oX3 aI aD]) (wr := [oX6 aS S_first S_last S_points S_least S_greatest S_sum]) (wb := [oX2 aD aDc D_writesDone D_writesLeft D_down, rI aDc cI 4096 D_cells, oX3 aI aD, oX6 aS S_first S_last S_points S_least S_greatest S_sum]) (v := (some (.int r_22))) hx hb hml hown htc hN (c_X3_at l G cI cZ cJ aD aDc aI D_writesDone D_writesLeft D_down D_cells p1 (5 : Int32) hE_21) mw_637 mw_391 mw_392 mw_4 mw_393 hd_X3_at ⟨rfl, rfl⟩ ⟨Nat.le_of_ble_eq_true rfl, Nat.le_of_ble_eq_true rfl⟩ hK hw20 hA [0, 1, 2] [3] [1, 2, 3, 0] rfl rfl rfl rfl rfl (by decide) rfl rfl rfl 2 rfl rfl rfl rfl hl8.1 rfl rfl (Nat.le_of_ble_eq_true rfl) dX6_addEntry_54 ⟨Nat.zero_le _, Nat.zero_le _⟩ (fun H23 locs23 hw23 => ?_)
  clear hw20 H20 locs20
  refine lv_lload_n hx hb dX6_addEntry_57 rfl (lv_at hl8 1 rfl) ?_
  refine lv_lload hx hb dX6_addEntry_58 (lv_at hl8 0 rfl) ?_
  refine lv_lor hx hb dX6_addEntry_60 ?_
  replace hfin := ob6_some hfin
  obtain ⟨S_first_25, S_last_26, S_points_27, S_least_28, S_greatest_29, S_sum_30, hE_24, hfin⟩ := hfin
  refine ctV (a := aS) (As := [.int r_10, .int r_13, .int r_16, .int r_19, .int r_22, .long (((Int32.toInt64 r_2) <<< (Int32.toInt64 (32 : Int32) &&& 63)) ||| ((Int32.toInt64 r_6) &&& (4294967295 : Int64)))]) (rest := []) (st1 := []) (wc := [oX6 aS S_first S_last S_points S_least S_greatest S_sum]) (w1 := [oX6 aS S_first_25 S_last_26 S_points_27 S_least_28 S_greatest_29 S_sum_30]) (wr := [oX2 aD aDc D_writesDone D_writesLeft D_down, rI aDc cI 4096 D_cells, oX3 aI aD]) (wb := [oX2 aD aDc D_writesDone D_writesLeft D_down, rI aDc cI 4096 D_cells, oX3 aI aD, oX6 aS S_first_25 S_last_26 S_points_27 S_least_28 S_greatest_29 S_sum_30]) (v := none) hx hb hml hown htc hN (c_X6_add l G cI cZ cJ aS S_first S_last S_points S_least S_greatest S_sum r_10 r_13 r_16 r_19 r_22 (((Int32.toInt64 r_2) <<< (Int32.toInt64 (32 : Int32) &&& 63)) ||| ((Int32.toInt64 r_6) &&& (4294967295 : Int64))) hE_24) mw_517 mw_519 mp_11 mw_9 mw_520 hd_X6_add ⟨rfl, rfl⟩ ⟨Nat.le_of_ble_eq_true rfl, Nat.le_of_ble_eq_true rfl⟩ hK hw23 hA [3] [0, 1, 2] [0, 1, 2, 3] rfl rfl rfl rfl rfl (by decide) rfl rfl rfl 0 rfl rfl rfl rfl hl8.1 rfl rfl (Nat.le_of_ble_eq_true rfl) dX6_addEntry_61 ⟨Nat.zero_le _, Nat.zero_le _⟩ (fun H31 locs31 hw31 => ?_)
  clear hw23 H23 locs23
  cases hfin
  rw [hQQ]
  exact ct_vret hx hb hr hlocks hw31.1 hw31.2.1 hw31.2.2 dX6_addEntry_64
abbrev rm_X6_isOut : Room := { frames := 0, cells := 0, slots := 0, locals := 0 }
theorem hd_X6_isOut : yX6_isOut.cls = RX6 ∧ yX6_isOut.cls ≠ "java/lang/invoke/MethodHandle" ∧ yX6_isOut.cls ≠ "java/lang/invoke/VarHandle" ∧ (parseMethodDescriptor yX6_isOut.desc).map (fun d => d.parameters.length) = some 2 := by decide +kernel
set_option maxHeartbeats 4000000 in
set_option maxRecDepth 100000 in
theorem c_X6_isOut (l : Launch) (G : va_G) (cI cZ cJ : ClassId) (aS : Nat) (S_first : Int32) (S_last : Int32) (S_points : Int32) (S_least : Int32) (S_greatest : Int32) (S_sum : Int64) (p0 : Int32) (p1 : Int32) {r : Int32} (hfin : m_X6_isOut S_first S_last p0 p1 = some (r)) : CT l yX6_isOut cX6_isOut 3 (some .boolean) rm_X6_isOut G (tyC cI cZ cJ) [.ref aS, .int p0, .int p1] [oX6 aS S_first S_last S_points S_least S_greatest S_sum] (some (.int r)) [oX6 aS S_first S_last S_points S_least S_greatest S_sum] := by
  refine CT.ofW (lvl := [(0, .ref aS), (1, .int p0), (2, .int p1)]) (by decide) (Nat.le_of_ble_eq_true rfl) rfl ?_
  intro p e s m args below meth c A ls0 QQ hQQ hx hb hml hr hlocks htc hN hown hK hA hw0 hl0
  rw [m_X6_isOut] at hfin
  refine lv_aload_n hx hb dX6_isOut_0 rfl (lv_at hl0 0 rfl) ?_
  refine va_get (D := G) (ci := 6) (v := .int S_last) (C := RX6) (T := TX6) (N := 6) hx hb htc iX6 hown hK hw0.1 0 rfl rfl 1 (by decide) (htc _ mw_156) (fun _ h9 => h9) rfl dX6_isOut_1 ?_
  refine lv_iload_n hx hb dX6_isOut_4 rfl (lv_at hl0 1 rfl) ?_
  replace hfin := ob1_some hfin
  obtain ⟨s_1, hJ_2, hfin⟩ := hfin
  have kj_3 : ∀ (H : Heap) (locs : List Loc) (ls : Array Slot), wS G A s H locs [oX6 aS S_first S_last S_points S_least S_greatest S_sum] → lv_has ls 3 [] → W p l e rm_X6_isOut s m args below meth c H locs 0 0 QQ (F0 m 21 ls [.int s_1]) := by
    clear hw0 hl0 ls0 hJ_2
    intro H6 locs6 ls6 hw6 hl6
    replace hfin := ckz_some hfin
    obtain ⟨hz_7, hfin⟩ := hfin
    cases hfin
    rw [hQQ]
    exact ct_zret hx hb hr hlocks hz_7 hw6.1 hw6.2.1 hw6.2.2 dX6_isOut_21
  clear hfin
  refine lv_icmp_lt (tgt := 16) hx hb dX6_isOut_5 (by decide) (fun c_4 => ?_) (fun c_4 => ?_)
  · replace hJ_2 := it_t c_4 hJ_2
    refine lv_iconst (v := (1 : Int32)) hx hb dX6_isOut_16 (by decide) ?_
    refine lv_goto (tgt := 21) hx hb dX6_isOut_17 (by decide) ?_
    cases hJ_2
    exact kj_3 _ _ _ hw0 (lv_sub hl0 [] rfl)
  · replace hJ_2 := it_f c_4 hJ_2
    refine lv_aload_n hx hb dX6_isOut_8 rfl (lv_at hl0 0 rfl) ?_
    refine va_get (D := G) (ci := 6) (v := .int S_first) (C := RX6) (T := TX6) (N := 6) hx hb htc iX6 hown hK hw0.1 0 rfl rfl 0 (by decide) (htc _ mw_153) (fun _ h9 => h9) rfl dX6_isOut_9 ?_
    refine lv_iload_n hx hb dX6_isOut_12 rfl (lv_at hl0 2 rfl) ?_
    refine lv_icmp_le (tgt := 20) hx hb dX6_isOut_13 (by decide) (fun c_5 => ?_) (fun c_5 => ?_)
    · replace hJ_2 := it_t c_5 hJ_2
      refine lv_iconst (v := (0 : Int32)) hx hb dX6_isOut_20 (by decide) ?_
      cases hJ_2
      exact kj_3 _ _ _ hw0 (lv_sub hl0 [] rfl)
    · replace hJ_2 := it_f c_5 hJ_2
      refine lv_iconst (v := (1 : Int32)) hx hb dX6_isOut_16 (by decide) ?_
      refine lv_goto (tgt := 21) hx hb dX6_isOut_17 (by decide) ?_
      cases hJ_2
      exact kj_3 _ _ _ hw0 (lv_sub hl0 [] rfl)
abbrev rm_X6_isIn : Room := { frames := 0, cells := 0, slots := 0, locals := 0 }
theorem hd_X6_isIn : yX6_isIn.cls = RX6 ∧ yX6_isIn.cls ≠ "java/lang/invoke/MethodHandle" ∧ yX6_isIn.cls ≠ "java/lang/invoke/VarHandle" ∧ (parseMethodDescriptor yX6_isIn.desc).map (fun d => d.parameters.length) = some 2 := by decide +kernel
set_option maxHeartbeats 4000000 in
set_option maxRecDepth 100000 in
theorem c_X6_isIn (l : Launch) (G : va_G) (cI cZ cJ : ClassId) (aS : Nat) (S_first : Int32) (S_last : Int32) (S_points : Int32) (S_least : Int32) (S_greatest : Int32) (S_sum : Int64) (p0 : Int32) (p1 : Int32) {r : Int32} (hfin : m_X6_isIn S_first S_last p0 p1 = some (r)) : CT l yX6_isIn cX6_isIn 3 (some .boolean) rm_X6_isIn G (tyC cI cZ cJ) [.ref aS, .int p0, .int p1] [oX6 aS S_first S_last S_points S_least S_greatest S_sum] (some (.int r)) [oX6 aS S_first S_last S_points S_least S_greatest S_sum] := by
  refine CT.ofW (lvl := [(0, .ref aS), (1, .int p0), (2, .int p1)]) (by decide) (Nat.le_of_ble_eq_true rfl) rfl ?_
  intro p e s m args below meth c A ls0 QQ hQQ hx hb hml hr hlocks htc hN hown hK hA hw0 hl0
  rw [m_X6_isIn] at hfin
  refine lv_aload_n hx hb dX6_isIn_0 rfl (lv_at hl0 0 rfl) ?_
  refine va_get (D := G) (ci := 6) (v := .int S_first) (C := RX6) (T := TX6) (N := 6) hx hb htc iX6 hown hK hw0.1 0 rfl rfl 0 (by decide) (htc _ mw_153) (fun _ h9 => h9) rfl dX6_isIn_1 ?_
  refine lv_iload_n hx hb dX6_isIn_4 rfl (lv_at hl0 1 rfl) ?_
  replace hfin := ob1_some hfin
  obtain ⟨s_1, hJ_2, hfin⟩ := hfin
  have kj_3 : ∀ (H : Heap) (locs : List Loc) (ls : Array Slot), wS G A s H locs [oX6 aS S_first S_last S_points S_least S_greatest S_sum] → lv_has ls 3 [] → W p l e rm_X6_isIn s m args below meth c H locs 0 0 QQ (F0 m 21 ls [.int s_1]) := by
    clear hw0 hl0 ls0 hJ_2
    intro H6 locs6 ls6 hw6 hl6
    replace hfin := ckz_some hfin
    obtain ⟨hz_7, hfin⟩ := hfin
    cases hfin
    rw [hQQ]
    exact ct_zret hx hb hr hlocks hz_7 hw6.1 hw6.2.1 hw6.2.2 dX6_isIn_21
  clear hfin
  refine lv_icmp_lt (tgt := 20) hx hb dX6_isIn_5 (by decide) (fun c_4 => ?_) (fun c_4 => ?_)
  · replace hJ_2 := it_t c_4 hJ_2
    refine lv_iconst (v := (0 : Int32)) hx hb dX6_isIn_20 (by decide) ?_
    cases hJ_2
    exact kj_3 _ _ _ hw0 (lv_sub hl0 [] rfl)
  · replace hJ_2 := it_f c_4 hJ_2
    refine lv_aload_n hx hb dX6_isIn_8 rfl (lv_at hl0 0 rfl) ?_
    refine va_get (D := G) (ci := 6) (v := .int S_last) (C := RX6) (T := TX6) (N := 6) hx hb htc iX6 hown hK hw0.1 0 rfl rfl 1 (by decide) (htc _ mw_156) (fun _ h9 => h9) rfl dX6_isIn_9 ?_
    refine lv_iload_n hx hb dX6_isIn_12 rfl (lv_at hl0 2 rfl) ?_
    refine lv_icmp_gt (tgt := 20) hx hb dX6_isIn_13 (by decide) (fun c_5 => ?_) (fun c_5 => ?_)
    · replace hJ_2 := it_t c_5 hJ_2
      refine lv_iconst (v := (0 : Int32)) hx hb dX6_isIn_20 (by decide) ?_
      cases hJ_2
      exact kj_3 _ _ _ hw0 (lv_sub hl0 [] rfl)
    · replace hJ_2 := it_f c_5 hJ_2
      refine lv_iconst (v := (1 : Int32)) hx hb dX6_isIn_16 (by decide) ?_
      refine lv_goto (tgt := 21) hx hb dX6_isIn_17 (by decide) ?_
      cases hJ_2
      exact kj_3 _ _ _ hw0 (lv_sub hl0 [] rfl)
abbrev rm_X6_addSummary : Room := { frames := 2, cells := 0, slots := 0, locals := 49 }
theorem hd_X6_addSummary : yX6_addSummary.cls = RX6 ∧ yX6_addSummary.cls ≠ "java/lang/invoke/MethodHandle" ∧ yX6_addSummary.cls ≠ "java/lang/invoke/VarHandle" ∧ (parseMethodDescriptor yX6_addSummary.desc).map (fun d => d.parameters.length) = some 1 := by decide +kernel
set_option maxHeartbeats 4000000 in
set_option maxRecDepth 100000 in
theorem c_X6_addSummary (l : Launch) (G : va_G) (cI cZ cJ : ClassId) (aS aS2 : Nat) (S_first : Int32) (S_last : Int32) (S_points : Int32) (S_least : Int32) (S_greatest : Int32) (S_sum : Int64) (S2_first : Int32) (S2_last : Int32) (S2_points : Int32) (S2_least : Int32) (S2_greatest : Int32) (S2_sum : Int64)  {o_S_first : Int32} {o_S_last : Int32} {o_S_points : Int32} {o_S_least : Int32} {o_S_greatest : Int32} {o_S_sum : Int64} (hfin : m_X6_addSummary S_first S_last S_points S_least S_greatest S_sum S2_first S2_last S2_points S2_least S2_greatest S2_sum = some (o_S_first, o_S_last, o_S_points, o_S_least, o_S_greatest, o_S_sum)) : CT l yX6_addSummary cX6_addSummary 2 none rm_X6_addSummary G (tyC cI cZ cJ) [.ref aS, .ref aS2] [oX6 aS S_first S_last S_points S_least S_greatest S_sum, oX6 aS2 S2_first S2_last S2_points S2_least S2_greatest S2_sum] none [oX6 aS o_S_first o_S_last o_S_points o_S_least o_S_greatest o_S_sum, oX6 aS2 S2_first S2_last S2_points S2_least S2_greatest S2_sum] := by
  refine CT.ofW (lvl := [(0, .ref aS), (1, .ref aS2)]) (by decide) (Nat.le_of_ble_eq_true rfl) rfl ?_
  intro p e s m args below meth c A ls0 QQ hQQ hx hb hml hr hlocks htc hN hown hK hA hw0 hl0
  rw [m_X6_addSummary] at hfin
  refine lv_aload_n hx hb dX6_addSummary_0 rfl (lv_at hl0 0 rfl) ?_
  refine lv_aload_n hx hb dX6_addSummary_1 rfl (lv_at hl0 1 rfl) ?_
  refine va_get (D := G) (ci := 6) (v := .int S2_first) (C := RX6) (T := TX6) (N := 6) hx hb htc iX6 hown hK hw0.1 1 rfl rfl 0 (by decide) (htc _ mw_153) (fun _ h9 => h9) rfl dX6_addSummary_2 ?_
  refine lv_aload_n hx hb dX6_addSummary_5 rfl (lv_at hl0 1 rfl) ?_
  refine va_get (D := G) (ci := 6) (v := .int S2_last) (C := RX6) (T := TX6) (N := 6) hx hb htc iX6 hown hK hw0.1 1 rfl rfl 1 (by decide) (htc _ mw_156) (fun _ h9 => h9) rfl dX6_addSummary_6 ?_
  refine lv_aload_n hx hb dX6_addSummary_9 rfl (lv_at hl0 1 rfl) ?_
  refine va_get (D := G) (ci := 6) (v := .int S2_points) (C := RX6) (T := TX6) (N := 6) hx hb htc iX6 hown hK hw0.1 1 rfl rfl 2 (by decide) (htc _ mw_159) (fun _ h9 => h9) rfl dX6_addSummary_10 ?_
  refine lv_aload_n hx hb dX6_addSummary_13 rfl (lv_at hl0 1 rfl) ?_
  refine va_get (D := G) (ci := 6) (v := .int S2_least) (C := RX6) (T := TX6) (N := 6) hx hb htc iX6 hown hK hw0.1 1 rfl rfl 3 (by decide) (htc _ mw_163) (fun _ h9 => h9) rfl dX6_addSummary_14 ?_
  refine lv_aload_n hx hb dX6_addSummary_17 rfl (lv_at hl0 1 rfl) ?_
  refine va_get (D := G) (ci := 6) (v := .int S2_greatest) (C := RX6) (T := TX6) (N := 6) hx hb htc iX6 hown hK hw0.1 1 rfl rfl 4 (by decide) (htc _ mw_166) (fun _ h9 => h9) rfl dX6_addSummary_18 ?_
  refine lv_aload_n hx hb dX6_addSummary_21 rfl (lv_at hl0 1 rfl) ?_
  refine va_get (D := G) (ci := 6) (v := .long S2_sum) (C := RX6) (T := TX6) (N := 6) hx hb htc iX6 hown hK hw0.1 1 rfl rfl 5 (by decide) (htc _ mw_169) (fun _ h9 => h9) rfl dX6_addSummary_22 ?_
  replace hfin := ob6_some hfin
  obtain ⟨S_first_2, S_last_3, S_points_4, S_least_5, S_greatest_6, S_sum_7, hE_1, hfin⟩ := hfin
  refine ctV (a := aS) (As := [.int S2_first, .int S2_last, .int S2_points, .int S2_least, .int S2_greatest, .long S2_sum]) (rest := []) (st1 := []) (wc := [oX6 aS S_first S_last S_points S_least S_greatest S_sum]) (w1 := [oX6 aS S_first_2 S_last_3 S_points_4 S_least_5 S_greatest_6 S_sum_7]) (wr := [oX6 aS2 S2_first S2_last S2_points S2_least S2_greatest S2_sum]) (wb := [oX6 aS S_first_2 S_last_3 S_points_4 S_least_5 S_greatest_6 S_sum_7, oX6 aS2 S2_first S2_last S2_points S2_least S2_greatest S2_sum]) (v := none) hx hb hml hown htc hN (c_X6_add l G cI cZ cJ aS S_first S_last S_points S_least S_greatest S_sum S2_first S2_last S2_points S2_least S2_greatest S2_sum hE_1) mw_517 mw_519 mp_11 mw_9 mw_520 hd_X6_add ⟨rfl, rfl⟩ ⟨Nat.le_of_ble_eq_true rfl, Nat.le_of_ble_eq_true rfl⟩ hK hw0 hA [0] [1] [1, 0] rfl rfl rfl rfl rfl (by decide) rfl rfl rfl 0 rfl rfl rfl rfl hl0.1 rfl rfl (Nat.le_of_ble_eq_true rfl) dX6_addSummary_25 ⟨Nat.zero_le _, Nat.zero_le _⟩ (fun H8 locs8 hw8 => ?_)
  clear hw0
  cases hfin
  rw [hQQ]
  exact ct_vret hx hb hr hlocks hw8.1 hw8.2.1 hw8.2.2 dX6_addSummary_28
