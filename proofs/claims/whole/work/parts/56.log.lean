theorem dX4_logged_0 : decode cX4_logged 0 = .ok (.aload_n 0, 1) := by decide +kernel
theorem dX4_logged_1 : decode cX4_logged 1 = .ok (.getfield 9, 3) := by decide +kernel
theorem dX4_logged_4 : decode cX4_logged 4 = .ok (.ireturn, 1) := by decide +kernel
theorem dX4_isFull_0 : decode cX4_isFull 0 = .ok (.aload_n 0, 1) := by decide +kernel
theorem dX4_isFull_1 : decode cX4_isFull 1 = .ok (.getfield 9, 3) := by decide +kernel
theorem dX4_isFull_4 : decode cX4_isFull 4 = .ok (.sipush 128, 3) := by decide +kernel
theorem dX4_isFull_7 : decode cX4_isFull 7 = .ok (.if_icmp .lt 7, 3) := by decide +kernel
theorem dX4_isFull_10 : decode cX4_isFull 10 = .ok (.iconst 1, 1) := by decide +kernel
theorem dX4_isFull_11 : decode cX4_isFull 11 = .ok (.goto 4, 3) := by decide +kernel
theorem dX4_isFull_14 : decode cX4_isFull 14 = .ok (.iconst 0, 1) := by decide +kernel
theorem dX4_isFull_15 : decode cX4_isFull 15 = .ok (.ireturn, 1) := by decide +kernel
theorem dX4_at_0 : decode cX4_at 0 = .ok (.aload_n 0, 1) := by decide +kernel
theorem dX4_at_1 : decode cX4_at 1 = .ok (.getfield 15, 3) := by decide +kernel
theorem dX4_at_4 : decode cX4_at 4 = .ok (.sipush 1923, 3) := by decide +kernel
theorem dX4_at_7 : decode cX4_at 7 = .ok (.iload_n 1, 1) := by decide +kernel
theorem dX4_at_8 : decode cX4_at 8 = .ok (.iconst 4, 1) := by decide +kernel
theorem dX4_at_9 : decode cX4_at 9 = .ok (.imul, 1) := by decide +kernel
theorem dX4_at_10 : decode cX4_at 10 = .ok (.iadd, 1) := by decide +kernel
theorem dX4_at_11 : decode cX4_at 11 = .ok (.iload_n 2, 1) := by decide +kernel
theorem dX4_at_12 : decode cX4_at 12 = .ok (.iadd, 1) := by decide +kernel
theorem dX4_at_13 : decode cX4_at 13 = .ok (.invokevirtual 19, 3) := by decide +kernel
theorem dX4_at_16 : decode cX4_at 16 = .ok (.ireturn, 1) := by decide +kernel
theorem dX4_readAgain_0 : decode cX4_readAgain 0 = .ok (.aload_n 0, 1) := by decide +kernel
theorem dX4_readAgain_1 : decode cX4_readAgain 1 = .ok (.getfield 15, 3) := by decide +kernel
theorem dX4_readAgain_4 : decode cX4_readAgain 4 = .ok (.invokevirtual 25, 3) := by decide +kernel
theorem dX4_readAgain_7 : decode cX4_readAgain 7 = .ok (.iconst 1, 1) := by decide +kernel
theorem dX4_readAgain_8 : decode cX4_readAgain 8 = .ok (.iadd, 1) := by decide +kernel
theorem dX4_readAgain_9 : decode cX4_readAgain 9 = .ok (.istore_n 1, 1) := by decide +kernel
theorem dX4_readAgain_10 : decode cX4_readAgain 10 = .ok (.aload_n 0, 1) := by decide +kernel
theorem dX4_readAgain_11 : decode cX4_readAgain 11 = .ok (.iconst 0, 1) := by decide +kernel
theorem dX4_readAgain_12 : decode cX4_readAgain 12 = .ok (.putfield 9, 3) := by decide +kernel
theorem dX4_readAgain_15 : decode cX4_readAgain 15 = .ok (.aload_n 0, 1) := by decide +kernel
theorem dX4_readAgain_16 : decode cX4_readAgain 16 = .ok (.getfield 9, 3) := by decide +kernel
theorem dX4_readAgain_19 : decode cX4_readAgain 19 = .ok (.sipush 128, 3) := by decide +kernel
theorem dX4_readAgain_22 : decode cX4_readAgain 22 = .ok (.if_icmp .ge 29, 3) := by decide +kernel
theorem dX4_readAgain_25 : decode cX4_readAgain 25 = .ok (.aload_n 0, 1) := by decide +kernel
theorem dX4_readAgain_26 : decode cX4_readAgain 26 = .ok (.aload_n 0, 1) := by decide +kernel
theorem dX4_readAgain_27 : decode cX4_readAgain 27 = .ok (.getfield 9, 3) := by decide +kernel
theorem dX4_readAgain_30 : decode cX4_readAgain 30 = .ok (.iconst 3, 1) := by decide +kernel
theorem dX4_readAgain_31 : decode cX4_readAgain 31 = .ok (.invokevirtual 29, 3) := by decide +kernel
theorem dX4_readAgain_34 : decode cX4_readAgain 34 = .ok (.iload_n 1, 1) := by decide +kernel
theorem dX4_readAgain_35 : decode cX4_readAgain 35 = .ok (.if_icmp .ne 16, 3) := by decide +kernel
theorem dX4_readAgain_38 : decode cX4_readAgain 38 = .ok (.aload_n 0, 1) := by decide +kernel
theorem dX4_readAgain_39 : decode cX4_readAgain 39 = .ok (.dup, 1) := by decide +kernel
theorem dX4_readAgain_40 : decode cX4_readAgain 40 = .ok (.getfield 9, 3) := by decide +kernel
theorem dX4_readAgain_43 : decode cX4_readAgain 43 = .ok (.iconst 1, 1) := by decide +kernel
theorem dX4_readAgain_44 : decode cX4_readAgain 44 = .ok (.iadd, 1) := by decide +kernel
theorem dX4_readAgain_45 : decode cX4_readAgain 45 = .ok (.putfield 9, 3) := by decide +kernel
theorem dX4_readAgain_48 : decode cX4_readAgain 48 = .ok (.goto (-33), 3) := by decide +kernel
theorem dX4_readAgain_51 : decode cX4_readAgain 51 = .ok (.return_, 1) := by decide +kernel
theorem dX4_add_0 : decode cX4_add 0 = .ok (.sipush 1923, 3) := by decide +kernel
theorem dX4_add_3 : decode cX4_add 3 = .ok (.aload_n 0, 1) := by decide +kernel
theorem dX4_add_4 : decode cX4_add 4 = .ok (.getfield 9, 3) := by decide +kernel
theorem dX4_add_7 : decode cX4_add 7 = .ok (.iconst 4, 1) := by decide +kernel
theorem dX4_add_8 : decode cX4_add 8 = .ok (.imul, 1) := by decide +kernel
theorem dX4_add_9 : decode cX4_add 9 = .ok (.iadd, 1) := by decide +kernel
theorem dX4_add_10 : decode cX4_add 10 = .ok (.istore 4, 2) := by decide +kernel
theorem dX4_add_12 : decode cX4_add 12 = .ok (.aload_n 0, 1) := by decide +kernel
theorem dX4_add_13 : decode cX4_add 13 = .ok (.getfield 15, 3) := by decide +kernel
theorem dX4_add_16 : decode cX4_add 16 = .ok (.iload 4, 2) := by decide +kernel
theorem dX4_add_18 : decode cX4_add 18 = .ok (.iconst 0, 1) := by decide +kernel
theorem dX4_add_19 : decode cX4_add 19 = .ok (.iadd, 1) := by decide +kernel
theorem dX4_add_20 : decode cX4_add 20 = .ok (.iload_n 1, 1) := by decide +kernel
theorem dX4_add_21 : decode cX4_add 21 = .ok (.invokevirtual 33, 3) := by decide +kernel
theorem dX4_add_24 : decode cX4_add 24 = .ok (.ifCond .eq 60, 3) := by decide +kernel
theorem dX4_add_27 : decode cX4_add 27 = .ok (.aload_n 0, 1) := by decide +kernel
theorem dX4_add_28 : decode cX4_add 28 = .ok (.getfield 15, 3) := by decide +kernel
theorem dX4_add_31 : decode cX4_add 31 = .ok (.iload 4, 2) := by decide +kernel
theorem dX4_add_33 : decode cX4_add 33 = .ok (.iconst 1, 1) := by decide +kernel
theorem dX4_add_34 : decode cX4_add 34 = .ok (.iadd, 1) := by decide +kernel
theorem dX4_add_35 : decode cX4_add 35 = .ok (.iload_n 2, 1) := by decide +kernel
theorem dX4_add_36 : decode cX4_add 36 = .ok (.invokevirtual 33, 3) := by decide +kernel
theorem dX4_add_39 : decode cX4_add 39 = .ok (.ifCond .eq 45, 3) := by decide +kernel
theorem dX4_add_42 : decode cX4_add 42 = .ok (.aload_n 0, 1) := by decide +kernel
theorem dX4_add_43 : decode cX4_add 43 = .ok (.getfield 15, 3) := by decide +kernel
theorem dX4_add_46 : decode cX4_add 46 = .ok (.iload 4, 2) := by decide +kernel
theorem dX4_add_48 : decode cX4_add 48 = .ok (.iconst 2, 1) := by decide +kernel
theorem dX4_add_49 : decode cX4_add 49 = .ok (.iadd, 1) := by decide +kernel
theorem dX4_add_50 : decode cX4_add 50 = .ok (.iload_n 3, 1) := by decide +kernel
theorem dX4_add_51 : decode cX4_add 51 = .ok (.invokevirtual 33, 3) := by decide +kernel
theorem dX4_add_54 : decode cX4_add 54 = .ok (.ifCond .eq 30, 3) := by decide +kernel
theorem dX4_add_57 : decode cX4_add 57 = .ok (.aload_n 0, 1) := by decide +kernel
theorem dX4_add_58 : decode cX4_add 58 = .ok (.getfield 15, 3) := by decide +kernel
theorem dX4_add_61 : decode cX4_add 61 = .ok (.iload 4, 2) := by decide +kernel
theorem dX4_add_63 : decode cX4_add 63 = .ok (.iconst 3, 1) := by decide +kernel
theorem dX4_add_64 : decode cX4_add 64 = .ok (.iadd, 1) := by decide +kernel
theorem dX4_add_65 : decode cX4_add 65 = .ok (.aload_n 0, 1) := by decide +kernel
theorem dX4_add_66 : decode cX4_add 66 = .ok (.getfield 15, 3) := by decide +kernel
theorem dX4_add_69 : decode cX4_add 69 = .ok (.invokevirtual 25, 3) := by decide +kernel
theorem dX4_add_72 : decode cX4_add 72 = .ok (.iconst 1, 1) := by decide +kernel
theorem dX4_add_73 : decode cX4_add 73 = .ok (.iadd, 1) := by decide +kernel
theorem dX4_add_74 : decode cX4_add 74 = .ok (.invokevirtual 33, 3) := by decide +kernel
theorem dX4_add_77 : decode cX4_add 77 = .ok (.ifCond .eq 7, 3) := by decide +kernel
theorem dX4_add_80 : decode cX4_add 80 = .ok (.iconst 1, 1) := by decide +kernel
theorem dX4_add_81 : decode cX4_add 81 = .ok (.goto 4, 3) := by decide +kernel
theorem dX4_add_84 : decode cX4_add 84 = .ok (.iconst 0, 1) := by decide +kernel
theorem dX4_add_85 : decode cX4_add 85 = .ok (.istore 5, 2) := by decide +kernel
theorem dX4_add_87 : decode cX4_add 87 = .ok (.iload 5, 2) := by decide +kernel
theorem dX4_add_89 : decode cX4_add 89 = .ok (.ifCond .eq 13, 3) := by decide +kernel
theorem dX4_add_92 : decode cX4_add 92 = .ok (.aload_n 0, 1) := by decide +kernel
theorem dX4_add_93 : decode cX4_add 93 = .ok (.dup, 1) := by decide +kernel
theorem dX4_add_94 : decode cX4_add 94 = .ok (.getfield 9, 3) := by decide +kernel
theorem dX4_add_97 : decode cX4_add 97 = .ok (.iconst 1, 1) := by decide +kernel
theorem dX4_add_98 : decode cX4_add 98 = .ok (.iadd, 1) := by decide +kernel
theorem dX4_add_99 : decode cX4_add 99 = .ok (.putfield 9, 3) := by decide +kernel
theorem dX4_add_102 : decode cX4_add 102 = .ok (.iload 5, 2) := by decide +kernel
theorem dX4_add_104 : decode cX4_add 104 = .ok (.ireturn, 1) := by decide +kernel
theorem dX4_pointsOf_0 : decode cX4_pointsOf 0 = .ok (.iconst 0, 1) := by decide +kernel
theorem dX4_pointsOf_1 : decode cX4_pointsOf 1 = .ok (.istore_n 2, 1) := by decide +kernel
theorem dX4_pointsOf_2 : decode cX4_pointsOf 2 = .ok (.iconst 0, 1) := by decide +kernel
theorem dX4_pointsOf_3 : decode cX4_pointsOf 3 = .ok (.istore_n 3, 1) := by decide +kernel
theorem dX4_pointsOf_4 : decode cX4_pointsOf 4 = .ok (.iload_n 3, 1) := by decide +kernel
theorem dX4_pointsOf_5 : decode cX4_pointsOf 5 = .ok (.aload_n 0, 1) := by decide +kernel
theorem dX4_pointsOf_6 : decode cX4_pointsOf 6 = .ok (.getfield 9, 3) := by decide +kernel
theorem dX4_pointsOf_9 : decode cX4_pointsOf 9 = .ok (.if_icmp .ge 22, 3) := by decide +kernel
theorem dX4_pointsOf_12 : decode cX4_pointsOf 12 = .ok (.aload_n 0, 1) := by decide +kernel
theorem dX4_pointsOf_13 : decode cX4_pointsOf 13 = .ok (.iload_n 3, 1) := by decide +kernel
theorem dX4_pointsOf_14 : decode cX4_pointsOf 14 = .ok (.iconst 0, 1) := by decide +kernel
theorem dX4_pointsOf_15 : decode cX4_pointsOf 15 = .ok (.invokevirtual 29, 3) := by decide +kernel
theorem dX4_pointsOf_18 : decode cX4_pointsOf 18 = .ok (.iload_n 1, 1) := by decide +kernel
theorem dX4_pointsOf_19 : decode cX4_pointsOf 19 = .ok (.if_icmp .ne 6, 3) := by decide +kernel
theorem dX4_pointsOf_22 : decode cX4_pointsOf 22 = .ok (.iinc 2 1, 3) := by decide +kernel
theorem dX4_pointsOf_25 : decode cX4_pointsOf 25 = .ok (.iinc 3 1, 3) := by decide +kernel
theorem dX4_pointsOf_28 : decode cX4_pointsOf 28 = .ok (.goto (-24), 3) := by decide +kernel
theorem dX4_pointsOf_31 : decode cX4_pointsOf 31 = .ok (.iload_n 2, 1) := by decide +kernel
theorem dX4_pointsOf_32 : decode cX4_pointsOf 32 = .ok (.ireturn, 1) := by decide +kernel
theorem dX4_lastOf_0 : decode cX4_lastOf 0 = .ok (.aload_n 0, 1) := by decide +kernel
theorem dX4_lastOf_1 : decode cX4_lastOf 1 = .ok (.getfield 9, 3) := by decide +kernel
theorem dX4_lastOf_4 : decode cX4_lastOf 4 = .ok (.iconst 1, 1) := by decide +kernel
theorem dX4_lastOf_5 : decode cX4_lastOf 5 = .ok (.isub, 1) := by decide +kernel
theorem dX4_lastOf_6 : decode cX4_lastOf 6 = .ok (.istore_n 2, 1) := by decide +kernel
theorem dX4_lastOf_7 : decode cX4_lastOf 7 = .ok (.iload_n 2, 1) := by decide +kernel
theorem dX4_lastOf_8 : decode cX4_lastOf 8 = .ok (.ifCond .lt 21, 3) := by decide +kernel
theorem dX4_lastOf_11 : decode cX4_lastOf 11 = .ok (.aload_n 0, 1) := by decide +kernel
theorem dX4_lastOf_12 : decode cX4_lastOf 12 = .ok (.iload_n 2, 1) := by decide +kernel
theorem dX4_lastOf_13 : decode cX4_lastOf 13 = .ok (.iconst 0, 1) := by decide +kernel
theorem dX4_lastOf_14 : decode cX4_lastOf 14 = .ok (.invokevirtual 29, 3) := by decide +kernel
theorem dX4_lastOf_17 : decode cX4_lastOf 17 = .ok (.iload_n 1, 1) := by decide +kernel
theorem dX4_lastOf_18 : decode cX4_lastOf 18 = .ok (.if_icmp .ne 5, 3) := by decide +kernel
theorem dX4_lastOf_21 : decode cX4_lastOf 21 = .ok (.iload_n 2, 1) := by decide +kernel
theorem dX4_lastOf_22 : decode cX4_lastOf 22 = .ok (.ireturn, 1) := by decide +kernel
theorem dX4_lastOf_23 : decode cX4_lastOf 23 = .ok (.iinc 2 (-1), 3) := by decide +kernel
theorem dX4_lastOf_26 : decode cX4_lastOf 26 = .ok (.goto (-19), 3) := by decide +kernel
theorem dX4_lastOf_29 : decode cX4_lastOf 29 = .ok (.iconst (-1), 1) := by decide +kernel
theorem dX4_lastOf_30 : decode cX4_lastOf 30 = .ok (.ireturn, 1) := by decide +kernel
abbrev rm_X4_at : Room := { frames := 1, cells := 0, slots := 0, locals := 21 }
theorem hd_X4_at : yX4_at.cls = RX4 ∧ yX4_at.cls ≠ "java/lang/invoke/MethodHandle" ∧ yX4_at.cls ≠ "java/lang/invoke/VarHandle" ∧ (parseMethodDescriptor yX4_at.desc).map (fun d => d.parameters.length) = some 2 := by decide +kernel
set_option maxHeartbeats 4000000 in
set_option maxRecDepth 100000 in
theorem c_X4_at (l : Launch) (G : va_G) (cI cZ cJ : ClassId) (aD aDc aG : Nat) (D_writesDone : Int32) (D_writesLeft : Int32) (D_down : Int32) (D_cells : Nat → Int32) (G_logged : Int32) (p0 : Int32) (p1 : Int32) {r : Int32} (hfin : m_X4_at D_cells p0 p1 = some (r)) : CT l yX4_at cX4_at 3 (some .int) rm_X4_at G (tyC cI cZ cJ) [.ref aG, .int p0, .int p1] [oX2 aD aDc D_writesDone D_writesLeft D_down, rI aDc cI 4096 D_cells, oX4 aG aD G_logged] (some (.int r)) [oX2 aD aDc D_writesDone D_writesLeft D_down, rI aDc cI 4096 D_cells, oX4 aG aD G_logged] := by
  refine CT.ofW (lvl := [(0, .ref aG), (1, .int p0), (2, .int p1)]) (by decide) (Nat.le_of_ble_eq_true rfl) rfl ?_
  intro p e s m args below meth c A ls0 QQ hQQ hx hb hml hr hlocks htc hN hown hK hA hw0 hl0
  rw [m_X4_at] at hfin
  refine lv_aload_n hx hb dX4_at_0 rfl (lv_at hl0 0 rfl) ?_
  refine va_get (D := G) (ci := 4) (v := .ref aD) (C := RX4) (T := TX4) (N := 2) hx hb htc iX4 hown hK hw0.1 2 rfl rfl 0 (by decide) (htc _ mw_72) (fun _ h9 => h9) rfl dX4_at_1 ?_
  refine lv_sipush (v := (1923 : Int32)) hx hb dX4_at_4 (by decide) ?_
  refine lv_iload_n hx hb dX4_at_7 rfl (lv_at hl0 1 rfl) ?_
  refine lv_iconst (v := (4 : Int32)) hx hb dX4_at_8 (by decide) ?_
  refine lv_imul hx hb dX4_at_9 ?_
  refine lv_iadd hx hb dX4_at_10 ?_
  refine lv_iload_n hx hb dX4_at_11 rfl (lv_at hl0 2 rfl) ?_
  refine lv_iadd hx hb dX4_at_12 ?_
  replace hfin := ob1_some hfin
  obtain ⟨r_2, hE_1, hfin⟩ := hfin
  refine ctV (a := aD) (As := [.int (((1923 : Int32) + (p0 * (4 : Int32))) + p1)]) (rest := []) (st1 := [.int r_2]) (wc := [oX2 aD aDc D_writesDone D_writesLeft D_down, rI aDc cI 4096 D_cells]) (w1 := [oX2 aD aDc D_writesDone D_writesLeft D_down, rI aDc cI 4096 D_cells]) (wr := [oX4 aG aD G_logged]) (wb := [oX2 aD aDc D_writesDone D_writesLeft D_down, rI aDc cI 4096 D_cells, oX4 aG aD G_logged]) (v := (some (.int r_2))) hx hb hml hown htc hN (c_X2_read l G cI cZ cJ aD aDc D_writesDone D_writesLeft D_down D_cells (((1923 : Int32) + (p0 * (4 : Int32))) + p1) hE_1) mw_365 mw_366 mw_367 mw_3 mw_368 hd_X2_read ⟨rfl, rfl⟩ ⟨Nat.le_of_ble_eq_true rfl, Nat.le_of_ble_eq_true rfl⟩ hK hw0 hA [0, 1] [2] [1, 2, 0] rfl rfl rfl rfl rfl (by decide) rfl rfl rfl 0 rfl rfl rfl rfl hl0.1 rfl rfl (Nat.le_of_ble_eq_true rfl) dX4_at_13 ⟨Nat.zero_le _, Nat.zero_le _⟩ (fun H3 locs3 hw3 => ?_)
  clear hw0
  cases hfin
  rw [hQQ]
  exact ct_iret hx hb hr hlocks hw3.1 hw3.2.1 hw3.2.2 dX4_at_16
abbrev rm_X4_lastOf : Room := { frames := 2, cells := 0, slots := 0, locals := 43 }
theorem hd_X4_lastOf : yX4_lastOf.cls = RX4 ∧ yX4_lastOf.cls ≠ "java/lang/invoke/MethodHandle" ∧ yX4_lastOf.cls ≠ "java/lang/invoke/VarHandle" ∧ (parseMethodDescriptor yX4_lastOf.desc).map (fun d => d.parameters.length) = some 1 := by decide +kernel
set_option maxHeartbeats 4000000 in
set_option maxRecDepth 100000 in
theorem c_X4_lastOf (l : Launch) (G : va_G) (cI cZ cJ : ClassId) (aD aDc aG : Nat) (D_writesDone : Int32) (D_writesLeft : Int32) (D_down : Int32) (D_cells : Nat → Int32) (G_logged : Int32) (p0 : Int32) {r : Int32} (hfin : m_X4_lastOf D_cells G_logged p0 = some (r)) : CT l yX4_lastOf cX4_lastOf 3 (some .int) rm_X4_lastOf G (tyC cI cZ cJ) [.ref aG, .int p0] [oX2 aD aDc D_writesDone D_writesLeft D_down, rI aDc cI 4096 D_cells, oX4 aG aD G_logged] (some (.int r)) [oX2 aD aDc D_writesDone D_writesLeft D_down, rI aDc cI 4096 D_cells, oX4 aG aD G_logged] := by
  refine CT.ofW (lvl := [(0, .ref aG), (1, .int p0)]) (by decide) (Nat.le_of_ble_eq_true rfl) rfl ?_
  intro p e s m args below meth c A ls0 QQ hQQ hx hb hml hr hlocks htc hN hown hK hA hw0 hl0
  rw [m_X4_lastOf] at hfin
  refine lv_aload_n hx hb dX4_lastOf_0 rfl (lv_at hl0 0 rfl) ?_
  refine va_get (D := G) (ci := 4) (v := .int G_logged) (C := RX4) (T := TX4) (N := 2) hx hb htc iX4 hown hK hw0.1 2 rfl rfl 1 (by decide) (htc _ mw_73) (fun _ h9 => h9) rfl dX4_lastOf_1 ?_
  refine lv_iconst (v := (1 : Int32)) hx hb dX4_lastOf_4 (by decide) ?_
  refine lv_isub hx hb dX4_lastOf_5 ?_
  refine lv_istore_n (lv' := [(2, .int (G_logged - (1 : Int32))), (0, .ref aG), (1, .int p0)]) hx hb dX4_lastOf_6 rfl hl0 (by decide) rfl (fun ls1 hl1 => ?_)
  clear hl0 ls0
  have lp_5 : ∀ (n : Nat) (v2_2 : Int32), lp_X4_lastOf_7 D_cells p0 n v2_2 = some (r) → ∀ (H : Heap) (locs : List Loc) (ls : Array Slot), wS G A s H locs [oX2 aD aDc D_writesDone D_writesLeft D_down, rI aDc cI 4096 D_cells, oX4 aG aD G_logged] → lv_has ls 3 [(0, .ref aG), (1, .int p0), (2, .int v2_2)] → W p l e rm_X4_lastOf s m args below meth c H locs 0 0 QQ (F0 m 7 ls []) := by
    clear hw0 hl1 ls1 hfin
    intro n
    induction n with
    | zero =>
      intro v2_2 hB_6
      exact absurd hB_6 (by rw [lp_X4_lastOf_7]; exact fun h9 => nomatch h9)
    | succ n ih =>
      intro v2_2 hB_6 H7 locs7 ls7 hw7 hl7
      rw [lp_X4_lastOf_7] at hB_6
      refine lv_iload_n hx hb dX4_lastOf_7 rfl (lv_at hl7 2 rfl) ?_
      refine lv_if_lt (tgt := 29) hx hb dX4_lastOf_8 (by decide) (fun c_8 => ?_) (fun c_8 => ?_)
      · replace hB_6 := it_t c_8 hB_6
        refine lv_iconst (v := (-1 : Int32)) hx hb dX4_lastOf_29 (by decide) ?_
        cases hB_6
        rw [hQQ]
        exact ct_iret hx hb hr hlocks hw7.1 hw7.2.1 hw7.2.2 dX4_lastOf_30
      · replace hB_6 := it_f c_8 hB_6
        refine lv_aload_n hx hb dX4_lastOf_11 rfl (lv_at hl7 0 rfl) ?_
        refine lv_iload_n hx hb dX4_lastOf_12 rfl (lv_at hl7 2 rfl) ?_
        refine lv_iconst (v := (0 : Int32)) hx hb dX4_lastOf_13 (by decide) ?_
        replace hB_6 := ob1_some hB_6
        obtain ⟨r_10, hE_9, hB_6⟩ := hB_6
        refine ctV (a := aG) (As := [.int v2_2, .int (0 : Int32)]) (rest := []) (st1 := [.int r_10]) (wc := [oX2 aD aDc D_writesDone D_writesLeft D_down, rI aDc cI 4096 D_cells, oX4 aG aD G_logged]) (w1 := [oX2 aD aDc D_writesDone D_writesLeft D_down, rI aDc cI 4096 D_cells, oX4 aG aD G_logged]) (wr := []) (wb := [oX2 aD aDc D_writesDone D_writesLeft D_down, rI aDc cI 4096 D_cells, oX4 aG aD G_logged]) (v := (some (.int r_10))) hx hb hml hown htc hN (c_X4_at l G cI cZ cJ aD aDc aG D_writesDone D_writesLeft D_down D_cells G_logged v2_2 (0 : Int32) hE_9) mw_361 mw_362 mw_363 mw_5 mw_364 hd_X4_at ⟨rfl, rfl⟩ ⟨Nat.le_of_ble_eq_true rfl, Nat.le_of_ble_eq_true rfl⟩ hK hw7 hA [0, 1, 2] [] [0, 1, 2] rfl rfl rfl rfl rfl (by decide) rfl rfl rfl 2 rfl rfl rfl rfl hl7.1 rfl rfl (Nat.le_of_ble_eq_true rfl) dX4_lastOf_14 ⟨Nat.zero_le _, Nat.zero_le _⟩ (fun H11 locs11 hw11 => ?_)
        clear hw7 H7 locs7
        refine lv_iload_n hx hb dX4_lastOf_17 rfl (lv_at hl7 1 rfl) ?_
        refine lv_icmp_ne (tgt := 23) hx hb dX4_lastOf_18 (by decide) (fun c_12 => ?_) (fun c_12 => ?_)
        · replace hB_6 := it_f c_12 hB_6
          refine lv_iinc (v := (v2_2 + (-1 : Int32))) (lv' := [(2, .int (v2_2 + (-1 : Int32))), (0, .ref aG), (1, .int p0)]) hx hb dX4_lastOf_23 hl7 (k := 2) rfl rfl (by decide) rfl (fun ls13 hl13 => ?_)
          clear hl7 ls7
          refine lv_goto (tgt := 7) hx hb dX4_lastOf_26 (by decide) ?_
          exact ih (v2_2 + (-1 : Int32)) hB_6 _ _ _ hw11 (lv_sub hl13 [1, 2, 0] rfl)
        · replace hB_6 := it_t c_12 hB_6
          refine lv_iload_n hx hb dX4_lastOf_21 rfl (lv_at hl7 2 rfl) ?_
          cases hB_6
          rw [hQQ]
          exact ct_iret hx hb hr hlocks hw11.1 hw11.2.1 hw11.2.2 dX4_lastOf_22
  exact lp_5 NN (G_logged - (1 : Int32)) hfin _ _ _ hw0 (lv_sub hl1 [1, 2, 0] rfl)
abbrev rm_X4_isFull : Room := { frames := 0, cells := 0, slots := 0, locals := 0 }
theorem hd_X4_isFull : yX4_isFull.cls = RX4 ∧ yX4_isFull.cls ≠ "java/lang/invoke/MethodHandle" ∧ yX4_isFull.cls ≠ "java/lang/invoke/VarHandle" ∧ (parseMethodDescriptor yX4_isFull.desc).map (fun d => d.parameters.length) = some 0 := by decide +kernel
set_option maxHeartbeats 4000000 in
set_option maxRecDepth 100000 in
theorem c_X4_isFull (l : Launch) (G : va_G) (cI cZ cJ : ClassId) (aG aD : Nat) (G_logged : Int32)  {r : Int32} (hfin : m_X4_isFull G_logged = some (r)) : CT l yX4_isFull cX4_isFull 1 (some .boolean) rm_X4_isFull G (tyC cI cZ cJ) [.ref aG] [oX4 aG aD G_logged] (some (.int r)) [oX4 aG aD G_logged] := by
  refine CT.ofW (lvl := [(0, .ref aG)]) (by decide) (Nat.le_of_ble_eq_true rfl) rfl ?_
  intro p e s m args below meth c A ls0 QQ hQQ hx hb hml hr hlocks htc hN hown hK hA hw0 hl0
  rw [m_X4_isFull] at hfin
  refine lv_aload_n hx hb dX4_isFull_0 rfl (lv_at hl0 0 rfl) ?_
  refine va_get (D := G) (ci := 4) (v := .int G_logged) (C := RX4) (T := TX4) (N := 2) hx hb htc iX4 hown hK hw0.1 0 rfl rfl 1 (by decide) (htc _ mw_73) (fun _ h9 => h9) rfl dX4_isFull_1 ?_
  refine lv_sipush (v := (128 : Int32)) hx hb dX4_isFull_4 (by decide) ?_
  replace hfin := ob1_some hfin
  obtain ⟨s_1, hJ_2, hfin⟩ := hfin
  have kj_3 : ∀ (H : Heap) (locs : List Loc) (ls : Array Slot), wS G A s H locs [oX4 aG aD G_logged] → lv_has ls 1 [] → W p l e rm_X4_isFull s m args below meth c H locs 0 0 QQ (F0 m 15 ls [.int s_1]) := by
    clear hw0 hl0 ls0 hJ_2
    intro H5 locs5 ls5 hw5 hl5
    replace hfin := ckz_some hfin
    obtain ⟨hz_6, hfin⟩ := hfin
    cases hfin
    rw [hQQ]
    exact ct_zret hx hb hr hlocks hz_6 hw5.1 hw5.2.1 hw5.2.2 dX4_isFull_15
  clear hfin
  refine lv_icmp_lt (tgt := 14) hx hb dX4_isFull_7 (by decide) (fun c_4 => ?_) (fun c_4 => ?_)
  · replace hJ_2 := it_t c_4 hJ_2
    refine lv_iconst (v := (0 : Int32)) hx hb dX4_isFull_14 (by decide) ?_
    cases hJ_2
    exact kj_3 _ _ _ hw0 (lv_sub hl0 [] rfl)
  · replace hJ_2 := it_f c_4 hJ_2
    refine lv_iconst (v := (1 : Int32)) hx hb dX4_isFull_10 (by decide) ?_
    refine lv_goto (tgt := 15) hx hb dX4_isFull_11 (by decide) ?_
    cases hJ_2
    exact kj_3 _ _ _ hw0 (lv_sub hl0 [] rfl)
abbrev rm_X4_add : Room := { frames := 1, cells := 0, slots := 0, locals := 22 }
theorem hd_X4_add : yX4_add.cls = RX4 ∧ yX4_add.cls ≠ "java/lang/invoke/MethodHandle" ∧ yX4_add.cls ≠ "java/lang/invoke/VarHandle" ∧ (parseMethodDescriptor yX4_add.desc).map (fun d => d.parameters.length) = some 3 := by decide +kernel
set_option maxHeartbeats 4000000 in
set_option maxRecDepth 100000 in
theorem c_X4_add (l : Launch) (G : va_G) (cI cZ cJ : ClassId) (aD aDc aG : Nat) (D_writesDone : Int32) (D_writesLeft : Int32) (D_down : Int32) (D_cells : Nat → Int32) (G_logged : Int32) (p0 : Int32) (p1 : Int32) (p2 : Int32) {r : Int32} {o_D_writesDone : Int32} {o_D_writesLeft : Int32} {o_D_down : Int32} {o_D_cells : Nat → Int32} {o_G_logged : Int32} (hfin : m_X4_add D_writesDone D_writesLeft D_down D_cells G_logged p0 p1 p2 = some (r, o_D_writesDone, o_D_writesLeft, o_D_down, o_D_cells, o_G_logged)) : CT l yX4_add cX4_add 6 (some .boolean) rm_X4_add G (tyC cI cZ cJ) [.ref aG, .int p0, .int p1, .int p2] [oX2 aD aDc D_writesDone D_writesLeft D_down, rI aDc cI 4096 D_cells, oX4 aG aD G_logged] (some (.int r)) [oX2 aD aDc o_D_writesDone o_D_writesLeft o_D_down, rI aDc cI 4096 o_D_cells, oX4 aG aD o_G_logged] := by
  refine CT.ofW (lvl := [(0, .ref aG), (1, .int p0), (2, .int p1), (3, .int p2)]) (by decide) (Nat.le_of_ble_eq_true rfl) rfl ?_
  intro p e s m args below meth c A ls0 QQ hQQ hx hb hml hr hlocks htc hN hown hK hA hw0 hl0
  rw [m_X4_add] at hfin
  refine lv_sipush (v := (1923 : Int32)) hx hb dX4_add_0 (by decide) ?_
  refine lv_aload_n hx hb dX4_add_3 rfl (lv_at hl0 0 rfl) ?_
  refine va_get (D := G) (ci := 4) (v := .int G_logged) (C := RX4) (T := TX4) (N := 2) hx hb htc iX4 hown hK hw0.1 2 rfl rfl 1 (by decide) (htc _ mw_73) (fun _ h9 => h9) rfl dX4_add_4 ?_
  refine lv_iconst (v := (4 : Int32)) hx hb dX4_add_7 (by decide) ?_
  refine lv_imul hx hb dX4_add_8 ?_
  refine lv_iadd hx hb dX4_add_9 ?_
  refine lv_istore (lv' := [(4, .int ((1923 : Int32) + (G_logged * (4 : Int32)))), (0, .ref aG), (1, .int p0), (2, .int p1), (3, .int p2)]) hx hb dX4_add_10 hl0 (by decide) rfl (fun ls1 hl1 => ?_)
  clear hl0 ls0
  refine lv_aload_n hx hb dX4_add_12 rfl (lv_at hl1 1 rfl) ?_
  refine va_get (D := G) (ci := 4) (v := .ref aD) (C := RX4) (T := TX4) (N := 2) hx hb htc iX4 hown hK hw0.1 2 rfl rfl 0 (by decide) (htc _ mw_72) (fun _ h9 => h9) rfl dX4_add_13 ?_
  refine lv_iload hx hb dX4_add_16 (lv_at hl1 0 rfl) ?_
  refine lv_iconst (v := (0 : Int32)) hx hb dX4_add_18 (by decide) ?_
  refine lv_iadd hx hb dX4_add_19 ?_
  refine lv_iload_n hx hb dX4_add_20 rfl (lv_at hl1 2 rfl) ?_
  replace hfin := ob5_some hfin
  obtain ⟨r_3, D_writesDone_4, D_writesLeft_5, D_down_6, D_cells_7, hE_2, hfin⟩ := hfin
  refine ctV (a := aD) (As := [.int (((1923 : Int32) + (G_logged * (4 : Int32))) + (0 : Int32)), .int p0]) (rest := []) (st1 := [.int r_3]) (wc := [oX2 aD aDc D_writesDone D_writesLeft D_down, rI aDc cI 4096 D_cells]) (w1 := [oX2 aD aDc D_writesDone_4 D_writesLeft_5 D_down_6, rI aDc cI 4096 D_cells_7]) (wr := [oX4 aG aD G_logged]) (wb := [oX2 aD aDc D_writesDone_4 D_writesLeft_5 D_down_6, rI aDc cI 4096 D_cells_7, oX4 aG aD G_logged]) (v := (some (.int r_3))) hx hb hml hown htc hN (c_X2_write l G cI cZ cJ aD aDc D_writesDone D_writesLeft D_down D_cells (((1923 : Int32) + (G_logged * (4 : Int32))) + (0 : Int32)) p0 hE_2) mw_404 mw_405 mw_406 mw_3 mw_407 hd_X2_write ⟨rfl, rfl⟩ ⟨Nat.le_of_ble_eq_true rfl, Nat.le_of_ble_eq_true rfl⟩ hK hw0 hA [0, 1] [2] [1, 2, 0] rfl rfl rfl rfl rfl (by decide) rfl rfl rfl 0 rfl rfl rfl rfl hl1.1 rfl rfl (Nat.le_of_ble_eq_true rfl) dX4_add_21 ⟨Nat.zero_le _, Nat.zero_le _⟩ (fun H8 locs8 hw8 => ?_)
  clear hw0
  replace hfin := ob5_some hfin
  obtain ⟨s_9, D_writesDone_10, D_writesLeft_11, D_down_12, D_cells_13, hJ_14, hfin⟩ := hfin
  have kj_15 : ∀ (H : Heap) (locs : List Loc) (ls : Array Slot), wS G A s H locs [oX2 aD aDc D_writesDone_10 D_writesLeft_11 D_down_12, rI aDc cI 4096 D_cells_13, oX4 aG aD G_logged] → lv_has ls 6 [(0, .ref aG)] → W p l e rm_X4_add s m args below meth c H locs 0 0 QQ (F0 m 85 ls [.int s_9]) := by
    clear hw8 H8 locs8 hl1 ls1 hJ_14
    intro H44 locs44 ls44 hw44 hl44
    refine lv_istore (lv' := [(5, .int s_9), (0, .ref aG)]) hx hb dX4_add_85 hl44 (by decide) rfl (fun ls45 hl45 => ?_)
    clear hl44 ls44
    refine lv_iload hx hb dX4_add_87 (lv_at hl45 0 rfl) ?_
    replace hfin := ob1_some hfin
    obtain ⟨G_logged_46, hJ_47, hfin⟩ := hfin
    have kj_48 : ∀ (H : Heap) (locs : List Loc) (ls : Array Slot), wS G A s H locs [oX2 aD aDc D_writesDone_10 D_writesLeft_11 D_down_12, rI aDc cI 4096 D_cells_13, oX4 aG aD G_logged_46] → lv_has ls 6 [(5, .int s_9)] → W p l e rm_X4_add s m args below meth c H locs 0 0 QQ (F0 m 102 ls []) := by
      clear hw44 H44 locs44 hl45 ls45 hJ_47
      intro H51 locs51 ls51 hw51 hl51
      refine lv_iload hx hb dX4_add_102 (lv_at hl51 0 rfl) ?_
      replace hfin := ckz_some hfin
      obtain ⟨hz_52, hfin⟩ := hfin
      cases hfin
      rw [hQQ]
      exact ct_zret hx hb hr hlocks hz_52 hw51.1 hw51.2.1 hw51.2.2 dX4_add_104
    clear hfin
    refine lv_if_eq (tgt := 102) hx hb dX4_add_89 (by decide) (fun c_49 => ?_) (fun c_49 => ?_)
    · replace hJ_47 := it_t c_49 hJ_47
      cases hJ_47
      exact kj_48 _ _ _ hw44 (lv_sub hl45 [0] rfl)
    · replace hJ_47 := it_f c_49 hJ_47
      refine lv_aload_n hx hb dX4_add_92 rfl (lv_at hl45 1 rfl) ?_
      refine lv_dup hx hb dX4_add_93 rfl ?_
      refine va_get (D := G) (ci := 4) (v := .int G_logged) (C := RX4) (T := TX4) (N := 2) hx hb htc iX4 hown hK hw44.1 2 rfl rfl 1 (by decide) (htc _ mw_73) (fun _ h9 => h9) rfl dX4_add_94 ?_
      refine lv_iconst (v := (1 : Int32)) hx hb dX4_add_97 (by decide) ?_
      refine lv_iadd hx hb dX4_add_98 ?_
      refine va_put (D := G) (ci := 4) (v := .int (G_logged + (1 : Int32))) (ty := .int) (C := RX4) (T := TX4) (N := 2) hx hb htc iX4 tyX4 tyX4_ok nmX4 hown hK hw44.1 hw44.2.1 hw44.2.2 2 rfl rfl 1 (by decide) (htc _ mw_73) (fun _ h9 => h9) rfl (tyX4_ok 1 (by decide)) rfl rfl (Nat.le_of_ble_eq_true rfl) dX4_add_99 (fun H50 locs50 hP hD hS => ?_)
      have hw50 : wS G A s H50 locs50 [oX2 aD aDc D_writesDone_10 D_writesLeft_11 D_down_12, rI aDc cI 4096 D_cells_13, oX4 aG aD (G_logged + (1 : Int32))] := ⟨hP, hD, hS⟩
      clear hP hD hS hw44 H44 locs44
      cases hJ_47
      exact kj_48 _ _ _ hw50 (lv_sub hl45 [0] rfl)
  clear hfin
  refine lv_if_eq (tgt := 84) hx hb dX4_add_24 (by decide) (fun c_16 => ?_) (fun c_16 => ?_)
  · replace hJ_14 := it_t c_16 hJ_14
    refine lv_iconst (v := (0 : Int32)) hx hb dX4_add_84 (by decide) ?_
    cases hJ_14
    exact kj_15 _ _ _ hw8 (lv_sub hl1 [1] rfl)
  · replace hJ_14 := it_f c_16 hJ_14
    refine lv_aload_n hx hb dX4_add_27 rfl (lv_at hl1 1 rfl) ?_
    refine va_get (D := G) (ci := 4) (v := .ref aD) (C := RX4) (T := TX4) (N := 2) hx hb htc iX4 hown hK hw8.1 2 rfl rfl 0 (by decide) (htc _ mw_72) (fun _ h9 => h9) rfl dX4_add_28 ?_
    refine lv_iload hx hb dX4_add_31 (lv_at hl1 0 rfl) ?_
    refine lv_iconst (v := (1 : Int32)) hx hb dX4_add_33 (by decide) ?_
    refine lv_iadd hx hb dX4_add_34 ?_
    refine lv_iload_n hx hb dX4_add_35 rfl (lv_at hl1 3 rfl) ?_
    replace hJ_14 := ob5_some hJ_14
    obtain ⟨r_18, D_writesDone_19, D_writesLeft_20, D_down_21, D_cells_22, hE_17, hJ_14⟩ := hJ_14
    refine ctV (a := aD) (As := [.int (((1923 : Int32) + (G_logged * (4 : Int32))) + (1 : Int32)), .int p1]) (rest := []) (st1 := [.int r_18]) (wc := [oX2 aD aDc D_writesDone_4 D_writesLeft_5 D_down_6, rI aDc cI 4096 D_cells_7]) (w1 := [oX2 aD aDc D_writesDone_19 D_writesLeft_20 D_down_21, rI aDc cI 4096 D_cells_22]) (wr := [oX4 aG aD G_logged]) (wb := [oX2 aD aDc D_writesDone_19 D_writesLeft_20 D_down_21, rI aDc cI 4096 D_cells_22, oX4 aG aD G_logged]) (v := (some (.int r_18))) hx hb hml hown htc hN (c_X2_write l G cI cZ cJ aD aDc D_writesDone_4 D_writesLeft_5 D_down_6 D_cells_7 (((1923 : Int32) + (G_logged * (4 : Int32))) + (1 : Int32)) p1 hE_17) mw_404 mw_405 mw_406 mw_3 mw_407 hd_X2_write ⟨rfl, rfl⟩ ⟨Nat.le_of_ble_eq_true rfl, Nat.le_of_ble_eq_true rfl⟩ hK hw8 hA [0, 1] [2] [1, 2, 0] rfl rfl rfl rfl rfl (by decide) rfl rfl rfl 0 rfl rfl rfl rfl hl1.1 rfl rfl (Nat.le_of_ble_eq_true rfl) dX4_add_36 ⟨Nat.zero_le _, Nat.zero_le _⟩ (fun H23 locs23 hw23 => ?_)
    clear hw8 H8 locs8
    refine lv_if_eq (tgt := 84) hx hb dX4_add_39 (by decide) (fun c_24 => ?_) (fun c_24 => ?_)
    · replace hJ_14 := it_t c_24 hJ_14
      refine lv_iconst (v := (0 : Int32)) hx hb dX4_add_84 (by decide) ?_
      cases hJ_14
      exact kj_15 _ _ _ hw23 (lv_sub hl1 [1] rfl)
    · replace hJ_14 := it_f c_24 hJ_14
      refine lv_aload_n hx hb dX4_add_42 rfl (lv_at hl1 1 rfl) ?_
      refine va_get (D := G) (ci := 4) (v := .ref aD) (C := RX4) (T := TX4) (N := 2) hx hb htc iX4 hown hK hw23.1 2 rfl rfl 0 (by decide) (htc _ mw_72) (fun _ h9 => h9) rfl dX4_add_43 ?_
      refine lv_iload hx hb dX4_add_46 (lv_at hl1 0 rfl) ?_
      refine lv_iconst (v := (2 : Int32)) hx hb dX4_add_48 (by decide) ?_
      refine lv_iadd hx hb dX4_add_49 ?_
      refine lv_iload_n hx hb dX4_add_50 rfl (lv_at hl1 4 rfl) ?_
      replace hJ_14 := ob5_some hJ_14
      obtain ⟨r_26, D_writesDone_27, D_writesLeft_28, D_down_29, D_cells_30, hE_25, hJ_14⟩ := hJ_14
      refine ctV (a := aD) (As := [.int (((1923 : Int32) + (G_logged * (4 : Int32))) + (2 : Int32)), .int p2]) (rest := []) (st1 := [.int r_26]) (wc := [oX2 aD aDc D_writesDone_19 D_writesLeft_20 D_down_21, rI aDc cI 4096 D_cells_22]) (w1 := [oX2 aD aDc D_writesDone_27 D_writesLeft_28 D_down_29, rI aDc cI 4096 D_cells_30]) (wr := [oX4 aG aD G_logged]) (wb := [oX2 aD aDc D_writesDone_27 D_writesLeft_28 D_down_29, rI aDc cI 4096 D_cells_30, oX4 aG aD G_logged]) (v := (some (.int r_26))) hx hb hml hown htc hN (c_X2_write l G cI cZ cJ aD aDc D_writesDone_19 D_writesLeft_20 D_down_21 D_cells_22 (((1923 : Int32) + (G_logged * (4 : Int32))) + (2 : Int32)) p2 hE_25) mw_404 mw_405 mw_406 mw_3 mw_407 hd_X2_write ⟨rfl, rfl⟩ ⟨Nat.le_of_ble_eq_true rfl, Nat.le_of_ble_eq_true rfl⟩ hK hw23 hA [0, 1] [2] [1, 2, 0] rfl rfl rfl rfl rfl (by decide) rfl rfl rfl 0 rfl rfl rfl rfl hl1.1 rfl rfl (Nat.le_of_ble_eq_true rfl) dX4_add_51 ⟨Nat.zero_le _, Nat.zero_le _⟩ (fun H31 locs31 hw31 => ?_)
      clear hw23 H23 locs23
      refine lv_if_eq (tgt := 84) hx hb dX4_add_54 (by decide) (fun c_32 => ?_) (fun c_32 => ?_)
      · replace hJ_14 := it_t c_32 hJ_14
        refine lv_iconst (v := (0 : Int32)) hx hb dX4_add_84 (by decide) ?_
        cases hJ_14
        exact kj_15 _ _ _ hw31 (lv_sub hl1 [1] rfl)
      · replace hJ_14 := it_f c_32 hJ_14
        refine lv_aload_n hx hb dX4_add_57 rfl (lv_at hl1 1 rfl) ?_
        refine va_get (D := G) (ci := 4) (v := .ref aD) (C := RX4) (T := TX4) (N := 2) hx hb htc iX4 hown hK hw31.1 2 rfl rfl 0 (by decide) (htc _ mw_72) (fun _ h9 => h9) rfl dX4_add_58 ?_
        refine lv_iload hx hb dX4_add_61 (lv_at hl1 0 rfl) ?_
        refine lv_iconst (v := (3 : Int32)) hx hb dX4_add_63 (by decide) ?_
        refine lv_iadd hx hb dX4_add_64 ?_
        refine lv_aload_n hx hb dX4_add_65 rfl (lv_at hl1 1 rfl) ?_
        refine va_get (D := G) (ci := 4) (v := .ref aD) (C := RX4) (T := TX4) (N := 2) hx hb htc iX4 hown hK hw31.1 2 rfl rfl 0 (by decide) (htc _ mw_72) (fun _ h9 => h9) rfl dX4_add_66 ?_
        replace hJ_14 := ob1_some hJ_14
        obtain ⟨r_34, hE_33, hJ_14⟩ := hJ_14
        refine ctV (a := aD) (As := []) (rest := [.int (((1923 : Int32) + (G_logged * (4 : Int32))) + (3 : Int32)), .ref aD]) (st1 := [.int r_34, .int (((1923 : Int32) + (G_logged * (4 : Int32))) + (3 : Int32)), .ref aD]) (wc := [oX2 aD aDc D_writesDone_27 D_writesLeft_28 D_down_29, rI aDc cI 4096 D_cells_30]) (w1 := [oX2 aD aDc D_writesDone_27 D_writesLeft_28 D_down_29, rI aDc cI 4096 D_cells_30]) (wr := [oX4 aG aD G_logged]) (wb := [oX2 aD aDc D_writesDone_27 D_writesLeft_28 D_down_29, rI aDc cI 4096 D_cells_30, oX4 aG aD G_logged]) (v := (some (.int r_34))) hx hb hml hown htc hN (c_X2_epoch l G cI cZ cJ aD aDc D_writesDone_27 D_writesLeft_28 D_down_29 D_cells_30  hE_33) mw_408 mw_409 mw_410 mw_3 mw_411 hd_X2_epoch ⟨rfl, rfl⟩ ⟨Nat.le_of_ble_eq_true rfl, Nat.le_of_ble_eq_true rfl⟩ hK hw31 hA [0, 1] [2] [1, 2, 0] rfl rfl rfl rfl rfl (by decide) rfl rfl rfl 0 rfl rfl rfl rfl hl1.1 rfl rfl (Nat.le_of_ble_eq_true rfl) dX4_add_69 ⟨Nat.zero_le _, Nat.zero_le _⟩ (fun H35 locs35 hw35 => ?_)
        clear hw31 H31 locs31
        refine lv_iconst (v := (1 : Int32)) hx hb dX4_add_72 (by decide) ?_
        refine lv_iadd hx hb dX4_add_73 ?_
        replace hJ_14 := ob5_some hJ_14
        obtain ⟨r_37, D_writesDone_38, D_writesLeft_39, D_down_40, D_cells_41, hE_36, hJ_14⟩ := hJ_14
        refine ctV (a := aD) (As := [.int (((1923 : Int32) + (G_logged * (4 : Int32))) + (3 : Int32)), .int (r_34 + (1 : Int32))]) (rest := []) (st1 := [.int r_37]) (wc := [oX2 aD aDc D_writesDone_27 D_writesLeft_28 D_down_29, rI aDc cI 4096 D_cells_30]) (w1 := [oX2 aD aDc D_writesDone_38 D_writesLeft_39 D_down_40, rI aDc cI 4096 D_cells_41]) (wr := [oX4 aG aD G_logged]) (wb := [oX2 aD aDc D_writesDone_38 D_writesLeft_39 D_down_40, rI aDc cI 4096 D_cells_41, oX4 aG aD G_logged]) (v := (some (.int r_37))) hx hb hml hown htc hN (c_X2_write l G cI cZ cJ aD aDc D_writesDone_27 D_writesLeft_28 D_down_29 D_cells_30 (((1923 : Int32) + (G_logged * (4 : Int32))) + (3 : Int32)) (r_34 + (1 : Int32)) hE_36) mw_404 mw_405 mw_406 mw_3 mw_407 hd_X2_write ⟨rfl, rfl⟩ ⟨Nat.le_of_ble_eq_true rfl, Nat.le_of_ble_eq_true rfl⟩ hK hw35 hA [0, 1] [2] [1, 2, 0] rfl rfl rfl rfl rfl (by decide) rfl rfl rfl 0 rfl rfl rfl rfl hl1.1 rfl rfl (Nat.le_of_ble_eq_true rfl) dX4_add_74 ⟨Nat.zero_le _, Nat.zero_le _⟩ (fun H42 locs42 hw42 => ?_)
        clear hw35 H35 locs35
        refine lv_if_eq (tgt := 84) hx hb dX4_add_77 (by decide) (fun c_43 => ?_) (fun c_43 => ?_)
        · replace hJ_14 := it_t c_43 hJ_14
          refine lv_iconst (v := (0 : Int32)) hx hb dX4_add_84 (by decide) ?_
          cases hJ_14
          exact kj_15 _ _ _ hw42 (lv_sub hl1 [1] rfl)
        · replace hJ_14 := it_f c_43 hJ_14
          refine lv_iconst (v := (1 : Int32)) hx hb dX4_add_80 (by decide) ?_
          refine lv_goto (tgt := 85) hx hb dX4_add_81 (by decide) ?_
          cases hJ_14
          exact kj_15 _ _ _ hw42 (lv_sub hl1 [1] rfl)
abbrev rm_X4_logged : Room := { frames := 0, cells := 0, slots := 0, locals := 0 }
theorem hd_X4_logged : yX4_logged.cls = RX4 ∧ yX4_logged.cls ≠ "java/lang/invoke/MethodHandle" ∧ yX4_logged.cls ≠ "java/lang/invoke/VarHandle" ∧ (parseMethodDescriptor yX4_logged.desc).map (fun d => d.parameters.length) = some 0 := by decide +kernel
set_option maxHeartbeats 4000000 in
set_option maxRecDepth 100000 in
theorem c_X4_logged (l : Launch) (G : va_G) (cI cZ cJ : ClassId) (aG aD : Nat) (G_logged : Int32)  {r : Int32} (hfin : m_X4_logged G_logged = some (r)) : CT l yX4_logged cX4_logged 1 (some .int) rm_X4_logged G (tyC cI cZ cJ) [.ref aG] [oX4 aG aD G_logged] (some (.int r)) [oX4 aG aD G_logged] := by
  refine CT.ofW (lvl := [(0, .ref aG)]) (by decide) (Nat.le_of_ble_eq_true rfl) rfl ?_
  intro p e s m args below meth c A ls0 QQ hQQ hx hb hml hr hlocks htc hN hown hK hA hw0 hl0
  rw [m_X4_logged] at hfin
  refine lv_aload_n hx hb dX4_logged_0 rfl (lv_at hl0 0 rfl) ?_
  refine va_get (D := G) (ci := 4) (v := .int G_logged) (C := RX4) (T := TX4) (N := 2) hx hb htc iX4 hown hK hw0.1 0 rfl rfl 1 (by decide) (htc _ mw_73) (fun _ h9 => h9) rfl dX4_logged_1 ?_
  cases hfin
  rw [hQQ]
  exact ct_iret hx hb hr hlocks hw0.1 hw0.2.1 hw0.2.2 dX4_logged_4
abbrev rm_X4_readAgain : Room := { frames := 2, cells := 0, slots := 0, locals := 43 }
theorem hd_X4_readAgain : yX4_readAgain.cls = RX4 ∧ yX4_readAgain.cls ≠ "java/lang/invoke/MethodHandle" ∧ yX4_readAgain.cls ≠ "java/lang/invoke/VarHandle" ∧ (parseMethodDescriptor yX4_readAgain.desc).map (fun d => d.parameters.length) = some 0 := by decide +kernel
set_option maxHeartbeats 4000000 in
set_option maxRecDepth 100000 in
theorem c_X4_readAgain (l : Launch) (G : va_G) (cI cZ cJ : ClassId) (aD aDc aG : Nat) (D_writesDone : Int32) (D_writesLeft : Int32) (D_down : Int32) (D_cells : Nat → Int32) (G_logged : Int32)  {o_G_logged : Int32} (hfin : m_X4_readAgain D_cells G_logged = some (o_G_logged)) : CT l yX4_readAgain cX4_readAgain 2 none rm_X4_readAgain G (tyC cI cZ cJ) [.ref aG] [oX2 aD aDc D_writesDone D_writesLeft D_down, rI aDc cI 4096 D_cells, oX4 aG aD G_logged] none [oX2 aD aDc D_writesDone D_writesLeft D_down, rI aDc cI 4096 D_cells, oX4 aG aD o_G_logged] := by
  refine CT.ofW (lvl := [(0, .ref aG)]) (by decide) (Nat.le_of_ble_eq_true rfl) rfl ?_
  intro p e s m args below meth c A ls0 QQ hQQ hx hb hml hr hlocks htc hN hown hK hA hw0 hl0
  rw [m_X4_readAgain] at hfin
  refine lv_aload_n hx hb dX4_readAgain_0 rfl (lv_at hl0 0 rfl) ?_
  refine va_get (D := G) (ci := 4) (v := .ref aD) (C := RX4) (T := TX4) (N := 2) hx hb htc iX4 hown hK hw0.1 2 rfl rfl 0 (by decide) (htc _ mw_72) (fun _ h9 => h9) rfl dX4_readAgain_1 ?_
  replace hfin := ob1_some hfin
  obtain ⟨r_2, hE_1, hfin⟩ := hfin
  refine ctV (a := aD) (As := []) (rest := []) (st1 := [.int r_2]) (wc := [oX2 aD aDc D_writesDone D_writesLeft D_down, rI aDc cI 4096 D_cells]) (w1 := [oX2 aD aDc D_writesDone D_writesLeft D_down, rI aDc cI 4096 D_cells]) (wr := [oX4 aG aD G_logged]) (wb := [oX2 aD aDc D_writesDone D_writesLeft D_down, rI aDc cI 4096 D_cells, oX4 aG aD G_logged]) (v := (some (.int r_2))) hx hb hml hown htc hN (c_X2_epoch l G cI cZ cJ aD aDc D_writesDone D_writesLeft D_down D_cells  hE_1) mw_408 mw_409 mw_410 mw_3 mw_411 hd_X2_epoch ⟨rfl, rfl⟩ ⟨Nat.le_of_ble_eq_true rfl, Nat.le_of_ble_eq_true rfl⟩ hK hw0 hA [0, 1] [2] [1, 2, 0] rfl rfl rfl rfl rfl (by decide) rfl rfl rfl 0 rfl rfl rfl rfl hl0.1 rfl rfl (Nat.le_of_ble_eq_true rfl) dX4_readAgain_4 ⟨Nat.zero_le _, Nat.zero_le _⟩ (fun H3 locs3 hw3 => ?_)
  clear hw0
  refine lv_iconst (v := (1 : Int32)) hx hb dX4_readAgain_7 (by decide) ?_
  refine lv_iadd hx hb dX4_readAgain_8 ?_
  refine lv_istore_n (lv' := [(1, .int (r_2 + (1 : Int32))), (0, .ref aG)]) hx hb dX4_readAgain_9 rfl hl0 (by decide) rfl (fun ls4 hl4 => ?_)
  clear hl0 ls0
  refine lv_aload_n hx hb dX4_readAgain_10 rfl (lv_at hl4 1 rfl) ?_
  refine lv_iconst (v := (0 : Int32)) hx hb dX4_readAgain_11 (by decide) ?_
  refine va_put (D := G) (ci := 4) (v := .int (0 : Int32)) (ty := .int) (C := RX4) (T := TX4) (N := 2) hx hb htc iX4 tyX4 tyX4_ok nmX4 hown hK hw3.1 hw3.2.1 hw3.2.2 2 rfl rfl 1 (by decide) (htc _ mw_73) (fun _ h9 => h9) rfl (tyX4_ok 1 (by decide)) rfl rfl (Nat.le_of_ble_eq_true rfl) dX4_readAgain_12 (fun H5 locs5 hP hD hS => ?_)
  have hw5 : wS G A s H5 locs5 [oX2 aD aDc D_writesDone D_writesLeft D_down, rI aDc cI 4096 D_cells, oX4 aG aD (0 : Int32)] := ⟨hP, hD, hS⟩
  clear hP hD hS hw3 H3 locs3
  replace hfin := ob1_some hfin
  obtain ⟨G_logged_11, hL_7, hfin⟩ := hfin
  have kx_8 : ∀ (H : Heap) (locs : List Loc) (ls : Array Slot), wS G A s H locs [oX2 aD aDc D_writesDone D_writesLeft D_down, rI aDc cI 4096 D_cells, oX4 aG aD G_logged_11] → lv_has ls 2 [] → W p l e rm_X4_readAgain s m args below meth c H locs 0 0 QQ (F0 m 51 ls []) := by
    clear hw5 H5 locs5 hl4 ls4 hL_7
    intro H19 locs19 ls19 hw19 hl19
    cases hfin
    rw [hQQ]
    exact ct_vret hx hb hr hlocks hw19.1 hw19.2.1 hw19.2.2 dX4_readAgain_51
  have lp_9 : ∀ (n : Nat) (G_logged_6 : Int32), lp_X4_readAgain_15 D_cells r_2 n G_logged_6 = some (G_logged_11) → ∀ (H : Heap) (locs : List Loc) (ls : Array Slot), wS G A s H locs [oX2 aD aDc D_writesDone D_writesLeft D_down, rI aDc cI 4096 D_cells, oX4 aG aD G_logged_6] → lv_has ls 2 [(0, .ref aG), (1, .int (r_2 + (1 : Int32)))] → W p l e rm_X4_readAgain s m args below meth c H locs 0 0 QQ (F0 m 15 ls []) := by
    clear hw5 H5 locs5 hl4 ls4 hfin
    intro n
    induction n with
    | zero =>
      intro G_logged_6 hB_10
      exact absurd hB_10 (by rw [lp_X4_readAgain_15]; exact fun h9 => nomatch h9)
    | succ n ih =>
      intro G_logged_6 hB_10 H12 locs12 ls12 hw12 hl12
      rw [lp_X4_readAgain_15] at hB_10
      refine lv_aload_n hx hb dX4_readAgain_15 rfl (lv_at hl12 0 rfl) ?_
      refine va_get (D := G) (ci := 4) (v := .int G_logged_6) (C := RX4) (T := TX4) (N := 2) hx hb htc iX4 hown hK hw12.1 2 rfl rfl 1 (by decide) (htc _ mw_73) (fun _ h9 => h9) rfl dX4_readAgain_16 ?_
      refine lv_sipush (v := (128 : Int32)) hx hb dX4_readAgain_19 (by decide) ?_
      refine lv_icmp_ge (tgt := 51) hx hb dX4_readAgain_22 (by decide) (fun c_13 => ?_) (fun c_13 => ?_)
      · replace hB_10 := it_t c_13 hB_10
        cases hB_10
        exact kx_8 _ _ _ hw12 (lv_sub hl12 [] rfl)
      · replace hB_10 := it_f c_13 hB_10
        refine lv_aload_n hx hb dX4_readAgain_25 rfl (lv_at hl12 0 rfl) ?_
        refine lv_aload_n hx hb dX4_readAgain_26 rfl (lv_at hl12 0 rfl) ?_
        refine va_get (D := G) (ci := 4) (v := .int G_logged_6) (C := RX4) (T := TX4) (N := 2) hx hb htc iX4 hown hK hw12.1 2 rfl rfl 1 (by decide) (htc _ mw_73) (fun _ h9 => h9) rfl dX4_readAgain_27 ?_
        refine lv_iconst (v := (3 : Int32)) hx hb dX4_readAgain_30 (by decide) ?_
        replace hB_10 := ob1_some hB_10
        obtain ⟨r_15, hE_14, hB_10⟩ := hB_10
        refine ctV (a := aG) (As := [.int G_logged_6, .int (3 : Int32)]) (rest := []) (st1 := [.int r_15]) (wc := [oX2 aD aDc D_writesDone D_writesLeft D_down, rI aDc cI 4096 D_cells, oX4 aG aD G_logged_6]) (w1 := [oX2 aD aDc D_writesDone D_writesLeft D_down, rI aDc cI 4096 D_cells, oX4 aG aD G_logged_6]) (wr := []) (wb := [oX2 aD aDc D_writesDone D_writesLeft D_down, rI aDc cI 4096 D_cells, oX4 aG aD G_logged_6]) (v := (some (.int r_15))) hx hb hml hown htc hN (c_X4_at l G cI cZ cJ aD aDc aG D_writesDone D_writesLeft D_down D_cells G_logged_6 G_logged_6 (3 : Int32) hE_14) mw_361 mw_362 mw_363 mw_5 mw_364 hd_X4_at ⟨rfl, rfl⟩ ⟨Nat.le_of_ble_eq_true rfl, Nat.le_of_ble_eq_true rfl⟩ hK hw12 hA [0, 1, 2] [] [0, 1, 2] rfl rfl rfl rfl rfl (by decide) rfl rfl rfl 2 rfl rfl rfl rfl hl12.1 rfl rfl (Nat.le_of_ble_eq_true rfl) dX4_readAgain_31 ⟨Nat.zero_le _, Nat.zero_le _⟩ (fun H16 locs16 hw16 => ?_)
        clear hw12 H12 locs12
        refine lv_iload_n hx hb dX4_readAgain_34 rfl (lv_at hl12 1 rfl) ?_
        refine lv_icmp_ne (tgt := 51) hx hb dX4_readAgain_35 (by decide) (fun c_17 => ?_) (fun c_17 => ?_)
        · replace hB_10 := it_f c_17 hB_10
          cases hB_10
          exact kx_8 _ _ _ hw16 (lv_sub hl12 [] rfl)
        · replace hB_10 := it_t c_17 hB_10
          refine lv_aload_n hx hb dX4_readAgain_38 rfl (lv_at hl12 0 rfl) ?_
          refine lv_dup hx hb dX4_readAgain_39 rfl ?_
          refine va_get (D := G) (ci := 4) (v := .int G_logged_6) (C := RX4) (T := TX4) (N := 2) hx hb htc iX4 hown hK hw16.1 2 rfl rfl 1 (by decide) (htc _ mw_73) (fun _ h9 => h9) rfl dX4_readAgain_40 ?_
          refine lv_iconst (v := (1 : Int32)) hx hb dX4_readAgain_43 (by decide) ?_
          refine lv_iadd hx hb dX4_readAgain_44 ?_
          refine va_put (D := G) (ci := 4) (v := .int (G_logged_6 + (1 : Int32))) (ty := .int) (C := RX4) (T := TX4) (N := 2) hx hb htc iX4 tyX4 tyX4_ok nmX4 hown hK hw16.1 hw16.2.1 hw16.2.2 2 rfl rfl 1 (by decide) (htc _ mw_73) (fun _ h9 => h9) rfl (tyX4_ok 1 (by decide)) rfl rfl (Nat.le_of_ble_eq_true rfl) dX4_readAgain_45 (fun H18 locs18 hP hD hS => ?_)
          have hw18 : wS G A s H18 locs18 [oX2 aD aDc D_writesDone D_writesLeft D_down, rI aDc cI 4096 D_cells, oX4 aG aD (G_logged_6 + (1 : Int32))] := ⟨hP, hD, hS⟩
          clear hP hD hS hw16 H16 locs16
          refine lv_goto (tgt := 15) hx hb dX4_readAgain_48 (by decide) ?_
          exact ih (G_logged_6 + (1 : Int32)) hB_10 _ _ _ hw18 (lv_sub hl12 [0, 1] rfl)
  exact lp_9 NN (0 : Int32) hL_7 _ _ _ hw5 (lv_sub hl4 [1, 0] rfl)
abbrev rm_X4_pointsOf : Room := { frames := 2, cells := 0, slots := 0, locals := 43 }
theorem hd_X4_pointsOf : yX4_pointsOf.cls = RX4 ∧ yX4_pointsOf.cls ≠ "java/lang/invoke/MethodHandle" ∧ yX4_pointsOf.cls ≠ "java/lang/invoke/VarHandle" ∧ (parseMethodDescriptor yX4_pointsOf.desc).map (fun d => d.parameters.length) = some 1 := by decide +kernel
set_option maxHeartbeats 4000000 in
set_option maxRecDepth 100000 in
theorem c_X4_pointsOf (l : Launch) (G : va_G) (cI cZ cJ : ClassId) (aD aDc aG : Nat) (D_writesDone : Int32) (D_writesLeft : Int32) (D_down : Int32) (D_cells : Nat → Int32) (G_logged : Int32) (p0 : Int32) {r : Int32} (hfin : m_X4_pointsOf D_cells G_logged p0 = some (r)) : CT l yX4_pointsOf cX4_pointsOf 4 (some .int) rm_X4_pointsOf G (tyC cI cZ cJ) [.ref aG, .int p0] [oX2 aD aDc D_writesDone D_writesLeft D_down, rI aDc cI 4096 D_cells, oX4 aG aD G_logged] (some (.int r)) [oX2 aD aDc D_writesDone D_writesLeft D_down, rI aDc cI 4096 D_cells, oX4 aG aD G_logged] := by
  refine CT.ofW (lvl := [(0, .ref aG), (1, .int p0)]) (by decide) (Nat.le_of_ble_eq_true rfl) rfl ?_
  intro p e s m args below meth c A ls0 QQ hQQ hx hb hml hr hlocks htc hN hown hK hA hw0 hl0
  rw [m_X4_pointsOf] at hfin
  refine lv_iconst (v := (0 : Int32)) hx hb dX4_pointsOf_0 (by decide) ?_
  refine lv_istore_n (lv' := [(2, .int (0 : Int32)), (0, .ref aG), (1, .int p0)]) hx hb dX4_pointsOf_1 rfl hl0 (by decide) rfl (fun ls1 hl1 => ?_)
  clear hl0 ls0
  refine lv_iconst (v := (0 : Int32)) hx hb dX4_pointsOf_2 (by decide) ?_
  refine lv_istore_n (lv' := [(3, .int (0 : Int32)), (2, .int (0 : Int32)), (0, .ref aG), (1, .int p0)]) hx hb dX4_pointsOf_3 rfl hl1 (by decide) rfl (fun ls2 hl2 => ?_)
  clear hl1 ls1
  replace hfin := ob1_some hfin
  obtain ⟨v2_9, hL_5, hfin⟩ := hfin
  have kx_6 : ∀ (H : Heap) (locs : List Loc) (ls : Array Slot), wS G A s H locs [oX2 aD aDc D_writesDone D_writesLeft D_down, rI aDc cI 4096 D_cells, oX4 aG aD G_logged] → lv_has ls 4 [(2, .int v2_9)] → W p l e rm_X4_pointsOf s m args below meth c H locs 0 0 QQ (F0 m 31 ls []) := by
    clear hw0 hl2 ls2 hL_5
    intro H22 locs22 ls22 hw22 hl22
    refine lv_iload_n hx hb dX4_pointsOf_31 rfl (lv_at hl22 0 rfl) ?_
    cases hfin
    rw [hQQ]
    exact ct_iret hx hb hr hlocks hw22.1 hw22.2.1 hw22.2.2 dX4_pointsOf_32
  have lp_7 : ∀ (n : Nat) (v2_3 : Int32) (v3_4 : Int32), lp_X4_pointsOf_4 D_cells G_logged p0 n v2_3 v3_4 = some (v2_9) → ∀ (H : Heap) (locs : List Loc) (ls : Array Slot), wS G A s H locs [oX2 aD aDc D_writesDone D_writesLeft D_down, rI aDc cI 4096 D_cells, oX4 aG aD G_logged] → lv_has ls 4 [(0, .ref aG), (1, .int p0), (2, .int v2_3), (3, .int v3_4)] → W p l e rm_X4_pointsOf s m args below meth c H locs 0 0 QQ (F0 m 4 ls []) := by
    clear hw0 hl2 ls2 hfin
    intro n
    induction n with
    | zero =>
      intro v2_3 v3_4 hB_8
      exact absurd hB_8 (by rw [lp_X4_pointsOf_4]; exact fun h9 => nomatch h9)
    | succ n ih =>
      intro v2_3 v3_4 hB_8 H10 locs10 ls10 hw10 hl10
      rw [lp_X4_pointsOf_4] at hB_8
      refine lv_iload_n hx hb dX4_pointsOf_4 rfl (lv_at hl10 3 rfl) ?_
      refine lv_aload_n hx hb dX4_pointsOf_5 rfl (lv_at hl10 0 rfl) ?_
      refine va_get (D := G) (ci := 4) (v := .int G_logged) (C := RX4) (T := TX4) (N := 2) hx hb htc iX4 hown hK hw10.1 2 rfl rfl 1 (by decide) (htc _ mw_73) (fun _ h9 => h9) rfl dX4_pointsOf_6 ?_
      refine lv_icmp_ge (tgt := 31) hx hb dX4_pointsOf_9 (by decide) (fun c_11 => ?_) (fun c_11 => ?_)
      · replace hB_8 := it_t c_11 hB_8
        cases hB_8
        exact kx_6 _ _ _ hw10 (lv_sub hl10 [2] rfl)
      · replace hB_8 := it_f c_11 hB_8
        refine lv_aload_n hx hb dX4_pointsOf_12 rfl (lv_at hl10 0 rfl) ?_
        refine lv_iload_n hx hb dX4_pointsOf_13 rfl (lv_at hl10 3 rfl) ?_
        refine lv_iconst (v := (0 : Int32)) hx hb dX4_pointsOf_14 (by decide) ?_
        replace hB_8 := ob1_some hB_8
        obtain ⟨r_13, hE_12, hB_8⟩ := hB_8
        refine ctV (a := aG) (As := [.int v3_4, .int (0 : Int32)]) (rest := []) (st1 := [.int r_13]) (wc := [oX2 aD aDc D_writesDone D_writesLeft D_down, rI aDc cI 4096 D_cells, oX4 aG aD G_logged]) (w1 := [oX2 aD aDc D_writesDone D_writesLeft D_down, rI aDc cI 4096 D_cells, oX4 aG aD G_logged]) (wr := []) (wb := [oX2 aD aDc D_writesDone D_writesLeft D_down, rI aDc cI 4096 D_cells, oX4 aG aD G_logged]) (v := (some (.int r_13))) hx hb hml hown htc hN (c_X4_at l G cI cZ cJ aD aDc aG D_writesDone D_writesLeft D_down D_cells G_logged v3_4 (0 : Int32) hE_12) mw_361 mw_362 mw_363 mw_5 mw_364 hd_X4_at ⟨rfl, rfl⟩ ⟨Nat.le_of_ble_eq_true rfl, Nat.le_of_ble_eq_true rfl⟩ hK hw10 hA [0, 1, 2] [] [0, 1, 2] rfl rfl rfl rfl rfl (by decide) rfl rfl rfl 2 rfl rfl rfl rfl hl10.1 rfl rfl (Nat.le_of_ble_eq_true rfl) dX4_pointsOf_15 ⟨Nat.zero_le _, Nat.zero_le _⟩ (fun H14 locs14 hw14 => ?_)
        clear hw10 H10 locs10
        refine lv_iload_n hx hb dX4_pointsOf_18 rfl (lv_at hl10 1 rfl) ?_
        replace hB_8 := ob1_some hB_8
        obtain ⟨v2_15, hJ_16, hB_8⟩ := hB_8
        have kj_17 : ∀ (H : Heap) (locs : List Loc) (ls : Array Slot), wS G A s H locs [oX2 aD aDc D_writesDone D_writesLeft D_down, rI aDc cI 4096 D_cells, oX4 aG aD G_logged] → lv_has ls 4 [(0, .ref aG), (1, .int p0), (2, .int v2_15), (3, .int v3_4)] → W p l e rm_X4_pointsOf s m args below meth c H locs 0 0 QQ (F0 m 25 ls []) := by
          clear hw14 H14 locs14 hl10 ls10 hJ_16
          intro H20 locs20 ls20 hw20 hl20
          refine lv_iinc (v := (v3_4 + (1 : Int32))) (lv' := [(3, .int (v3_4 + (1 : Int32))), (0, .ref aG), (1, .int p0), (2, .int v2_15)]) hx hb dX4_pointsOf_25 hl20 (k := 3) rfl rfl (by decide) rfl (fun ls21 hl21 => ?_)
          clear hl20 ls20
          refine lv_goto (tgt := 4) hx hb dX4_pointsOf_28 (by decide) ?_
          exact ih v2_15 (v3_4 + (1 : Int32)) hB_8 _ _ _ hw20 (lv_sub hl21 [1, 2, 3, 0] rfl)
        clear hB_8
        refine lv_icmp_ne (tgt := 25) hx hb dX4_pointsOf_19 (by decide) (fun c_18 => ?_) (fun c_18 => ?_)
        · replace hJ_16 := it_f c_18 hJ_16
          cases hJ_16
          exact kj_17 _ _ _ hw14 (lv_sub hl10 [0, 1, 2, 3] rfl)
        · replace hJ_16 := it_t c_18 hJ_16
          refine lv_iinc (v := (v2_3 + (1 : Int32))) (lv' := [(2, .int (v2_3 + (1 : Int32))), (0, .ref aG), (1, .int p0), (3, .int v3_4)]) hx hb dX4_pointsOf_22 hl10 (k := 2) rfl rfl (by decide) rfl (fun ls19 hl19 => ?_)
          clear hl10 ls10
          cases hJ_16
          exact kj_17 _ _ _ hw14 (lv_sub hl19 [1, 2, 0, 3] rfl)
  exact lp_7 NN (0 : Int32) (0 : Int32) hL_5 _ _ _ hw0 (lv_sub hl2 [2, 3, 1, 0] rfl)
