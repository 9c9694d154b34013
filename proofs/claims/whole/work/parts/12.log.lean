theorem dX4_logged_0 : decode cX4_logged 0 = .ok (.aload_n 0, 1) := by decide +kernel
theorem dX4_logged_1 : decode cX4_logged 1 = .ok (.getfield 9, 3) := by decide +kernel
theorem dX4_logged_4 : decode cX4_logged 4 = .ok (.ireturn, 1) := by decide +kernel
theorem dX4_isFull_0 : decode cX4_isFull 0 = .ok (.aload_n 0, 1) := by decide +kernel
theorem dX4_isFull_1 : decode cX4_isFull 1 = .ok (.getfield 9, 3) := by decide +kernel
theorem dX4_isFull_4 : decode cX4_isFull 4 = .ok (.sipush 128, 3) := by decide +kernel
theorem dX4_isFull_7 : decode cX4_isFull 7 = .ok (.if_icmp .lt 7, 3) := by decide +kernel
theorem dX4_isFull_10 : decode cX4_isFull 10 = .ok (.iconst 1, 1) := by decide +kernel
theorem dX4_isFull_11 : decode cX4_isFull 11 = .ok (.goto 4, 3) := by decide +kernel
theorem dX4_isFull_14 : decode cX4_isFull 14 = .ok (.iconst 0, 1) := by decide +kernel
theorem dX4_isFull_15 : decode cX4_isFull 15 = .ok (.ireturn, 1) := by decide +kernel
theorem dX4_at_0 : decode cX4_at 0 = .ok (.aload_n 0, 1) := by decide +kernel
theorem dX4_at_1 : decode cX4_at 1 = .ok (.getfield 15, 3) := by decide +kernel
theorem dX4_at_4 : decode cX4_at 4 = .ok (.sipush 1923, 3) := by decide +kernel
theorem dX4_at_7 : decode cX4_at 7 = .ok (.iload_n 1, 1) := by decide +kernel
theorem dX4_at_8 : decode cX4_at 8 = .ok (.iconst 4, 1) := by decide +kernel
theorem dX4_at_9 : decode cX4_at 9 = .ok (.imul, 1) := by decide +kernel
theorem dX4_at_10 : decode cX4_at 10 = .ok (.iadd, 1) := by decide +kernel
theorem dX4_at_11 : decode cX4_at 11 = .ok (.iload_n 2, 1) := by decide +kernel
theorem dX4_at_12 : decode cX4_at 12 = .ok (.iadd, 1) := by decide +kernel
theorem dX4_at_13 : decode cX4_at 13 = .ok (.invokevirtual 19, 3) := by decide +kernel
theorem dX4_at_16 : decode cX4_at 16 = .ok (.ireturn, 1) := by decide +kernel
theorem dX4_readAgain_0 : decode cX4_readAgain 0 = .ok (.aload_n 0, 1) := by decide +kernel
theorem dX4_readAgain_1 : decode cX4_readAgain 1 = .ok (.getfield 15, 3) := by decide +kernel
theorem dX4_readAgain_4 : decode cX4_readAgain 4 = .ok (.invokevirtual 25, 3) := by decide +kernel
theorem dX4_readAgain_7 : decode cX4_readAgain 7 = .ok (.iconst 1, 1) := by decide +kernel
theorem dX4_readAgain_8 : decode cX4_readAgain 8 = .ok (.iadd, 1) := by decide +kernel
theorem dX4_readAgain_9 : decode cX4_readAgain 9 = .ok (.istore_n 1, 1) := by decide +kernel
theorem dX4_readAgain_10 : decode cX4_readAgain 10 = .ok (.aload_n 0, 1) := by decide +kernel
theorem dX4_readAgain_11 : decode cX4_readAgain 11 = .ok (.iconst 0, 1) := by decide +kernel
theorem dX4_readAgain_12 : decode cX4_readAgain 12 = .ok (.putfield 9, 3) := by decide +kernel
theorem dX4_readAgain_15 : decode cX4_readAgain 15 = .ok (.aload_n 0, 1) := by decide +kernel
theorem dX4_readAgain_16 : decode cX4_readAgain 16 = .ok (.getfield 9, 3) := by decide +kernel
theorem dX4_readAgain_19 : decode cX4_readAgain 19 = .ok (.sipush 128, 3) := by decide +kernel
theorem dX4_readAgain_22 : decode cX4_readAgain 22 = .ok (.if_icmp .ge 29, 3) := by decide +kernel
theorem dX4_readAgain_25 : decode cX4_readAgain 25 = .ok (.aload_n 0, 1) := by decide +kernel
theorem dX4_readAgain_26 : decode cX4_readAgain 26 = .ok (.aload_n 0, 1) := by decide +kernel
theorem dX4_readAgain_27 : decode cX4_readAgain 27 = .ok (.getfield 9, 3) := by decide +kernel
theorem dX4_readAgain_30 : decode cX4_readAgain 30 = .ok (.iconst 3, 1) := by decide +kernel
theorem dX4_readAgain_31 : decode cX4_readAgain 31 = .ok (.invokevirtual 29, 3) := by decide +kernel
theorem dX4_readAgain_34 : decode cX4_readAgain 34 = .ok (.iload_n 1, 1) := by decide +kernel
theorem dX4_readAgain_35 : decode cX4_readAgain 35 = .ok (.if_icmp .ne 16, 3) := by decide +kernel
theorem dX4_readAgain_38 : decode cX4_readAgain 38 = .ok (.aload_n 0, 1) := by decide +kernel
theorem dX4_readAgain_39 : decode cX4_readAgain 39 = .ok (.dup, 1) := by decide +kernel
theorem dX4_readAgain_40 : decode cX4_readAgain 40 = .ok (.getfield 9, 3) := by decide +kernel
theorem dX4_readAgain_43 : decode cX4_readAgain 43 = .ok (.iconst 1, 1) := by decide +kernel
theorem dX4_readAgain_44 : decode cX4_readAgain 44 = .ok (.iadd, 1) := by decide +kernel
theorem dX4_readAgain_45 : decode cX4_readAgain 45 = .ok (.putfield 9, 3) := by decide +kernel
theorem dX4_readAgain_48 : decode cX4_readAgain 48 = .ok (.goto (-33), 3) := by decide +kernel
theorem dX4_readAgain_51 : decode cX4_readAgain 51 = .ok (.return_, 1) := by decide +kernel
theorem dX4_add_0 : decode cX4_add 0 = .ok (.sipush 1923, 3) := by decide +kernel
theorem dX4_add_3 : decode cX4_add 3 = .ok (.aload_n 0, 1) := by decide +kernel
theorem dX4_add_4 : decode cX4_add 4 = .ok (.getfield 9, 3) := by decide +kernel
theorem dX4_add_7 : decode cX4_add 7 = .ok (.iconst 4, 1) := by decide +kernel
theorem dX4_add_8 : decode cX4_add 8 = .ok (.imul, 1) := by decide +kernel
theorem dX4_add_9 : decode cX4_add 9 = .ok (.iadd, 1) := by decide +kernel
theorem dX4_add_10 : decode cX4_add 10 = .ok (.istore 4, 2) := by decide +kernel
theorem dX4_add_12 : decode cX4_add 12 = .ok (.aload_n 0, 1) := by decide +kernel
theorem dX4_add_13 : decode cX4_add 13 = .ok (.getfield 15, 3) := by decide +kernel
theorem dX4_add_16 : decode cX4_add 16 = .ok (.iload 4, 2) := by decide +kernel
theorem dX4_add_18 : decode cX4_add 18 = .ok (.iconst 0, 1) := by decide +kernel
theorem dX4_add_19 : decode cX4_add 19 = .ok (.iadd, 1) := by decide +kernel
theorem dX4_add_20 : decode cX4_add 20 = .ok (.iload_n 1, 1) := by decide +kernel
theorem dX4_add_21 : decode cX4_add 21 = .ok (.invokevirtual 33, 3) := by decide +kernel
theorem dX4_add_24 : decode cX4_add 24 = .ok (.ifCond .eq 60, 3) := by decide +kernel
theorem dX4_add_27 : decode cX4_add 27 = .ok (.aload_n 0, 1) := by decide +kernel
theorem dX4_add_28 : decode cX4_add 28 = .ok (.getfield 15, 3) := by decide +kernel
theorem dX4_add_31 : decode cX4_add 31 = .ok (.iload 4, 2) := by decide +kernel
theorem dX4_add_33 : decode cX4_add 33 = .ok (.iconst 1, 1) := by decide +kernel
theorem dX4_add_34 : decode cX4_add 34 = .ok (.iadd, 1) := by decide +kernel
theorem dX4_add_35 : decode cX4_add 35 = .ok (.iload_n 2, 1) := by decide +kernel
theorem dX4_add_36 : decode cX4_add 36 = .ok (.invokevirtual 33, 3) := by decide +kernel
theorem dX4_add_39 : decode cX4_add 39 = .ok (.ifCond .eq 45, 3) := by decide +kernel
theorem dX4_add_42 : decode cX4_add 42 = .ok (.aload_n 0, 1) := by decide +kernel
theorem dX4_add_43 : decode cX4_add 43 = .ok (.getfield 15, 3) := by decide +kernel
theorem dX4_add_46 : decode cX4_add 46 = .ok (.iload 4, 2) := by decide +kernel
theorem dX4_add_48 : decode cX4_add 48 = .ok (.iconst 2, 1) := by decide +kernel
theorem dX4_add_49 : decode cX4_add 49 = .ok (.iadd, 1) := by decide +kernel
theorem dX4_add_50 : decode cX4_add 50 = .ok (.iload_n 3, 1) := by decide +kernel
theorem dX4_add_51 : decode cX4_add 51 = .ok (.invokevirtual 33, 3) := by decide +kernel
theorem dX4_add_54 : decode cX4_add 54 = .ok (.ifCond .eq 30, 3) := by decide +kernel
theorem dX4_add_57 : decode cX4_add 57 = .ok (.aload_n 0, 1) := by decide +kernel
theorem dX4_add_58 : decode cX4_add 58 = .ok (.getfield 15, 3) := by decide +kernel
theorem dX4_add_61 : decode cX4_add 61 = .ok (.iload 4, 2) := by decide +kernel
theorem dX4_add_63 : decode cX4_add 63 = .ok (.iconst 3, 1) := by decide +kernel
theorem dX4_add_64 : decode cX4_add 64 = .ok (.iadd, 1) := by decide +kernel
theorem dX4_add_65 : decode cX4_add 65 = .ok (.aload_n 0, 1) := by decide +kernel
theorem dX4_add_66 : decode cX4_add 66 = .ok (.getfield 15, 3) := by decide +kernel
theorem dX4_add_69 : decode cX4_add 69 = .ok (.invokevirtual 25, 3) := by decide +kernel
theorem dX4_add_72 : decode cX4_add 72 = .ok (.iconst 1, 1) := by decide +kernel
theorem dX4_add_73 : decode cX4_add 73 = .ok (.iadd, 1) := by decide +kernel
theorem dX4_add_74 : decode cX4_add 74 = .ok (.invokevirtual 33, 3) := by decide +kernel
theorem dX4_add_77 : decode cX4_add 77 = .ok (.ifCond .eq 7, 3) := by decide +kernel
theorem dX4_add_80 : decode cX4_add 80 = .ok (.iconst 1, 1) := by decide +kernel
theorem dX4_add_81 : decode cX4_add 81 = .ok (.goto 4, 3) := by decide +kernel
theorem dX4_add_84 : decode cX4_add 84 = .ok (.iconst 0, 1) := by decide +kernel
theorem dX4_add_85 : decode cX4_add 85 = .ok (.istore 5, 2) := by decide +kernel
theorem dX4_add_87 : decode cX4_add 87 = .ok (.iload 5, 2) := by decide +kernel
theorem dX4_add_89 : decode cX4_add 89 = .ok (.ifCond .eq 13, 3) := by decide +kernel
theorem dX4_add_92 : decode cX4_add 92 = .ok (.aload_n 0, 1) := by decide +kernel
theorem dX4_add_93 : decode cX4_add 93 = .ok (.dup, 1) := by decide +kernel
theorem dX4_add_94 : decode cX4_add 94 = .ok (.getfield 9, 3) := by decide +kernel
theorem dX4_add_97 : decode cX4_add 97 = .ok (.iconst 1, 1) := by decide +kernel
theorem dX4_add_98 : decode cX4_add 98 = .ok (.iadd, 1) := by decide +kernel
theorem dX4_add_99 : decode cX4_add 99 = .ok (.putfield 9, 3) := by decide +kernel
theorem dX4_add_102 : decode cX4_add 102 = .ok (.iload 5, 2) := by decide +kernel
theorem dX4_add_104 : decode cX4_add 104 = .ok (.ireturn, 1) := by decide +kernel
theorem dX4_pointsOf_0 : decode cX4_pointsOf 0 = .ok (.iconst 0, 1) := by decide +kernel
theorem dX4_pointsOf_1 : decode cX4_pointsOf 1 = .ok (.istore_n 2, 1) := by decide +kernel
theorem dX4_pointsOf_2 : decode cX4_pointsOf 2 = .ok (.iconst 0, 1) := by decide +kernel
theorem dX4_pointsOf_3 : decode cX4_pointsOf 3 = .ok (.istore_n 3, 1) := by decide +kernel
theorem dX4_pointsOf_4 : decode cX4_pointsOf 4 = .ok (.iload_n 3, 1) := by decide +kernel
theorem dX4_pointsOf_5 : decode cX4_pointsOf 5 = .ok (.aload_n 0, 1) := by decide +kernel
theorem dX4_pointsOf_6 : decode cX4_pointsOf 6 = .ok (.getfield 9, 3) := by decide +kernel
theorem dX4_pointsOf_9 : decode cX4_pointsOf 9 = .ok (.if_icmp .ge 22, 3) := by decide +kernel
theorem dX4_pointsOf_12 : decode cX4_pointsOf 12 = .ok (.aload_n 0, 1) := by decide +kernel
theorem dX4_pointsOf_13 : decode cX4_pointsOf 13 = .ok (.iload_n 3, 1) := by decide +kernel
theorem dX4_pointsOf_14 : decode cX4_pointsOf 14 = .ok (.iconst 0, 1) := by decide +kernel
theorem dX4_pointsOf_15 : decode cX4_pointsOf 15 = .ok (.invokevirtual 29, 3) := by decide +kernel
theorem dX4_pointsOf_18 : decode cX4_pointsOf 18 = .ok (.iload_n 1, 1) := by decide +kernel
theorem dX4_pointsOf_19 : decode cX4_pointsOf 19 = .ok (.if_icmp .ne 6, 3) := by decide +kernel
theorem dX4_pointsOf_22 : decode cX4_pointsOf 22 = .ok (.iinc 2 1, 3) := by decide +kernel
theorem dX4_pointsOf_25 : decode cX4_pointsOf 25 = .ok (.iinc 3 1, 3) := by decide +kernel
theorem dX4_pointsOf_28 : decode cX4_pointsOf 28 = .ok (.goto (-24), 3) := by decide +kernel
theorem dX4_pointsOf_31 : decode cX4_pointsOf 31 = .ok (.iload_n 2, 1) := by decide +kernel
theorem dX4_pointsOf_32 : decode cX4_pointsOf 32 = .ok (.ireturn, 1) := by decide +kernel
theorem dX4_lastOf_0 : decode cX4_lastOf 0 = .ok (.aload_n 0, 1) := by decide +kernel
theorem dX4_lastOf_1 : decode cX4_lastOf 1 = .ok (.getfield 9, 3) := by decide +kernel
theorem dX4_lastOf_4 : decode cX4_lastOf 4 = .ok (.iconst 1, 1) := by decide +kernel
theorem dX4_lastOf_5 : decode cX4_lastOf 5 = .ok (.isub, 1) := by decide +kernel
theorem dX4_lastOf_6 : decode cX4_lastOf 6 = .ok (.istore_n 2, 1) := by decide +kernel
theorem dX4_lastOf_7 : decode cX4_lastOf 7 = .ok (.iload_n 2, 1) := by decide +kernel
theorem dX4_lastOf_8 : decode cX4_lastOf 8 = .ok (.ifCond .lt 21, 3) := by decide +kernel
theorem dX4_lastOf_11 : decode cX4_lastOf 11 = .ok (.aload_n 0, 1) := by decide +kernel
theorem dX4_lastOf_12 : decode cX4_lastOf 12 = .ok (.iload_n 2, 1) := by decide +kernel
theorem dX4_lastOf_13 : decode cX4_lastOf 13 = .ok (.iconst 0, 1) := by decide +kernel
theorem dX4_lastOf_14 : decode cX4_lastOf 14 = .ok (.invokevirtual 29, 3) := by decide +kernel
theorem dX4_lastOf_17 : decode cX4_lastOf 17 = .ok (.iload_n 1, 1) := by decide +kernel
theorem dX4_lastOf_18 : decode cX4_lastOf 18 = .ok (.if_icmp .ne 5, 3) := by decide +kernel
theorem dX4_lastOf_21 : decode cX4_lastOf 21 = .ok (.iload_n 2, 1) := by decide +kernel
theorem dX4_lastOf_22 : decode cX4_lastOf 22 = .ok (.ireturn, 1) := by decide +kernel
theorem dX4_lastOf_23 : decode cX4_lastOf 23 = .ok (.iinc 2 (-1), 3) := by decide +kernel
theorem dX4_lastOf_26 : decode cX4_lastOf 26 = .ok (.goto (-19), 3) := by decide +kernel
theorem dX4_lastOf_29 : decode cX4_lastOf 29 = .ok (.iconst (-1), 1) := by decide +kernel
theorem dX4_lastOf_30 : decode cX4_lastOf 30 = .ok (.ireturn, 1) := by decide +kernel
def m_X4_at (D_cells : Nat → Int32) (p0 : Int32) (p1 : Int32) : Option (Int32) :=
  ob1 (m_X2_read D_cells (((1923 : Int32) + (p0 * (4 : Int32))) + p1)) fun r_2 =>
  some (r_2)
abbrev rm_X4_at : Room := { frames := 1, cells := 0, slots := 0, locals := 21 }
theorem hd_X4_at : yX4_at.cls = RX4 ∧ yX4_at.cls ≠ "java/lang/invoke/MethodHandle" ∧ yX4_at.cls ≠ "java/lang/invoke/VarHandle" ∧ (parseMethodDescriptor yX4_at.desc).map (fun d => d.parameters.length) = some 2 := by decide +kernel
set_option maxHeartbeats 4000000 in
set_option maxRecDepth 100000 in
theorem c_X4_at (l : Launch) (G : va_G) (cI cZ cJ : ClassId) (aD aDc aG : Nat) (D_writesDone : Int32) (D_writesLeft : Int32) (D_down : Int32) (D_cells : Nat → Int32) (G_logged : Int32) (p0 : Int32) (p1 : Int32) {r : Int32} (hfin : m_X4_at D_cells p0 p1 = some (r)) : CT l yX4_at cX4_at 3 (some .int) rm_X4_at G (tyC cI cZ cJ) [.ref aG, .int p0, .int p1] [(aD, .inr (2, [.ref aDc, .int D_writesDone, .int D_writesLeft, .int D_down])), (aDc, .inl (cI, 4096, .inl D_cells)), (aG, .inr (4, [.ref aD, .int G_logged]))] (some (.int r)) [(aD, .inr (2, [.ref aDc, .int D_writesDone, .int D_writesLeft, .int D_down])), (aDc, .inl (cI, 4096, .inl D_cells)), (aG, .inr (4, [.ref aD, .int G_logged]))] := by
  refine CT.ofW (lvl := [(0, .ref aG), (1, .int p0), (2, .int p1)]) (by decide) (Nat.le_of_ble_eq_true rfl) rfl ?_
  intro p e s m args below meth c A ls QQ hQQ hx hb hml hr hlocks htc hN hown hK hA hP hD hS hl
  rw [m_X4_at] at hfin
  refine lv_aload_n hx hb dX4_at_0 rfl (lv_at hl 0 rfl) ?_
  refine va_get (D := G) (ci := 4) (v := .ref aD) (C := RX4) (T := TX4) (N := 2) hx hb htc iX4 hown hK hP 2 rfl rfl 0 (by decide) (htc _ mw_72) (fun _ h9 => h9) rfl dX4_at_1 ?_
  refine lv_sipush (v := (1923 : Int32)) hx hb dX4_at_4 (by decide) ?_
  refine lv_iload_n hx hb dX4_at_7 rfl (lv_at hl 1 rfl) ?_
  refine lv_iconst (v := (4 : Int32)) hx hb dX4_at_8 (by decide) ?_
  refine lv_imul hx hb dX4_at_9 ?_
  refine lv_iadd hx hb dX4_at_10 ?_
  refine lv_iload_n hx hb dX4_at_11 rfl (lv_at hl 2 rfl) ?_
  refine lv_iadd hx hb dX4_at_12 ?_
  obtain ⟨r_2, hE_1, hfin⟩ := ob1_some hfin
  refine ctV (a := aD) (As := [.int (((1923 : Int32) + (p0 * (4 : Int32))) + p1)]) (rest := []) (st1 := [.int r_2]) (wc := [(aD, .inr (2, [.ref aDc, .int D_writesDone, .int D_writesLeft, .int D_down])), (aDc, .inl (cI, 4096, .inl D_cells))]) (w1 := [(aD, .inr (2, [.ref aDc, .int D_writesDone, .int D_writesLeft, .int D_down])), (aDc, .inl (cI, 4096, .inl D_cells))]) (wr := [(aG, .inr (4, [.ref aD, .int G_logged]))]) (wb := [(aD, .inr (2, [.ref aDc, .int D_writesDone, .int D_writesLeft, .int D_down])), (aDc, .inl (cI, 4096, .inl D_cells)), (aG, .inr (4, [.ref aD, .int G_logged]))]) (v := (some (.int r_2))) hx hb hml hown htc hN (c_X2_read l G cI cZ cJ aD aDc D_writesDone D_writesLeft D_down D_cells (((1923 : Int32) + (p0 * (4 : Int32))) + p1) hE_1) mw_365 mw_366 mw_367 mw_3 mw_368 hd_X2_read ⟨rfl, rfl⟩ ⟨Nat.le_of_ble_eq_true rfl, Nat.le_of_ble_eq_true rfl⟩ hK hP hD hS hA [0, 1] [2] [1, 2, 0] rfl rfl rfl rfl rfl (by decide) rfl rfl rfl 0 rfl rfl rfl rfl hl.1 rfl rfl (Nat.le_of_ble_eq_true rfl) dX4_at_13 ⟨Nat.zero_le _, Nat.zero_le _⟩ (fun H locs hP hD hS => ?_)
  cases hfin
  rw [hQQ]
  exact ct_iret hx hb hr hlocks hP hD hS dX4_at_16
def lp_X4_lastOf_7 (D_cells : Nat → Int32) (p0 : Int32) : Nat → Int32 → Option (Int32)
  | 0, _ => none
  | n + 1, v2_1 =>
    if v2_1 < 0 then (
      some ((-1 : Int32))) else (
      ob1 (m_X4_at D_cells v2_1 (0 : Int32)) fun r_8 =>
      if r_8 = p0 then (
        some (v2_1)) else (
        lp_X4_lastOf_7 D_cells p0 n (v2_1 + (-1 : Int32))))
def m_X4_lastOf (D_cells : Nat → Int32) (G_logged : Int32) (p0 : Int32) : Option (Int32) :=
  lp_X4_lastOf_7 D_cells p0 NN (G_logged - (1 : Int32))
abbrev rm_X4_lastOf : Room := { frames := 2, cells := 0, slots := 0, locals := 43 }
theorem hd_X4_lastOf : yX4_lastOf.cls = RX4 ∧ yX4_lastOf.cls ≠ "java/lang/invoke/MethodHandle" ∧ yX4_lastOf.cls ≠ "java/lang/invoke/VarHandle" ∧ (parseMethodDescriptor yX4_lastOf.desc).map (fun d => d.parameters.length) = some 1 := by decide +kernel
set_option maxHeartbeats 4000000 in
set_option maxRecDepth 100000 in
theorem c_X4_lastOf (l : Launch) (G : va_G) (cI cZ cJ : ClassId) (aD aDc aG : Nat) (D_writesDone : Int32) (D_writesLeft : Int32) (D_down : Int32) (D_cells : Nat → Int32) (G_logged : Int32) (p0 : Int32) {r : Int32} (hfin : m_X4_lastOf D_cells G_logged p0 = some (r)) : CT l yX4_lastOf cX4_lastOf 3 (some .int) rm_X4_lastOf G (tyC cI cZ cJ) [.ref aG, .int p0] [(aD, .inr (2, [.ref aDc, .int D_writesDone, .int D_writesLeft, .int D_down])), (aDc, .inl (cI, 4096, .inl D_cells)), (aG, .inr (4, [.ref aD, .int G_logged]))] (some (.int r)) [(aD, .inr (2, [.ref aDc, .int D_writesDone, .int D_writesLeft, .int D_down])), (aDc, .inl (cI, 4096, .inl D_cells)), (aG, .inr (4, [.ref aD, .int G_logged]))] := by
  refine CT.ofW (lvl := [(0, .ref aG), (1, .int p0)]) (by decide) (Nat.le_of_ble_eq_true rfl) rfl ?_
  intro p e s m args below meth c A ls QQ hQQ hx hb hml hr hlocks htc hN hown hK hA hP hD hS hl
  rw [m_X4_lastOf] at hfin
  refine lv_aload_n hx hb dX4_lastOf_0 rfl (lv_at hl 0 rfl) ?_
  refine va_get (D := G) (ci := 4) (v := .int G_logged) (C := RX4) (T := TX4) (N := 2) hx hb htc iX4 hown hK hP 2 rfl rfl 1 (by decide) (htc _ mw_73) (fun _ h9 => h9) rfl dX4_lastOf_1 ?_
  refine lv_iconst (v := (1 : Int32)) hx hb dX4_lastOf_4 (by decide) ?_
  refine lv_isub hx hb dX4_lastOf_5 ?_
  refine lv_istore_n (lv' := [(2, .int (G_logged - (1 : Int32))), (0, .ref aG), (1, .int p0)]) hx hb dX4_lastOf_6 rfl hl (by decide) rfl (fun ls hl => ?_)
  have lp_4 : ∀ (n : Nat) (v2_1 : Int32), lp_X4_lastOf_7 D_cells p0 n v2_1 = some (r) → ∀ (H : Heap) (locs : List Loc) (ls : Array Slot), va_P G classes [(aD, .inr (2, [.ref aDc, .int D_writesDone, .int D_writesLeft, .int D_down])), (aDc, .inl (cI, 4096, .inl D_cells)), (aG, .inr (4, [.ref aD, .int G_logged]))] H → va_D A [(aD, .inr (2, [.ref aDc, .int D_writesDone, .int D_writesLeft, .int D_down])), (aDc, .inl (cI, 4096, .inl D_cells)), (aG, .inr (4, [.ref aD, .int G_logged]))] → va_S A s.heap H locs → lv_has ls 3 [(0, .ref aG), (1, .int p0), (2, .int v2_1)] → W p l e rm_X4_lastOf s m args below meth c H locs 0 0 QQ (F0 m 7 ls []) := by
    intro n
    induction n with
    | zero =>
      intro v2_1 hB_5
      exact absurd hB_5 (by rw [lp_X4_lastOf_7]; exact fun h9 => nomatch h9)
    | succ n ih =>
      intro v2_1 hB_5 H locs ls hP hD hS hl
      rw [lp_X4_lastOf_7] at hB_5
      refine lv_iload_n hx hb dX4_lastOf_7 rfl (lv_at hl 2 rfl) ?_
      refine lv_if_lt (tgt := 29) hx hb dX4_lastOf_8 (by decide) (fun c_6 => ?_) (fun c_6 => ?_)
      · have hB_5 := it_t c_6 hB_5
        refine lv_iconst (v := (-1 : Int32)) hx hb dX4_lastOf_29 (by decide) ?_
        cases hB_5
        rw [hQQ]
        exact ct_iret hx hb hr hlocks hP hD hS dX4_lastOf_30
      · have hB_5 := it_f c_6 hB_5
        refine lv_aload_n hx hb dX4_lastOf_11 rfl (lv_at hl 0 rfl) ?_
        refine lv_iload_n hx hb dX4_lastOf_12 rfl (lv_at hl 2 rfl) ?_
        refine lv_iconst (v := (0 : Int32)) hx hb dX4_lastOf_13 (by decide) ?_
        obtain ⟨r_8, hE_7, hB_5⟩ := ob1_some hB_5
        refine ctV (a := aG) (As := [.int v2_1, .int (0 : Int32)]) (rest := []) (st1 := [.int r_8]) (wc := [(aD, .inr (2, [.ref aDc, .int D_writesDone, .int D_writesLeft, .int D_down])), (aDc, .inl (cI, 4096, .inl D_cells)), (aG, .inr (4, [.ref aD, .int G_logged]))]) (w1 := [(aD, .inr (2, [.ref aDc, .int D_writesDone, .int D_writesLeft, .int D_down])), (aDc, .inl (cI, 4096, .inl D_cells)), (aG, .inr (4, [.ref aD, .int G_logged]))]) (wr := []) (wb := [(aD, .inr (2, [.ref aDc, .int D_writesDone, .int D_writesLeft, .int D_down])), (aDc, .inl (cI, 4096, .inl D_cells)), (aG, .inr (4, [.ref aD, .int G_logged]))]) (v := (some (.int r_8))) hx hb hml hown htc hN (c_X4_at l G cI cZ cJ aD aDc aG D_writesDone D_writesLeft D_down D_cells G_logged v2_1 (0 : Int32) hE_7) mw_361 mw_362 mw_363 mw_5 mw_364 hd_X4_at ⟨rfl, rfl⟩ ⟨Nat.le_of_ble_eq_true rfl, Nat.le_of_ble_eq_true rfl⟩ hK hP hD hS hA [0, 1, 2] [] [0, 1, 2] rfl rfl rfl rfl rfl (by decide) rfl rfl rfl 2 rfl rfl rfl rfl hl.1 rfl rfl (Nat.le_of_ble_eq_true rfl) dX4_lastOf_14 ⟨Nat.zero_le _, Nat.zero_le _⟩ (fun H locs hP hD hS => ?_)
        refine lv_iload_n hx hb dX4_lastOf_17 rfl (lv_at hl 1 rfl) ?_
        refine lv_icmp_ne (tgt := 23) hx hb dX4_lastOf_18 (by decide) (fun c_9 => ?_) (fun c_9 => ?_)
        · have hB_5 := it_f c_9 hB_5
          refine lv_iinc (v := (v2_1 + (-1 : Int32))) (lv' := [(2, .int (v2_1 + (-1 : Int32))), (0, .ref aG), (1, .int p0)]) hx hb dX4_lastOf_23 hl (k := 2) rfl rfl (by decide) rfl (fun ls hl => ?_)
          refine lv_goto (tgt := 7) hx hb dX4_lastOf_26 (by decide) ?_
          exact ih (v2_1 + (-1 : Int32)) hB_5 _ _ _ hP hD hS (lv_sub hl [1, 2, 0] rfl)
        · have hB_5 := it_t c_9 hB_5
          refine lv_iload_n hx hb dX4_lastOf_21 rfl (lv_at hl 2 rfl) ?_
          cases hB_5
          rw [hQQ]
          exact ct_iret hx hb hr hlocks hP hD hS dX4_lastOf_22
  exact lp_4 NN (G_logged - (1 : Int32)) hfin _ _ _ hP hD hS (lv_sub hl [1, 2, 0] rfl)
def m_X4_isFull (G_logged : Int32) : Option (Int32) :=
  ob1 (
    if G_logged < (128 : Int32) then (
      some ((0 : Int32))) else (
      some ((1 : Int32)))) fun s_1 =>
  ckz s_1 <|
  some (s_1)
abbrev rm_X4_isFull : Room := { frames := 0, cells := 0, slots := 0, locals := 0 }
theorem hd_X4_isFull : yX4_isFull.cls = RX4 ∧ yX4_isFull.cls ≠ "java/lang/invoke/MethodHandle" ∧ yX4_isFull.cls ≠ "java/lang/invoke/VarHandle" ∧ (parseMethodDescriptor yX4_isFull.desc).map (fun d => d.parameters.length) = some 0 := by decide +kernel
set_option maxHeartbeats 4000000 in
set_option maxRecDepth 100000 in
theorem c_X4_isFull (l : Launch) (G : va_G) (cI cZ cJ : ClassId) (aG aD : Nat) (G_logged : Int32)  {r : Int32} (hfin : m_X4_isFull G_logged = some (r)) : CT l yX4_isFull cX4_isFull 1 (some .boolean) rm_X4_isFull G (tyC cI cZ cJ) [.ref aG] [(aG, .inr (4, [.ref aD, .int G_logged]))] (some (.int r)) [(aG, .inr (4, [.ref aD, .int G_logged]))] := by
  refine CT.ofW (lvl := [(0, .ref aG)]) (by decide) (Nat.le_of_ble_eq_true rfl) rfl ?_
  intro p e s m args below meth c A ls QQ hQQ hx hb hml hr hlocks htc hN hown hK hA hP hD hS hl
  rw [m_X4_isFull] at hfin
  refine lv_aload_n hx hb dX4_isFull_0 rfl (lv_at hl 0 rfl) ?_
  refine va_get (D := G) (ci := 4) (v := .int G_logged) (C := RX4) (T := TX4) (N := 2) hx hb htc iX4 hown hK hP 0 rfl rfl 1 (by decide) (htc _ mw_73) (fun _ h9 => h9) rfl dX4_isFull_1 ?_
  refine lv_sipush (v := (128 : Int32)) hx hb dX4_isFull_4 (by decide) ?_
  obtain ⟨s_1, hJ_2, hfin⟩ := ob1_some hfin
  have kj_3 : ∀ (H : Heap) (locs : List Loc) (ls : Array Slot), va_P G classes [(aG, .inr (4, [.ref aD, .int G_logged]))] H → va_D A [(aG, .inr (4, [.ref aD, .int G_logged]))] → va_S A s.heap H locs → lv_has ls 1 [] → W p l e rm_X4_isFull s m args below meth c H locs 0 0 QQ (F0 m 15 ls [.int s_1]) := by
    intro H locs ls hP hD hS hl
    obtain ⟨hz_5, hfin⟩ := ckz_some hfin
    cases hfin
    rw [hQQ]
    exact ct_zret hx hb hr hlocks hz_5 hP hD hS dX4_isFull_15
  refine lv_icmp_lt (tgt := 14) hx hb dX4_isFull_7 (by decide) (fun c_4 => ?_) (fun c_4 => ?_)
  · have hJ_2 := it_t c_4 hJ_2
    refine lv_iconst (v := (0 : Int32)) hx hb dX4_isFull_14 (by decide) ?_
    cases hJ_2
    exact kj_3 _ _ _ hP hD hS (lv_sub hl [] rfl)
  · have hJ_2 := it_f c_4 hJ_2
    refine lv_iconst (v := (1 : Int32)) hx hb dX4_isFull_10 (by decide) ?_
    refine lv_goto (tgt := 15) hx hb dX4_isFull_11 (by decide) ?_
    cases hJ_2
    exact kj_3 _ _ _ hP hD hS (lv_sub hl [] rfl)
def m_X4_add (D_writesDone : Int32) (D_writesLeft : Int32) (D_down : Int32) (D_cells : Nat → Int32) (G_logged : Int32) (p0 : Int32) (p1 : Int32) (p2 : Int32) : Option (Int32 × Int32 × Int32 × Int32 × (Nat → Int32) × Int32) :=
  ob5 (m_X2_write D_writesDone D_writesLeft D_down D_cells (((1923 : Int32) + (G_logged * (4 : Int32))) + (0 : Int32)) p0) fun r_2 D_writesDone_3 D_writesLeft_4 D_down_5 D_cells_6 =>
  ob5 (
    if r_2 = 0 then (
      some ((0 : Int32), D_writesDone_3, D_writesLeft_4, D_down_5, D_cells_6)) else (
      ob5 (m_X2_write D_writesDone_3 D_writesLeft_4 D_down_5 D_cells_6 (((1923 : Int32) + (G_logged * (4 : Int32))) + (1 : Int32)) p1) fun r_16 D_writesDone_17 D_writesLeft_18 D_down_19 D_cells_20 =>
      if r_16 = 0 then (
        some ((0 : Int32), D_writesDone_17, D_writesLeft_18, D_down_19, D_cells_20)) else (
        ob5 (m_X2_write D_writesDone_17 D_writesLeft_18 D_down_19 D_cells_20 (((1923 : Int32) + (G_logged * (4 : Int32))) + (2 : Int32)) p2) fun r_23 D_writesDone_24 D_writesLeft_25 D_down_26 D_cells_27 =>
        if r_23 = 0 then (
          some ((0 : Int32), D_writesDone_24, D_writesLeft_25, D_down_26, D_cells_27)) else (
          ob1 (m_X2_epoch D_cells_27) fun r_30 =>
          ob5 (m_X2_write D_writesDone_24 D_writesLeft_25 D_down_26 D_cells_27 (((1923 : Int32) + (G_logged * (4 : Int32))) + (3 : Int32)) (r_30 + (1 : Int32))) fun r_32 D_writesDone_33 D_writesLeft_34 D_down_35 D_cells_36 =>
          if r_32 = 0 then (
            some ((0 : Int32), D_writesDone_33, D_writesLeft_34, D_down_35, D_cells_36)) else (
            some ((1 : Int32), D_writesDone_33, D_writesLeft_34, D_down_35, D_cells_36)))))) fun s_7 D_writesDone_8 D_writesLeft_9 D_down_10 D_cells_11 =>
  ob1 (
    if s_7 = 0 then (
      some (G_logged)) else (
      some ((G_logged + (1 : Int32))))) fun G_logged_38 =>
  ckz s_7 <|
  some (s_7, D_writesDone_8, D_writesLeft_9, D_down_10, D_cells_11, G_logged_38)
abbrev rm_X4_add : Room := { frames := 1, cells := 0, slots := 0, locals := 22 }
theorem hd_X4_add : yX4_add.cls = RX4 ∧ yX4_add.cls ≠ "java/lang/invoke/MethodHandle" ∧ yX4_add.cls ≠ "java/lang/invoke/VarHandle" ∧ (parseMethodDescriptor yX4_add.desc).map (fun d => d.parameters.length) = some 3 := by decide +kernel
set_option maxHeartbeats 4000000 in
set_option maxRecDepth 100000 in
theorem c_X4_add (l : Launch) (G : va_G) (cI cZ cJ : ClassId) (aD aDc aG : Nat) (D_writesDone : Int32) (D_writesLeft : Int32) (D_down : Int32) (D_cells : Nat → Int32) (G_logged : Int32) (p0 : Int32) (p1 : Int32) (p2 : Int32) {r : Int32} {o_D_writesDone : Int32} {o_D_writesLeft : Int32} {o_D_down : Int32} {o_D_cells : Nat → Int32} {o_G_logged : Int32} (hfin : m_X4_add D_writesDone D_writesLeft D_down D_cells G_logged p0 p1 p2 = some (r, o_D_writesDone, o_D_writesLeft, o_D_down, o_D_cells, o_G_logged)) : CT l yX4_add cX4_add 6 (some .boolean) rm_X4_add G (tyC cI cZ cJ) [.ref aG, .int p0, .int p1, .int p2] [(aD, .inr (2, [.ref aDc, .int D_writesDone, .int D_writesLeft, .int D_down])), (aDc, .inl (cI, 4096, .inl D_cells)), (aG, .inr (4, [.ref aD, .int G_logged]))] (some (.int r)) [(aD, .inr (2, [.ref aDc, .int o_D_writesDone, .int o_D_writesLeft, .int o_D_down])), (aDc, .inl (cI, 4096, .inl o_D_cells)), (aG, .inr (4, [.ref aD, .int o_G_logged]))] := by
  refine CT.ofW (lvl := [(0, .ref aG), (1, .int p0), (2, .int p1), (3, .int p2)]) (by decide) (Nat.le_of_ble_eq_true rfl) rfl ?_
  intro p e s m args below meth c A ls QQ hQQ hx hb hml hr hlocks htc hN hown hK hA hP hD hS hl
  rw [m_X4_add] at hfin
  refine lv_sipush (v := (1923 : Int32)) hx hb dX4_add_0 (by decide) ?_
  refine lv_aload_n hx hb dX4_add_3 rfl (lv_at hl 0 rfl) ?_
  refine va_get (D := G) (ci := 4) (v := .int G_logged) (C := RX4) (T := TX4) (N := 2) hx hb htc iX4 hown hK hP 2 rfl rfl 1 (by decide) (htc _ mw_73) (fun _ h9 => h9) rfl dX4_add_4 ?_
  refine lv_iconst (v := (4 : Int32)) hx hb dX4_add_7 (by decide) ?_
  refine lv_imul hx hb dX4_add_8 ?_
  refine lv_iadd hx hb dX4_add_9 ?_
  refine lv_istore (lv' := [(4, .int ((1923 : Int32) + (G_logged * (4 : Int32)))), (0, .ref aG), (1, .int p0), (2, .int p1), (3, .int p2)]) hx hb dX4_add_10 hl (by decide) rfl (fun ls hl => ?_)
  refine lv_aload_n hx hb dX4_add_12 rfl (lv_at hl 1 rfl) ?_
  refine va_get (D := G) (ci := 4) (v := .ref aD) (C := RX4) (T := TX4) (N := 2) hx hb htc iX4 hown hK hP 2 rfl rfl 0 (by decide) (htc _ mw_72) (fun _ h9 => h9) rfl dX4_add_13 ?_
  refine lv_iload hx hb dX4_add_16 (lv_at hl 0 rfl) ?_
  refine lv_iconst (v := (0 : Int32)) hx hb dX4_add_18 (by decide) ?_
  refine lv_iadd hx hb dX4_add_19 ?_
  refine lv_iload_n hx hb dX4_add_20 rfl (lv_at hl 2 rfl) ?_
  obtain ⟨r_2, D_writesDone_3, D_writesLeft_4, D_down_5, D_cells_6, hE_1, hfin⟩ := ob5_some hfin
  refine ctV (a := aD) (As := [.int (((1923 : Int32) + (G_logged * (4 : Int32))) + (0 : Int32)), .int p0]) (rest := []) (st1 := [.int r_2]) (wc := [(aD, .inr (2, [.ref aDc, .int D_writesDone, .int D_writesLeft, .int D_down])), (aDc, .inl (cI, 4096, .inl D_cells))]) (w1 := [(aD, .inr (2, [.ref aDc, .int D_writesDone_3, .int D_writesLeft_4, .int D_down_5])), (aDc, .inl (cI, 4096, .inl D_cells_6))]) (wr := [(aG, .inr (4, [.ref aD, .int G_logged]))]) (wb := [(aD, .inr (2, [.ref aDc, .int D_writesDone_3, .int D_writesLeft_4, .int D_down_5])), (aDc, .inl (cI, 4096, .inl D_cells_6)), (aG, .inr (4, [.ref aD, .int G_logged]))]) (v := (some (.int r_2))) hx hb hml hown htc hN (c_X2_write l G cI cZ cJ aD aDc D_writesDone D_writesLeft D_down D_cells (((1923 : Int32) + (G_logged * (4 : Int32))) + (0 : Int32)) p0 hE_1) mw_404 mw_405 mw_406 mw_3 mw_407 hd_X2_write ⟨rfl, rfl⟩ ⟨Nat.le_of_ble_eq_true rfl, Nat.le_of_ble_eq_true rfl⟩ hK hP hD hS hA [0, 1] [2] [1, 2, 0] rfl rfl rfl rfl rfl (by decide) rfl rfl rfl 0 rfl rfl rfl rfl hl.1 rfl rfl (Nat.le_of_ble_eq_true rfl) dX4_add_21 ⟨Nat.zero_le _, Nat.zero_le _⟩ (fun H locs hP hD hS => ?_)
  obtain ⟨s_7, D_writesDone_8, D_writesLeft_9, D_down_10, D_cells_11, hJ_12, hfin⟩ := ob5_some hfin
  have kj_13 : ∀ (H : Heap) (locs : List Loc) (ls : Array Slot), va_P G classes [(aD, .inr (2, [.ref aDc, .int D_writesDone_8, .int D_writesLeft_9, .int D_down_10])), (aDc, .inl (cI, 4096, .inl D_cells_11)), (aG, .inr (4, [.ref aD, .int G_logged]))] H → va_D A [(aD, .inr (2, [.ref aDc, .int D_writesDone_8, .int D_writesLeft_9, .int D_down_10])), (aDc, .inl (cI, 4096, .inl D_cells_11)), (aG, .inr (4, [.ref aD, .int G_logged]))] → va_S A s.heap H locs → lv_has ls 6 [(0, .ref aG)] → W p l e rm_X4_add s m args below meth c H locs 0 0 QQ (F0 m 85 ls [.int s_7]) := by
    intro H locs ls hP hD hS hl
    refine lv_istore (lv' := [(5, .int s_7), (0, .ref aG)]) hx hb dX4_add_85 hl (by decide) rfl (fun ls hl => ?_)
    refine lv_iload hx hb dX4_add_87 (lv_at hl 0 rfl) ?_
    obtain ⟨G_logged_38, hJ_39, hfin⟩ := ob1_some hfin
    have kj_40 : ∀ (H : Heap) (locs : List Loc) (ls : Array Slot), va_P G classes [(aD, .inr (2, [.ref aDc, .int D_writesDone_8, .int D_writesLeft_9, .int D_down_10])), (aDc, .inl (cI, 4096, .inl D_cells_11)), (aG, .inr (4, [.ref aD, .int G_logged_38]))] H → va_D A [(aD, .inr (2, [.ref aDc, .int D_writesDone_8, .int D_writesLeft_9, .int D_down_10])), (aDc, .inl (cI, 4096, .inl D_cells_11)), (aG, .inr (4, [.ref aD, .int G_logged_38]))] → va_S A s.heap H locs → lv_has ls 6 [(5, .int s_7)] → W p l e rm_X4_add s m args below meth c H locs 0 0 QQ (F0 m 102 ls []) := by
      intro H locs ls hP hD hS hl
      refine lv_iload hx hb dX4_add_102 (lv_at hl 0 rfl) ?_
      obtain ⟨hz_42, hfin⟩ := ckz_some hfin
      cases hfin
      rw [hQQ]
      exact ct_zret hx hb hr hlocks hz_42 hP hD hS dX4_add_104
    refine lv_if_eq (tgt := 102) hx hb dX4_add_89 (by decide) (fun c_41 => ?_) (fun c_41 => ?_)
    · have hJ_39 := it_t c_41 hJ_39
      cases hJ_39
      exact kj_40 _ _ _ hP hD hS (lv_sub hl [0] rfl)
    · have hJ_39 := it_f c_41 hJ_39
      refine lv_aload_n hx hb dX4_add_92 rfl (lv_at hl 1 rfl) ?_
      refine lv_dup hx hb dX4_add_93 rfl ?_
      refine va_get (D := G) (ci := 4) (v := .int G_logged) (C := RX4) (T := TX4) (N := 2) hx hb htc iX4 hown hK hP 2 rfl rfl 1 (by decide) (htc _ mw_73) (fun _ h9 => h9) rfl dX4_add_94 ?_
      refine lv_iconst (v := (1 : Int32)) hx hb dX4_add_97 (by decide) ?_
      refine lv_iadd hx hb dX4_add_98 ?_
      refine va_put (D := G) (ci := 4) (v := .int (G_logged + (1 : Int32))) (ty := .int) (C := RX4) (T := TX4) (N := 2) hx hb htc iX4 tyX4 tyX4_ok nmX4 hown hK hP hD hS 2 rfl rfl 1 (by decide) (htc _ mw_73) (fun _ h9 => h9) rfl (tyX4_ok 1 (by decide)) rfl rfl (Nat.le_of_ble_eq_true rfl) dX4_add_99 (fun H locs hP hD hS => ?_)
      have hP : va_P G classes [(aD, .inr (2, [.ref aDc, .int D_writesDone_8, .int D_writesLeft_9, .int D_down_10])), (aDc, .inl (cI, 4096, .inl D_cells_11)), (aG, .inr (4, [.ref aD, .int (G_logged + (1 : Int32))]))] H := hP
      have hD : va_D A [(aD, .inr (2, [.ref aDc, .int D_writesDone_8, .int D_writesLeft_9, .int D_down_10])), (aDc, .inl (cI, 4096, .inl D_cells_11)), (aG, .inr (4, [.ref aD, .int (G_logged + (1 : Int32))]))] := hD
      cases hJ_39
      exact kj_40 _ _ _ hP hD hS (lv_sub hl [0] rfl)
  refine lv_if_eq (tgt := 84) hx hb dX4_add_24 (by decide) (fun c_14 => ?_) (fun c_14 => ?_)
  · have hJ_12 := it_t c_14 hJ_12
    refine lv_iconst (v := (0 : Int32)) hx hb dX4_add_84 (by decide) ?_
    cases hJ_12
    exact kj_13 _ _ _ hP hD hS (lv_sub hl [1] rfl)
  · have hJ_12 := it_f c_14 hJ_12
    refine lv_aload_n hx hb dX4_add_27 rfl (lv_at hl 1 rfl) ?_
    refine va_get (D := G) (ci := 4) (v := .ref aD) (C := RX4) (T := TX4) (N := 2) hx hb htc iX4 hown hK hP 2 rfl rfl 0 (by decide) (htc _ mw_72) (fun _ h9 => h9) rfl dX4_add_28 ?_
    refine lv_iload hx hb dX4_add_31 (lv_at hl 0 rfl) ?_
    refine lv_iconst (v := (1 : Int32)) hx hb dX4_add_33 (by decide) ?_
    refine lv_iadd hx hb dX4_add_34 ?_
    refine lv_iload_n hx hb dX4_add_35 rfl (lv_at hl 3 rfl) ?_
    obtain ⟨r_16, D_writesDone_17, D_writesLeft_18, D_down_19, D_cells_20, hE_15, hJ_12⟩ := ob5_some hJ_12
    refine ctV (a := aD) (As := [.int (((1923 : Int32) + (G_logged * (4 : Int32))) + (1 : Int32)), .int p1]) (rest := []) (st1 := [.int r_16]) (wc := [(aD, .inr (2, [.ref aDc, .int D_writesDone_3, .int D_writesLeft_4, .int D_down_5])), (aDc, .inl (cI, 4096, .inl D_cells_6))]) (w1 := [(aD, .inr (2, [.ref aDc, .int D_writesDone_17, .int D_writesLeft_18, .int D_down_19])), (aDc, .inl (cI, 4096, .inl D_cells_20))]) (wr := [(aG, .inr (4, [.ref aD, .int G_logged]))]) (wb := [(aD, .inr (2, [.ref aDc, .int D_writesDone_17, .int D_writesLeft_18, .int D_down_19])), (aDc, .inl (cI, 4096, .inl D_cells_20)), (aG, .inr (4, [.ref aD, .int G_logged]))]) (v := (some (.int r_16))) hx hb hml hown htc hN (c_X2_write l G cI cZ cJ aD aDc D_writesDone_3 D_writesLeft_4 D_down_5 D_cells_6 (((1923 : Int32) + (G_logged * (4 : Int32))) + (1 : Int32)) p1 hE_15) mw_404 mw_405 mw_406 mw_3 mw_407 hd_X2_write ⟨rfl, rfl⟩ ⟨Nat.le_of_ble_eq_true rfl, Nat.le_of_ble_eq_true rfl⟩ hK hP hD hS hA [0, 1] [2] [1, 2, 0] rfl rfl rfl rfl rfl (by decide) rfl rfl rfl 0 rfl rfl rfl rfl hl.1 rfl rfl (Nat.le_of_ble_eq_true rfl) dX4_add_36 ⟨Nat.zero_le _, Nat.zero_le _⟩ (fun H locs hP hD hS => ?_)
    refine lv_if_eq (tgt := 84) hx hb dX4_add_39 (by decide) (fun c_21 => ?_) (fun c_21 => ?_)
    · have hJ_12 := it_t c_21 hJ_12
      refine lv_iconst (v := (0 : Int32)) hx hb dX4_add_84 (by decide) ?_
      cases hJ_12
      exact kj_13 _ _ _ hP hD hS (lv_sub hl [1] rfl)
    · have hJ_12 := it_f c_21 hJ_12
      refine lv_aload_n hx hb dX4_add_42 rfl (lv_at hl 1 rfl) ?_
      refine va_get (D := G) (ci := 4) (v := .ref aD) (C := RX4) (T := TX4) (N := 2) hx hb htc iX4 hown hK hP 2 rfl rfl 0 (by decide) (htc _ mw_72) (fun _ h9 => h9) rfl dX4_add_43 ?_
      refine lv_iload hx hb dX4_add_46 (lv_at hl 0 rfl) ?_
      refine lv_iconst (v := (2 : Int32)) hx hb dX4_add_48 (by decide) ?_
      refine lv_iadd hx hb dX4_add_49 ?_
      refine lv_iload_n hx hb dX4_add_50 rfl (lv_at hl 4 rfl) ?_
      obtain ⟨r_23, D_writesDone_24, D_writesLeft_25, D_down_26, D_cells_27, hE_22, hJ_12⟩ := ob5_some hJ_12
      refine ctV (a := aD) (As := [.int (((1923 : Int32) + (G_logged * (4 : Int32))) + (2 : Int32)), .int p2]) (rest := []) (st1 := [.int r_23]) (wc := [(aD, .inr (2, [.ref aDc, .int D_writesDone_17, .int D_writesLeft_18, .int D_down_19])), (aDc, .inl (cI, 4096, .inl D_cells_20))]) (w1 := [(aD, .inr (2, [.ref aDc, .int D_writesDone_24, .int D_writesLeft_25, .int D_down_26])), (aDc, .inl (cI, 4096, .inl D_cells_27))]) (wr := [(aG, .inr (4, [.ref aD, .int G_logged]))]) (wb := [(aD, .inr (2, [.ref aDc, .int D_writesDone_24, .int D_writesLeft_25, .int D_down_26])), (aDc, .inl (cI, 4096, .inl D_cells_27)), (aG, .inr (4, [.ref aD, .int G_logged]))]) (v := (some (.int r_23))) hx hb hml hown htc hN (c_X2_write l G cI cZ cJ aD aDc D_writesDone_17 D_writesLeft_18 D_down_19 D_cells_20 (((1923 : Int32) + (G_logged * (4 : Int32))) + (2 : Int32)) p2 hE_22) mw_404 mw_405 mw_406 mw_3 mw_407 hd_X2_write ⟨rfl, rfl⟩ ⟨Nat.le_of_ble_eq_true rfl, Nat.le_of_ble_eq_true rfl⟩ hK hP hD hS hA [0, 1] [2] [1, 2, 0] rfl rfl rfl rfl rfl (by decide) rfl rfl rfl 0 rfl rfl rfl rfl hl.1 rfl rfl (Nat.le_of_ble_eq_true rfl) dX4_add_51 ⟨Nat.zero_le _, Nat.zero_le _⟩ (fun H locs hP hD hS => ?_)
      refine lv_if_eq (tgt := 84) hx hb dX4_add_54 (by decide) (fun c_28 => ?_) (fun c_28 => ?_)
      · have hJ_12 := it_t c_28 hJ_12
        refine lv_iconst (v := (0 : Int32)) hx hb dX4_add_84 (by decide) ?_
        cases hJ_12
        exact kj_13 _ _ _ hP hD hS (lv_sub hl [1] rfl)
      · have hJ_12 := it_f c_28 hJ_12
        refine lv_aload_n hx hb dX4_add_57 rfl (lv_at hl 1 rfl) ?_
        refine va_get (D := G) (ci := 4) (v := .ref aD) (C := RX4) (T := TX4) (N := 2) hx hb htc iX4 hown hK hP 2 rfl rfl 0 (by decide) (htc _ mw_72) (fun _ h9 => h9) rfl dX4_add_58 ?_
        refine lv_iload hx hb dX4_add_61 (lv_at hl 0 rfl) ?_
        refine lv_iconst (v := (3 : Int32)) hx hb dX4_add_63 (by decide) ?_
        refine lv_iadd hx hb dX4_add_64 ?_
        refine lv_aload_n hx hb dX4_add_65 rfl (lv_at hl 1 rfl) ?_
        refine va_get (D := G) (ci := 4) (v := .ref aD) (C := RX4) (T := TX4) (N := 2) hx hb htc iX4 hown hK hP 2 rfl rfl 0 (by decide) (htc _ mw_72) (fun _ h9 => h9) rfl dX4_add_66 ?_
        obtain ⟨r_30, hE_29, hJ_12⟩ := ob1_some hJ_12
        refine ctV (a := aD) (As := []) (rest := [.int (((1923 : Int32) + (G_logged * (4 : Int32))) + (3 : Int32)), .ref aD]) (st1 := [.int r_30, .int (((1923 : Int32) + (G_logged * (4 : Int32))) + (3 : Int32)), .ref aD]) (wc := [(aD, .inr (2, [.ref aDc, .int D_writesDone_24, .int D_writesLeft_25, .int D_down_26])), (aDc, .inl (cI, 4096, .inl D_cells_27))]) (w1 := [(aD, .inr (2, [.ref aDc, .int D_writesDone_24, .int D_writesLeft_25, .int D_down_26])), (aDc, .inl (cI, 4096, .inl D_cells_27))]) (wr := [(aG, .inr (4, [.ref aD, .int G_logged]))]) (wb := [(aD, .inr (2, [.ref aDc, .int D_writesDone_24, .int D_writesLeft_25, .int D_down_26])), (aDc, .inl (cI, 4096, .inl D_cells_27)), (aG, .inr (4, [.ref aD, .int G_logged]))]) (v := (some (.int r_30))) hx hb hml hown htc hN (c_X2_epoch l G cI cZ cJ aD aDc D_writesDone_24 D_writesLeft_25 D_down_26 D_cells_27  hE_29) mw_408 mw_409 mw_410 mw_3 mw_411 hd_X2_epoch ⟨rfl, rfl⟩ ⟨Nat.le_of_ble_eq_true rfl, Nat.le_of_ble_eq_true rfl⟩ hK hP hD hS hA [0, 1] [2] [1, 2, 0] rfl rfl rfl rfl rfl (by decide) rfl rfl rfl 0 rfl rfl rfl rfl hl.1 rfl rfl (Nat.le_of_ble_eq_true rfl) dX4_add_69 ⟨Nat.zero_le _, Nat.zero_le _⟩ (fun H locs hP hD hS => ?_)
        refine lv_iconst (v := (1 : Int32)) hx hb dX4_add_72 (by decide) ?_
        refine lv_iadd hx hb dX4_add_73 ?_
        obtain ⟨r_32, D_writesDone_33, D_writesLeft_34, D_down_35, D_cells_36, hE_31, hJ_12⟩ := ob5_some hJ_12
        refine ctV (a := aD) (As := [.int (((1923 : Int32) + (G_logged * (4 : Int32))) + (3 : Int32)), .int (r_30 + (1 : Int32))]) (rest := []) (st1 := [.int r_32]) (wc := [(aD, .inr (2, [.ref aDc, .int D_writesDone_24, .int D_writesLeft_25, .int D_down_26])), (aDc, .inl (cI, 4096, .inl D_cells_27))]) (w1 := [(aD, .inr (2, [.ref aDc, .int D_writesDone_33, .int D_writesLeft_34, .int D_down_35])), (aDc, .inl (cI, 4096, .inl D_cells_36))]) (wr := [(aG, .inr (4, [.ref aD, .int G_logged]))]) (wb := [(aD, .inr (2, [.ref aDc, .int D_writesDone_33, .int D_writesLeft_34, .int D_down_35])), (aDc, .inl (cI, 4096, .inl D_cells_36)), (aG, .inr (4, [.ref aD, .int G_logged]))]) (v := (some (.int r_32))) hx hb hml hown htc hN (c_X2_write l G cI cZ cJ aD aDc D_writesDone_24 D_writesLeft_25 D_down_26 D_cells_27 (((1923 : Int32) + (G_logged * (4 : Int32))) + (3 : Int32)) (r_30 + (1 : Int32)) hE_31) mw_404 mw_405 mw_406 mw_3 mw_407 hd_X2_write ⟨rfl, rfl⟩ ⟨Nat.le_of_ble_eq_true rfl, Nat.le_of_ble_eq_true rfl⟩ hK hP hD hS hA [0, 1] [2] [1, 2, 0] rfl rfl rfl rfl rfl (by decide) rfl rfl rfl 0 rfl rfl rfl rfl hl.1 rfl rfl (Nat.le_of_ble_eq_true rfl) dX4_add_74 ⟨Nat.zero_le _, Nat.zero_le _⟩ (fun H locs hP hD hS => ?_)
        refine lv_if_eq (tgt := 84) hx hb dX4_add_77 (by decide) (fun c_37 => ?_) (fun c_37 => ?_)
        · have hJ_12 := it_t c_37 hJ_12
          refine lv_iconst (v := (0 : Int32)) hx hb dX4_add_84 (by decide) ?_
          cases hJ_12
          exact kj_13 _ _ _ hP hD hS (lv_sub hl [1] rfl)
        · have hJ_12 := it_f c_37 hJ_12
          refine lv_iconst (v := (1 : Int32)) hx hb dX4_add_80 (by decide) ?_
          refine lv_goto (tgt := 85) hx hb dX4_add_81 (by decide) ?_
          cases hJ_12
          exact kj_13 _ _ _ hP hD hS (lv_sub hl [1] rfl)
def m_X4_logged (G_logged : Int32) : Option (Int32) :=
  some (G_logged)
abbrev rm_X4_logged : Room := { frames := 0, cells := 0, slots := 0, locals := 0 }
theorem hd_X4_logged : yX4_logged.cls = RX4 ∧ yX4_logged.cls ≠ "java/lang/invoke/MethodHandle" ∧ yX4_logged.cls ≠ "java/lang/invoke/VarHandle" ∧ (parseMethodDescriptor yX4_logged.desc).map (fun d => d.parameters.length) = some 0 := by decide +kernel
set_option maxHeartbeats 4000000 in
set_option maxRecDepth 100000 in
theorem c_X4_logged (l : Launch) (G : va_G) (cI cZ cJ : ClassId) (aG aD : Nat) (G_logged : Int32)  {r : Int32} (hfin : m_X4_logged G_logged = some (r)) : CT l yX4_logged cX4_logged 1 (some .int) rm_X4_logged G (tyC cI cZ cJ) [.ref aG] [(aG, .inr (4, [.ref aD, .int G_logged]))] (some (.int r)) [(aG, .inr (4, [.ref aD, .int G_logged]))] := by
  refine CT.ofW (lvl := [(0, .ref aG)]) (by decide) (Nat.le_of_ble_eq_true rfl) rfl ?_
  intro p e s m args below meth c A ls QQ hQQ hx hb hml hr hlocks htc hN hown hK hA hP hD hS hl
  rw [m_X4_logged] at hfin
  refine lv_aload_n hx hb dX4_logged_0 rfl (lv_at hl 0 rfl) ?_
  refine va_get (D := G) (ci := 4) (v := .int G_logged) (C := RX4) (T := TX4) (N := 2) hx hb htc iX4 hown hK hP 0 rfl rfl 1 (by decide) (htc _ mw_73) (fun _ h9 => h9) rfl dX4_logged_1 ?_
  cases hfin
  rw [hQQ]
  exact ct_iret hx hb hr hlocks hP hD hS dX4_logged_4
def lp_X4_readAgain_15 (D_cells : Nat → Int32) (r_2 : Int32) : Nat → Int32 → Option (Int32)
  | 0, _ => none
  | n + 1, G_logged_3 =>
    if (128 : Int32) ≤ G_logged_3 then (
      some (G_logged_3)) else (
      ob1 (m_X4_at D_cells G_logged_3 (3 : Int32)) fun r_11 =>
      if r_11 = (r_2 + (1 : Int32)) then (
        lp_X4_readAgain_15 D_cells r_2 n (G_logged_3 + (1 : Int32))) else (
        some (G_logged_3)))
def m_X4_readAgain (D_cells : Nat → Int32) (G_logged : Int32) : Option (Int32) :=
  ob1 (m_X2_epoch D_cells) fun r_2 =>
  ob1 (lp_X4_readAgain_15 D_cells r_2 NN (0 : Int32)) fun G_logged_8 =>
  some (G_logged_8)
abbrev rm_X4_readAgain : Room := { frames := 2, cells := 0, slots := 0, locals := 43 }
theorem hd_X4_readAgain : yX4_readAgain.cls = RX4 ∧ yX4_readAgain.cls ≠ "java/lang/invoke/MethodHandle" ∧ yX4_readAgain.cls ≠ "java/lang/invoke/VarHandle" ∧ (parseMethodDescriptor yX4_readAgain.desc).map (fun d => d.parameters.length) = some 0 := by decide +kernel
set_option maxHeartbeats 4000000 in
set_option maxRecDepth 100000 in
theorem c_X4_readAgain (l : Launch) (G : va_G) (cI cZ cJ : ClassId) (aD aDc aG : Nat) (D_writesDone : Int32) (D_writesLeft : Int32) (D_down : Int32) (D_cells : Nat → Int32) (G_logged : Int32)  {o_G_logged : Int32} (hfin : m_X4_readAgain D_cells G_logged = some (o_G_logged)) : CT l yX4_readAgain cX4_readAgain 2 none rm_X4_readAgain G (tyC cI cZ cJ) [.ref aG] [(aD, .inr (2, [.ref aDc, .int D_writesDone, .int D_writesLeft, .int D_down])), (aDc, .inl (cI, 4096, .inl D_cells)), (aG, .inr (4, [.ref aD, .int G_logged]))] none [(aD, .inr (2, [.ref aDc, .int D_writesDone, .int D_writesLeft, .int D_down])), (aDc, .inl (cI, 4096, .inl D_cells)), (aG, .inr (4, [.ref aD, .int o_G_logged]))] := by
  refine CT.ofW (lvl := [(0, .ref aG)]) (by decide) (Nat.le_of_ble_eq_true rfl) rfl ?_
  intro p e s m args below meth c A ls QQ hQQ hx hb hml hr hlocks htc hN hown hK hA hP hD hS hl
  rw [m_X4_readAgain] at hfin
  refine lv_aload_n hx hb dX4_readAgain_0 rfl (lv_at hl 0 rfl) ?_
  refine va_get (D := G) (ci := 4) (v := .ref aD) (C := RX4) (T := TX4) (N := 2) hx hb htc iX4 hown hK hP 2 rfl rfl 0 (by decide) (htc _ mw_72) (fun _ h9 => h9) rfl dX4_readAgain_1 ?_
  obtain ⟨r_2, hE_1, hfin⟩ := ob1_some hfin
  refine ctV (a := aD) (As := []) (rest := []) (st1 := [.int r_2]) (wc := [(aD, .inr (2, [.ref aDc, .int D_writesDone, .int D_writesLeft, .int D_down])), (aDc, .inl (cI, 4096, .inl D_cells))]) (w1 := [(aD, .inr (2, [.ref aDc, .int D_writesDone, .int D_writesLeft, .int D_down])), (aDc, .inl (cI, 4096, .inl D_cells))]) (wr := [(aG, .inr (4, [.ref aD, .int G_logged]))]) (wb := [(aD, .inr (2, [.ref aDc, .int D_writesDone, .int D_writesLeft, .int D_down])), (aDc, .inl (cI, 4096, .inl D_cells)), (aG, .inr (4, [.ref aD, .int G_logged]))]) (v := (some (.int r_2))) hx hb hml hown htc hN (c_X2_epoch l G cI cZ cJ aD aDc D_writesDone D_writesLeft D_down D_cells  hE_1) mw_408 mw_409 mw_410 mw_3 mw_411 hd_X2_epoch ⟨rfl, rfl⟩ ⟨Nat.le_of_ble_eq_true rfl, Nat.le_of_ble_eq_true rfl⟩ hK hP hD hS hA [0, 1] [2] [1, 2, 0] rfl rfl rfl rfl rfl (by decide) rfl rfl rfl 0 rfl rfl rfl rfl hl.1 rfl rfl (Nat.le_of_ble_eq_true rfl) dX4_readAgain_4 ⟨Nat.zero_le _, Nat.zero_le _⟩ (fun H locs hP hD hS => ?_)
  refine lv_iconst (v := (1 : Int32)) hx hb dX4_readAgain_7 (by decide) ?_
  refine lv_iadd hx hb dX4_readAgain_8 ?_
  refine lv_istore_n (lv' := [(1, .int (r_2 + (1 : Int32))), (0, .ref aG)]) hx hb dX4_readAgain_9 rfl hl (by decide) rfl (fun ls hl => ?_)
  refine lv_aload_n hx hb dX4_readAgain_10 rfl (lv_at hl 1 rfl) ?_
  refine lv_iconst (v := (0 : Int32)) hx hb dX4_readAgain_11 (by decide) ?_
  refine va_put (D := G) (ci := 4) (v := .int (0 : Int32)) (ty := .int) (C := RX4) (T := TX4) (N := 2) hx hb htc iX4 tyX4 tyX4_ok nmX4 hown hK hP hD hS 2 rfl rfl 1 (by decide) (htc _ mw_73) (fun _ h9 => h9) rfl (tyX4_ok 1 (by decide)) rfl rfl (Nat.le_of_ble_eq_true rfl) dX4_readAgain_12 (fun H locs hP hD hS => ?_)
  have hP : va_P G classes [(aD, .inr (2, [.ref aDc, .int D_writesDone, .int D_writesLeft, .int D_down])), (aDc, .inl (cI, 4096, .inl D_cells)), (aG, .inr (4, [.ref aD, .int (0 : Int32)]))] H := hP
  have hD : va_D A [(aD, .inr (2, [.ref aDc, .int D_writesDone, .int D_writesLeft, .int D_down])), (aDc, .inl (cI, 4096, .inl D_cells)), (aG, .inr (4, [.ref aD, .int (0 : Int32)]))] := hD
  obtain ⟨G_logged_8, hL_4, hfin⟩ := ob1_some hfin
  have kx_5 : ∀ (H : Heap) (locs : List Loc) (ls : Array Slot), va_P G classes [(aD, .inr (2, [.ref aDc, .int D_writesDone, .int D_writesLeft, .int D_down])), (aDc, .inl (cI, 4096, .inl D_cells)), (aG, .inr (4, [.ref aD, .int G_logged_8]))] H → va_D A [(aD, .inr (2, [.ref aDc, .int D_writesDone, .int D_writesLeft, .int D_down])), (aDc, .inl (cI, 4096, .inl D_cells)), (aG, .inr (4, [.ref aD, .int G_logged_8]))] → va_S A s.heap H locs → lv_has ls 2 [] → W p l e rm_X4_readAgain s m args below meth c H locs 0 0 QQ (F0 m 51 ls []) := by
    intro H locs ls hP hD hS hl
    cases hfin
    rw [hQQ]
    exact ct_vret hx hb hr hlocks hP hD hS dX4_readAgain_51
  have lp_6 : ∀ (n : Nat) (G_logged_3 : Int32), lp_X4_readAgain_15 D_cells r_2 n G_logged_3 = some (G_logged_8) → ∀ (H : Heap) (locs : List Loc) (ls : Array Slot), va_P G classes [(aD, .inr (2, [.ref aDc, .int D_writesDone, .int D_writesLeft, .int D_down])), (aDc, .inl (cI, 4096, .inl D_cells)), (aG, .inr (4, [.ref aD, .int G_logged_3]))] H → va_D A [(aD, .inr (2, [.ref aDc, .int D_writesDone, .int D_writesLeft, .int D_down])), (aDc, .inl (cI, 4096, .inl D_cells)), (aG, .inr (4, [.ref aD, .int G_logged_3]))] → va_S A s.heap H locs → lv_has ls 2 [(0, .ref aG), (1, .int (r_2 + (1 : Int32)))] → W p l e rm_X4_readAgain s m args below meth c H locs 0 0 QQ (F0 m 15 ls []) := by
    intro n
    induction n with
    | zero =>
      intro G_logged_3 hB_7
      exact absurd hB_7 (by rw [lp_X4_readAgain_15]; exact fun h9 => nomatch h9)
    | succ n ih =>
      intro G_logged_3 hB_7 H locs ls hP hD hS hl
      rw [lp_X4_readAgain_15] at hB_7
      refine lv_aload_n hx hb dX4_readAgain_15 rfl (lv_at hl 0 rfl) ?_
      refine va_get (D := G) (ci := 4) (v := .int G_logged_3) (C := RX4) (T := TX4) (N := 2) hx hb htc iX4 hown hK hP 2 rfl rfl 1 (by decide) (htc _ mw_73) (fun _ h9 => h9) rfl dX4_readAgain_16 ?_
      refine lv_sipush (v := (128 : Int32)) hx hb dX4_readAgain_19 (by decide) ?_
      refine lv_icmp_ge (tgt := 51) hx hb dX4_readAgain_22 (by decide) (fun c_9 => ?_) (fun c_9 => ?_)
      · have hB_7 := it_t c_9 hB_7
        cases hB_7
        exact kx_5 _ _ _ hP hD hS (lv_sub hl [] rfl)
      · have hB_7 := it_f c_9 hB_7
        refine lv_aload_n hx hb dX4_readAgain_25 rfl (lv_at hl 0 rfl) ?_
        refine lv_aload_n hx hb dX4_readAgain_26 rfl (lv_at hl 0 rfl) ?_
        refine va_get (D := G) (ci := 4) (v := .int G_logged_3) (C := RX4) (T := TX4) (N := 2) hx hb htc iX4 hown hK hP 2 rfl rfl 1 (by decide) (htc _ mw_73) (fun _ h9 => h9) rfl dX4_readAgain_27 ?_
        refine lv_iconst (v := (3 : Int32)) hx hb dX4_readAgain_30 (by decide) ?_
        obtain ⟨r_11, hE_10, hB_7⟩ := ob1_some hB_7
        refine ctV (a := aG) (As := [.int G_logged_3, .int (3 : Int32)]) (rest := []) (st1 := [.int r_11]) (wc := [(aD, .inr (2, [.ref aDc, .int D_writesDone, .int D_writesLeft, .int D_down])), (aDc, .inl (cI, 4096, .inl D_cells)), (aG, .inr (4, [.ref aD, .int G_logged_3]))]) (w1 := [(aD, .inr (2, [.ref aDc, .int D_writesDone, .int D_writesLeft, .int D_down])), (aDc, .inl (cI, 4096, .inl D_cells)), (aG, .inr (4, [.ref aD, .int G_logged_3]))]) (wr := []) (wb := [(aD, .inr (2, [.ref aDc, .int D_writesDone, .int D_writesLeft, .int D_down])), (aDc, .inl (cI, 4096, .inl D_cells)), (aG, .inr (4, [.ref aD, .int G_logged_3]))]) (v := (some (.int r_11))) hx hb hml hown htc hN (c_X4_at l G cI cZ cJ aD aDc aG D_writesDone D_writesLeft D_down D_cells G_logged_3 G_logged_3 (3 : Int32) hE_10) mw_361 mw_362 mw_363 mw_5 mw_364 hd_X4_at ⟨rfl, rfl⟩ ⟨Nat.le_of_ble_eq_true rfl, Nat.le_of_ble_eq_true rfl⟩ hK hP hD hS hA [0, 1, 2] [] [0, 1, 2] rfl rfl rfl rfl rfl (by decide) rfl rfl rfl 2 rfl rfl rfl rfl hl.1 rfl rfl (Nat.le_of_ble_eq_true rfl) dX4_readAgain_31 ⟨Nat.zero_le _, Nat.zero_le _⟩ (fun H locs hP hD hS => ?_)
        refine lv_iload_n hx hb dX4_readAgain_34 rfl (lv_at hl 1 rfl) ?_
        refine lv_icmp_ne (tgt := 51) hx hb dX4_readAgain_35 (by decide) (fun c_12 => ?_) (fun c_12 => ?_)
        · have hB_7 := it_f c_12 hB_7
          cases hB_7
          exact kx_5 _ _ _ hP hD hS (lv_sub hl [] rfl)
        · have hB_7 := it_t c_12 hB_7
          refine lv_aload_n hx hb dX4_readAgain_38 rfl (lv_at hl 0 rfl) ?_
          refine lv_dup hx hb dX4_readAgain_39 rfl ?_
          refine va_get (D := G) (ci := 4) (v := .int G_logged_3) (C := RX4) (T := TX4) (N := 2) hx hb htc iX4 hown hK hP 2 rfl rfl 1 (by decide) (htc _ mw_73) (fun _ h9 => h9) rfl dX4_readAgain_40 ?_
          refine lv_iconst (v := (1 : Int32)) hx hb dX4_readAgain_43 (by decide) ?_
          refine lv_iadd hx hb dX4_readAgain_44 ?_
          refine va_put (D := G) (ci := 4) (v := .int (G_logged_3 + (1 : Int32))) (ty := .int) (C := RX4) (T := TX4) (N := 2) hx hb htc iX4 tyX4 tyX4_ok nmX4 hown hK hP hD hS 2 rfl rfl 1 (by decide) (htc _ mw_73) (fun _ h9 => h9) rfl (tyX4_ok 1 (by decide)) rfl rfl (Nat.le_of_ble_eq_true rfl) dX4_readAgain_45 (fun H locs hP hD hS => ?_)
          have hP : va_P G classes [(aD, .inr (2, [.ref aDc, .int D_writesDone, .int D_writesLeft, .int D_down])), (aDc, .inl (cI, 4096, .inl D_cells)), (aG, .inr (4, [.ref aD, .int (G_logged_3 + (1 : Int32))]))] H := hP
          have hD : va_D A [(aD, .inr (2, [.ref aDc, .int D_writesDone, .int D_writesLeft, .int D_down])), (aDc, .inl (cI, 4096, .inl D_cells)), (aG, .inr (4, [.ref aD, .int (G_logged_3 + (1 : Int32))]))] := hD
          refine lv_goto (tgt := 15) hx hb dX4_readAgain_48 (by decide) ?_
          exact ih (G_logged_3 + (1 : Int32)) hB_7 _ _ _ hP hD hS (lv_sub hl [0, 1] rfl)
  exact lp_6 NN (0 : Int32) hL_4 _ _ _ hP hD hS (lv_sub hl [1, 0] rfl)
def lp_X4_pointsOf_4 (D_cells : Nat → Int32) (G_logged : Int32) (p0 : Int32) : Nat → Int32 → Int32 → Option (Int32)
  | 0, _, _ => none
  | n + 1, v2_1, v3_2 =>
    if G_logged ≤ v3_2 then (
      some (v2_1)) else (
      ob1 (m_X4_at D_cells v3_2 (0 : Int32)) fun r_10 =>
      ob1 (
        if r_10 = p0 then (
          some ((v2_1 + (1 : Int32)))) else (
          some (v2_1))) fun v2_11 =>
      lp_X4_pointsOf_4 D_cells G_logged p0 n v2_11 (v3_2 + (1 : Int32)))
def m_X4_pointsOf (D_cells : Nat → Int32) (G_logged : Int32) (p0 : Int32) : Option (Int32) :=
  ob1 (lp_X4_pointsOf_4 D_cells G_logged p0 NN (0 : Int32) (0 : Int32)) fun v2_7 =>
  some (v2_7)
abbrev rm_X4_pointsOf : Room := { frames := 2, cells := 0, slots := 0, locals := 43 }
theorem hd_X4_pointsOf : yX4_pointsOf.cls = RX4 ∧ yX4_pointsOf.cls ≠ "java/lang/invoke/MethodHandle" ∧ yX4_pointsOf.cls ≠ "java/lang/invoke/VarHandle" ∧ (parseMethodDescriptor yX4_pointsOf.desc).map (fun d => d.parameters.length) = some 1 := by decide +kernel
set_option maxHeartbeats 4000000 in
set_option maxRecDepth 100000 in
theorem c_X4_pointsOf (l : Launch) (G : va_G) (cI cZ cJ : ClassId) (aD aDc aG : Nat) (D_writesDone : Int32) (D_writesLeft : Int32) (D_down : Int32) (D_cells : Nat → Int32) (G_logged : Int32) (p0 : Int32) {r : Int32} (hfin : m_X4_pointsOf D_cells G_logged p0 = some (r)) : CT l yX4_pointsOf cX4_pointsOf 4 (some .int) rm_X4_pointsOf G (tyC cI cZ cJ) [.ref aG, .int p0] [(aD, .inr (2, [.ref aDc, .int D_writesDone, .int D_writesLeft, .int D_down])), (aDc, .inl (cI, 4096, .inl D_cells)), (aG, .inr (4, [.ref aD, .int G_logged]))] (some (.int r)) [(aD, .inr (2, [.ref aDc, .int D_writesDone, .int D_writesLeft, .int D_down])), (aDc, .inl (cI, 4096, .inl D_cells)), (aG, .inr (4, [.ref aD, .int G_logged]))] := by
  refine CT.ofW (lvl := [(0, .ref aG), (1, .int p0)]) (by decide) (Nat.le_of_ble_eq_true rfl) rfl ?_
  intro p e s m args below meth c A ls QQ hQQ hx hb hml hr hlocks htc hN hown hK hA hP hD hS hl
  rw [m_X4_pointsOf] at hfin
  refine lv_iconst (v := (0 : Int32)) hx hb dX4_pointsOf_0 (by decide) ?_
  refine lv_istore_n (lv' := [(2, .int (0 : Int32)), (0, .ref aG), (1, .int p0)]) hx hb dX4_pointsOf_1 rfl hl (by decide) rfl (fun ls hl => ?_)
  refine lv_iconst (v := (0 : Int32)) hx hb dX4_pointsOf_2 (by decide) ?_
  refine lv_istore_n (lv' := [(3, .int (0 : Int32)), (2, .int (0 : Int32)), (0, .ref aG), (1, .int p0)]) hx hb dX4_pointsOf_3 rfl hl (by decide) rfl (fun ls hl => ?_)
  obtain ⟨v2_7, hL_3, hfin⟩ := ob1_some hfin
  have kx_4 : ∀ (H : Heap) (locs : List Loc) (ls : Array Slot), va_P G classes [(aD, .inr (2, [.ref aDc, .int D_writesDone, .int D_writesLeft, .int D_down])), (aDc, .inl (cI, 4096, .inl D_cells)), (aG, .inr (4, [.ref aD, .int G_logged]))] H → va_D A [(aD, .inr (2, [.ref aDc, .int D_writesDone, .int D_writesLeft, .int D_down])), (aDc, .inl (cI, 4096, .inl D_cells)), (aG, .inr (4, [.ref aD, .int G_logged]))] → va_S A s.heap H locs → lv_has ls 4 [(2, .int v2_7)] → W p l e rm_X4_pointsOf s m args below meth c H locs 0 0 QQ (F0 m 31 ls []) := by
    intro H locs ls hP hD hS hl
    refine lv_iload_n hx hb dX4_pointsOf_31 rfl (lv_at hl 0 rfl) ?_
    cases hfin
    rw [hQQ]
    exact ct_iret hx hb hr hlocks hP hD hS dX4_pointsOf_32
  have lp_5 : ∀ (n : Nat) (v2_1 : Int32) (v3_2 : Int32), lp_X4_pointsOf_4 D_cells G_logged p0 n v2_1 v3_2 = some (v2_7) → ∀ (H : Heap) (locs : List Loc) (ls : Array Slot), va_P G classes [(aD, .inr (2, [.ref aDc, .int D_writesDone, .int D_writesLeft, .int D_down])), (aDc, .inl (cI, 4096, .inl D_cells)), (aG, .inr (4, [.ref aD, .int G_logged]))] H → va_D A [(aD, .inr (2, [.ref aDc, .int D_writesDone, .int D_writesLeft, .int D_down])), (aDc, .inl (cI, 4096, .inl D_cells)), (aG, .inr (4, [.ref aD, .int G_logged]))] → va_S A s.heap H locs → lv_has ls 4 [(0, .ref aG), (1, .int p0), (2, .int v2_1), (3, .int v3_2)] → W p l e rm_X4_pointsOf s m args below meth c H locs 0 0 QQ (F0 m 4 ls []) := by
    intro n
    induction n with
    | zero =>
      intro v2_1 v3_2 hB_6
      exact absurd hB_6 (by rw [lp_X4_pointsOf_4]; exact fun h9 => nomatch h9)
    | succ n ih =>
      intro v2_1 v3_2 hB_6 H locs ls hP hD hS hl
      rw [lp_X4_pointsOf_4] at hB_6
      refine lv_iload_n hx hb dX4_pointsOf_4 rfl (lv_at hl 3 rfl) ?_
      refine lv_aload_n hx hb dX4_pointsOf_5 rfl (lv_at hl 0 rfl) ?_
      refine va_get (D := G) (ci := 4) (v := .int G_logged) (C := RX4) (T := TX4) (N := 2) hx hb htc iX4 hown hK hP 2 rfl rfl 1 (by decide) (htc _ mw_73) (fun _ h9 => h9) rfl dX4_pointsOf_6 ?_
      refine lv_icmp_ge (tgt := 31) hx hb dX4_pointsOf_9 (by decide) (fun c_8 => ?_) (fun c_8 => ?_)
      · have hB_6 := it_t c_8 hB_6
        cases hB_6
        exact kx_4 _ _ _ hP hD hS (lv_sub hl [2] rfl)
      · have hB_6 := it_f c_8 hB_6
        refine lv_aload_n hx hb dX4_pointsOf_12 rfl (lv_at hl 0 rfl) ?_
        refine lv_iload_n hx hb dX4_pointsOf_13 rfl (lv_at hl 3 rfl) ?_
        refine lv_iconst (v := (0 : Int32)) hx hb dX4_pointsOf_14 (by decide) ?_
        obtain ⟨r_10, hE_9, hB_6⟩ := ob1_some hB_6
        refine ctV (a := aG) (As := [.int v3_2, .int (0 : Int32)]) (rest := []) (st1 := [.int r_10]) (wc := [(aD, .inr (2, [.ref aDc, .int D_writesDone, .int D_writesLeft, .int D_down])), (aDc, .inl (cI, 4096, .inl D_cells)), (aG, .inr (4, [.ref aD, .int G_logged]))]) (w1 := [(aD, .inr (2, [.ref aDc, .int D_writesDone, .int D_writesLeft, .int D_down])), (aDc, .inl (cI, 4096, .inl D_cells)), (aG, .inr (4, [.ref aD, .int G_logged]))]) (wr := []) (wb := [(aD, .inr (2, [.ref aDc, .int D_writesDone, .int D_writesLeft, .int D_down])), (aDc, .inl (cI, 4096, .inl D_cells)), (aG, .inr (4, [.ref aD, .int G_logged]))]) (v := (some (.int r_10))) hx hb hml hown htc hN (c_X4_at l G cI cZ cJ aD aDc aG D_writesDone D_writesLeft D_down D_cells G_logged v3_2 (0 : Int32) hE_9) mw_361 mw_362 mw_363 mw_5 mw_364 hd_X4_at ⟨rfl, rfl⟩ ⟨Nat.le_of_ble_eq_true rfl, Nat.le_of_ble_eq_true rfl⟩ hK hP hD hS hA [0, 1, 2] [] [0, 1, 2] rfl rfl rfl rfl rfl (by decide) rfl rfl rfl 2 rfl rfl rfl rfl hl.1 rfl rfl (Nat.le_of_ble_eq_true rfl) dX4_pointsOf_15 ⟨Nat.zero_le _, Nat.zero_le _⟩ (fun H locs hP hD hS => ?_)
        refine lv_iload_n hx hb dX4_pointsOf_18 rfl (lv_at hl 1 rfl) ?_
        obtain ⟨v2_11, hJ_12, hB_6⟩ := ob1_some hB_6
        have kj_13 : ∀ (H : Heap) (locs : List Loc) (ls : Array Slot), va_P G classes [(aD, .inr (2, [.ref aDc, .int D_writesDone, .int D_writesLeft, .int D_down])), (aDc, .inl (cI, 4096, .inl D_cells)), (aG, .inr (4, [.ref aD, .int G_logged]))] H → va_D A [(aD, .inr (2, [.ref aDc, .int D_writesDone, .int D_writesLeft, .int D_down])), (aDc, .inl (cI, 4096, .inl D_cells)), (aG, .inr (4, [.ref aD, .int G_logged]))] → va_S A s.heap H locs → lv_has ls 4 [(0, .ref aG), (1, .int p0), (2, .int v2_11), (3, .int v3_2)] → W p l e rm_X4_pointsOf s m args below meth c H locs 0 0 QQ (F0 m 25 ls []) := by
          intro H locs ls hP hD hS hl
          refine lv_iinc (v := (v3_2 + (1 : Int32))) (lv' := [(3, .int (v3_2 + (1 : Int32))), (0, .ref aG), (1, .int p0), (2, .int v2_11)]) hx hb dX4_pointsOf_25 hl (k := 3) rfl rfl (by decide) rfl (fun ls hl => ?_)
          refine lv_goto (tgt := 4) hx hb dX4_pointsOf_28 (by decide) ?_
          exact ih v2_11 (v3_2 + (1 : Int32)) hB_6 _ _ _ hP hD hS (lv_sub hl [1, 2, 3, 0] rfl)
        refine lv_icmp_ne (tgt := 25) hx hb dX4_pointsOf_19 (by decide) (fun c_14 => ?_) (fun c_14 => ?_)
        · have hJ_12 := it_f c_14 hJ_12
          cases hJ_12
          exact kj_13 _ _ _ hP hD hS (lv_sub hl [0, 1, 2, 3] rfl)
        · have hJ_12 := it_t c_14 hJ_12
          refine lv_iinc (v := (v2_1 + (1 : Int32))) (lv' := [(2, .int (v2_1 + (1 : Int32))), (0, .ref aG), (1, .int p0), (3, .int v3_2)]) hx hb dX4_pointsOf_22 hl (k := 2) rfl rfl (by decide) rfl (fun ls hl => ?_)
          cases hJ_12
          exact kj_13 _ _ _ hP hD hS (lv_sub hl [1, 2, 0, 3] rfl)
  exact lp_5 NN (0 : Int32) (0 : Int32) hL_3 _ _ _ hP hD hS (lv_sub hl [2, 3, 1, 0] rfl)
