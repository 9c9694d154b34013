theorem dX3_chunks_0 : decode cX3_chunks 0 = .ok (.aload_n 0, 1) := by decide +kernel
theorem dX3_chunks_1 : decode cX3_chunks 1 = .ok (.getfield 9, 3) := by decide +kernel
theorem dX3_chunks_4 : decode cX3_chunks 4 = .ok (.aload_n 0, 1) := by decide +kernel
theorem dX3_chunks_5 : decode cX3_chunks 5 = .ok (.getfield 9, 3) := by decide +kernel
theorem dX3_chunks_8 : decode cX3_chunks 8 = .ok (.invokevirtual 15, 3) := by decide +kernel
theorem dX3_chunks_11 : decode cX3_chunks 11 = .ok (.invokestatic 21, 3) := by decide +kernel
theorem dX3_chunks_14 : decode cX3_chunks 14 = .ok (.invokevirtual 25, 3) := by decide +kernel
theorem dX3_chunks_17 : decode cX3_chunks 17 = .ok (.ireturn, 1) := by decide +kernel
theorem dX3_at_0 : decode cX3_at 0 = .ok (.aload_n 0, 1) := by decide +kernel
theorem dX3_at_1 : decode cX3_at 1 = .ok (.getfield 9, 3) := by decide +kernel
theorem dX3_at_4 : decode cX3_at 4 = .ok (.aload_n 0, 1) := by decide +kernel
theorem dX3_at_5 : decode cX3_at 5 = .ok (.getfield 9, 3) := by decide +kernel
theorem dX3_at_8 : decode cX3_at 8 = .ok (.invokevirtual 15, 3) := by decide +kernel
theorem dX3_at_11 : decode cX3_at 11 = .ok (.invokestatic 21, 3) := by decide +kernel
theorem dX3_at_14 : decode cX3_at 14 = .ok (.iconst 1, 1) := by decide +kernel
theorem dX3_at_15 : decode cX3_at 15 = .ok (.iadd, 1) := by decide +kernel
theorem dX3_at_16 : decode cX3_at 16 = .ok (.iload_n 1, 1) := by decide +kernel
theorem dX3_at_17 : decode cX3_at 17 = .ok (.bipush 10, 2) := by decide +kernel
theorem dX3_at_19 : decode cX3_at 19 = .ok (.imul, 1) := by decide +kernel
theorem dX3_at_20 : decode cX3_at 20 = .ok (.iadd, 1) := by decide +kernel
theorem dX3_at_21 : decode cX3_at 21 = .ok (.iload_n 2, 1) := by decide +kernel
theorem dX3_at_22 : decode cX3_at 22 = .ok (.iadd, 1) := by decide +kernel
theorem dX3_at_23 : decode cX3_at 23 = .ok (.invokevirtual 25, 3) := by decide +kernel
theorem dX3_at_26 : decode cX3_at 26 = .ok (.ireturn, 1) := by decide +kernel
theorem dX3_firstOf_0 : decode cX3_firstOf 0 = .ok (.aload_n 0, 1) := by decide +kernel
theorem dX3_firstOf_1 : decode cX3_firstOf 1 = .ok (.invokevirtual 28, 3) := by decide +kernel
theorem dX3_firstOf_4 : decode cX3_firstOf 4 = .ok (.istore_n 2, 1) := by decide +kernel
theorem dX3_firstOf_5 : decode cX3_firstOf 5 = .ok (.iconst 0, 1) := by decide +kernel
theorem dX3_firstOf_6 : decode cX3_firstOf 6 = .ok (.istore_n 3, 1) := by decide +kernel
theorem dX3_firstOf_7 : decode cX3_firstOf 7 = .ok (.iload_n 3, 1) := by decide +kernel
theorem dX3_firstOf_8 : decode cX3_firstOf 8 = .ok (.iload_n 2, 1) := by decide +kernel
theorem dX3_firstOf_9 : decode cX3_firstOf 9 = .ok (.if_icmp .ge 21, 3) := by decide +kernel
theorem dX3_firstOf_12 : decode cX3_firstOf 12 = .ok (.aload_n 0, 1) := by decide +kernel
theorem dX3_firstOf_13 : decode cX3_firstOf 13 = .ok (.iload_n 3, 1) := by decide +kernel
theorem dX3_firstOf_14 : decode cX3_firstOf 14 = .ok (.iconst 0, 1) := by decide +kernel
theorem dX3_firstOf_15 : decode cX3_firstOf 15 = .ok (.invokevirtual 31, 3) := by decide +kernel
theorem dX3_firstOf_18 : decode cX3_firstOf 18 = .ok (.iload_n 1, 1) := by decide +kernel
theorem dX3_firstOf_19 : decode cX3_firstOf 19 = .ok (.if_icmp .lt 5, 3) := by decide +kernel
theorem dX3_firstOf_22 : decode cX3_firstOf 22 = .ok (.iload_n 3, 1) := by decide +kernel
theorem dX3_firstOf_23 : decode cX3_firstOf 23 = .ok (.ireturn, 1) := by decide +kernel
theorem dX3_firstOf_24 : decode cX3_firstOf 24 = .ok (.iinc 3 1, 3) := by decide +kernel
theorem dX3_firstOf_27 : decode cX3_firstOf 27 = .ok (.goto (-20), 3) := by decide +kernel
theorem dX3_firstOf_30 : decode cX3_firstOf 30 = .ok (.iload_n 2, 1) := by decide +kernel
theorem dX3_firstOf_31 : decode cX3_firstOf 31 = .ok (.ireturn, 1) := by decide +kernel
theorem dX3_endOf_0 : decode cX3_endOf 0 = .ok (.aload_n 0, 1) := by decide +kernel
theorem dX3_endOf_1 : decode cX3_endOf 1 = .ok (.iload_n 1, 1) := by decide +kernel
theorem dX3_endOf_2 : decode cX3_endOf 2 = .ok (.iconst 1, 1) := by decide +kernel
theorem dX3_endOf_3 : decode cX3_endOf 3 = .ok (.iadd, 1) := by decide +kernel
theorem dX3_endOf_4 : decode cX3_endOf 4 = .ok (.invokevirtual 35, 3) := by decide +kernel
theorem dX3_endOf_7 : decode cX3_endOf 7 = .ok (.ireturn, 1) := by decide +kernel
theorem dX3_points_0 : decode cX3_points 0 = .ok (.aload_n 0, 1) := by decide +kernel
theorem dX3_points_1 : decode cX3_points 1 = .ok (.iconst 3, 1) := by decide +kernel
theorem dX3_points_2 : decode cX3_points 2 = .ok (.invokevirtual 38, 3) := by decide +kernel
theorem dX3_points_5 : decode cX3_points 5 = .ok (.ireturn, 1) := by decide +kernel
theorem dX3_cellsOfChunks_0 : decode cX3_cellsOfChunks 0 = .ok (.aload_n 0, 1) := by decide +kernel
theorem dX3_cellsOfChunks_1 : decode cX3_cellsOfChunks 1 = .ok (.bipush 9, 2) := by decide +kernel
theorem dX3_cellsOfChunks_3 : decode cX3_cellsOfChunks 3 = .ok (.invokevirtual 38, 3) := by decide +kernel
theorem dX3_cellsOfChunks_6 : decode cX3_cellsOfChunks 6 = .ok (.ireturn, 1) := by decide +kernel
theorem dX3_total_0 : decode cX3_total 0 = .ok (.aload_n 0, 1) := by decide +kernel
theorem dX3_total_1 : decode cX3_total 1 = .ok (.invokevirtual 28, 3) := by decide +kernel
theorem dX3_total_4 : decode cX3_total 4 = .ok (.istore_n 2, 1) := by decide +kernel
theorem dX3_total_5 : decode cX3_total 5 = .ok (.iconst 0, 1) := by decide +kernel
theorem dX3_total_6 : decode cX3_total 6 = .ok (.istore_n 3, 1) := by decide +kernel
theorem dX3_total_7 : decode cX3_total 7 = .ok (.iconst 0, 1) := by decide +kernel
theorem dX3_total_8 : decode cX3_total 8 = .ok (.istore 4, 2) := by decide +kernel
theorem dX3_total_10 : decode cX3_total 10 = .ok (.iload 4, 2) := by decide +kernel
theorem dX3_total_12 : decode cX3_total 12 = .ok (.iload_n 2, 1) := by decide +kernel
theorem dX3_total_13 : decode cX3_total 13 = .ok (.if_icmp .ge 19, 3) := by decide +kernel
theorem dX3_total_16 : decode cX3_total 16 = .ok (.iload_n 3, 1) := by decide +kernel
theorem dX3_total_17 : decode cX3_total 17 = .ok (.aload_n 0, 1) := by decide +kernel
theorem dX3_total_18 : decode cX3_total 18 = .ok (.iload 4, 2) := by decide +kernel
theorem dX3_total_20 : decode cX3_total 20 = .ok (.iload_n 1, 1) := by decide +kernel
theorem dX3_total_21 : decode cX3_total 21 = .ok (.invokevirtual 31, 3) := by decide +kernel
theorem dX3_total_24 : decode cX3_total 24 = .ok (.iadd, 1) := by decide +kernel
theorem dX3_total_25 : decode cX3_total 25 = .ok (.istore_n 3, 1) := by decide +kernel
theorem dX3_total_26 : decode cX3_total 26 = .ok (.iinc 4 1, 3) := by decide +kernel
theorem dX3_total_29 : decode cX3_total 29 = .ok (.goto (-19), 3) := by decide +kernel
theorem dX3_total_32 : decode cX3_total 32 = .ok (.iload_n 3, 1) := by decide +kernel
theorem dX3_total_33 : decode cX3_total 33 = .ok (.ireturn, 1) := by decide +kernel
theorem dX9_nearest_0 : decode cX9_nearest 0 = .ok (.iload_n 1, 1) := by decide +kernel
theorem dX9_nearest_1 : decode cX9_nearest 1 = .ok (.iload_n 0, 1) := by decide +kernel
theorem dX9_nearest_2 : decode cX9_nearest 2 = .ok (.iload_n 2, 1) := by decide +kernel
theorem dX9_nearest_3 : decode cX9_nearest 3 = .ok (.invokestatic 225, 3) := by decide +kernel
theorem dX9_nearest_6 : decode cX9_nearest 6 = .ok (.invokestatic 257, 3) := by decide +kernel
theorem dX9_nearest_9 : decode cX9_nearest 9 = .ok (.ireturn, 1) := by decide +kernel
theorem dX9_indexOfSide_0 : decode cX9_indexOfSide 0 = .ok (.iload_n 0, 1) := by decide +kernel
theorem dX9_indexOfSide_1 : decode cX9_indexOfSide 1 = .ok (.ifCond .ne 7, 3) := by decide +kernel
theorem dX9_indexOfSide_4 : decode cX9_indexOfSide 4 = .ok (.iconst 1, 1) := by decide +kernel
theorem dX9_indexOfSide_5 : decode cX9_indexOfSide 5 = .ok (.goto 6, 3) := by decide +kernel
theorem dX9_indexOfSide_8 : decode cX9_indexOfSide 8 = .ok (.sipush 962, 3) := by decide +kernel
theorem dX9_indexOfSide_11 : decode cX9_indexOfSide 11 = .ok (.ireturn, 1) := by decide +kernel
abbrev rm_X9_indexOfSide : Room := { frames := 0, cells := 0, slots := 0, locals := 0 }
theorem hs_X9_indexOfSide : yX9_indexOfSide.cls = RX9 ∧ yX9_indexOfSide.cls ≠ "java/lang/invoke/MethodHandle" ∧ yX9_indexOfSide.cls ≠ "java/lang/invoke/VarHandle" ∧ (parseMethodDescriptor yX9_indexOfSide.desc).map (fun d => d.parameters.length) = some 1 := by decide +kernel
set_option maxHeartbeats 4000000 in
set_option maxRecDepth 100000 in
theorem c_X9_indexOfSide (l : Launch) (G : va_G) (cI cZ cJ : ClassId)  (p0 : Int32) {r : Int32} (hfin : m_X9_indexOfSide p0 = some (r)) : CT l yX9_indexOfSide cX9_indexOfSide 1 (some .int) rm_X9_indexOfSide G (tyC cI cZ cJ) [.int p0] [] (some (.int r)) [] := by
  refine CT.ofW (lvl := [(0, .int p0)]) (by decide) (Nat.le_of_ble_eq_true rfl) rfl ?_
  intro p e s m args below meth c A ls0 QQ hQQ hx hb hml hr hlocks htc hN hown hK hA hw0 hl0
  rw [m_X9_indexOfSide] at hfin
  refine lv_iload_n hx hb dX9_indexOfSide_0 rfl (lv_at hl0 0 rfl) ?_
  replace hfin := ob1_some hfin
  obtain ⟨s_1, hJ_2, hfin⟩ := hfin
  have kj_3 : ∀ (H : Heap) (locs : List Loc) (ls : Array Slot), wS G A s H locs [] → lv_has ls 1 [] → W p l e rm_X9_indexOfSide s m args below meth c H locs 0 0 QQ (F0 m 11 ls [.int s_1]) := by
    clear hw0 hl0 ls0 hJ_2
    intro H5 locs5 ls5 hw5 hl5
    cases hfin
    rw [hQQ]
    exact ct_iret hx hb hr hlocks hw5.1 hw5.2.1 hw5.2.2 dX9_indexOfSide_11
  clear hfin
  refine lv_if_ne (tgt := 8) hx hb dX9_indexOfSide_1 (by decide) (fun c_4 => ?_) (fun c_4 => ?_)
  · replace hJ_2 := it_f c_4 hJ_2
    refine lv_sipush (v := (962 : Int32)) hx hb dX9_indexOfSide_8 (by decide) ?_
    cases hJ_2
    exact kj_3 _ _ _ hw0 (lv_sub hl0 [] rfl)
  · replace hJ_2 := it_t c_4 hJ_2
    refine lv_iconst (v := (1 : Int32)) hx hb dX9_indexOfSide_4 (by decide) ?_
    refine lv_goto (tgt := 11) hx hb dX9_indexOfSide_5 (by decide) ?_
    cases hJ_2
    exact kj_3 _ _ _ hw0 (lv_sub hl0 [] rfl)
abbrev rm_X9_nearest : Room := { frames := 1, cells := 0, slots := 0, locals := 21 }
theorem hs_X9_nearest : yX9_nearest.cls = RX9 ∧ yX9_nearest.cls ≠ "java/lang/invoke/MethodHandle" ∧ yX9_nearest.cls ≠ "java/lang/invoke/VarHandle" ∧ (parseMethodDescriptor yX9_nearest.desc).map (fun d => d.parameters.length) = some 3 := by decide +kernel
set_option maxHeartbeats 4000000 in
set_option maxRecDepth 100000 in
theorem c_X9_nearest (l : Launch) (G : va_G) (cI cZ cJ : ClassId)  (p0 : Int32) (p1 : Int32) (p2 : Int32) {r : Int32} (hfin : m_X9_nearest p0 p1 p2 = some (r)) : CT l yX9_nearest cX9_nearest 3 (some .int) rm_X9_nearest G (tyC cI cZ cJ) [.int p0, .int p1, .int p2] [] (some (.int r)) [] := by
  refine CT.ofW (lvl := [(0, .int p0), (1, .int p1), (2, .int p2)]) (by decide) (Nat.le_of_ble_eq_true rfl) rfl ?_
  intro p e s m args below meth c A ls0 QQ hQQ hx hb hml hr hlocks htc hN hown hK hA hw0 hl0
  rw [m_X9_nearest] at hfin
  refine lv_iload_n hx hb dX9_nearest_0 rfl (lv_at hl0 1 rfl) ?_
  refine lv_iload_n hx hb dX9_nearest_1 rfl (lv_at hl0 0 rfl) ?_
  refine lv_iload_n hx hb dX9_nearest_2 rfl (lv_at hl0 2 rfl) ?_
  refine va_mmin hx hb (hml.trans hl0.1.symm) hown (htc _ mw_30) (htc _ mw_31) (htc _ mw_2) (htc _ mw_32) (Nat.le_of_ble_eq_true rfl) (Nat.le_of_ble_eq_true rfl) (Nat.zero_le _) (Nat.zero_le _) dX9_nearest_3 ?_
  refine va_mmax hx hb (hml.trans hl0.1.symm) hown (htc _ mw_33) (htc _ mw_34) (htc _ mw_2) (htc _ mw_35) (Nat.le_of_ble_eq_true rfl) (Nat.le_of_ble_eq_true rfl) (Nat.zero_le _) (Nat.zero_le _) dX9_nearest_6 ?_
  cases hfin
  rw [hQQ]
  exact ct_iret hx hb hr hlocks hw0.1 hw0.2.1 hw0.2.2 dX9_nearest_9
abbrev rm_X3_chunks : Room := { frames := 1, cells := 0, slots := 0, locals := 21 }
theorem hd_X3_chunks : yX3_chunks.cls = RX3 ∧ yX3_chunks.cls ≠ "java/lang/invoke/MethodHandle" ∧ yX3_chunks.cls ≠ "java/lang/invoke/VarHandle" ∧ (parseMethodDescriptor yX3_chunks.desc).map (fun d => d.parameters.length) = some 0 := by decide +kernel
set_option maxHeartbeats 4000000 in
set_option maxRecDepth 100000 in
theorem c_X3_chunks (l : Launch) (G : va_G) (cI cZ cJ : ClassId) (aD aDc aI : Nat) (D_writesDone : Int32) (D_writesLeft : Int32) (D_down : Int32) (D_cells : Nat → Int32)  {r : Int32} (hfin : m_X3_chunks D_cells = some (r)) : CT l yX3_chunks cX3_chunks 1 (some .int) rm_X3_chunks G (tyC cI cZ cJ) [.ref aI] [oX2 aD aDc D_writesDone D_writesLeft D_down, rI aDc cI 4096 D_cells, oX3 aI aD] (some (.int r)) [oX2 aD aDc D_writesDone D_writesLeft D_down, rI aDc cI 4096 D_cells, oX3 aI aD] := by
  refine CT.ofW (lvl := [(0, .ref aI)]) (by decide) (Nat.le_of_ble_eq_true rfl) rfl ?_
  intro p e s m args below meth c A ls0 QQ hQQ hx hb hml hr hlocks htc hN hown hK hA hw0 hl0
  rw [m_X3_chunks] at hfin
  refine lv_aload_n hx hb dX3_chunks_0 rfl (lv_at hl0 0 rfl) ?_
  refine va_get (D := G) (ci := 3) (v := .ref aD) (C := RX3) (T := TX3) (N := 1) hx hb htc iX3 hown hK hw0.1 2 rfl rfl 0 (by decide) (htc _ mw_62) (fun _ h9 => h9) rfl dX3_chunks_1 ?_
  refine lv_aload_n hx hb dX3_chunks_4 rfl (lv_at hl0 0 rfl) ?_
  refine va_get (D := G) (ci := 3) (v := .ref aD) (C := RX3) (T := TX3) (N := 1) hx hb htc iX3 hown hK hw0.1 2 rfl rfl 0 (by decide) (htc _ mw_62) (fun _ h9 => h9) rfl dX3_chunks_5 ?_
  replace hfin := ob1_some hfin
  obtain ⟨r_2, hE_1, hfin⟩ := hfin
  refine ctV (a := aD) (As := []) (rest := [.ref aD]) (st1 := [.int r_2, .ref aD]) (wc := [oX2 aD aDc D_writesDone D_writesLeft D_down, rI aDc cI 4096 D_cells]) (w1 := [oX2 aD aDc D_writesDone D_writesLeft D_down, rI aDc cI 4096 D_cells]) (wr := [oX3 aI aD]) (wb := [oX2 aD aDc D_writesDone D_writesLeft D_down, rI aDc cI 4096 D_cells, oX3 aI aD]) (v := (some (.int r_2))) hx hb hml hown htc hN (c_X2_side l G cI cZ cJ aD aDc D_writesDone D_writesLeft D_down D_cells  hE_1) mw_382 mw_383 mw_384 mw_3 mw_385 hd_X2_side ⟨rfl, rfl⟩ ⟨Nat.le_of_ble_eq_true rfl, Nat.le_of_ble_eq_true rfl⟩ hK hw0 hA [0, 1] [2] [1, 2, 0] rfl rfl rfl rfl rfl (by decide) rfl rfl rfl 0 rfl rfl rfl rfl hl0.1 rfl rfl (Nat.le_of_ble_eq_true rfl) dX3_chunks_8 ⟨Nat.zero_le _, Nat.zero_le _⟩ (fun H3 locs3 hw3 => ?_)
  clear hw0
  replace hfin := ob1_some hfin
  obtain ⟨r_5, hE_4, hfin⟩ := hfin
  refine ctSN (As := [.int r_2]) (rest := [.ref aD]) (st1 := [.int r_5, .ref aD]) (wc := []) (w1 := []) (wr := [oX2 aD aDc D_writesDone D_writesLeft D_down, rI aDc cI 4096 D_cells, oX3 aI aD]) (wb := [oX2 aD aDc D_writesDone D_writesLeft D_down, rI aDc cI 4096 D_cells, oX3 aI aD]) (v := (some (.int r_5))) hx hb hml hown htc hN (c_X9_indexOfSide l G cI cZ cJ   r_2 hE_4) (hN _ mn_25) mw_387 mw_1 mw_388 hs_X9_indexOfSide ⟨rfl, rfl⟩ ⟨Nat.le_of_ble_eq_true rfl, Nat.le_of_ble_eq_true rfl⟩ hK hw3 hA [] [0, 1, 2] [0, 1, 2] rfl rfl rfl rfl rfl (by decide) rfl rfl rfl rfl hl0.1 rfl rfl (Nat.le_of_ble_eq_true rfl) dX3_chunks_11 ⟨Nat.zero_le _, Nat.zero_le _⟩ (fun H6 locs6 hw6 => ?_)
  clear hw3 H3 locs3
  replace hfin := ob1_some hfin
  obtain ⟨r_8, hE_7, hfin⟩ := hfin
  refine ctV (a := aD) (As := [.int r_5]) (rest := []) (st1 := [.int r_8]) (wc := [oX2 aD aDc D_writesDone D_writesLeft D_down, rI aDc cI 4096 D_cells]) (w1 := [oX2 aD aDc D_writesDone D_writesLeft D_down, rI aDc cI 4096 D_cells]) (wr := [oX3 aI aD]) (wb := [oX2 aD aDc D_writesDone D_writesLeft D_down, rI aDc cI 4096 D_cells, oX3 aI aD]) (v := (some (.int r_8))) hx hb hml hown htc hN (c_X2_read l G cI cZ cJ aD aDc D_writesDone D_writesLeft D_down D_cells r_5 hE_7) mw_389 mw_366 mw_367 mw_3 mw_368 hd_X2_read ⟨rfl, rfl⟩ ⟨Nat.le_of_ble_eq_true rfl, Nat.le_of_ble_eq_true rfl⟩ hK hw6 hA [0, 1] [2] [1, 2, 0] rfl rfl rfl rfl rfl (by decide) rfl rfl rfl 0 rfl rfl rfl rfl hl0.1 rfl rfl (Nat.le_of_ble_eq_true rfl) dX3_chunks_14 ⟨Nat.zero_le _, Nat.zero_le _⟩ (fun H9 locs9 hw9 => ?_)
  clear hw6 H6 locs6
  cases hfin
  rw [hQQ]
  exact ct_iret hx hb hr hlocks hw9.1 hw9.2.1 hw9.2.2 dX3_chunks_17
abbrev rm_X3_at : Room := { frames := 1, cells := 0, slots := 0, locals := 21 }
theorem hd_X3_at : yX3_at.cls = RX3 ∧ yX3_at.cls ≠ "java/lang/invoke/MethodHandle" ∧ yX3_at.cls ≠ "java/lang/invoke/VarHandle" ∧ (parseMethodDescriptor yX3_at.desc).map (fun d => d.parameters.length) = some 2 := by decide +kernel
set_option maxHeartbeats 4000000 in
set_option maxRecDepth 100000 in
theorem c_X3_at (l : Launch) (G : va_G) (cI cZ cJ : ClassId) (aD aDc aI : Nat) (D_writesDone : Int32) (D_writesLeft : Int32) (D_down : Int32) (D_cells : Nat → Int32) (p0 : Int32) (p1 : Int32) {r : Int32} (hfin : m_X3_at D_cells p0 p1 = some (r)) : CT l yX3_at cX3_at 3 (some .int) rm_X3_at G (tyC cI cZ cJ) [.ref aI, .int p0, .int p1] [oX2 aD aDc D_writesDone D_writesLeft D_down, rI aDc cI 4096 D_cells, oX3 aI aD] (some (.int r)) [oX2 aD aDc D_writesDone D_writesLeft D_down, rI aDc cI 4096 D_cells, oX3 aI aD] := by
  refine CT.ofW (lvl := [(0, .ref aI), (1, .int p0), (2, .int p1)]) (by decide) (Nat.le_of_ble_eq_true rfl) rfl ?_
  intro p e s m args below meth c A ls0 QQ hQQ hx hb hml hr hlocks htc hN hown hK hA hw0 hl0
  rw [m_X3_at] at hfin
  refine lv_aload_n hx hb dX3_at_0 rfl (lv_at hl0 0 rfl) ?_
  refine va_get (D := G) (ci := 3) (v := .ref aD) (C := RX3) (T := TX3) (N := 1) hx hb htc iX3 hown hK hw0.1 2 rfl rfl 0 (by decide) (htc _ mw_62) (fun _ h9 => h9) rfl dX3_at_1 ?_
  refine lv_aload_n hx hb dX3_at_4 rfl (lv_at hl0 0 rfl) ?_
  refine va_get (D := G) (ci := 3) (v := .ref aD) (C := RX3) (T := TX3) (N := 1) hx hb htc iX3 hown hK hw0.1 2 rfl rfl 0 (by decide) (htc _ mw_62) (fun _ h9 => h9) rfl dX3_at_5 ?_
  replace hfin := ob1_some hfin
  obtain ⟨r_2, hE_1, hfin⟩ := hfin
  refine ctV (a := aD) (As := []) (rest := [.ref aD]) (st1 := [.int r_2, .ref aD]) (wc := [oX2 aD aDc D_writesDone D_writesLeft D_down, rI aDc cI 4096 D_cells]) (w1 := [oX2 aD aDc D_writesDone D_writesLeft D_down, rI aDc cI 4096 D_cells]) (wr := [oX3 aI aD]) (wb := [oX2 aD aDc D_writesDone D_writesLeft D_down, rI aDc cI 4096 D_cells, oX3 aI aD]) (v := (some (.int r_2))) hx hb hml hown htc hN (c_X2_side l G cI cZ cJ aD aDc D_writesDone D_writesLeft D_down D_cells  hE_1) mw_382 mw_383 mw_384 mw_3 mw_385 hd_X2_side ⟨rfl, rfl⟩ ⟨Nat.le_of_ble_eq_true rfl, Nat.le_of_ble_eq_true rfl⟩ hK hw0 hA [0, 1] [2] [1, 2, 0] rfl rfl rfl rfl rfl (by decide) rfl rfl rfl 0 rfl rfl rfl rfl hl0.1 rfl rfl (Nat.le_of_ble_eq_true rfl) dX3_at_8 ⟨Nat.zero_le _, Nat.zero_le _⟩ (fun H3 locs3 hw3 => ?_)
  clear hw0
  replace hfin := ob1_some hfin
  obtain ⟨r_5, hE_4, hfin⟩ := hfin
  refine ctSN (As := [.int r_2]) (rest := [.ref aD]) (st1 := [.int r_5, .ref aD]) (wc := []) (w1 := []) (wr := [oX2 aD aDc D_writesDone D_writesLeft D_down, rI aDc cI 4096 D_cells, oX3 aI aD]) (wb := [oX2 aD aDc D_writesDone D_writesLeft D_down, rI aDc cI 4096 D_cells, oX3 aI aD]) (v := (some (.int r_5))) hx hb hml hown htc hN (c_X9_indexOfSide l G cI cZ cJ   r_2 hE_4) (hN _ mn_25) mw_387 mw_1 mw_388 hs_X9_indexOfSide ⟨rfl, rfl⟩ ⟨Nat.le_of_ble_eq_true rfl, Nat.le_of_ble_eq_true rfl⟩ hK hw3 hA [] [0, 1, 2] [0, 1, 2] rfl rfl rfl rfl rfl (by decide) rfl rfl rfl rfl hl0.1 rfl rfl (Nat.le_of_ble_eq_true rfl) dX3_at_11 ⟨Nat.zero_le _, Nat.zero_le _⟩ (fun H6 locs6 hw6 => ?_)
  clear hw3 H3 locs3
  refine lv_iconst (v := (1 : Int32)) hx hb dX3_at_14 (by decide) ?_
  refine lv_iadd hx hb dX3_at_15 ?_
  refine lv_iload_n hx hb dX3_at_16 rfl (lv_at hl0 1 rfl) ?_
  refine lv_bipush (v := (10 : Int32)) hx hb dX3_at_17 (by decide) ?_
  refine lv_imul hx hb dX3_at_19 ?_
  refine lv_iadd hx hb dX3_at_20 ?_
  refine lv_iload_n hx hb dX3_at_21 rfl (lv_at hl0 2 rfl) ?_
  refine lv_iadd hx hb dX3_at_22 ?_
  replace hfin := ob1_some hfin
  obtain ⟨r_8, hE_7, hfin⟩ := hfin
  refine ctV (a := aD) (As := [.int (((r_5 + (1 : Int32)) + (p0 * (10 : Int32))) + p1)]) (rest := []) (st1 := [.int r_8]) (wc := [oX2 aD aDc D_writesDone D_writesLeft D_down, rI aDc cI 4096 D_cells]) (w1 := [oX2 aD aDc D_writesDone D_writesLeft D_down, rI aDc cI 4096 D_cells]) (wr := [oX3 aI aD]) (wb := [oX2 aD aDc D_writesDone D_writesLeft D_down, rI aDc cI 4096 D_cells, oX3 aI aD]) (v := (some (.int r_8))) hx hb hml hown htc hN (c_X2_read l G cI cZ cJ aD aDc D_writesDone D_writesLeft D_down D_cells (((r_5 + (1 : Int32)) + (p0 * (10 : Int32))) + p1) hE_7) mw_389 mw_366 mw_367 mw_3 mw_368 hd_X2_read ⟨rfl, rfl⟩ ⟨Nat.le_of_ble_eq_true rfl, Nat.le_of_ble_eq_true rfl⟩ hK hw6 hA [0, 1] [2] [1, 2, 0] rfl rfl rfl rfl rfl (by decide) rfl rfl rfl 0 rfl rfl rfl rfl hl0.1 rfl rfl (Nat.le_of_ble_eq_true rfl) dX3_at_23 ⟨Nat.zero_le _, Nat.zero_le _⟩ (fun H9 locs9 hw9 => ?_)
  clear hw6 H6 locs6
  cases hfin
  rw [hQQ]
  exact ct_iret hx hb hr hlocks hw9.1 hw9.2.1 hw9.2.2 dX3_at_26
abbrev rm_X3_firstOf : Room := { frames := 2, cells := 0, slots := 0, locals := 43 }
theorem hd_X3_firstOf : yX3_firstOf.cls = RX3 ∧ yX3_firstOf.cls ≠ "java/lang/invoke/MethodHandle" ∧ yX3_firstOf.cls ≠ "java/lang/invoke/VarHandle" ∧ (parseMethodDescriptor yX3_firstOf.desc).map (fun d => d.parameters.length) = some 1 := by decide +kernel
set_option maxHeartbeats 4000000 in
set_option maxRecDepth 100000 in
theorem c_X3_firstOf (l : Launch) (G : va_G) (cI cZ cJ : ClassId) (aD aDc aI : Nat) (D_writesDone : Int32) (D_writesLeft : Int32) (D_down : Int32) (D_cells : Nat → Int32) (p0 : Int32) {r : Int32} (hfin : m_X3_firstOf D_cells p0 = some (r)) : CT l yX3_firstOf cX3_firstOf 4 (some .int) rm_X3_firstOf G (tyC cI cZ cJ) [.ref aI, .int p0] [oX2 aD aDc D_writesDone D_writesLeft D_down, rI aDc cI 4096 D_cells, oX3 aI aD] (some (.int r)) [oX2 aD aDc D_writesDone D_writesLeft D_down, rI aDc cI 4096 D_cells, oX3 aI aD] := by
  refine CT.ofW (lvl := [(0, .ref aI), (1, .int p0)]) (by decide) (Nat.le_of_ble_eq_true rfl) rfl ?_
  intro p e s m args below meth c A ls0 QQ hQQ hx hb hml hr hlocks htc hN hown hK hA hw0 hl0
  rw [m_X3_firstOf] at hfin
  refine lv_aload_n hx hb dX3_firstOf_0 rfl (lv_at hl0 0 rfl) ?_
  replace hfin := ob1_some hfin
  obtain ⟨r_2, hE_1, hfin⟩ := hfin
  refine ctV (a := aI) (As := []) (rest := []) (st1 := [.int r_2]) (wc := [oX2 aD aDc D_writesDone D_writesLeft D_down, rI aDc cI 4096 D_cells, oX3 aI aD]) (w1 := [oX2 aD aDc D_writesDone D_writesLeft D_down, rI aDc cI 4096 D_cells, oX3 aI aD]) (wr := []) (wb := [oX2 aD aDc D_writesDone D_writesLeft D_down, rI aDc cI 4096 D_cells, oX3 aI aD]) (v := (some (.int r_2))) hx hb hml hown htc hN (c_X3_chunks l G cI cZ cJ aD aDc aI D_writesDone D_writesLeft D_down D_cells  hE_1) mw_378 mw_379 mw_380 mw_4 mw_381 hd_X3_chunks ⟨rfl, rfl⟩ ⟨Nat.le_of_ble_eq_true rfl, Nat.le_of_ble_eq_true rfl⟩ hK hw0 hA [0, 1, 2] [] [0, 1, 2] rfl rfl rfl rfl rfl (by decide) rfl rfl rfl 2 rfl rfl rfl rfl hl0.1 rfl rfl (Nat.le_of_ble_eq_true rfl) dX3_firstOf_1 ⟨Nat.zero_le _, Nat.zero_le _⟩ (fun H3 locs3 hw3 => ?_)
  clear hw0
  refine lv_istore_n (lv' := [(2, .int r_2), (0, .ref aI), (1, .int p0)]) hx hb dX3_firstOf_4 rfl hl0 (by decide) rfl (fun ls4 hl4 => ?_)
  clear hl0 ls0
  refine lv_iconst (v := (0 : Int32)) hx hb dX3_firstOf_5 (by decide) ?_
  refine lv_istore_n (lv' := [(3, .int (0 : Int32)), (2, .int r_2), (0, .ref aI), (1, .int p0)]) hx hb dX3_firstOf_6 rfl hl4 (by decide) rfl (fun ls5 hl5 => ?_)
  clear hl4 ls4
  have lp_9 : ∀ (n : Nat) (v3_6 : Int32), lp_X3_firstOf_7 D_cells p0 r_2 n v3_6 = some (r) → ∀ (H : Heap) (locs : List Loc) (ls : Array Slot), wS G A s H locs [oX2 aD aDc D_writesDone D_writesLeft D_down, rI aDc cI 4096 D_cells, oX3 aI aD] → lv_has ls 4 [(0, .ref aI), (1, .int p0), (2, .int r_2), (3, .int v3_6)] → W p l e rm_X3_firstOf s m args below meth c H locs 0 0 QQ (F0 m 7 ls []) := by
    clear hw3 H3 locs3 hl5 ls5 hfin
    intro n
    induction n with
    | zero =>
      intro v3_6 hB_10
      exact absurd hB_10 (by rw [lp_X3_firstOf_7]; exact fun h9 => nomatch h9)
    | succ n ih =>
      intro v3_6 hB_10 H11 locs11 ls11 hw11 hl11
      rw [lp_X3_firstOf_7] at hB_10
      refine lv_iload_n hx hb dX3_firstOf_7 rfl (lv_at hl11 3 rfl) ?_
      refine lv_iload_n hx hb dX3_firstOf_8 rfl (lv_at hl11 2 rfl) ?_
      refine lv_icmp_ge (tgt := 30) hx hb dX3_firstOf_9 (by decide) (fun c_12 => ?_) (fun c_12 => ?_)
      · replace hB_10 := it_t c_12 hB_10
        refine lv_iload_n hx hb dX3_firstOf_30 rfl (lv_at hl11 2 rfl) ?_
        cases hB_10
        rw [hQQ]
        exact ct_iret hx hb hr hlocks hw11.1 hw11.2.1 hw11.2.2 dX3_firstOf_31
      · replace hB_10 := it_f c_12 hB_10
        refine lv_aload_n hx hb dX3_firstOf_12 rfl (lv_at hl11 0 rfl) ?_
        refine lv_iload_n hx hb dX3_firstOf_13 rfl (lv_at hl11 3 rfl) ?_
        refine lv_iconst (v := (0 : Int32)) hx hb dX3_firstOf_14 (by decide) ?_
        replace hB_10 := ob1_some hB_10
        obtain ⟨r_14, hE_13, hB_10⟩ := hB_10
        refine ctV (a := aI) (As := [.int v3_6, .int (0 : Int32)]) (rest := []) (st1 := [.int r_14]) (wc := [oX2 aD aDc D_writesDone D_writesLeft D_down, rI aDc cI 4096 D_cells, oX3 aI aD]) (w1 := [oX2 aD aDc D_writesDone D_writesLeft D_down, rI aDc cI 4096 D_cells, oX3 aI aD]) (wr := []) (wb := [oX2 aD aDc D_writesDone D_writesLeft D_down, rI aDc cI 4096 D_cells, oX3 aI aD]) (v := (some (.int r_14))) hx hb hml hown htc hN (c_X3_at l G cI cZ cJ aD aDc aI D_writesDone D_writesLeft D_down D_cells v3_6 (0 : Int32) hE_13) mw_390 mw_391 mw_392 mw_4 mw_393 hd_X3_at ⟨rfl, rfl⟩ ⟨Nat.le_of_ble_eq_true rfl, Nat.le_of_ble_eq_true rfl⟩ hK hw11 hA [0, 1, 2] [] [0, 1, 2] rfl rfl rfl rfl rfl (by decide) rfl rfl rfl 2 rfl rfl rfl rfl hl11.1 rfl rfl (Nat.le_of_ble_eq_true rfl) dX3_firstOf_15 ⟨Nat.zero_le _, Nat.zero_le _⟩ (fun H15 locs15 hw15 => ?_)
        clear hw11 H11 locs11
        refine lv_iload_n hx hb dX3_firstOf_18 rfl (lv_at hl11 1 rfl) ?_
        refine lv_icmp_lt (tgt := 24) hx hb dX3_firstOf_19 (by decide) (fun c_16 => ?_) (fun c_16 => ?_)
        · replace hB_10 := it_t c_16 hB_10
          refine lv_iinc (v := (v3_6 + (1 : Int32))) (lv' := [(3, .int (v3_6 + (1 : Int32))), (0, .ref aI), (1, .int p0), (2, .int r_2)]) hx hb dX3_firstOf_24 hl11 (k := 3) rfl rfl (by decide) rfl (fun ls17 hl17 => ?_)
          clear hl11 ls11
          refine lv_goto (tgt := 7) hx hb dX3_firstOf_27 (by decide) ?_
          exact ih (v3_6 + (1 : Int32)) hB_10 _ _ _ hw15 (lv_sub hl17 [1, 2, 3, 0] rfl)
        · replace hB_10 := it_f c_16 hB_10
          refine lv_iload_n hx hb dX3_firstOf_22 rfl (lv_at hl11 3 rfl) ?_
          cases hB_10
          rw [hQQ]
          exact ct_iret hx hb hr hlocks hw15.1 hw15.2.1 hw15.2.2 dX3_firstOf_23
  exact lp_9 NN (0 : Int32) hfin _ _ _ hw3 (lv_sub hl5 [2, 3, 1, 0] rfl)
abbrev rm_X3_endOf : Room := { frames := 3, cells := 0, slots := 0, locals := 66 }
theorem hd_X3_endOf : yX3_endOf.cls = RX3 ∧ yX3_endOf.cls ≠ "java/lang/invoke/MethodHandle" ∧ yX3_endOf.cls ≠ "java/lang/invoke/VarHandle" ∧ (parseMethodDescriptor yX3_endOf.desc).map (fun d => d.parameters.length) = some 1 := by decide +kernel
set_option maxHeartbeats 4000000 in
set_option maxRecDepth 100000 in
theorem c_X3_endOf (l : Launch) (G : va_G) (cI cZ cJ : ClassId) (aD aDc aI : Nat) (D_writesDone : Int32) (D_writesLeft : Int32) (D_down : Int32) (D_cells : Nat → Int32) (p0 : Int32) {r : Int32} (hfin : m_X3_endOf D_cells p0 = some (r)) : CT l yX3_endOf cX3_endOf 2 (some .int) rm_X3_endOf G (tyC cI cZ cJ) [.ref aI, .int p0] [oX2 aD aDc D_writesDone D_writesLeft D_down, rI aDc cI 4096 D_cells, oX3 aI aD] (some (.int r)) [oX2 aD aDc D_writesDone D_writesLeft D_down, rI aDc cI 4096 D_cells, oX3 aI aD] := by
  refine CT.ofW (lvl := [(0, .ref aI), (1, .int p0)]) (by decide) (Nat.le_of_ble_eq_true rfl) rfl ?_
  intro p e s m args below meth c A ls0 QQ hQQ hx hb hml hr hlocks htc hN hown hK hA hw0 hl0
  rw [m_X3_endOf] at hfin
  refine lv_aload_n hx hb dX3_endOf_0 rfl (lv_at hl0 0 rfl) ?_
  refine lv_iload_n hx hb dX3_endOf_1 rfl (lv_at hl0 1 rfl) ?_
  refine lv_iconst (v := (1 : Int32)) hx hb dX3_endOf_2 (by decide) ?_
  refine lv_iadd hx hb dX3_endOf_3 ?_
  replace hfin := ob1_some hfin
  obtain ⟨r_2, hE_1, hfin⟩ := hfin
  refine ctV (a := aI) (As := [.int (p0 + (1 : Int32))]) (rest := []) (st1 := [.int r_2]) (wc := [oX2 aD aDc D_writesDone D_writesLeft D_down, rI aDc cI 4096 D_cells, oX3 aI aD]) (w1 := [oX2 aD aDc D_writesDone D_writesLeft D_down, rI aDc cI 4096 D_cells, oX3 aI aD]) (wr := []) (wb := [oX2 aD aDc D_writesDone D_writesLeft D_down, rI aDc cI 4096 D_cells, oX3 aI aD]) (v := (some (.int r_2))) hx hb hml hown htc hN (c_X3_firstOf l G cI cZ cJ aD aDc aI D_writesDone D_writesLeft D_down D_cells (p0 + (1 : Int32)) hE_1) mw_374 mw_375 mw_376 mw_4 mw_377 hd_X3_firstOf ⟨rfl, rfl⟩ ⟨Nat.le_of_ble_eq_true rfl, Nat.le_of_ble_eq_true rfl⟩ hK hw0 hA [0, 1, 2] [] [0, 1, 2] rfl rfl rfl rfl rfl (by decide) rfl rfl rfl 2 rfl rfl rfl rfl hl0.1 rfl rfl (Nat.le_of_ble_eq_true rfl) dX3_endOf_4 ⟨Nat.zero_le _, Nat.zero_le _⟩ (fun H3 locs3 hw3 => ?_)
  clear hw0
  cases hfin
  rw [hQQ]
  exact ct_iret hx hb hr hlocks hw3.1 hw3.2.1 hw3.2.2 dX3_endOf_7
abbrev rm_X3_total : Room := { frames := 2, cells := 0, slots := 0, locals := 43 }
theorem hd_X3_total : yX3_total.cls = RX3 ∧ yX3_total.cls ≠ "java/lang/invoke/MethodHandle" ∧ yX3_total.cls ≠ "java/lang/invoke/VarHandle" ∧ (parseMethodDescriptor yX3_total.desc).map (fun d => d.parameters.length) = some 1 := by decide +kernel
set_option maxHeartbeats 4000000 in
set_option maxRecDepth 100000 in
theorem c_X3_total (l : Launch) (G : va_G) (cI cZ cJ : ClassId) (aD aDc aI : Nat) (D_writesDone : Int32) (D_writesLeft : Int32) (D_down : Int32) (D_cells : Nat → Int32) (p0 : Int32) {r : Int32} (hfin : m_X3_total D_cells p0 = some (r)) : CT l yX3_total cX3_total 5 (some .int) rm_X3_total G (tyC cI cZ cJ) [.ref aI, .int p0] [oX2 aD aDc D_writesDone D_writesLeft D_down, rI aDc cI 4096 D_cells, oX3 aI aD] (some (.int r)) [oX2 aD aDc D_writesDone D_writesLeft D_down, rI aDc cI 4096 D_cells, oX3 aI aD] := by
  refine CT.ofW (lvl := [(0, .ref aI), (1, .int p0)]) (by decide) (Nat.le_of_ble_eq_true rfl) rfl ?_
  intro p e s m args below meth c A ls0 QQ hQQ hx hb hml hr hlocks htc hN hown hK hA hw0 hl0
  rw [m_X3_total] at hfin
  refine lv_aload_n hx hb dX3_total_0 rfl (lv_at hl0 0 rfl) ?_
  replace hfin := ob1_some hfin
  obtain ⟨r_2, hE_1, hfin⟩ := hfin
  refine ctV (a := aI) (As := []) (rest := []) (st1 := [.int r_2]) (wc := [oX2 aD aDc D_writesDone D_writesLeft D_down, rI aDc cI 4096 D_cells, oX3 aI aD]) (w1 := [oX2 aD aDc D_writesDone D_writesLeft D_down, rI aDc cI 4096 D_cells, oX3 aI aD]) (wr := []) (wb := [oX2 aD aDc D_writesDone D_writesLeft D_down, rI aDc cI 4096 D_cells, oX3 aI aD]) (v := (some (.int r_2))) hx hb hml hown htc hN (c_X3_chunks l G cI cZ cJ aD aDc aI D_writesDone D_writesLeft D_down D_cells  hE_1) mw_378 mw_379 mw_380 mw_4 mw_381 hd_X3_chunks ⟨rfl, rfl⟩ ⟨Nat.le_of_ble_eq_true rfl, Nat.le_of_ble_eq_true rfl⟩ hK hw0 hA [0, 1, 2] [] [0, 1, 2] rfl rfl rfl rfl rfl (by decide) rfl rfl rfl 2 rfl rfl rfl rfl hl0.1 rfl rfl (Nat.le_of_ble_eq_true rfl) dX3_total_1 ⟨Nat.zero_le _, Nat.zero_le _⟩ (fun H3 locs3 hw3 => ?_)
  clear hw0
  refine lv_istore_n (lv' := [(2, .int r_2), (0, .ref aI), (1, .int p0)]) hx hb dX3_total_4 rfl hl0 (by decide) rfl (fun ls4 hl4 => ?_)
  clear hl0 ls0
  refine lv_iconst (v := (0 : Int32)) hx hb dX3_total_5 (by decide) ?_
  refine lv_istore_n (lv' := [(3, .int (0 : Int32)), (2, .int r_2), (0, .ref aI), (1, .int p0)]) hx hb dX3_total_6 rfl hl4 (by decide) rfl (fun ls5 hl5 => ?_)
  clear hl4 ls4
  refine lv_iconst (v := (0 : Int32)) hx hb dX3_total_7 (by decide) ?_
  refine lv_istore (lv' := [(4, .int (0 : Int32)), (3, .int (0 : Int32)), (2, .int r_2), (0, .ref aI), (1, .int p0)]) hx hb dX3_total_8 hl5 (by decide) rfl (fun ls6 hl6 => ?_)
  clear hl5 ls5
  replace hfin := ob1_some hfin
  obtain ⟨v3_13, hL_9, hfin⟩ := hfin
  have kx_10 : ∀ (H : Heap) (locs : List Loc) (ls : Array Slot), wS G A s H locs [oX2 aD aDc D_writesDone D_writesLeft D_down, rI aDc cI 4096 D_cells, oX3 aI aD] → lv_has ls 5 [(3, .int v3_13)] → W p l e rm_X3_total s m args below meth c H locs 0 0 QQ (F0 m 32 ls []) := by
    clear hw3 H3 locs3 hl6 ls6 hL_9
    intro H21 locs21 ls21 hw21 hl21
    refine lv_iload_n hx hb dX3_total_32 rfl (lv_at hl21 0 rfl) ?_
    cases hfin
    rw [hQQ]
    exact ct_iret hx hb hr hlocks hw21.1 hw21.2.1 hw21.2.2 dX3_total_33
  have lp_11 : ∀ (n : Nat) (v3_7 : Int32) (v4_8 : Int32), lp_X3_total_10 D_cells p0 r_2 n v3_7 v4_8 = some (v3_13) → ∀ (H : Heap) (locs : List Loc) (ls : Array Slot), wS G A s H locs [oX2 aD aDc D_writesDone D_writesLeft D_down, rI aDc cI 4096 D_cells, oX3 aI aD] → lv_has ls 5 [(0, .ref aI), (1, .int p0), (2, .int r_2), (3, .int v3_7), (4, .int v4_8)] → W p l e rm_X3_total s m args below meth c H locs 0 0 QQ (F0 m 10 ls []) := by
    clear hw3 H3 locs3 hl6 ls6 hfin
    intro n
    induction n with
    | zero =>
      intro v3_7 v4_8 hB_12
      exact absurd hB_12 (by rw [lp_X3_total_10]; exact fun h9 => nomatch h9)
    | succ n ih =>
      intro v3_7 v4_8 hB_12 H14 locs14 ls14 hw14 hl14
      rw [lp_X3_total_10] at hB_12
      refine lv_iload hx hb dX3_total_10 (lv_at hl14 4 rfl) ?_
      refine lv_iload_n hx hb dX3_total_12 rfl (lv_at hl14 2 rfl) ?_
      refine lv_icmp_ge (tgt := 32) hx hb dX3_total_13 (by decide) (fun c_15 => ?_) (fun c_15 => ?_)
      · replace hB_12 := it_t c_15 hB_12
        cases hB_12
        exact kx_10 _ _ _ hw14 (lv_sub hl14 [3] rfl)
      · replace hB_12 := it_f c_15 hB_12
        refine lv_iload_n hx hb dX3_total_16 rfl (lv_at hl14 3 rfl) ?_
        refine lv_aload_n hx hb dX3_total_17 rfl (lv_at hl14 0 rfl) ?_
        refine lv_iload hx hb dX3_total_18 (lv_at hl14 4 rfl) ?_
        refine lv_iload_n hx hb dX3_total_20 rfl (lv_at hl14 1 rfl) ?_
        replace hB_12 := ob1_some hB_12
        obtain ⟨r_17, hE_16, hB_12⟩ := hB_12
        refine ctV (a := aI) (As := [.int v4_8, .int p0]) (rest := [.int v3_7]) (st1 := [.int r_17, .int v3_7]) (wc := [oX2 aD aDc D_writesDone D_writesLeft D_down, rI aDc cI 4096 D_cells, oX3 aI aD]) (w1 := [oX2 aD aDc D_writesDone D_writesLeft D_down, rI aDc cI 4096 D_cells, oX3 aI aD]) (wr := []) (wb := [oX2 aD aDc D_writesDone D_writesLeft D_down, rI aDc cI 4096 D_cells, oX3 aI aD]) (v := (some (.int r_17))) hx hb hml hown htc hN (c_X3_at l G cI cZ cJ aD aDc aI D_writesDone D_writesLeft D_down D_cells v4_8 p0 hE_16) mw_390 mw_391 mw_392 mw_4 mw_393 hd_X3_at ⟨rfl, rfl⟩ ⟨Nat.le_of_ble_eq_true rfl, Nat.le_of_ble_eq_true rfl⟩ hK hw14 hA [0, 1, 2] [] [0, 1, 2] rfl rfl rfl rfl rfl (by decide) rfl rfl rfl 2 rfl rfl rfl rfl hl14.1 rfl rfl (Nat.le_of_ble_eq_true rfl) dX3_total_21 ⟨Nat.zero_le _, Nat.zero_le _⟩ (fun H18 locs18 hw18 => ?_)
        clear hw14 H14 locs14
        refine lv_iadd hx hb dX3_total_24 ?_
        refine lv_istore_n (lv' := [(3, .int (v3_7 + r_17)), (0, .ref aI), (1, .int p0), (2, .int r_2), (4, .int v4_8)]) hx hb dX3_total_25 rfl hl14 (by decide) rfl (fun ls19 hl19 => ?_)
        clear hl14 ls14
        refine lv_iinc (v := (v4_8 + (1 : Int32))) (lv' := [(4, .int (v4_8 + (1 : Int32))), (3, .int (v3_7 + r_17)), (0, .ref aI), (1, .int p0), (2, .int r_2)]) hx hb dX3_total_26 hl19 (k := 4) rfl rfl (by decide) rfl (fun ls20 hl20 => ?_)
        clear hl19 ls19
        refine lv_goto (tgt := 10) hx hb dX3_total_29 (by decide) ?_
        exact ih (v3_7 + r_17) (v4_8 + (1 : Int32)) hB_12 _ _ _ hw18 (lv_sub hl20 [2, 3, 4, 1, 0] rfl)
  exact lp_11 NN (0 : Int32) (0 : Int32) hL_9 _ _ _ hw3 (lv_sub hl6 [3, 4, 2, 1, 0] rfl)
abbrev rm_X3_points : Room := { frames := 3, cells := 0, slots := 0, locals := 67 }
theorem hd_X3_points : yX3_points.cls = RX3 ∧ yX3_points.cls ≠ "java/lang/invoke/MethodHandle" ∧ yX3_points.cls ≠ "java/lang/invoke/VarHandle" ∧ (parseMethodDescriptor yX3_points.desc).map (fun d => d.parameters.length) = some 0 := by decide +kernel
set_option maxHeartbeats 4000000 in
set_option maxRecDepth 100000 in
theorem c_X3_points (l : Launch) (G : va_G) (cI cZ cJ : ClassId) (aD aDc aI : Nat) (D_writesDone : Int32) (D_writesLeft : Int32) (D_down : Int32) (D_cells : Nat → Int32)  {r : Int32} (hfin : m_X3_points D_cells = some (r)) : CT l yX3_points cX3_points 1 (some .int) rm_X3_points G (tyC cI cZ cJ) [.ref aI] [oX2 aD aDc D_writesDone D_writesLeft D_down, rI aDc cI 4096 D_cells, oX3 aI aD] (some (.int r)) [oX2 aD aDc D_writesDone D_writesLeft D_down, rI aDc cI 4096 D_cells, oX3 aI aD] := by
  refine CT.ofW (lvl := [(0, .ref aI)]) (by decide) (Nat.le_of_ble_eq_true rfl) rfl ?_
  intro p e s m args below meth c A ls0 QQ hQQ hx hb hml hr hlocks htc hN hown hK hA hw0 hl0
  rw [m_X3_points] at hfin
  refine lv_aload_n hx hb dX3_points_0 rfl (lv_at hl0 0 rfl) ?_
  refine lv_iconst (v := (3 : Int32)) hx hb dX3_points_1 (by decide) ?_
  replace hfin := ob1_some hfin
  obtain ⟨r_2, hE_1, hfin⟩ := hfin
  refine ctV (a := aI) (As := [.int (3 : Int32)]) (rest := []) (st1 := [.int r_2]) (wc := [oX2 aD aDc D_writesDone D_writesLeft D_down, rI aDc cI 4096 D_cells, oX3 aI aD]) (w1 := [oX2 aD aDc D_writesDone D_writesLeft D_down, rI aDc cI 4096 D_cells, oX3 aI aD]) (wr := []) (wb := [oX2 aD aDc D_writesDone D_writesLeft D_down, rI aDc cI 4096 D_cells, oX3 aI aD]) (v := (some (.int r_2))) hx hb hml hown htc hN (c_X3_total l G cI cZ cJ aD aDc aI D_writesDone D_writesLeft D_down D_cells (3 : Int32) hE_1) mw_732 mw_734 mp_28 mw_4 mw_735 hd_X3_total ⟨rfl, rfl⟩ ⟨Nat.le_of_ble_eq_true rfl, Nat.le_of_ble_eq_true rfl⟩ hK hw0 hA [0, 1, 2] [] [0, 1, 2] rfl rfl rfl rfl rfl (by decide) rfl rfl rfl 2 rfl rfl rfl rfl hl0.1 rfl rfl (Nat.le_of_ble_eq_true rfl) dX3_points_2 ⟨Nat.zero_le _, Nat.zero_le _⟩ (fun H3 locs3 hw3 => ?_)
  clear hw0
  cases hfin
  rw [hQQ]
  exact ct_iret hx hb hr hlocks hw3.1 hw3.2.1 hw3.2.2 dX3_points_5
abbrev rm_X3_cellsOfChunks : Room := { frames := 3, cells := 0, slots := 0, locals := 67 }
theorem hd_X3_cellsOfChunks : yX3_cellsOfChunks.cls = RX3 ∧ yX3_cellsOfChunks.cls ≠ "java/lang/invoke/MethodHandle" ∧ yX3_cellsOfChunks.cls ≠ "java/lang/invoke/VarHandle" ∧ (parseMethodDescriptor yX3_cellsOfChunks.desc).map (fun d => d.parameters.length) = some 0 := by decide +kernel
set_option maxHeartbeats 4000000 in
set_option maxRecDepth 100000 in
theorem c_X3_cellsOfChunks (l : Launch) (G : va_G) (cI cZ cJ : ClassId) (aD aDc aI : Nat) (D_writesDone : Int32) (D_writesLeft : Int32) (D_down : Int32) (D_cells : Nat → Int32)  {r : Int32} (hfin : m_X3_cellsOfChunks D_cells = some (r)) : CT l yX3_cellsOfChunks cX3_cellsOfChunks 1 (some .int) rm_X3_cellsOfChunks G (tyC cI cZ cJ) [.ref aI] [oX2 aD aDc D_writesDone D_writesLeft D_down, rI aDc cI 4096 D_cells, oX3 aI aD] (some (.int r)) [oX2 aD aDc D_writesDone D_writesLeft D_down, rI aDc cI 4096 D_cells, oX3 aI aD] := by
  refine CT.ofW (lvl := [(0, .ref aI)]) (by decide) (Nat.le_of_ble_eq_true rfl) rfl ?_
  intro p e s m args below meth c A ls0 QQ hQQ hx hb hml hr hlocks htc hN hown hK hA hw0 hl0
  rw [m_X3_cellsOfChunks] at hfin
  refine lv_aload_n hx hb dX3_cellsOfChunks_0 rfl (lv_at hl0 0 rfl) ?_
  refine lv_bipush (v := (9 : Int32)) hx hb dX3_cellsOfChunks_1 (by decide) ?_
  replace hfin := ob1_some hfin
  obtain ⟨r_2, hE_1, hfin⟩ := hfin
  refine ctV (a := aI) (As := [.int (9 : Int32)]) (rest := []) (st1 := [.int r_2]) (wc := [oX2 aD aDc D_writesDone D_writesLeft D_down, rI aDc cI 4096 D_cells, oX3 aI aD]) (w1 := [oX2 aD aDc D_writesDone D_writesLeft D_down, rI aDc cI 4096 D_cells, oX3 aI aD]) (wr := []) (wb := [oX2 aD aDc D_writesDone D_writesLeft D_down, rI aDc cI 4096 D_cells, oX3 aI aD]) (v := (some (.int r_2))) hx hb hml hown htc hN (c_X3_total l G cI cZ cJ aD aDc aI D_writesDone D_writesLeft D_down D_cells (9 : Int32) hE_1) mw_732 mw_734 mp_28 mw_4 mw_735 hd_X3_total ⟨rfl, rfl⟩ ⟨Nat.le_of_ble_eq_true rfl, Nat.le_of_ble_eq_true rfl⟩ hK hw0 hA [0, 1, 2] [] [0, 1, 2] rfl rfl rfl rfl rfl (by decide) rfl rfl rfl 2 rfl rfl rfl rfl hl0.1 rfl rfl (Nat.le_of_ble_eq_true rfl) dX3_cellsOfChunks_3 ⟨Nat.zero_le _, Nat.zero_le _⟩ (fun H3 locs3 hw3 => ?_)
  clear hw0
  cases hfin
  rw [hQQ]
  exact ct_iret hx hb hr hlocks hw3.1 hw3.2.1 hw3.2.2 dX3_cellsOfChunks_6
