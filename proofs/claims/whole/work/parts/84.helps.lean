theorem mk_xISE : Cond.classLink RL 13 xISE ∈ wC := wC_mk (List.mem_of_getElem? (i := 847) (by decide +kernel)) (by decide +kernel)
theorem mk_xIOE : Cond.classLink RL 15 xIOE ∈ wC := wC_mk (List.mem_of_getElem? (i := 848) (by decide +kernel)) (by decide +kernel)
theorem mk_xNSE : Cond.classLink RL 28 xNSE ∈ wC := wC_mk (List.mem_of_getElem? (i := 962) (by decide +kernel)) (by decide +kernel)
theorem dL_aggMin_0 : decode cL_aggMin 0 = .ok (.aload 4, 2) := by decide +kernel
theorem dL_aggMin_2 : decode cL_aggMin 2 = .ok (.iconst 0, 1) := by decide +kernel
theorem dL_aggMin_3 : decode cL_aggMin 3 = .ok (.aload_n 0, 1) := by decide +kernel
theorem dL_aggMin_4 : decode cL_aggMin 4 = .ok (.iload_n 1, 1) := by decide +kernel
theorem dL_aggMin_5 : decode cL_aggMin 5 = .ok (.iload_n 2, 1) := by decide +kernel
theorem dL_aggMin_6 : decode cL_aggMin 6 = .ok (.iload_n 3, 1) := by decide +kernel
theorem dL_aggMin_7 : decode cL_aggMin 7 = .ok (.invokevirtual 7, 3) := by decide +kernel
theorem dL_aggMin_10 : decode cL_aggMin 10 = .ok (.i2l, 1) := by decide +kernel
theorem dL_aggMin_11 : decode cL_aggMin 11 = .ok (.lastore, 1) := by decide +kernel
theorem dL_aggMin_12 : decode cL_aggMin 12 = .ok (.goto 11, 3) := by decide +kernel
theorem dL_aggMin_15 : decode cL_aggMin 15 = .ok (.astore 5, 2) := by decide +kernel
theorem dL_aggMin_17 : decode cL_aggMin 17 = .ok (.iconst 1, 1) := by decide +kernel
theorem dL_aggMin_18 : decode cL_aggMin 18 = .ok (.ireturn, 1) := by decide +kernel
theorem dL_aggMin_19 : decode cL_aggMin 19 = .ok (.astore 5, 2) := by decide +kernel
theorem dL_aggMin_21 : decode cL_aggMin 21 = .ok (.iconst 2, 1) := by decide +kernel
theorem dL_aggMin_22 : decode cL_aggMin 22 = .ok (.ireturn, 1) := by decide +kernel
theorem dL_aggMin_23 : decode cL_aggMin 23 = .ok (.iconst 0, 1) := by decide +kernel
theorem dL_aggMin_24 : decode cL_aggMin 24 = .ok (.ireturn, 1) := by decide +kernel
theorem dL_aggMax_0 : decode cL_aggMax 0 = .ok (.aload 4, 2) := by decide +kernel
theorem dL_aggMax_2 : decode cL_aggMax 2 = .ok (.iconst 0, 1) := by decide +kernel
theorem dL_aggMax_3 : decode cL_aggMax 3 = .ok (.aload_n 0, 1) := by decide +kernel
theorem dL_aggMax_4 : decode cL_aggMax 4 = .ok (.iload_n 1, 1) := by decide +kernel
theorem dL_aggMax_5 : decode cL_aggMax 5 = .ok (.iload_n 2, 1) := by decide +kernel
theorem dL_aggMax_6 : decode cL_aggMax 6 = .ok (.iload_n 3, 1) := by decide +kernel
theorem dL_aggMax_7 : decode cL_aggMax 7 = .ok (.invokevirtual 17, 3) := by decide +kernel
theorem dL_aggMax_10 : decode cL_aggMax 10 = .ok (.i2l, 1) := by decide +kernel
theorem dL_aggMax_11 : decode cL_aggMax 11 = .ok (.lastore, 1) := by decide +kernel
theorem dL_aggMax_12 : decode cL_aggMax 12 = .ok (.goto 11, 3) := by decide +kernel
theorem dL_aggMax_15 : decode cL_aggMax 15 = .ok (.astore 5, 2) := by decide +kernel
theorem dL_aggMax_17 : decode cL_aggMax 17 = .ok (.iconst 1, 1) := by decide +kernel
theorem dL_aggMax_18 : decode cL_aggMax 18 = .ok (.ireturn, 1) := by decide +kernel
theorem dL_aggMax_19 : decode cL_aggMax 19 = .ok (.astore 5, 2) := by decide +kernel
theorem dL_aggMax_21 : decode cL_aggMax 21 = .ok (.iconst 2, 1) := by decide +kernel
theorem dL_aggMax_22 : decode cL_aggMax 22 = .ok (.ireturn, 1) := by decide +kernel
theorem dL_aggMax_23 : decode cL_aggMax 23 = .ok (.iconst 0, 1) := by decide +kernel
theorem dL_aggMax_24 : decode cL_aggMax 24 = .ok (.ireturn, 1) := by decide +kernel
theorem dL_aggSum_0 : decode cL_aggSum 0 = .ok (.aload 4, 2) := by decide +kernel
theorem dL_aggSum_2 : decode cL_aggSum 2 = .ok (.iconst 0, 1) := by decide +kernel
theorem dL_aggSum_3 : decode cL_aggSum 3 = .ok (.aload_n 0, 1) := by decide +kernel
theorem dL_aggSum_4 : decode cL_aggSum 4 = .ok (.iload_n 1, 1) := by decide +kernel
theorem dL_aggSum_5 : decode cL_aggSum 5 = .ok (.iload_n 2, 1) := by decide +kernel
theorem dL_aggSum_6 : decode cL_aggSum 6 = .ok (.iload_n 3, 1) := by decide +kernel
theorem dL_aggSum_7 : decode cL_aggSum 7 = .ok (.invokevirtual 20, 3) := by decide +kernel
theorem dL_aggSum_10 : decode cL_aggSum 10 = .ok (.lastore, 1) := by decide +kernel
theorem dL_aggSum_11 : decode cL_aggSum 11 = .ok (.goto 11, 3) := by decide +kernel
theorem dL_aggSum_14 : decode cL_aggSum 14 = .ok (.astore 5, 2) := by decide +kernel
theorem dL_aggSum_16 : decode cL_aggSum 16 = .ok (.iconst 1, 1) := by decide +kernel
theorem dL_aggSum_17 : decode cL_aggSum 17 = .ok (.ireturn, 1) := by decide +kernel
theorem dL_aggSum_18 : decode cL_aggSum 18 = .ok (.astore 5, 2) := by decide +kernel
theorem dL_aggSum_20 : decode cL_aggSum 20 = .ok (.iconst 2, 1) := by decide +kernel
theorem dL_aggSum_21 : decode cL_aggSum 21 = .ok (.ireturn, 1) := by decide +kernel
theorem dL_aggSum_22 : decode cL_aggSum 22 = .ok (.iconst 0, 1) := by decide +kernel
theorem dL_aggSum_23 : decode cL_aggSum 23 = .ok (.ireturn, 1) := by decide +kernel
theorem dL_sizes_0 : decode cL_sizes 0 = .ok (.aload_n 3, 1) := by decide +kernel
theorem dL_sizes_1 : decode cL_sizes 1 = .ok (.iconst 0, 1) := by decide +kernel
theorem dL_sizes_2 : decode cL_sizes 2 = .ok (.aload_n 0, 1) := by decide +kernel
theorem dL_sizes_3 : decode cL_sizes 3 = .ok (.iload_n 1, 1) := by decide +kernel
theorem dL_sizes_4 : decode cL_sizes 4 = .ok (.iload_n 2, 1) := by decide +kernel
theorem dL_sizes_5 : decode cL_sizes 5 = .ok (.invokevirtual 24, 3) := by decide +kernel
theorem dL_sizes_8 : decode cL_sizes 8 = .ok (.i2l, 1) := by decide +kernel
theorem dL_sizes_9 : decode cL_sizes 9 = .ok (.lastore, 1) := by decide +kernel
theorem dL_sizes_10 : decode cL_sizes 10 = .ok (.goto 15, 3) := by decide +kernel
theorem dL_sizes_13 : decode cL_sizes 13 = .ok (.astore 4, 2) := by decide +kernel
theorem dL_sizes_15 : decode cL_sizes 15 = .ok (.iconst 1, 1) := by decide +kernel
theorem dL_sizes_16 : decode cL_sizes 16 = .ok (.ireturn, 1) := by decide +kernel
theorem dL_sizes_17 : decode cL_sizes 17 = .ok (.astore 4, 2) := by decide +kernel
theorem dL_sizes_19 : decode cL_sizes 19 = .ok (.iconst 2, 1) := by decide +kernel
theorem dL_sizes_20 : decode cL_sizes 20 = .ok (.ireturn, 1) := by decide +kernel
theorem dL_sizes_21 : decode cL_sizes 21 = .ok (.astore 4, 2) := by decide +kernel
theorem dL_sizes_23 : decode cL_sizes 23 = .ok (.iconst 3, 1) := by decide +kernel
theorem dL_sizes_24 : decode cL_sizes 24 = .ok (.ireturn, 1) := by decide +kernel
theorem dL_sizes_25 : decode cL_sizes 25 = .ok (.iconst 0, 1) := by decide +kernel
theorem dL_sizes_26 : decode cL_sizes 26 = .ok (.ireturn, 1) := by decide +kernel
theorem dL_chunk_0 : decode cL_chunk 0 = .ok (.aload 4, 2) := by decide +kernel
theorem dL_chunk_2 : decode cL_chunk 2 = .ok (.iconst 0, 1) := by decide +kernel
theorem dL_chunk_3 : decode cL_chunk 3 = .ok (.aload_n 0, 1) := by decide +kernel
theorem dL_chunk_4 : decode cL_chunk 4 = .ok (.iload_n 1, 1) := by decide +kernel
theorem dL_chunk_5 : decode cL_chunk 5 = .ok (.iload_n 2, 1) := by decide +kernel
theorem dL_chunk_6 : decode cL_chunk 6 = .ok (.iload_n 3, 1) := by decide +kernel
theorem dL_chunk_7 : decode cL_chunk 7 = .ok (.invokevirtual 30, 3) := by decide +kernel
theorem dL_chunk_10 : decode cL_chunk 10 = .ok (.i2l, 1) := by decide +kernel
theorem dL_chunk_11 : decode cL_chunk 11 = .ok (.lastore, 1) := by decide +kernel
theorem dL_chunk_12 : decode cL_chunk 12 = .ok (.goto 15, 3) := by decide +kernel
theorem dL_chunk_15 : decode cL_chunk 15 = .ok (.astore 5, 2) := by decide +kernel
theorem dL_chunk_17 : decode cL_chunk 17 = .ok (.iconst 1, 1) := by decide +kernel
theorem dL_chunk_18 : decode cL_chunk 18 = .ok (.ireturn, 1) := by decide +kernel
theorem dL_chunk_19 : decode cL_chunk 19 = .ok (.astore 5, 2) := by decide +kernel
theorem dL_chunk_21 : decode cL_chunk 21 = .ok (.iconst 2, 1) := by decide +kernel
theorem dL_chunk_22 : decode cL_chunk 22 = .ok (.ireturn, 1) := by decide +kernel
theorem dL_chunk_23 : decode cL_chunk 23 = .ok (.astore 5, 2) := by decide +kernel
theorem dL_chunk_25 : decode cL_chunk 25 = .ok (.iconst 3, 1) := by decide +kernel
theorem dL_chunk_26 : decode cL_chunk 26 = .ok (.ireturn, 1) := by decide +kernel
theorem dL_chunk_27 : decode cL_chunk 27 = .ok (.iconst 0, 1) := by decide +kernel
theorem dL_chunk_28 : decode cL_chunk 28 = .ok (.ireturn, 1) := by decide +kernel
theorem dL_group_0 : decode cL_group 0 = .ok (.aload 4, 2) := by decide +kernel
theorem dL_group_2 : decode cL_group 2 = .ok (.iconst 0, 1) := by decide +kernel
theorem dL_group_3 : decode cL_group 3 = .ok (.aload_n 0, 1) := by decide +kernel
theorem dL_group_4 : decode cL_group 4 = .ok (.iload_n 1, 1) := by decide +kernel
theorem dL_group_5 : decode cL_group 5 = .ok (.iload_n 2, 1) := by decide +kernel
theorem dL_group_6 : decode cL_group 6 = .ok (.iload_n 3, 1) := by decide +kernel
theorem dL_group_7 : decode cL_group 7 = .ok (.invokevirtual 33, 3) := by decide +kernel
theorem dL_group_10 : decode cL_group 10 = .ok (.i2l, 1) := by decide +kernel
theorem dL_group_11 : decode cL_group 11 = .ok (.lastore, 1) := by decide +kernel
theorem dL_group_12 : decode cL_group 12 = .ok (.goto 15, 3) := by decide +kernel
theorem dL_group_15 : decode cL_group 15 = .ok (.astore 5, 2) := by decide +kernel
theorem dL_group_17 : decode cL_group 17 = .ok (.iconst 1, 1) := by decide +kernel
theorem dL_group_18 : decode cL_group 18 = .ok (.ireturn, 1) := by decide +kernel
theorem dL_group_19 : decode cL_group 19 = .ok (.astore 5, 2) := by decide +kernel
theorem dL_group_21 : decode cL_group 21 = .ok (.iconst 2, 1) := by decide +kernel
theorem dL_group_22 : decode cL_group 22 = .ok (.ireturn, 1) := by decide +kernel
theorem dL_group_23 : decode cL_group 23 = .ok (.astore 5, 2) := by decide +kernel
theorem dL_group_25 : decode cL_group 25 = .ok (.iconst 3, 1) := by decide +kernel
theorem dL_group_26 : decode cL_group 26 = .ok (.ireturn, 1) := by decide +kernel
theorem dL_group_27 : decode cL_group 27 = .ok (.iconst 0, 1) := by decide +kernel
theorem dL_group_28 : decode cL_group 28 = .ok (.ireturn, 1) := by decide +kernel
abbrev rh_aggMin : Room := { frames := 8, cells := 1, slots := 6, locals := 176 }
abbrev hh_aggMin : List (Nat × Nat × Nat × Nat) := [(0, 12, 15, 13), (0, 12, 19, 15)]
theorem mh_aggMin : Cond.codeWith yL_aggMin cL_aggMin 6 (some .int) hh_aggMin ∈ wC := wC_mk (List.mem_of_getElem? (i := 846) (by decide +kernel)) (by decide +kernel)
theorem hs_L_aggMin : yL_aggMin.cls = RL ∧ yL_aggMin.cls ≠ "java/lang/invoke/MethodHandle" ∧ yL_aggMin.cls ≠ "java/lang/invoke/VarHandle" ∧ (parseMethodDescriptor yL_aggMin.desc).map (fun d => d.parameters.length) = some 5 := by decide +kernel
set_option maxHeartbeats 4000000 in
set_option maxRecDepth 100000 in
theorem h_aggMin (l : Launch) (hST : l.stackTraces = false) (G : va_G) (cI cZ cJ : ClassId) (aP aD aI aG aU aT aQ aC aDc aF aZ aO : Nat) (P_seriesCount : Int32) (P_most : Int32) (P_ratio : Int32) (P_recoveries : Int32) (D_writesDone : Int32) (D_writesLeft : Int32) (D_down : Int32) (D_cells : Nat → Int32) (G_logged : Int32) (U_place : Int32) (U_bitsRead : Int32) (U_started : Int32) (U_time : Int32) (U_value : Int32) (U_rise : Int64) (Q_ratio : Int32) (Q_looks : Int32) (Q_unpacked : Int32) (F_first : Int32) (F_last : Int32) (F_points : Int32) (F_least : Int32) (F_greatest : Int32) (F_sum : Int64) (Z_first : Int32) (Z_last : Int32) (Z_points : Int32) (Z_least : Int32) (Z_greatest : Int32) (Z_sum : Int64) (O : Nat → Int64) (p0 : Int32) (p1 : Int32) (p2 : Int32) {k : Int32} {r : Int32} {o_U_place : Int32} {o_U_bitsRead : Int32} {o_U_started : Int32} {o_U_time : Int32} {o_U_value : Int32} {o_U_rise : Int64} {o_Q_looks : Int32} {o_Q_unpacked : Int32} {o_F_first : Int32} {o_F_last : Int32} {o_F_points : Int32} {o_F_least : Int32} {o_F_greatest : Int32} {o_F_sum : Int64} {o_Z_first : Int32} {o_Z_last : Int32} {o_Z_points : Int32} {o_Z_least : Int32} {o_Z_greatest : Int32} {o_Z_sum : Int64} (hfin : m_X9_aggMin P_seriesCount D_down D_cells G_logged U_place U_bitsRead U_started U_time U_value U_rise Q_ratio Q_looks Q_unpacked F_first F_last F_points F_least F_greatest F_sum Z_first Z_last Z_points Z_least Z_greatest Z_sum p0 p1 p2 = some (k, r, o_U_place, o_U_bitsRead, o_U_started, o_U_time, o_U_value, o_U_rise, o_Q_looks, o_Q_unpacked, o_F_first, o_F_last, o_F_points, o_F_least, o_F_greatest, o_F_sum, o_Z_first, o_Z_last, o_Z_points, o_Z_least, o_Z_greatest, o_Z_sum)) (hk : k = 0 ∨ k = 1 ∨ k = 2) : HT l yL_aggMin cL_aggMin 6 hh_aggMin rh_aggMin G (tyC cI cZ cJ) [.ref aP, .int p0, .int p1, .int p2, .ref aO] [oX9 aP P_seriesCount P_most P_ratio aD aI aG aU aT aQ aC P_recoveries, oX2 aD aDc D_writesDone D_writesLeft D_down, rI aDc cI 4096 D_cells, oX3 aI aD, oX4 aG aD G_logged, oX8 aU aD U_place U_bitsRead U_started U_time U_value U_rise, oX0 aQ aI aG aU Q_ratio aF aZ Q_looks Q_unpacked, oX6 aF F_first F_last F_points F_least F_greatest F_sum, oX6 aZ Z_first Z_last Z_points Z_least Z_greatest Z_sum, rJ aO cJ 1 O] (some (.int k)) [oX9 aP P_seriesCount P_most P_ratio aD aI aG aU aT aQ aC P_recoveries, oX2 aD aDc D_writesDone D_writesLeft D_down, rI aDc cI 4096 D_cells, oX3 aI aD, oX4 aG aD G_logged, oX8 aU aD o_U_place o_U_bitsRead o_U_started o_U_time o_U_value o_U_rise, oX0 aQ aI aG aU Q_ratio aF aZ o_Q_looks o_Q_unpacked, oX6 aF o_F_first o_F_last o_F_points o_F_least o_F_greatest o_F_sum, oX6 aZ o_Z_first o_Z_last o_Z_points o_Z_least o_Z_greatest o_Z_sum, rJ aO cJ 1 (if k = 0 then vp_updL O 0 (Int32.toInt64 r) else O)] := by
  refine HT.ofW (lvl := [(0, .ref aP), (1, .int p0), (2, .int p1), (3, .int p2), (4, .ref aO)]) (by decide) (Nat.le_of_ble_eq_true rfl) rfl ?_
  intro p e s m args below meth c A ls0 QQ hQQ hT hX hx hb hml hr hlocks htc hN hown hK hA hw0 hl0
  refine lv_aload hx hb dL_aggMin_0 (lv_at hl0 4 rfl) ?_
  refine lv_iconst (v := (0 : Int32)) hx hb dL_aggMin_2 (by decide) ?_
  refine lv_aload_n hx hb dL_aggMin_3 rfl (lv_at hl0 0 rfl) ?_
  refine lv_iload_n hx hb dL_aggMin_4 rfl (lv_at hl0 1 rfl) ?_
  refine lv_iload_n hx hb dL_aggMin_5 rfl (lv_at hl0 2 rfl) ?_
  refine lv_iload_n hx hb dL_aggMin_6 rfl (lv_at hl0 3 rfl) ?_
  by_cases hk0 : k = 0
  · subst hk0
    rw [if_pos rfl] at hQQ
    refine W.widen (k := 1) (n := 6) (Nat.zero_le _) (Nat.zero_le _) ?_
    refine ctV (a := aP) (As := [.int p0, .int p1, .int p2]) (rest := [.int (0 : Int32), .ref aO]) (st1 := [.int r, .int (0 : Int32), .ref aO]) (wc := [oX9 aP P_seriesCount P_most P_ratio aD aI aG aU aT aQ aC P_recoveries, oX2 aD aDc D_writesDone D_writesLeft D_down, rI aDc cI 4096 D_cells, oX3 aI aD, oX4 aG aD G_logged, oX8 aU aD U_place U_bitsRead U_started U_time U_value U_rise, oX0 aQ aI aG aU Q_ratio aF aZ Q_looks Q_unpacked, oX6 aF F_first F_last F_points F_least F_greatest F_sum, oX6 aZ Z_first Z_last Z_points Z_least Z_greatest Z_sum]) (w1 := [oX9 aP P_seriesCount P_most P_ratio aD aI aG aU aT aQ aC P_recoveries, oX2 aD aDc D_writesDone D_writesLeft D_down, rI aDc cI 4096 D_cells, oX3 aI aD, oX4 aG aD G_logged, oX8 aU aD o_U_place o_U_bitsRead o_U_started o_U_time o_U_value o_U_rise, oX0 aQ aI aG aU Q_ratio aF aZ o_Q_looks o_Q_unpacked, oX6 aF o_F_first o_F_last o_F_points o_F_least o_F_greatest o_F_sum, oX6 aZ o_Z_first o_Z_last o_Z_points o_Z_least o_Z_greatest o_Z_sum]) (wr := [rJ aO cJ 1 O]) (wb := [oX9 aP P_seriesCount P_most P_ratio aD aI aG aU aT aQ aC P_recoveries, oX2 aD aDc D_writesDone D_writesLeft D_down, rI aDc cI 4096 D_cells, oX3 aI aD, oX4 aG aD G_logged, oX8 aU aD o_U_place o_U_bitsRead o_U_started o_U_time o_U_value o_U_rise, oX0 aQ aI aG aU Q_ratio aF aZ o_Q_looks o_Q_unpacked, oX6 aF o_F_first o_F_last o_F_points o_F_least o_F_greatest o_F_sum, oX6 aZ o_Z_first o_Z_last o_Z_points o_Z_least o_Z_greatest o_Z_sum, rJ aO cJ 1 O]) (v := (some (.int r))) hx hb hml hown htc hN (c_X9_aggMin l G cI cZ cJ aP aD aI aG aU aT aQ aC aDc aF aZ P_seriesCount P_most P_ratio P_recoveries D_writesDone D_writesLeft D_down D_cells G_logged U_place U_bitsRead U_started U_time U_value U_rise Q_ratio Q_looks Q_unpacked F_first F_last F_points F_least F_greatest F_sum Z_first Z_last Z_points Z_least Z_greatest Z_sum p0 p1 p2 hfin) mw_773 mw_774 mw_775 mw_1 mw_776 hd_X9_aggMin ⟨rfl, rfl⟩ ⟨Nat.le_of_ble_eq_true rfl, Nat.le_of_ble_eq_true rfl⟩ hK hw0 hA [0, 1, 2, 3, 4, 5, 6, 7, 8] [9] [1, 2, 3, 4, 5, 6, 7, 8, 9, 0] rfl rfl rfl rfl rfl (by decide) rfl rfl rfl 0 rfl rfl rfl rfl hl0.1 rfl rfl (Nat.le_of_ble_eq_true rfl) dL_aggMin_7 ⟨Nat.le_refl _, Nat.le_refl _⟩ (fun H1 locs1 hw1 => ?_)
    refine lv_i2l hx hb dL_aggMin_10 rfl ?_
    refine va_last hx hb hK hw1.1 hw1.2.1 hw1.2.2 9 2 rfl rfl (show vp_in (0 : Int32) 1 by unfold vp_in; decide) dL_aggMin_11 (fun H2 locs2 hP hD hS => ?_)
    have hw2 : wS G A s H2 locs2 [oX9 aP P_seriesCount P_most P_ratio aD aI aG aU aT aQ aC P_recoveries, oX2 aD aDc D_writesDone D_writesLeft D_down, rI aDc cI 4096 D_cells, oX3 aI aD, oX4 aG aD G_logged, oX8 aU aD o_U_place o_U_bitsRead o_U_started o_U_time o_U_value o_U_rise, oX0 aQ aI aG aU Q_ratio aF aZ o_Q_looks o_Q_unpacked, oX6 aF o_F_first o_F_last o_F_points o_F_least o_F_greatest o_F_sum, oX6 aZ o_Z_first o_Z_last o_Z_points o_Z_least o_Z_greatest o_Z_sum, rJ aO cJ 1 (vp_updL O 0 (Int32.toInt64 r))] := ⟨hP, hD, hS⟩
    refine lv_goto (tgt := 23) hx hb dL_aggMin_12 (by decide) ?_
    refine lv_iconst (v := (0 : Int32)) hx hb dL_aggMin_23 (by decide) ?_
    rw [hQQ]
    exact et_iret hx hb hr hlocks hw2 dL_aggMin_24
  · rw [if_neg hk0] at hQQ
    refine xtV (a := aP) (As := [.int p0, .int p1, .int p2]) (rest := [.int (0 : Int32), .ref aO]) (wc := [oX9 aP P_seriesCount P_most P_ratio aD aI aG aU aT aQ aC P_recoveries, oX2 aD aDc D_writesDone D_writesLeft D_down, rI aDc cI 4096 D_cells, oX3 aI aD, oX4 aG aD G_logged, oX8 aU aD U_place U_bitsRead U_started U_time U_value U_rise, oX0 aQ aI aG aU Q_ratio aF aZ Q_looks Q_unpacked, oX6 aF F_first F_last F_points F_least F_greatest F_sum, oX6 aZ Z_first Z_last Z_points Z_least Z_greatest Z_sum]) (w1 := [oX9 aP P_seriesCount P_most P_ratio aD aI aG aU aT aQ aC P_recoveries, oX2 aD aDc D_writesDone D_writesLeft D_down, rI aDc cI 4096 D_cells, oX3 aI aD, oX4 aG aD G_logged, oX8 aU aD o_U_place o_U_bitsRead o_U_started o_U_time o_U_value o_U_rise, oX0 aQ aI aG aU Q_ratio aF aZ o_Q_looks o_Q_unpacked, oX6 aF o_F_first o_F_last o_F_points o_F_least o_F_greatest o_F_sum, oX6 aZ o_Z_first o_Z_last o_Z_points o_Z_least o_Z_greatest o_Z_sum]) (wr := [rJ aO cJ 1 O]) (wb := [oX9 aP P_seriesCount P_most P_ratio aD aI aG aU aT aQ aC P_recoveries, oX2 aD aDc D_writesDone D_writesLeft D_down, rI aDc cI 4096 D_cells, oX3 aI aD, oX4 aG aD G_logged, oX8 aU aD o_U_place o_U_bitsRead o_U_started o_U_time o_U_value o_U_rise, oX0 aQ aI aG aU Q_ratio aF aZ o_Q_looks o_Q_unpacked, oX6 aF o_F_first o_F_last o_F_points o_F_least o_F_greatest o_F_sum, oX6 aZ o_Z_first o_Z_last o_Z_points o_Z_least o_Z_greatest o_Z_sum, rJ aO cJ 1 O]) hx hb hml hown htc hN hX (x_X9_aggMin l hST G cI cZ cJ aP aD aI aG aU aT aQ aC aDc aF aZ P_seriesCount P_most P_ratio P_recoveries D_writesDone D_writesLeft D_down D_cells G_logged U_place U_bitsRead U_started U_time U_value U_rise Q_ratio Q_looks Q_unpacked F_first F_last F_points F_least F_greatest F_sum Z_first Z_last Z_points Z_least Z_greatest Z_sum p0 p1 p2 hfin hk0) mw_773 mw_774 mw_775 mw_1 mw_776 hd_X9_aggMin ⟨rfl, rfl⟩ ⟨Nat.le_of_ble_eq_true rfl, Nat.le_of_ble_eq_true rfl⟩ hK hw0 hA [0, 1, 2, 3, 4, 5, 6, 7, 8] [9] [1, 2, 3, 4, 5, 6, 7, 8, 9, 0] rfl rfl rfl rfl rfl (by decide) rfl rfl rfl 0 rfl rfl rfl rfl hl0.1 rfl (Nat.le_of_ble_eq_true rfl) dL_aggMin_7 ⟨Nat.le_refl _, Nat.le_refl _⟩ (fun H1 locs1 q ce hw1 hc1 hc2 hc3 => ?_)
    rcases hk with rfl | rfl | rfl
    · exact absurd rfl hk0
    · rw [exN_1] at hc3
      refine vx_catch (own := RL) (name := xISE) hown [] ⟨0, 12, 15, 13⟩ [⟨0, 12, 19, 15⟩] (by rw [hT]; rfl) (fun z hz => nomatch hz) (by decide) (Nat.succ_ne_zero _) (htc _ mk_xISE) (va_Nw.use rfl (hX.2.1.1 xISE (by decide))) hc1 hc2 hc3 ?_
      refine lv_astore (lv' := [(5, .ref q), (0, .ref aP), (1, .int p0), (2, .int p1), (3, .int p2), (4, .ref aO)]) hx hb dL_aggMin_15 hl0 (by decide) rfl (fun ls1 hl1 => ?_)
      refine lv_iconst (v := (1 : Int32)) hx hb dL_aggMin_17 (by decide) ?_
      rw [hQQ]
      exact et_iret hx hb hr hlocks hw1 dL_aggMin_18
    · rw [exN_2] at hc3
      refine vx_catch (own := RL) (name := xIOE) hown [⟨0, 12, 15, 13⟩] ⟨0, 12, 19, 15⟩ [] (by rw [hT]; rfl) (List.forall_mem_cons.mpr ⟨Or.inr ⟨Nat.succ_ne_zero _, xISE, htc _ mk_xISE, hX.2.2.2 (xIOE, xISE) (by decide)⟩, (fun _ h => nomatch h)⟩) (by decide) (Nat.succ_ne_zero _) (htc _ mk_xIOE) (va_Nw.use rfl (hX.2.1.1 xIOE (by decide))) hc1 hc2 hc3 ?_
      refine lv_astore (lv' := [(5, .ref q), (0, .ref aP), (1, .int p0), (2, .int p1), (3, .int p2), (4, .ref aO)]) hx hb dL_aggMin_19 hl0 (by decide) rfl (fun ls1 hl1 => ?_)
      refine lv_iconst (v := (2 : Int32)) hx hb dL_aggMin_21 (by decide) ?_
      rw [hQQ]
      exact et_iret hx hb hr hlocks hw1 dL_aggMin_22
abbrev rh_aggMax : Room := { frames := 8, cells := 1, slots := 6, locals := 176 }
abbrev hh_aggMax : List (Nat × Nat × Nat × Nat) := [(0, 12, 15, 13), (0, 12, 19, 15)]
theorem mh_aggMax : Cond.codeWith yL_aggMax cL_aggMax 6 (some .int) hh_aggMax ∈ wC := wC_mk (List.mem_of_getElem? (i := 947) (by decide +kernel)) (by decide +kernel)
theorem hs_L_aggMax : yL_aggMax.cls = RL ∧ yL_aggMax.cls ≠ "java/lang/invoke/MethodHandle" ∧ yL_aggMax.cls ≠ "java/lang/invoke/VarHandle" ∧ (parseMethodDescriptor yL_aggMax.desc).map (fun d => d.parameters.length) = some 5 := by decide +kernel
set_option maxHeartbeats 4000000 in
set_option maxRecDepth 100000 in
theorem h_aggMax (l : Launch) (hST : l.stackTraces = false) (G : va_G) (cI cZ cJ : ClassId) (aP aD aI aG aU aT aQ aC aDc aF aZ aO : Nat) (P_seriesCount : Int32) (P_most : Int32) (P_ratio : Int32) (P_recoveries : Int32) (D_writesDone : Int32) (D_writesLeft : Int32) (D_down : Int32) (D_cells : Nat → Int32) (G_logged : Int32) (U_place : Int32) (U_bitsRead : Int32) (U_started : Int32) (U_time : Int32) (U_value : Int32) (U_rise : Int64) (Q_ratio : Int32) (Q_looks : Int32) (Q_unpacked : Int32) (F_first : Int32) (F_last : Int32) (F_points : Int32) (F_least : Int32) (F_greatest : Int32) (F_sum : Int64) (Z_first : Int32) (Z_last : Int32) (Z_points : Int32) (Z_least : Int32) (Z_greatest : Int32) (Z_sum : Int64) (O : Nat → Int64) (p0 : Int32) (p1 : Int32) (p2 : Int32) {k : Int32} {r : Int32} {o_U_place : Int32} {o_U_bitsRead : Int32} {o_U_started : Int32} {o_U_time : Int32} {o_U_value : Int32} {o_U_rise : Int64} {o_Q_looks : Int32} {o_Q_unpacked : Int32} {o_F_first : Int32} {o_F_last : Int32} {o_F_points : Int32} {o_F_least : Int32} {o_F_greatest : Int32} {o_F_sum : Int64} {o_Z_first : Int32} {o_Z_last : Int32} {o_Z_points : Int32} {o_Z_least : Int32} {o_Z_greatest : Int32} {o_Z_sum : Int64} (hfin : m_X9_aggMax P_seriesCount D_down D_cells G_logged U_place U_bitsRead U_started U_time U_value U_rise Q_ratio Q_looks Q_unpacked F_first F_last F_points F_least F_greatest F_sum Z_first Z_last Z_points Z_least Z_greatest Z_sum p0 p1 p2 = some (k, r, o_U_place, o_U_bitsRead, o_U_started, o_U_time, o_U_value, o_U_rise, o_Q_looks, o_Q_unpacked, o_F_first, o_F_last, o_F_points, o_F_least, o_F_greatest, o_F_sum, o_Z_first, o_Z_last, o_Z_points, o_Z_least, o_Z_greatest, o_Z_sum)) (hk : k = 0 ∨ k = 1 ∨ k = 2) : HT l yL_aggMax cL_aggMax 6 hh_aggMax rh_aggMax G (tyC cI cZ cJ) [.ref aP, .int p0, .int p1, .int p2, .ref aO] [oX9 aP P_seriesCount P_most P_ratio aD aI aG aU aT aQ aC P_recoveries, oX2 aD aDc D_writesDone D_writesLeft D_down, rI aDc cI 4096 D_cells, oX3 aI aD, oX4 aG aD G_logged, oX8 aU aD U_place U_bitsRead U_started U_time U_value U_rise, oX0 aQ aI aG aU Q_ratio aF aZ Q_looks Q_unpacked, oX6 aF F_first F_last F_points F_least F_greatest F_sum, oX6 aZ Z_first Z_last Z_points Z_least Z_greatest Z_sum, rJ aO cJ 1 O] (some (.int k)) [oX9 aP P_seriesCount P_most P_ratio aD aI aG aU aT aQ aC P_recoveries, oX2 aD aDc D_writesDone D_writesLeft D_down, rI aDc cI 4096 D_cells, oX3 aI aD, oX4 aG aD G_logged, oX8 aU aD o_U_place o_U_bitsRead o_U_started o_U_time o_U_value o_U_rise, oX0 aQ aI aG aU Q_ratio aF aZ o_Q_looks o_Q_unpacked, oX6 aF o_F_first o_F_last o_F_points o_F_least o_F_greatest o_F_sum, oX6 aZ o_Z_first o_Z_last o_Z_points o_Z_least o_Z_greatest o_Z_sum, rJ aO cJ 1 (if k = 0 then vp_updL O 0 (Int32.toInt64 r) else O)] := by
  refine HT.ofW (lvl := [(0, .ref aP), (1, .int p0), (2, .int p1), (3, .int p2), (4, .ref aO)]) (by decide) (Nat.le_of_ble_eq_true rfl) rfl ?_
  intro p e s m args below meth c A ls0 QQ hQQ hT hX hx hb hml hr hlocks htc hN hown hK hA hw0 hl0
  refine lv_aload hx hb dL_aggMax_0 (lv_at hl0 4 rfl) ?_
  refine lv_iconst (v := (0 : Int32)) hx hb dL_aggMax_2 (by decide) ?_
  refine lv_aload_n hx hb dL_aggMax_3 rfl (lv_at hl0 0 rfl) ?_
  refine lv_iload_n hx hb dL_aggMax_4 rfl (lv_at hl0 1 rfl) ?_
  refine lv_iload_n hx hb dL_aggMax_5 rfl (lv_at hl0 2 rfl) ?_
  refine lv_iload_n hx hb dL_aggMax_6 rfl (lv_at hl0 3 rfl) ?_
  by_cases hk0 : k = 0
  · subst hk0
    rw [if_pos rfl] at hQQ
    refine W.widen (k := 1) (n := 6) (Nat.zero_le _) (Nat.zero_le _) ?_
    refine ctV (a := aP) (As := [.int p0, .int p1, .int p2]) (rest := [.int (0 : Int32), .ref aO]) (st1 := [.int r, .int (0 : Int32), .ref aO]) (wc := [oX9 aP P_seriesCount P_most P_ratio aD aI aG aU aT aQ aC P_recoveries, oX2 aD aDc D_writesDone D_writesLeft D_down, rI aDc cI 4096 D_cells, oX3 aI aD, oX4 aG aD G_logged, oX8 aU aD U_place U_bitsRead U_started U_time U_value U_rise, oX0 aQ aI aG aU Q_ratio aF aZ Q_looks Q_unpacked, oX6 aF F_first F_last F_points F_least F_greatest F_sum, oX6 aZ Z_first Z_last Z_points Z_least Z_greatest Z_sum]) (w1 := [oX9 aP P_seriesCount P_most P_ratio aD aI aG aU aT aQ aC P_recoveries, oX2 aD aDc D_writesDone D_writesLeft D_down, rI aDc cI 4096 D_cells, oX3 aI aD, oX4 aG aD G_logged, oX8 aU aD o_U_place o_U_bitsRead o_U_started o_U_time o_U_value o_U_rise, oX0 aQ aI aG aU Q_ratio aF aZ o_Q_looks o_Q_unpacked, oX6 aF o_F_first o_F_last o_F_points o_F_least o_F_greatest o_F_sum, oX6 aZ o_Z_first o_Z_last o_Z_points o_Z_least o_Z_greatest o_Z_sum]) (wr := [rJ aO cJ 1 O]) (wb := [oX9 aP P_seriesCount P_most P_ratio aD aI aG aU aT aQ aC P_recoveries, oX2 aD aDc D_writesDone D_writesLeft D_down, rI aDc cI 4096 D_cells, oX3 aI aD, oX4 aG aD G_logged, oX8 aU aD o_U_place o_U_bitsRead o_U_started o_U_time o_U_value o_U_rise, oX0 aQ aI aG aU Q_ratio aF aZ o_Q_looks o_Q_unpacked, oX6 aF o_F_first o_F_last o_F_points o_F_least o_F_greatest o_F_sum, oX6 aZ o_Z_first o_Z_last o_Z_points o_Z_least o_Z_greatest o_Z_sum, rJ aO cJ 1 O]) (v := (some (.int r))) hx hb hml hown htc hN (c_X9_aggMax l G cI cZ cJ aP aD aI aG aU aT aQ aC aDc aF aZ P_seriesCount P_most P_ratio P_recoveries D_writesDone D_writesLeft D_down D_cells G_logged U_place U_bitsRead U_started U_time U_value U_rise Q_ratio Q_looks Q_unpacked F_first F_last F_points F_least F_greatest F_sum Z_first Z_last Z_points Z_least Z_greatest Z_sum p0 p1 p2 hfin) mw_872 mw_873 mw_874 mw_1 mw_875 hd_X9_aggMax ⟨rfl, rfl⟩ ⟨Nat.le_of_ble_eq_true rfl, Nat.le_of_ble_eq_true rfl⟩ hK hw0 hA [0, 1, 2, 3, 4, 5, 6, 7, 8] [9] [1, 2, 3, 4, 5, 6, 7, 8, 9, 0] rfl rfl rfl rfl rfl (by decide) rfl rfl rfl 0 rfl rfl rfl rfl hl0.1 rfl rfl (Nat.le_of_ble_eq_true rfl) dL_aggMax_7 ⟨Nat.le_refl _, Nat.le_refl _⟩ (fun H1 locs1 hw1 => ?_)
    refine lv_i2l hx hb dL_aggMax_10 rfl ?_
    refine va_last hx hb hK hw1.1 hw1.2.1 hw1.2.2 9 2 rfl rfl (show vp_in (0 : Int32) 1 by unfold vp_in; decide) dL_aggMax_11 (fun H2 locs2 hP hD hS => ?_)
    have hw2 : wS G A s H2 locs2 [oX9 aP P_seriesCount P_most P_ratio aD aI aG aU aT aQ aC P_recoveries, oX2 aD aDc D_writesDone D_writesLeft D_down, rI aDc cI 4096 D_cells, oX3 aI aD, oX4 aG aD G_logged, oX8 aU aD o_U_place o_U_bitsRead o_U_started o_U_time o_U_value o_U_rise, oX0 aQ aI aG aU Q_ratio aF aZ o_Q_looks o_Q_unpacked, oX6 aF o_F_first o_F_last o_F_points o_F_least o_F_greatest o_F_sum, oX6 aZ o_Z_first o_Z_last o_Z_points o_Z_least o_Z_greatest o_Z_sum, rJ aO cJ 1 (vp_updL O 0 (Int32.toInt64 r))] := ⟨hP, hD, hS⟩
    refine lv_goto (tgt := 23) hx hb dL_aggMax_12 (by decide) ?_
    refine lv_iconst (v := (0 : Int32)) hx hb dL_aggMax_23 (by decide) ?_
    rw [hQQ]
    exact et_iret hx hb hr hlocks hw2 dL_aggMax_24
  · rw [if_neg hk0] at hQQ
    refine xtV (a := aP) (As := [.int p0, .int p1, .int p2]) (rest := [.int (0 : Int32), .ref aO]) (wc := [oX9 aP P_seriesCount P_most P_ratio aD aI aG aU aT aQ aC P_recoveries, oX2 aD aDc D_writesDone D_writesLeft D_down, rI aDc cI 4096 D_cells, oX3 aI aD, oX4 aG aD G_logged, oX8 aU aD U_place U_bitsRead U_started U_time U_value U_rise, oX0 aQ aI aG aU Q_ratio aF aZ Q_looks Q_unpacked, oX6 aF F_first F_last F_points F_least F_greatest F_sum, oX6 aZ Z_first Z_last Z_points Z_least Z_greatest Z_sum]) (w1 := [oX9 aP P_seriesCount P_most P_ratio aD aI aG aU aT aQ aC P_recoveries, oX2 aD aDc D_writesDone D_writesLeft D_down, rI aDc cI 4096 D_cells, oX3 aI aD, oX4 aG aD G_logged, oX8 aU aD o_U_place o_U_bitsRead o_U_started o_U_time o_U_value o_U_rise, oX0 aQ aI aG aU Q_ratio aF aZ o_Q_looks o_Q_unpacked, oX6 aF o_F_first o_F_last o_F_points o_F_least o_F_greatest o_F_sum, oX6 aZ o_Z_first o_Z_last o_Z_points o_Z_least o_Z_greatest o_Z_sum]) (wr := [rJ aO cJ 1 O]) (wb := [oX9 aP P_seriesCount P_most P_ratio aD aI aG aU aT aQ aC P_recoveries, oX2 aD aDc D_writesDone D_writesLeft D_down, rI aDc cI 4096 D_cells, oX3 aI aD, oX4 aG aD G_logged, oX8 aU aD o_U_place o_U_bitsRead o_U_started o_U_time o_U_value o_U_rise, oX0 aQ aI aG aU Q_ratio aF aZ o_Q_looks o_Q_unpacked, oX6 aF o_F_first o_F_last o_F_points o_F_least o_F_greatest o_F_sum, oX6 aZ o_Z_first o_Z_last o_Z_points o_Z_least o_Z_greatest o_Z_sum, rJ aO cJ 1 O]) hx hb hml hown htc hN hX (x_X9_aggMax l hST G cI cZ cJ aP aD aI aG aU aT aQ aC aDc aF aZ P_seriesCount P_most P_ratio P_recoveries D_writesDone D_writesLeft D_down D_cells G_logged U_place U_bitsRead U_started U_time U_value U_rise Q_ratio Q_looks Q_unpacked F_first F_last F_points F_least F_greatest F_sum Z_first Z_last Z_points Z_least Z_greatest Z_sum p0 p1 p2 hfin hk0) mw_872 mw_873 mw_874 mw_1 mw_875 hd_X9_aggMax ⟨rfl, rfl⟩ ⟨Nat.le_of_ble_eq_true rfl, Nat.le_of_ble_eq_true rfl⟩ hK hw0 hA [0, 1, 2, 3, 4, 5, 6, 7, 8] [9] [1, 2, 3, 4, 5, 6, 7, 8, 9, 0] rfl rfl rfl rfl rfl (by decide) rfl rfl rfl 0 rfl rfl rfl rfl hl0.1 rfl (Nat.le_of_ble_eq_true rfl) dL_aggMax_7 ⟨Nat.le_refl _, Nat.le_refl _⟩ (fun H1 locs1 q ce hw1 hc1 hc2 hc3 => ?_)
    rcases hk with rfl | rfl | rfl
    · exact absurd rfl hk0
    · rw [exN_1] at hc3
      refine vx_catch (own := RL) (name := xISE) hown [] ⟨0, 12, 15, 13⟩ [⟨0, 12, 19, 15⟩] (by rw [hT]; rfl) (fun z hz => nomatch hz) (by decide) (Nat.succ_ne_zero _) (htc _ mk_xISE) (va_Nw.use rfl (hX.2.1.1 xISE (by decide))) hc1 hc2 hc3 ?_
      refine lv_astore (lv' := [(5, .ref q), (0, .ref aP), (1, .int p0), (2, .int p1), (3, .int p2), (4, .ref aO)]) hx hb dL_aggMax_15 hl0 (by decide) rfl (fun ls1 hl1 => ?_)
      refine lv_iconst (v := (1 : Int32)) hx hb dL_aggMax_17 (by decide) ?_
      rw [hQQ]
      exact et_iret hx hb hr hlocks hw1 dL_aggMax_18
    · rw [exN_2] at hc3
      refine vx_catch (own := RL) (name := xIOE) hown [⟨0, 12, 15, 13⟩] ⟨0, 12, 19, 15⟩ [] (by rw [hT]; rfl) (List.forall_mem_cons.mpr ⟨Or.inr ⟨Nat.succ_ne_zero _, xISE, htc _ mk_xISE, hX.2.2.2 (xIOE, xISE) (by decide)⟩, (fun _ h => nomatch h)⟩) (by decide) (Nat.succ_ne_zero _) (htc _ mk_xIOE) (va_Nw.use rfl (hX.2.1.1 xIOE (by decide))) hc1 hc2 hc3 ?_
      refine lv_astore (lv' := [(5, .ref q), (0, .ref aP), (1, .int p0), (2, .int p1), (3, .int p2), (4, .ref aO)]) hx hb dL_aggMax_19 hl0 (by decide) rfl (fun ls1 hl1 => ?_)
      refine lv_iconst (v := (2 : Int32)) hx hb dL_aggMax_21 (by decide) ?_
      rw [hQQ]
      exact et_iret hx hb hr hlocks hw1 dL_aggMax_22
abbrev rh_aggSum : Room := { frames := 8, cells := 1, slots := 6, locals := 176 }
abbrev hh_aggSum : List (Nat × Nat × Nat × Nat) := [(0, 11, 14, 13), (0, 11, 18, 15)]
theorem mh_aggSum : Cond.codeWith yL_aggSum cL_aggSum 6 (some .int) hh_aggSum ∈ wC := wC_mk (List.mem_of_getElem? (i := 954) (by decide +kernel)) (by decide +kernel)
theorem hs_L_aggSum : yL_aggSum.cls = RL ∧ yL_aggSum.cls ≠ "java/lang/invoke/MethodHandle" ∧ yL_aggSum.cls ≠ "java/lang/invoke/VarHandle" ∧ (parseMethodDescriptor yL_aggSum.desc).map (fun d => d.parameters.length) = some 5 := by decide +kernel
set_option maxHeartbeats 4000000 in
set_option maxRecDepth 100000 in
theorem h_aggSum (l : Launch) (hST : l.stackTraces = false) (G : va_G) (cI cZ cJ : ClassId) (aP aD aI aG aU aT aQ aC aDc aF aZ aO : Nat) (P_seriesCount : Int32) (P_most : Int32) (P_ratio : Int32) (P_recoveries : Int32) (D_writesDone : Int32) (D_writesLeft : Int32) (D_down : Int32) (D_cells : Nat → Int32) (G_logged : Int32) (U_place : Int32) (U_bitsRead : Int32) (U_started : Int32) (U_time : Int32) (U_value : Int32) (U_rise : Int64) (Q_ratio : Int32) (Q_looks : Int32) (Q_unpacked : Int32) (F_first : Int32) (F_last : Int32) (F_points : Int32) (F_least : Int32) (F_greatest : Int32) (F_sum : Int64) (Z_first : Int32) (Z_last : Int32) (Z_points : Int32) (Z_least : Int32) (Z_greatest : Int32) (Z_sum : Int64) (O : Nat → Int64) (p0 : Int32) (p1 : Int32) (p2 : Int32) {k : Int32} {r : Int64} {o_U_place : Int32} {o_U_bitsRead : Int32} {o_U_started : Int32} {o_U_time : Int32} {o_U_value : Int32} {o_U_rise : Int64} {o_Q_looks : Int32} {o_Q_unpacked : Int32} {o_F_first : Int32} {o_F_last : Int32} {o_F_points : Int32} {o_F_least : Int32} {o_F_greatest : Int32} {o_F_sum : Int64} {o_Z_first : Int32} {o_Z_last : Int32} {o_Z_points : Int32} {o_Z_least : Int32} {o_Z_greatest : Int32} {o_Z_sum : Int64} (hfin : m_X9_aggSum P_seriesCount D_down D_cells G_logged U_place U_bitsRead U_started U_time U_value U_rise Q_ratio Q_looks Q_unpacked F_first F_last F_points F_least F_greatest F_sum Z_first Z_last Z_points Z_least Z_greatest Z_sum p0 p1 p2 = some (k, r, o_U_place, o_U_bitsRead, o_U_started, o_U_time, o_U_value, o_U_rise, o_Q_looks, o_Q_unpacked, o_F_first, o_F_last, o_F_points, o_F_least, o_F_greatest, o_F_sum, o_Z_first, o_Z_last, o_Z_points, o_Z_least, o_Z_greatest, o_Z_sum)) (hk : k = 0 ∨ k = 1 ∨ k = 2) : HT l yL_aggSum cL_aggSum 6 hh_aggSum rh_aggSum G (tyC cI cZ cJ) [.ref aP, .int p0, .int p1, .int p2, .ref aO] [oX9 aP P_seriesCount P_most P_ratio aD aI aG aU aT aQ aC P_recoveries, oX2 aD aDc D_writesDone D_writesLeft D_down, rI aDc cI 4096 D_cells, oX3 aI aD, oX4 aG aD G_logged, oX8 aU aD U_place U_bitsRead U_started U_time U_value U_rise, oX0 aQ aI aG aU Q_ratio aF aZ Q_looks Q_unpacked, oX6 aF F_first F_last F_points F_least F_greatest F_sum, oX6 aZ Z_first Z_last Z_points Z_least Z_greatest Z_sum, rJ aO cJ 1 O] (some (.int k)) [oX9 aP P_seriesCount P_most P_ratio aD aI aG aU aT aQ aC P_recoveries, oX2 aD aDc D_writesDone D_writesLeft D_down, rI aDc cI 4096 D_cells, oX3 aI aD, oX4 aG aD G_logged, oX8 aU aD o_U_place o_U_bitsRead o_U_started o_U_time o_U_value o_U_rise, oX0 aQ aI aG aU Q_ratio aF aZ o_Q_looks o_Q_unpacked, oX6 aF o_F_first o_F_last o_F_points o_F_least o_F_greatest o_F_sum, oX6 aZ o_Z_first o_Z_last o_Z_points o_Z_least o_Z_greatest o_Z_sum, rJ aO cJ 1 (if k = 0 then vp_updL O 0 r else O)] := by
  refine HT.ofW (lvl := [(0, .ref aP), (1, .int p0), (2, .int p1), (3, .int p2), (4, .ref aO)]) (by decide) (Nat.le_of_ble_eq_true rfl) rfl ?_
  intro p e s m args below meth c A ls0 QQ hQQ hT hX hx hb hml hr hlocks htc hN hown hK hA hw0 hl0
  refine lv_aload hx hb dL_aggSum_0 (lv_at hl0 4 rfl) ?_
  refine lv_iconst (v := (0 : Int32)) hx hb dL_aggSum_2 (by decide) ?_
  refine lv_aload_n hx hb dL_aggSum_3 rfl (lv_at hl0 0 rfl) ?_
  refine lv_iload_n hx hb dL_aggSum_4 rfl (lv_at hl0 1 rfl) ?_
  refine lv_iload_n hx hb dL_aggSum_5 rfl (lv_at hl0 2 rfl) ?_
  refine lv_iload_n hx hb dL_aggSum_6 rfl (lv_at hl0 3 rfl) ?_
  by_cases hk0 : k = 0
  · subst hk0
    rw [if_pos rfl] at hQQ
    refine W.widen (k := 1) (n := 6) (Nat.zero_le _) (Nat.zero_le _) ?_
    refine ctV (a := aP) (As := [.int p0, .int p1, .int p2]) (rest := [.int (0 : Int32), .ref aO]) (st1 := [.long r, .int (0 : Int32), .ref aO]) (wc := [oX9 aP P_seriesCount P_most P_ratio aD aI aG aU aT aQ aC P_recoveries, oX2 aD aDc D_writesDone D_writesLeft D_down, rI aDc cI 4096 D_cells, oX3 aI aD, oX4 aG aD G_logged, oX8 aU aD U_place U_bitsRead U_started U_time U_value U_rise, oX0 aQ aI aG aU Q_ratio aF aZ Q_looks Q_unpacked, oX6 aF F_first F_last F_points F_least F_greatest F_sum, oX6 aZ Z_first Z_last Z_points Z_least Z_greatest Z_sum]) (w1 := [oX9 aP P_seriesCount P_most P_ratio aD aI aG aU aT aQ aC P_recoveries, oX2 aD aDc D_writesDone D_writesLeft D_down, rI aDc cI 4096 D_cells, oX3 aI aD, oX4 aG aD G_logged, oX8 aU aD o_U_place o_U_bitsRead o_U_started o_U_time o_U_value o_U_rise, oX0 aQ aI aG aU Q_ratio aF aZ o_Q_looks o_Q_unpacked, oX6 aF o_F_first o_F_last o_F_points o_F_least o_F_greatest o_F_sum, oX6 aZ o_Z_first o_Z_last o_Z_points o_Z_least o_Z_greatest o_Z_sum]) (wr := [rJ aO cJ 1 O]) (wb := [oX9 aP P_seriesCount P_most P_ratio aD aI aG aU aT aQ aC P_recoveries, oX2 aD aDc D_writesDone D_writesLeft D_down, rI aDc cI 4096 D_cells, oX3 aI aD, oX4 aG aD G_logged, oX8 aU aD o_U_place o_U_bitsRead o_U_started o_U_time o_U_value o_U_rise, oX0 aQ aI aG aU Q_ratio aF aZ o_Q_looks o_Q_unpacked, oX6 aF o_F_first o_F_last o_F_points o_F_least o_F_greatest o_F_sum, oX6 aZ o_Z_first o_Z_last o_Z_points o_Z_least o_Z_greatest o_Z_sum, rJ aO cJ 1 O]) (v := (some (.long r))) hx hb hml hown htc hN (c_X9_aggSum l G cI cZ cJ aP aD aI aG aU aT aQ aC aDc aF aZ P_seriesCount P_most P_ratio P_recoveries D_writesDone D_writesLeft D_down D_cells G_logged U_place U_bitsRead U_started U_time U_value U_rise Q_ratio Q_looks Q_unpacked F_first F_last F_points F_least F_greatest F_sum Z_first Z_last Z_points Z_least Z_greatest Z_sum p0 p1 p2 hfin) mw_879 mw_880 mw_881 mw_1 mw_882 hd_X9_aggSum ⟨rfl, rfl⟩ ⟨Nat.le_of_ble_eq_true rfl, Nat.le_of_ble_eq_true rfl⟩ hK hw0 hA [0, 1, 2, 3, 4, 5, 6, 7, 8] [9] [1, 2, 3, 4, 5, 6, 7, 8, 9, 0] rfl rfl rfl rfl rfl (by decide) rfl rfl rfl 0 rfl rfl rfl rfl hl0.1 rfl rfl (Nat.le_of_ble_eq_true rfl) dL_aggSum_7 ⟨Nat.le_refl _, Nat.le_refl _⟩ (fun H1 locs1 hw1 => ?_)
    refine va_last hx hb hK hw1.1 hw1.2.1 hw1.2.2 9 2 rfl rfl (show vp_in (0 : Int32) 1 by unfold vp_in; decide) dL_aggSum_10 (fun H2 locs2 hP hD hS => ?_)
    have hw2 : wS G A s H2 locs2 [oX9 aP P_seriesCount P_most P_ratio aD aI aG aU aT aQ aC P_recoveries, oX2 aD aDc D_writesDone D_writesLeft D_down, rI aDc cI 4096 D_cells, oX3 aI aD, oX4 aG aD G_logged, oX8 aU aD o_U_place o_U_bitsRead o_U_started o_U_time o_U_value o_U_rise, oX0 aQ aI aG aU Q_ratio aF aZ o_Q_looks o_Q_unpacked, oX6 aF o_F_first o_F_last o_F_points o_F_least o_F_greatest o_F_sum, oX6 aZ o_Z_first o_Z_last o_Z_points o_Z_least o_Z_greatest o_Z_sum, rJ aO cJ 1 (vp_updL O 0 r)] := ⟨hP, hD, hS⟩
    refine lv_goto (tgt := 22) hx hb dL_aggSum_11 (by decide) ?_
    refine lv_iconst (v := (0 : Int32)) hx hb dL_aggSum_22 (by decide) ?_
    rw [hQQ]
    exact et_iret hx hb hr hlocks hw2 dL_aggSum_23
  · rw [if_neg hk0] at hQQ
    refine xtV (a := aP) (As := [.int p0, .int p1, .int p2]) (rest := [.int (0 : Int32), .ref aO]) (wc := [oX9 aP P_seriesCount P_most P_ratio aD aI aG aU aT aQ aC P_recoveries, oX2 aD aDc D_writesDone D_writesLeft D_down, rI aDc cI 4096 D_cells, oX3 aI aD, oX4 aG aD G_logged, oX8 aU aD U_place U_bitsRead U_started U_time U_value U_rise, oX0 aQ aI aG aU Q_ratio aF aZ Q_looks Q_unpacked, oX6 aF F_first F_last F_points F_least F_greatest F_sum, oX6 aZ Z_first Z_last Z_points Z_least Z_greatest Z_sum]) (w1 := [oX9 aP P_seriesCount P_most P_ratio aD aI aG aU aT aQ aC P_recoveries, oX2 aD aDc D_writesDone D_writesLeft D_down, rI aDc cI 4096 D_cells, oX3 aI aD, oX4 aG aD G_logged, oX8 aU aD o_U_place o_U_bitsRead o_U_started o_U_time o_U_value o_U_rise, oX0 aQ aI aG aU Q_ratio aF aZ o_Q_looks o_Q_unpacked, oX6 aF o_F_first o_F_last o_F_points o_F_least o_F_greatest o_F_sum, oX6 aZ o_Z_first o_Z_last o_Z_points o_Z_least o_Z_greatest o_Z_sum]) (wr := [rJ aO cJ 1 O]) (wb := [oX9 aP P_seriesCount P_most P_ratio aD aI aG aU aT aQ aC P_recoveries, oX2 aD aDc D_writesDone D_writesLeft D_down, rI aDc cI 4096 D_cells, oX3 aI aD, oX4 aG aD G_logged, oX8 aU aD o_U_place o_U_bitsRead o_U_started o_U_time o_U_value o_U_rise, oX0 aQ aI aG aU Q_ratio aF aZ o_Q_looks o_Q_unpacked, oX6 aF o_F_first o_F_last o_F_points o_F_least o_F_greatest o_F_sum, oX6 aZ o_Z_first o_Z_last o_Z_points o_Z_least o_Z_greatest o_Z_sum, rJ aO cJ 1 O]) hx hb hml hown htc hN hX (x_X9_aggSum l hST G cI cZ cJ aP aD aI aG aU aT aQ aC aDc aF aZ P_seriesCount P_most P_ratio P_recoveries D_writesDone D_writesLeft D_down D_cells G_logged U_place U_bitsRead U_started U_time U_value U_rise Q_ratio Q_looks Q_unpacked F_first F_last F_points F_least F_greatest F_sum Z_first Z_last Z_points Z_least Z_greatest Z_sum p0 p1 p2 hfin hk0) mw_879 mw_880 mw_881 mw_1 mw_882 hd_X9_aggSum ⟨rfl, rfl⟩ ⟨Nat.le_of_ble_eq_true rfl, Nat.le_of_ble_eq_true rfl⟩ hK hw0 hA [0, 1, 2, 3, 4, 5, 6, 7, 8] [9] [1, 2, 3, 4, 5, 6, 7, 8, 9, 0] rfl rfl rfl rfl rfl (by decide) rfl rfl rfl 0 rfl rfl rfl rfl hl0.1 rfl (Nat.le_of_ble_eq_true rfl) dL_aggSum_7 ⟨Nat.le_refl _, Nat.le_refl _⟩ (fun H1 locs1 q ce hw1 hc1 hc2 hc3 => ?_)
    rcases hk with rfl | rfl | rfl
    · exact absurd rfl hk0
    · rw [exN_1] at hc3
      refine vx_catch (own := RL) (name := xISE) hown [] ⟨0, 11, 14, 13⟩ [⟨0, 11, 18, 15⟩] (by rw [hT]; rfl) (fun z hz => nomatch hz) (by decide) (Nat.succ_ne_zero _) (htc _ mk_xISE) (va_Nw.use rfl (hX.2.1.1 xISE (by decide))) hc1 hc2 hc3 ?_
      refine lv_astore (lv' := [(5, .ref q), (0, .ref aP), (1, .int p0), (2, .int p1), (3, .int p2), (4, .ref aO)]) hx hb dL_aggSum_14 hl0 (by decide) rfl (fun ls1 hl1 => ?_)
      refine lv_iconst (v := (1 : Int32)) hx hb dL_aggSum_16 (by decide) ?_
      rw [hQQ]
      exact et_iret hx hb hr hlocks hw1 dL_aggSum_17
    · rw [exN_2] at hc3
      refine vx_catch (own := RL) (name := xIOE) hown [⟨0, 11, 14, 13⟩] ⟨0, 11, 18, 15⟩ [] (by rw [hT]; rfl) (List.forall_mem_cons.mpr ⟨Or.inr ⟨Nat.succ_ne_zero _, xISE, htc _ mk_xISE, hX.2.2.2 (xIOE, xISE) (by decide)⟩, (fun _ h => nomatch h)⟩) (by decide) (Nat.succ_ne_zero _) (htc _ mk_xIOE) (va_Nw.use rfl (hX.2.1.1 xIOE (by decide))) hc1 hc2 hc3 ?_
      refine lv_astore (lv' := [(5, .ref q), (0, .ref aP), (1, .int p0), (2, .int p1), (3, .int p2), (4, .ref aO)]) hx hb dL_aggSum_18 hl0 (by decide) rfl (fun ls1 hl1 => ?_)
      refine lv_iconst (v := (2 : Int32)) hx hb dL_aggSum_20 (by decide) ?_
      rw [hQQ]
      exact et_iret hx hb hr hlocks hw1 dL_aggSum_21
abbrev rh_sizes : Room := { frames := 8, cells := 1, slots := 6, locals := 151 }
abbrev hh_sizes : List (Nat × Nat × Nat × Nat) := [(0, 10, 13, 13), (0, 10, 17, 15), (0, 10, 21, 28)]
theorem mh_sizes : Cond.codeWith yL_sizes cL_sizes 5 (some .int) hh_sizes ∈ wC := wC_mk (List.mem_of_getElem? (i := 961) (by decide +kernel)) (by decide +kernel)
theorem hs_L_sizes : yL_sizes.cls = RL ∧ yL_sizes.cls ≠ "java/lang/invoke/MethodHandle" ∧ yL_sizes.cls ≠ "java/lang/invoke/VarHandle" ∧ (parseMethodDescriptor yL_sizes.desc).map (fun d => d.parameters.length) = some 4 := by decide +kernel
set_option maxHeartbeats 4000000 in
set_option maxRecDepth 100000 in
theorem h_sizes (l : Launch) (hST : l.stackTraces = false) (G : va_G) (cI cZ cJ : ClassId) (aP aD aI aG aU aT aQ aC aDc aO : Nat) (P_seriesCount : Int32) (P_most : Int32) (P_ratio : Int32) (P_recoveries : Int32) (D_writesDone : Int32) (D_writesLeft : Int32) (D_down : Int32) (D_cells : Nat → Int32) (G_logged : Int32) (O : Nat → Int64) (p0 : Int32) (p1 : Int32) {k : Int32} {r : Int32} (hfin : m_X9_sizes P_seriesCount P_ratio D_down D_cells G_logged p0 p1 = some (k, r)) (hk : k = 0 ∨ k = 1 ∨ k = 2 ∨ k = 3) : HT l yL_sizes cL_sizes 5 hh_sizes rh_sizes G (tyC cI cZ cJ) [.ref aP, .int p0, .int p1, .ref aO] [oX9 aP P_seriesCount P_most P_ratio aD aI aG aU aT aQ aC P_recoveries, oX2 aD aDc D_writesDone D_writesLeft D_down, rI aDc cI 4096 D_cells, oX3 aI aD, oX4 aG aD G_logged, rJ aO cJ 1 O] (some (.int k)) [oX9 aP P_seriesCount P_most P_ratio aD aI aG aU aT aQ aC P_recoveries, oX2 aD aDc D_writesDone D_writesLeft D_down, rI aDc cI 4096 D_cells, oX3 aI aD, oX4 aG aD G_logged, rJ aO cJ 1 (if k = 0 then vp_updL O 0 (Int32.toInt64 r) else O)] := by
  refine HT.ofW (lvl := [(0, .ref aP), (1, .int p0), (2, .int p1), (3, .ref aO)]) (by decide) (Nat.le_of_ble_eq_true rfl) rfl ?_
  intro p e s m args below meth c A ls0 QQ hQQ hT hX hx hb hml hr hlocks htc hN hown hK hA hw0 hl0
  refine lv_aload_n hx hb dL_sizes_0 rfl (lv_at hl0 3 rfl) ?_
  refine lv_iconst (v := (0 : Int32)) hx hb dL_sizes_1 (by decide) ?_
  refine lv_aload_n hx hb dL_sizes_2 rfl (lv_at hl0 0 rfl) ?_
  refine lv_iload_n hx hb dL_sizes_3 rfl (lv_at hl0 1 rfl) ?_
  refine lv_iload_n hx hb dL_sizes_4 rfl (lv_at hl0 2 rfl) ?_
  by_cases hk0 : k = 0
  · subst hk0
    rw [if_pos rfl] at hQQ
    refine W.widen (k := 1) (n := 6) (Nat.zero_le _) (Nat.zero_le _) ?_
    refine ctV (a := aP) (As := [.int p0, .int p1]) (rest := [.int (0 : Int32), .ref aO]) (st1 := [.int r, .int (0 : Int32), .ref aO]) (wc := [oX9 aP P_seriesCount P_most P_ratio aD aI aG aU aT aQ aC P_recoveries, oX2 aD aDc D_writesDone D_writesLeft D_down, rI aDc cI 4096 D_cells, oX3 aI aD, oX4 aG aD G_logged]) (w1 := [oX9 aP P_seriesCount P_most P_ratio aD aI aG aU aT aQ aC P_recoveries, oX2 aD aDc D_writesDone D_writesLeft D_down, rI aDc cI 4096 D_cells, oX3 aI aD, oX4 aG aD G_logged]) (wr := [rJ aO cJ 1 O]) (wb := [oX9 aP P_seriesCount P_most P_ratio aD aI aG aU aT aQ aC P_recoveries, oX2 aD aDc D_writesDone D_writesLeft D_down, rI aDc cI 4096 D_cells, oX3 aI aD, oX4 aG aD G_logged, rJ aO cJ 1 O]) (v := (some (.int r))) hx hb hml hown htc hN (c_X9_sizes l G cI cZ cJ aP aD aI aG aU aT aQ aC aDc P_seriesCount P_most P_ratio P_recoveries D_writesDone D_writesLeft D_down D_cells G_logged p0 p1 hfin) mw_887 mw_888 mw_889 mw_1 mw_890 hd_X9_sizes ⟨rfl, rfl⟩ ⟨Nat.le_of_ble_eq_true rfl, Nat.le_of_ble_eq_true rfl⟩ hK hw0 hA [0, 1, 2, 3, 4] [5] [1, 2, 3, 4, 5, 0] rfl rfl rfl rfl rfl (by decide) rfl rfl rfl 0 rfl rfl rfl rfl hl0.1 rfl rfl (Nat.le_of_ble_eq_true rfl) dL_sizes_5 ⟨Nat.le_refl _, Nat.le_refl _⟩ (fun H1 locs1 hw1 => ?_)
    refine lv_i2l hx hb dL_sizes_8 rfl ?_
    refine va_last hx hb hK hw1.1 hw1.2.1 hw1.2.2 5 2 rfl rfl (show vp_in (0 : Int32) 1 by unfold vp_in; decide) dL_sizes_9 (fun H2 locs2 hP hD hS => ?_)
    have hw2 : wS G A s H2 locs2 [oX9 aP P_seriesCount P_most P_ratio aD aI aG aU aT aQ aC P_recoveries, oX2 aD aDc D_writesDone D_writesLeft D_down, rI aDc cI 4096 D_cells, oX3 aI aD, oX4 aG aD G_logged, rJ aO cJ 1 (vp_updL O 0 (Int32.toInt64 r))] := ⟨hP, hD, hS⟩
    refine lv_goto (tgt := 25) hx hb dL_sizes_10 (by decide) ?_
    refine lv_iconst (v := (0 : Int32)) hx hb dL_sizes_25 (by decide) ?_
    rw [hQQ]
    exact et_iret hx hb hr hlocks hw2 dL_sizes_26
  · rw [if_neg hk0] at hQQ
    refine xtV (a := aP) (As := [.int p0, .int p1]) (rest := [.int (0 : Int32), .ref aO]) (wc := [oX9 aP P_seriesCount P_most P_ratio aD aI aG aU aT aQ aC P_recoveries, oX2 aD aDc D_writesDone D_writesLeft D_down, rI aDc cI 4096 D_cells, oX3 aI aD, oX4 aG aD G_logged]) (w1 := [oX9 aP P_seriesCount P_most P_ratio aD aI aG aU aT aQ aC P_recoveries, oX2 aD aDc D_writesDone D_writesLeft D_down, rI aDc cI 4096 D_cells, oX3 aI aD, oX4 aG aD G_logged]) (wr := [rJ aO cJ 1 O]) (wb := [oX9 aP P_seriesCount P_most P_ratio aD aI aG aU aT aQ aC P_recoveries, oX2 aD aDc D_writesDone D_writesLeft D_down, rI aDc cI 4096 D_cells, oX3 aI aD, oX4 aG aD G_logged, rJ aO cJ 1 O]) hx hb hml hown htc hN hX (x_X9_sizes l hST G cI cZ cJ aP aD aI aG aU aT aQ aC aDc P_seriesCount P_most P_ratio P_recoveries D_writesDone D_writesLeft D_down D_cells G_logged p0 p1 hfin hk0) mw_887 mw_888 mw_889 mw_1 mw_890 hd_X9_sizes ⟨rfl, rfl⟩ ⟨Nat.le_of_ble_eq_true rfl, Nat.le_of_ble_eq_true rfl⟩ hK hw0 hA [0, 1, 2, 3, 4] [5] [1, 2, 3, 4, 5, 0] rfl rfl rfl rfl rfl (by decide) rfl rfl rfl 0 rfl rfl rfl rfl hl0.1 rfl (Nat.le_of_ble_eq_true rfl) dL_sizes_5 ⟨Nat.le_refl _, Nat.le_refl _⟩ (fun H1 locs1 q ce hw1 hc1 hc2 hc3 => ?_)
    rcases hk with rfl | rfl | rfl | rfl
    · exact absurd rfl hk0
    · rw [exN_1] at hc3
      refine vx_catch (own := RL) (name := xISE) hown [] ⟨0, 10, 13, 13⟩ [⟨0, 10, 17, 15⟩, ⟨0, 10, 21, 28⟩] (by rw [hT]; rfl) (fun z hz => nomatch hz) (by decide) (Nat.succ_ne_zero _) (htc _ mk_xISE) (va_Nw.use rfl (hX.2.1.1 xISE (by decide))) hc1 hc2 hc3 ?_
      refine lv_astore (lv' := [(4, .ref q), (0, .ref aP), (1, .int p0), (2, .int p1), (3, .ref aO)]) hx hb dL_sizes_13 hl0 (by decide) rfl (fun ls1 hl1 => ?_)
      refine lv_iconst (v := (1 : Int32)) hx hb dL_sizes_15 (by decide) ?_
      rw [hQQ]
      exact et_iret hx hb hr hlocks hw1 dL_sizes_16
    · rw [exN_2] at hc3
      refine vx_catch (own := RL) (name := xIOE) hown [⟨0, 10, 13, 13⟩] ⟨0, 10, 17, 15⟩ [⟨0, 10, 21, 28⟩] (by rw [hT]; rfl) (List.forall_mem_cons.mpr ⟨Or.inr ⟨Nat.succ_ne_zero _, xISE, htc _ mk_xISE, hX.2.2.2 (xIOE, xISE) (by decide)⟩, (fun _ h => nomatch h)⟩) (by decide) (Nat.succ_ne_zero _) (htc _ mk_xIOE) (va_Nw.use rfl (hX.2.1.1 xIOE (by decide))) hc1 hc2 hc3 ?_
      refine lv_astore (lv' := [(4, .ref q), (0, .ref aP), (1, .int p0), (2, .int p1), (3, .ref aO)]) hx hb dL_sizes_17 hl0 (by decide) rfl (fun ls1 hl1 => ?_)
      refine lv_iconst (v := (2 : Int32)) hx hb dL_sizes_19 (by decide) ?_
      rw [hQQ]
      exact et_iret hx hb hr hlocks hw1 dL_sizes_20
    · rw [exN_3] at hc3
      refine vx_catch (own := RL) (name := xNSE) hown [⟨0, 10, 13, 13⟩, ⟨0, 10, 17, 15⟩] ⟨0, 10, 21, 28⟩ [] (by rw [hT]; rfl) (List.forall_mem_cons.mpr ⟨Or.inr ⟨Nat.succ_ne_zero _, xISE, htc _ mk_xISE, hX.2.2.2 (xNSE, xISE) (by decide)⟩, (List.forall_mem_cons.mpr ⟨Or.inr ⟨Nat.succ_ne_zero _, xIOE, htc _ mk_xIOE, hX.2.2.2 (xNSE, xIOE) (by decide)⟩, (fun _ h => nomatch h)⟩)⟩) (by decide) (Nat.succ_ne_zero _) (htc _ mk_xNSE) (va_Nw.use rfl (hX.2.1.1 xNSE (by decide))) hc1 hc2 hc3 ?_
      refine lv_astore (lv' := [(4, .ref q), (0, .ref aP), (1, .int p0), (2, .int p1), (3, .ref aO)]) hx hb dL_sizes_21 hl0 (by decide) rfl (fun ls1 hl1 => ?_)
      refine lv_iconst (v := (3 : Int32)) hx hb dL_sizes_23 (by decide) ?_
      rw [hQQ]
      exact et_iret hx hb hr hlocks hw1 dL_sizes_24
abbrev rh_chunk : Room := { frames := 8, cells := 1, slots := 6, locals := 132 }
abbrev hh_chunk : List (Nat × Nat × Nat × Nat) := [(0, 12, 15, 13), (0, 12, 19, 15), (0, 12, 23, 28)]
theorem mh_chunk : Cond.codeWith yL_chunk cL_chunk 6 (some .int) hh_chunk ∈ wC := wC_mk (List.mem_of_getElem? (i := 997) (by decide +kernel)) (by decide +kernel)
theorem hs_L_chunk : yL_chunk.cls = RL ∧ yL_chunk.cls ≠ "java/lang/invoke/MethodHandle" ∧ yL_chunk.cls ≠ "java/lang/invoke/VarHandle" ∧ (parseMethodDescriptor yL_chunk.desc).map (fun d => d.parameters.length) = some 5 := by decide +kernel
set_option maxHeartbeats 4000000 in
set_option maxRecDepth 100000 in
theorem h_chunk (l : Launch) (hST : l.stackTraces = false) (G : va_G) (cI cZ cJ : ClassId) (aP aD aI aG aU aT aQ aC aDc aO : Nat) (P_seriesCount : Int32) (P_most : Int32) (P_ratio : Int32) (P_recoveries : Int32) (D_writesDone : Int32) (D_writesLeft : Int32) (D_down : Int32) (D_cells : Nat → Int32) (O : Nat → Int64) (p0 : Int32) (p1 : Int32) (p2 : Int32) {k : Int32} {r : Int32} (hfin : m_X9_chunk P_seriesCount D_down D_cells p0 p1 p2 = some (k, r)) (hk : k = 0 ∨ k = 1 ∨ k = 2 ∨ k = 3) : HT l yL_chunk cL_chunk 6 hh_chunk rh_chunk G (tyC cI cZ cJ) [.ref aP, .int p0, .int p1, .int p2, .ref aO] [oX9 aP P_seriesCount P_most P_ratio aD aI aG aU aT aQ aC P_recoveries, oX2 aD aDc D_writesDone D_writesLeft D_down, rI aDc cI 4096 D_cells, oX3 aI aD, rJ aO cJ 1 O] (some (.int k)) [oX9 aP P_seriesCount P_most P_ratio aD aI aG aU aT aQ aC P_recoveries, oX2 aD aDc D_writesDone D_writesLeft D_down, rI aDc cI 4096 D_cells, oX3 aI aD, rJ aO cJ 1 (if k = 0 then vp_updL O 0 (Int32.toInt64 r) else O)] := by
  refine HT.ofW (lvl := [(0, .ref aP), (1, .int p0), (2, .int p1), (3, .int p2), (4, .ref aO)]) (by decide) (Nat.le_of_ble_eq_true rfl) rfl ?_
  intro p e s m args below meth c A ls0 QQ hQQ hT hX hx hb hml hr hlocks htc hN hown hK hA hw0 hl0
  refine lv_aload hx hb dL_chunk_0 (lv_at hl0 4 rfl) ?_
  refine lv_iconst (v := (0 : Int32)) hx hb dL_chunk_2 (by decide) ?_
  refine lv_aload_n hx hb dL_chunk_3 rfl (lv_at hl0 0 rfl) ?_
  refine lv_iload_n hx hb dL_chunk_4 rfl (lv_at hl0 1 rfl) ?_
  refine lv_iload_n hx hb dL_chunk_5 rfl (lv_at hl0 2 rfl) ?_
  refine lv_iload_n hx hb dL_chunk_6 rfl (lv_at hl0 3 rfl) ?_
  by_cases hk0 : k = 0
  · subst hk0
    rw [if_pos rfl] at hQQ
    refine W.widen (k := 1) (n := 6) (Nat.zero_le _) (Nat.zero_le _) ?_
    refine ctV (a := aP) (As := [.int p0, .int p1, .int p2]) (rest := [.int (0 : Int32), .ref aO]) (st1 := [.int r, .int (0 : Int32), .ref aO]) (wc := [oX9 aP P_seriesCount P_most P_ratio aD aI aG aU aT aQ aC P_recoveries, oX2 aD aDc D_writesDone D_writesLeft D_down, rI aDc cI 4096 D_cells, oX3 aI aD]) (w1 := [oX9 aP P_seriesCount P_most P_ratio aD aI aG aU aT aQ aC P_recoveries, oX2 aD aDc D_writesDone D_writesLeft D_down, rI aDc cI 4096 D_cells, oX3 aI aD]) (wr := [rJ aO cJ 1 O]) (wb := [oX9 aP P_seriesCount P_most P_ratio aD aI aG aU aT aQ aC P_recoveries, oX2 aD aDc D_writesDone D_writesLeft D_down, rI aDc cI 4096 D_cells, oX3 aI aD, rJ aO cJ 1 O]) (v := (some (.int r))) hx hb hml hown htc hN (c_X9_chunk l G cI cZ cJ aP aD aI aG aU aT aQ aC aDc P_seriesCount P_most P_ratio P_recoveries D_writesDone D_writesLeft D_down D_cells p0 p1 p2 hfin) mw_922 mw_923 mw_924 mw_1 mw_925 hd_X9_chunk ⟨rfl, rfl⟩ ⟨Nat.le_of_ble_eq_true rfl, Nat.le_of_ble_eq_true rfl⟩ hK hw0 hA [0, 1, 2, 3] [4] [1, 2, 3, 4, 0] rfl rfl rfl rfl rfl (by decide) rfl rfl rfl 0 rfl rfl rfl rfl hl0.1 rfl rfl (Nat.le_of_ble_eq_true rfl) dL_chunk_7 ⟨Nat.le_refl _, Nat.le_refl _⟩ (fun H1 locs1 hw1 => ?_)
    refine lv_i2l hx hb dL_chunk_10 rfl ?_
    refine va_last hx hb hK hw1.1 hw1.2.1 hw1.2.2 4 2 rfl rfl (show vp_in (0 : Int32) 1 by unfold vp_in; decide) dL_chunk_11 (fun H2 locs2 hP hD hS => ?_)
    have hw2 : wS G A s H2 locs2 [oX9 aP P_seriesCount P_most P_ratio aD aI aG aU aT aQ aC P_recoveries, oX2 aD aDc D_writesDone D_writesLeft D_down, rI aDc cI 4096 D_cells, oX3 aI aD, rJ aO cJ 1 (vp_updL O 0 (Int32.toInt64 r))] := ⟨hP, hD, hS⟩
    refine lv_goto (tgt := 27) hx hb dL_chunk_12 (by decide) ?_
    refine lv_iconst (v := (0 : Int32)) hx hb dL_chunk_27 (by decide) ?_
    rw [hQQ]
    exact et_iret hx hb hr hlocks hw2 dL_chunk_28
  · rw [if_neg hk0] at hQQ
    refine xtV (a := aP) (As := [.int p0, .int p1, .int p2]) (rest := [.int (0 : Int32), .ref aO]) (wc := [oX9 aP P_seriesCount P_most P_ratio aD aI aG aU aT aQ aC P_recoveries, oX2 aD aDc D_writesDone D_writesLeft D_down, rI aDc cI 4096 D_cells, oX3 aI aD]) (w1 := [oX9 aP P_seriesCount P_most P_ratio aD aI aG aU aT aQ aC P_recoveries, oX2 aD aDc D_writesDone D_writesLeft D_down, rI aDc cI 4096 D_cells, oX3 aI aD]) (wr := [rJ aO cJ 1 O]) (wb := [oX9 aP P_seriesCount P_most P_ratio aD aI aG aU aT aQ aC P_recoveries, oX2 aD aDc D_writesDone D_writesLeft D_down, rI aDc cI 4096 D_cells, oX3 aI aD, rJ aO cJ 1 O]) hx hb hml hown htc hN hX (x_X9_chunk l hST G cI cZ cJ aP aD aI aG aU aT aQ aC aDc P_seriesCount P_most P_ratio P_recoveries D_writesDone D_writesLeft D_down D_cells p0 p1 p2 hfin hk0) mw_922 mw_923 mw_924 mw_1 mw_925 hd_X9_chunk ⟨rfl, rfl⟩ ⟨Nat.le_of_ble_eq_true rfl, Nat.le_of_ble_eq_true rfl⟩ hK hw0 hA [0, 1, 2, 3] [4] [1, 2, 3, 4, 0] rfl rfl rfl rfl rfl (by decide) rfl rfl rfl 0 rfl rfl rfl rfl hl0.1 rfl (Nat.le_of_ble_eq_true rfl) dL_chunk_7 ⟨Nat.le_refl _, Nat.le_refl _⟩ (fun H1 locs1 q ce hw1 hc1 hc2 hc3 => ?_)
    rcases hk with rfl | rfl | rfl | rfl
    · exact absurd rfl hk0
    · rw [exN_1] at hc3
      refine vx_catch (own := RL) (name := xISE) hown [] ⟨0, 12, 15, 13⟩ [⟨0, 12, 19, 15⟩, ⟨0, 12, 23, 28⟩] (by rw [hT]; rfl) (fun z hz => nomatch hz) (by decide) (Nat.succ_ne_zero _) (htc _ mk_xISE) (va_Nw.use rfl (hX.2.1.1 xISE (by decide))) hc1 hc2 hc3 ?_
      refine lv_astore (lv' := [(5, .ref q), (0, .ref aP), (1, .int p0), (2, .int p1), (3, .int p2), (4, .ref aO)]) hx hb dL_chunk_15 hl0 (by decide) rfl (fun ls1 hl1 => ?_)
      refine lv_iconst (v := (1 : Int32)) hx hb dL_chunk_17 (by decide) ?_
      rw [hQQ]
      exact et_iret hx hb hr hlocks hw1 dL_chunk_18
    · rw [exN_2] at hc3
      refine vx_catch (own := RL) (name := xIOE) hown [⟨0, 12, 15, 13⟩] ⟨0, 12, 19, 15⟩ [⟨0, 12, 23, 28⟩] (by rw [hT]; rfl) (List.forall_mem_cons.mpr ⟨Or.inr ⟨Nat.succ_ne_zero _, xISE, htc _ mk_xISE, hX.2.2.2 (xIOE, xISE) (by decide)⟩, (fun _ h => nomatch h)⟩) (by decide) (Nat.succ_ne_zero _) (htc _ mk_xIOE) (va_Nw.use rfl (hX.2.1.1 xIOE (by decide))) hc1 hc2 hc3 ?_
      refine lv_astore (lv' := [(5, .ref q), (0, .ref aP), (1, .int p0), (2, .int p1), (3, .int p2), (4, .ref aO)]) hx hb dL_chunk_19 hl0 (by decide) rfl (fun ls1 hl1 => ?_)
      refine lv_iconst (v := (2 : Int32)) hx hb dL_chunk_21 (by decide) ?_
      rw [hQQ]
      exact et_iret hx hb hr hlocks hw1 dL_chunk_22
    · rw [exN_3] at hc3
      refine vx_catch (own := RL) (name := xNSE) hown [⟨0, 12, 15, 13⟩, ⟨0, 12, 19, 15⟩] ⟨0, 12, 23, 28⟩ [] (by rw [hT]; rfl) (List.forall_mem_cons.mpr ⟨Or.inr ⟨Nat.succ_ne_zero _, xISE, htc _ mk_xISE, hX.2.2.2 (xNSE, xISE) (by decide)⟩, (List.forall_mem_cons.mpr ⟨Or.inr ⟨Nat.succ_ne_zero _, xIOE, htc _ mk_xIOE, hX.2.2.2 (xNSE, xIOE) (by decide)⟩, (fun _ h => nomatch h)⟩)⟩) (by decide) (Nat.succ_ne_zero _) (htc _ mk_xNSE) (va_Nw.use rfl (hX.2.1.1 xNSE (by decide))) hc1 hc2 hc3 ?_
      refine lv_astore (lv' := [(5, .ref q), (0, .ref aP), (1, .int p0), (2, .int p1), (3, .int p2), (4, .ref aO)]) hx hb dL_chunk_23 hl0 (by decide) rfl (fun ls1 hl1 => ?_)
      refine lv_iconst (v := (3 : Int32)) hx hb dL_chunk_25 (by decide) ?_
      rw [hQQ]
      exact et_iret hx hb hr hlocks hw1 dL_chunk_26
abbrev rh_group : Room := { frames := 8, cells := 1, slots := 6, locals := 155 }
abbrev hh_group : List (Nat × Nat × Nat × Nat) := [(0, 12, 15, 13), (0, 12, 19, 15), (0, 12, 23, 28)]
theorem mh_group : Cond.codeWith yL_group cL_group 6 (some .int) hh_group ∈ wC := wC_mk (List.mem_of_getElem? (i := 1006) (by decide +kernel)) (by decide +kernel)
theorem hs_L_group : yL_group.cls = RL ∧ yL_group.cls ≠ "java/lang/invoke/MethodHandle" ∧ yL_group.cls ≠ "java/lang/invoke/VarHandle" ∧ (parseMethodDescriptor yL_group.desc).map (fun d => d.parameters.length) = some 5 := by decide +kernel
set_option maxHeartbeats 4000000 in
set_option maxRecDepth 100000 in
theorem h_group (l : Launch) (hST : l.stackTraces = false) (G : va_G) (cI cZ cJ : ClassId) (aP aD aI aG aU aT aQ aC aDc aF aZ aO : Nat) (P_seriesCount : Int32) (P_most : Int32) (P_ratio : Int32) (P_recoveries : Int32) (D_writesDone : Int32) (D_writesLeft : Int32) (D_down : Int32) (D_cells : Nat → Int32) (Q_ratio : Int32) (Q_looks : Int32) (Q_unpacked : Int32) (Z_first : Int32) (Z_last : Int32) (Z_points : Int32) (Z_least : Int32) (Z_greatest : Int32) (Z_sum : Int64) (O : Nat → Int64) (p0 : Int32) (p1 : Int32) (p2 : Int32) {k : Int32} {r : Int32} {o_Z_first : Int32} {o_Z_last : Int32} {o_Z_points : Int32} {o_Z_least : Int32} {o_Z_greatest : Int32} {o_Z_sum : Int64} (hfin : m_X9_group P_seriesCount P_ratio D_down D_cells Z_first Z_last Z_points Z_least Z_greatest Z_sum p0 p1 p2 = some (k, r, o_Z_first, o_Z_last, o_Z_points, o_Z_least, o_Z_greatest, o_Z_sum)) (hk : k = 0 ∨ k = 1 ∨ k = 2 ∨ k = 3) : HT l yL_group cL_group 6 hh_group rh_group G (tyC cI cZ cJ) [.ref aP, .int p0, .int p1, .int p2, .ref aO] [oX9 aP P_seriesCount P_most P_ratio aD aI aG aU aT aQ aC P_recoveries, oX2 aD aDc D_writesDone D_writesLeft D_down, rI aDc cI 4096 D_cells, oX3 aI aD, oX0 aQ aI aG aU Q_ratio aF aZ Q_looks Q_unpacked, oX6 aZ Z_first Z_last Z_points Z_least Z_greatest Z_sum, rJ aO cJ 1 O] (some (.int k)) [oX9 aP P_seriesCount P_most P_ratio aD aI aG aU aT aQ aC P_recoveries, oX2 aD aDc D_writesDone D_writesLeft D_down, rI aDc cI 4096 D_cells, oX3 aI aD, oX0 aQ aI aG aU Q_ratio aF aZ Q_looks Q_unpacked, oX6 aZ o_Z_first o_Z_last o_Z_points o_Z_least o_Z_greatest o_Z_sum, rJ aO cJ 1 (if k = 0 then vp_updL O 0 (Int32.toInt64 r) else O)] := by
  refine HT.ofW (lvl := [(0, .ref aP), (1, .int p0), (2, .int p1), (3, .int p2), (4, .ref aO)]) (by decide) (Nat.le_of_ble_eq_true rfl) rfl ?_
  intro p e s m args below meth c A ls0 QQ hQQ hT hX hx hb hml hr hlocks htc hN hown hK hA hw0 hl0
  refine lv_aload hx hb dL_group_0 (lv_at hl0 4 rfl) ?_
  refine lv_iconst (v := (0 : Int32)) hx hb dL_group_2 (by decide) ?_
  refine lv_aload_n hx hb dL_group_3 rfl (lv_at hl0 0 rfl) ?_
  refine lv_iload_n hx hb dL_group_4 rfl (lv_at hl0 1 rfl) ?_
  refine lv_iload_n hx hb dL_group_5 rfl (lv_at hl0 2 rfl) ?_
  refine lv_iload_n hx hb dL_group_6 rfl (lv_at hl0 3 rfl) ?_
  by_cases hk0 : k = 0
  · subst hk0
    rw [if_pos rfl] at hQQ
    refine W.widen (k := 1) (n := 6) (Nat.zero_le _) (Nat.zero_le _) ?_
    refine ctV (a := aP) (As := [.int p0, .int p1, .int p2]) (rest := [.int (0 : Int32), .ref aO]) (st1 := [.int r, .int (0 : Int32), .ref aO]) (wc := [oX9 aP P_seriesCount P_most P_ratio aD aI aG aU aT aQ aC P_recoveries, oX2 aD aDc D_writesDone D_writesLeft D_down, rI aDc cI 4096 D_cells, oX3 aI aD, oX0 aQ aI aG aU Q_ratio aF aZ Q_looks Q_unpacked, oX6 aZ Z_first Z_last Z_points Z_least Z_greatest Z_sum]) (w1 := [oX9 aP P_seriesCount P_most P_ratio aD aI aG aU aT aQ aC P_recoveries, oX2 aD aDc D_writesDone D_writesLeft D_down, rI aDc cI 4096 D_cells, oX3 aI aD, oX0 aQ aI aG aU Q_ratio aF aZ Q_looks Q_unpacked, oX6 aZ o_Z_first o_Z_last o_Z_points o_Z_least o_Z_greatest o_Z_sum]) (wr := [rJ aO cJ 1 O]) (wb := [oX9 aP P_seriesCount P_most P_ratio aD aI aG aU aT aQ aC P_recoveries, oX2 aD aDc D_writesDone D_writesLeft D_down, rI aDc cI 4096 D_cells, oX3 aI aD, oX0 aQ aI aG aU Q_ratio aF aZ Q_looks Q_unpacked, oX6 aZ o_Z_first o_Z_last o_Z_points o_Z_least o_Z_greatest o_Z_sum, rJ aO cJ 1 O]) (v := (some (.int r))) hx hb hml hown htc hN (c_X9_group l G cI cZ cJ aP aD aI aG aU aT aQ aC aDc aF aZ P_seriesCount P_most P_ratio P_recoveries D_writesDone D_writesLeft D_down D_cells Q_ratio Q_looks Q_unpacked Z_first Z_last Z_points Z_least Z_greatest Z_sum p0 p1 p2 hfin) mw_931 mw_932 mw_933 mw_1 mw_934 hd_X9_group ⟨rfl, rfl⟩ ⟨Nat.le_of_ble_eq_true rfl, Nat.le_of_ble_eq_true rfl⟩ hK hw0 hA [0, 1, 2, 3, 4, 5] [6] [1, 2, 3, 4, 5, 6, 0] rfl rfl rfl rfl rfl (by decide) rfl rfl rfl 0 rfl rfl rfl rfl hl0.1 rfl rfl (Nat.le_of_ble_eq_true rfl) dL_group_7 ⟨Nat.le_refl _, Nat.le_refl _⟩ (fun H1 locs1 hw1 => ?_)
    refine lv_i2l hx hb dL_group_10 rfl ?_
    refine va_last hx hb hK hw1.1 hw1.2.1 hw1.2.2 6 2 rfl rfl (show vp_in (0 : Int32) 1 by unfold vp_in; decide) dL_group_11 (fun H2 locs2 hP hD hS => ?_)
    have hw2 : wS G A s H2 locs2 [oX9 aP P_seriesCount P_most P_ratio aD aI aG aU aT aQ aC P_recoveries, oX2 aD aDc D_writesDone D_writesLeft D_down, rI aDc cI 4096 D_cells, oX3 aI aD, oX0 aQ aI aG aU Q_ratio aF aZ Q_looks Q_unpacked, oX6 aZ o_Z_first o_Z_last o_Z_points o_Z_least o_Z_greatest o_Z_sum, rJ aO cJ 1 (vp_updL O 0 (Int32.toInt64 r))] := ⟨hP, hD, hS⟩
    refine lv_goto (tgt := 27) hx hb dL_group_12 (by decide) ?_
    refine lv_iconst (v := (0 : Int32)) hx hb dL_group_27 (by decide) ?_
    rw [hQQ]
    exact et_iret hx hb hr hlocks hw2 dL_group_28
  · rw [if_neg hk0] at hQQ
    refine xtV (a := aP) (As := [.int p0, .int p1, .int p2]) (rest := [.int (0 : Int32), .ref aO]) (wc := [oX9 aP P_seriesCount P_most P_ratio aD aI aG aU aT aQ aC P_recoveries, oX2 aD aDc D_writesDone D_writesLeft D_down, rI aDc cI 4096 D_cells, oX3 aI aD, oX0 aQ aI aG aU Q_ratio aF aZ Q_looks Q_unpacked, oX6 aZ Z_first Z_last Z_points Z_least Z_greatest Z_sum]) (w1 := [oX9 aP P_seriesCount P_most P_ratio aD aI aG aU aT aQ aC P_recoveries, oX2 aD aDc D_writesDone D_writesLeft D_down, rI aDc cI 4096 D_cells, oX3 aI aD, oX0 aQ aI aG aU Q_ratio aF aZ Q_looks Q_unpacked, oX6 aZ o_Z_first o_Z_last o_Z_points o_Z_least o_Z_greatest o_Z_sum]) (wr := [rJ aO cJ 1 O]) (wb := [oX9 aP P_seriesCount P_most P_ratio aD aI aG aU aT aQ aC P_recoveries, oX2 aD aDc D_writesDone D_writesLeft D_down, rI aDc cI 4096 D_cells, oX3 aI aD, oX0 aQ aI aG aU Q_ratio aF aZ Q_looks Q_unpacked, oX6 aZ o_Z_first o_Z_last o_Z_points o_Z_least o_Z_greatest o_Z_sum, rJ aO cJ 1 O]) hx hb hml hown htc hN hX (x_X9_group l hST G cI cZ cJ aP aD aI aG aU aT aQ aC aDc aF aZ P_seriesCount P_most P_ratio P_recoveries D_writesDone D_writesLeft D_down D_cells Q_ratio Q_looks Q_unpacked Z_first Z_last Z_points Z_least Z_greatest Z_sum p0 p1 p2 hfin hk0) mw_931 mw_932 mw_933 mw_1 mw_934 hd_X9_group ⟨rfl, rfl⟩ ⟨Nat.le_of_ble_eq_true rfl, Nat.le_of_ble_eq_true rfl⟩ hK hw0 hA [0, 1, 2, 3, 4, 5] [6] [1, 2, 3, 4, 5, 6, 0] rfl rfl rfl rfl rfl (by decide) rfl rfl rfl 0 rfl rfl rfl rfl hl0.1 rfl (Nat.le_of_ble_eq_true rfl) dL_group_7 ⟨Nat.le_refl _, Nat.le_refl _⟩ (fun H1 locs1 q ce hw1 hc1 hc2 hc3 => ?_)
    rcases hk with rfl | rfl | rfl | rfl
    · exact absurd rfl hk0
    · rw [exN_1] at hc3
      refine vx_catch (own := RL) (name := xISE) hown [] ⟨0, 12, 15, 13⟩ [⟨0, 12, 19, 15⟩, ⟨0, 12, 23, 28⟩] (by rw [hT]; rfl) (fun z hz => nomatch hz) (by decide) (Nat.succ_ne_zero _) (htc _ mk_xISE) (va_Nw.use rfl (hX.2.1.1 xISE (by decide))) hc1 hc2 hc3 ?_
      refine lv_astore (lv' := [(5, .ref q), (0, .ref aP), (1, .int p0), (2, .int p1), (3, .int p2), (4, .ref aO)]) hx hb dL_group_15 hl0 (by decide) rfl (fun ls1 hl1 => ?_)
      refine lv_iconst (v := (1 : Int32)) hx hb dL_group_17 (by decide) ?_
      rw [hQQ]
      exact et_iret hx hb hr hlocks hw1 dL_group_18
    · rw [exN_2] at hc3
      refine vx_catch (own := RL) (name := xIOE) hown [⟨0, 12, 15, 13⟩] ⟨0, 12, 19, 15⟩ [⟨0, 12, 23, 28⟩] (by rw [hT]; rfl) (List.forall_mem_cons.mpr ⟨Or.inr ⟨Nat.succ_ne_zero _, xISE, htc _ mk_xISE, hX.2.2.2 (xIOE, xISE) (by decide)⟩, (fun _ h => nomatch h)⟩) (by decide) (Nat.succ_ne_zero _) (htc _ mk_xIOE) (va_Nw.use rfl (hX.2.1.1 xIOE (by decide))) hc1 hc2 hc3 ?_
      refine lv_astore (lv' := [(5, .ref q), (0, .ref aP), (1, .int p0), (2, .int p1), (3, .int p2), (4, .ref aO)]) hx hb dL_group_19 hl0 (by decide) rfl (fun ls1 hl1 => ?_)
      refine lv_iconst (v := (2 : Int32)) hx hb dL_group_21 (by decide) ?_
      rw [hQQ]
      exact et_iret hx hb hr hlocks hw1 dL_group_22
    · rw [exN_3] at hc3
      refine vx_catch (own := RL) (name := xNSE) hown [⟨0, 12, 15, 13⟩, ⟨0, 12, 19, 15⟩] ⟨0, 12, 23, 28⟩ [] (by rw [hT]; rfl) (List.forall_mem_cons.mpr ⟨Or.inr ⟨Nat.succ_ne_zero _, xISE, htc _ mk_xISE, hX.2.2.2 (xNSE, xISE) (by decide)⟩, (List.forall_mem_cons.mpr ⟨Or.inr ⟨Nat.succ_ne_zero _, xIOE, htc _ mk_xIOE, hX.2.2.2 (xNSE, xIOE) (by decide)⟩, (fun _ h => nomatch h)⟩)⟩) (by decide) (Nat.succ_ne_zero _) (htc _ mk_xNSE) (va_Nw.use rfl (hX.2.1.1 xNSE (by decide))) hc1 hc2 hc3 ?_
      refine lv_astore (lv' := [(5, .ref q), (0, .ref aP), (1, .int p0), (2, .int p1), (3, .int p2), (4, .ref aO)]) hx hb dL_group_23 hl0 (by decide) rfl (fun ls1 hl1 => ?_)
      refine lv_iconst (v := (3 : Int32)) hx hb dL_group_25 (by decide) ?_
      rw [hQQ]
      exact et_iret hx hb hr hlocks hw1 dL_group_26
