theorem dX10_curTime_0 : decode cX10_curTime 0 = .ok (.aload_n 0, 1) := by decide +kernel
theorem dX10_curTime_1 : decode cX10_curTime 1 = .ok (.iconst 0, 1) := by decide +kernel
theorem dX10_curTime_2 : decode cX10_curTime 2 = .ok (.putfield 76, 3) := by decide +kernel
theorem dX10_curTime_5 : decode cX10_curTime 5 = .ok (.aload_n 0, 1) := by decide +kernel
theorem dX10_curTime_6 : decode cX10_curTime 6 = .ok (.invokevirtual 295, 3) := by decide +kernel
theorem dX10_curTime_9 : decode cX10_curTime 9 = .ok (.ifCond .eq 15, 3) := by decide +kernel
theorem dX10_curTime_12 : decode cX10_curTime 12 = .ok (.aload_n 0, 1) := by decide +kernel
theorem dX10_curTime_13 : decode cX10_curTime 13 = .ok (.getfield 54, 3) := by decide +kernel
theorem dX10_curTime_16 : decode cX10_curTime 16 = .ok (.aload_n 0, 1) := by decide +kernel
theorem dX10_curTime_17 : decode cX10_curTime 17 = .ok (.getfield 92, 3) := by decide +kernel
theorem dX10_curTime_20 : decode cX10_curTime 20 = .ok (.iaload, 1) := by decide +kernel
theorem dX10_curTime_21 : decode cX10_curTime 21 = .ok (.goto 4, 3) := by decide +kernel
theorem dX10_curTime_24 : decode cX10_curTime 24 = .ok (.iconst 0, 1) := by decide +kernel
theorem dX10_curTime_25 : decode cX10_curTime 25 = .ok (.ireturn, 1) := by decide +kernel
theorem dX10_curVal_0 : decode cX10_curVal 0 = .ok (.aload_n 0, 1) := by decide +kernel
theorem dX10_curVal_1 : decode cX10_curVal 1 = .ok (.iconst 0, 1) := by decide +kernel
theorem dX10_curVal_2 : decode cX10_curVal 2 = .ok (.putfield 76, 3) := by decide +kernel
theorem dX10_curVal_5 : decode cX10_curVal 5 = .ok (.aload_n 0, 1) := by decide +kernel
theorem dX10_curVal_6 : decode cX10_curVal 6 = .ok (.invokevirtual 295, 3) := by decide +kernel
theorem dX10_curVal_9 : decode cX10_curVal 9 = .ok (.ifCond .eq 15, 3) := by decide +kernel
theorem dX10_curVal_12 : decode cX10_curVal 12 = .ok (.aload_n 0, 1) := by decide +kernel
theorem dX10_curVal_13 : decode cX10_curVal 13 = .ok (.getfield 57, 3) := by decide +kernel
theorem dX10_curVal_16 : decode cX10_curVal 16 = .ok (.aload_n 0, 1) := by decide +kernel
theorem dX10_curVal_17 : decode cX10_curVal 17 = .ok (.getfield 92, 3) := by decide +kernel
theorem dX10_curVal_20 : decode cX10_curVal 20 = .ok (.iaload, 1) := by decide +kernel
theorem dX10_curVal_21 : decode cX10_curVal 21 = .ok (.goto 4, 3) := by decide +kernel
theorem dX10_curVal_24 : decode cX10_curVal 24 = .ok (.iconst 0, 1) := by decide +kernel
theorem dX10_curVal_25 : decode cX10_curVal 25 = .ok (.ireturn, 1) := by decide +kernel
theorem dX10_aggCount_0 : decode cX10_aggCount 0 = .ok (.aload_n 0, 1) := by decide +kernel
theorem dX10_aggCount_1 : decode cX10_aggCount 1 = .ok (.iconst 0, 1) := by decide +kernel
theorem dX10_aggCount_2 : decode cX10_aggCount 2 = .ok (.putfield 76, 3) := by decide +kernel
theorem dX10_aggCount_5 : decode cX10_aggCount 5 = .ok (.aload_n 0, 1) := by decide +kernel
theorem dX10_aggCount_6 : decode cX10_aggCount 6 = .ok (.getfield 79, 3) := by decide +kernel
theorem dX10_aggCount_9 : decode cX10_aggCount 9 = .ok (.ifCond .eq 6, 3) := by decide +kernel
theorem dX10_aggCount_12 : decode cX10_aggCount 12 = .ok (.bipush (-9), 2) := by decide +kernel
theorem dX10_aggCount_14 : decode cX10_aggCount 14 = .ok (.ireturn, 1) := by decide +kernel
theorem dX10_aggCount_15 : decode cX10_aggCount 15 = .ok (.aload_n 0, 1) := by decide +kernel
theorem dX10_aggCount_16 : decode cX10_aggCount 16 = .ok (.iload_n 1, 1) := by decide +kernel
theorem dX10_aggCount_17 : decode cX10_aggCount 17 = .ok (.invokevirtual 98, 3) := by decide +kernel
theorem dX10_aggCount_20 : decode cX10_aggCount 20 = .ok (.ifCond .ne 6, 3) := by decide +kernel
theorem dX10_aggCount_23 : decode cX10_aggCount 23 = .ok (.bipush (-2), 2) := by decide +kernel
theorem dX10_aggCount_25 : decode cX10_aggCount 25 = .ok (.ireturn, 1) := by decide +kernel
theorem dX10_aggCount_26 : decode cX10_aggCount 26 = .ok (.aload_n 0, 1) := by decide +kernel
theorem dX10_aggCount_27 : decode cX10_aggCount 27 = .ok (.iload_n 1, 1) := by decide +kernel
theorem dX10_aggCount_28 : decode cX10_aggCount 28 = .ok (.iload_n 2, 1) := by decide +kernel
theorem dX10_aggCount_29 : decode cX10_aggCount 29 = .ok (.iload_n 3, 1) := by decide +kernel
theorem dX10_aggCount_30 : decode cX10_aggCount 30 = .ok (.iconst 0, 1) := by decide +kernel
theorem dX10_aggCount_31 : decode cX10_aggCount 31 = .ok (.invokevirtual 291, 3) := by decide +kernel
theorem dX10_aggCount_34 : decode cX10_aggCount 34 = .ok (.aload_n 0, 1) := by decide +kernel
theorem dX10_aggCount_35 : decode cX10_aggCount 35 = .ok (.getfield 248, 3) := by decide +kernel
theorem dX10_aggCount_38 : decode cX10_aggCount 38 = .ok (.ireturn, 1) := by decide +kernel
theorem dX10_asks_0 : decode cX10_asks 0 = .ok (.aload_n 0, 1) := by decide +kernel
theorem dX10_asks_1 : decode cX10_asks 1 = .ok (.aload_n 0, 1) := by decide +kernel
theorem dX10_asks_2 : decode cX10_asks 2 = .ok (.getfield 79, 3) := by decide +kernel
theorem dX10_asks_5 : decode cX10_asks 5 = .ok (.ifCond .eq 7, 3) := by decide +kernel
theorem dX10_asks_8 : decode cX10_asks 8 = .ok (.iconst 1, 1) := by decide +kernel
theorem dX10_asks_9 : decode cX10_asks 9 = .ok (.goto 16, 3) := by decide +kernel
theorem dX10_asks_12 : decode cX10_asks 12 = .ok (.aload_n 0, 1) := by decide +kernel
theorem dX10_asks_13 : decode cX10_asks 13 = .ok (.iload_n 1, 1) := by decide +kernel
theorem dX10_asks_14 : decode cX10_asks 14 = .ok (.invokevirtual 98, 3) := by decide +kernel
theorem dX10_asks_17 : decode cX10_asks 17 = .ok (.ifCond .ne 7, 3) := by decide +kernel
theorem dX10_asks_20 : decode cX10_asks 20 = .ok (.iconst 2, 1) := by decide +kernel
theorem dX10_asks_21 : decode cX10_asks 21 = .ok (.goto 4, 3) := by decide +kernel
theorem dX10_asks_24 : decode cX10_asks 24 = .ok (.iconst 0, 1) := by decide +kernel
theorem dX10_asks_25 : decode cX10_asks 25 = .ok (.putfield 76, 3) := by decide +kernel
theorem dX10_asks_28 : decode cX10_asks 28 = .ok (.aload_n 0, 1) := by decide +kernel
theorem dX10_asks_29 : decode cX10_asks 29 = .ok (.getfield 76, 3) := by decide +kernel
theorem dX10_asks_32 : decode cX10_asks 32 = .ok (.ifCond .ne 11, 3) := by decide +kernel
theorem dX10_asks_35 : decode cX10_asks 35 = .ok (.aload_n 0, 1) := by decide +kernel
theorem dX10_asks_36 : decode cX10_asks 36 = .ok (.iload_n 1, 1) := by decide +kernel
theorem dX10_asks_37 : decode cX10_asks 37 = .ok (.iload_n 2, 1) := by decide +kernel
theorem dX10_asks_38 : decode cX10_asks 38 = .ok (.iload_n 3, 1) := by decide +kernel
theorem dX10_asks_39 : decode cX10_asks 39 = .ok (.iconst 0, 1) := by decide +kernel
theorem dX10_asks_40 : decode cX10_asks 40 = .ok (.invokevirtual 291, 3) := by decide +kernel
theorem dX10_asks_43 : decode cX10_asks 43 = .ok (.aload_n 0, 1) := by decide +kernel
theorem dX10_asks_44 : decode cX10_asks 44 = .ok (.getfield 76, 3) := by decide +kernel
theorem dX10_asks_47 : decode cX10_asks 47 = .ok (.ifCond .ne 7, 3) := by decide +kernel
theorem dX10_asks_50 : decode cX10_asks 50 = .ok (.iconst 1, 1) := by decide +kernel
theorem dX10_asks_51 : decode cX10_asks 51 = .ok (.goto 4, 3) := by decide +kernel
theorem dX10_asks_54 : decode cX10_asks 54 = .ok (.iconst 0, 1) := by decide +kernel
theorem dX10_asks_55 : decode cX10_asks 55 = .ok (.ireturn, 1) := by decide +kernel
theorem dX10_aggMin_0 : decode cX10_aggMin 0 = .ok (.aload_n 0, 1) := by decide +kernel
theorem dX10_aggMin_1 : decode cX10_aggMin 1 = .ok (.iload_n 1, 1) := by decide +kernel
theorem dX10_aggMin_2 : decode cX10_aggMin 2 = .ok (.iload_n 2, 1) := by decide +kernel
theorem dX10_aggMin_3 : decode cX10_aggMin 3 = .ok (.iload_n 3, 1) := by decide +kernel
theorem dX10_aggMin_4 : decode cX10_aggMin 4 = .ok (.invokevirtual 299, 3) := by decide +kernel
theorem dX10_aggMin_7 : decode cX10_aggMin 7 = .ok (.ifCond .eq 10, 3) := by decide +kernel
theorem dX10_aggMin_10 : decode cX10_aggMin 10 = .ok (.aload_n 0, 1) := by decide +kernel
theorem dX10_aggMin_11 : decode cX10_aggMin 11 = .ok (.getfield 251, 3) := by decide +kernel
theorem dX10_aggMin_14 : decode cX10_aggMin 14 = .ok (.goto 4, 3) := by decide +kernel
theorem dX10_aggMin_17 : decode cX10_aggMin 17 = .ok (.iconst 0, 1) := by decide +kernel
theorem dX10_aggMin_18 : decode cX10_aggMin 18 = .ok (.ireturn, 1) := by decide +kernel
theorem dX10_aggMax_0 : decode cX10_aggMax 0 = .ok (.aload_n 0, 1) := by decide +kernel
theorem dX10_aggMax_1 : decode cX10_aggMax 1 = .ok (.iload_n 1, 1) := by decide +kernel
theorem dX10_aggMax_2 : decode cX10_aggMax 2 = .ok (.iload_n 2, 1) := by decide +kernel
theorem dX10_aggMax_3 : decode cX10_aggMax 3 = .ok (.iload_n 3, 1) := by decide +kernel
theorem dX10_aggMax_4 : decode cX10_aggMax 4 = .ok (.invokevirtual 299, 3) := by decide +kernel
theorem dX10_aggMax_7 : decode cX10_aggMax 7 = .ok (.ifCond .eq 10, 3) := by decide +kernel
theorem dX10_aggMax_10 : decode cX10_aggMax 10 = .ok (.aload_n 0, 1) := by decide +kernel
theorem dX10_aggMax_11 : decode cX10_aggMax 11 = .ok (.getfield 254, 3) := by decide +kernel
theorem dX10_aggMax_14 : decode cX10_aggMax 14 = .ok (.goto 4, 3) := by decide +kernel
theorem dX10_aggMax_17 : decode cX10_aggMax 17 = .ok (.iconst 0, 1) := by decide +kernel
theorem dX10_aggMax_18 : decode cX10_aggMax 18 = .ok (.ireturn, 1) := by decide +kernel
theorem dX10_aggSum_0 : decode cX10_aggSum 0 = .ok (.aload_n 0, 1) := by decide +kernel
theorem dX10_aggSum_1 : decode cX10_aggSum 1 = .ok (.iload_n 1, 1) := by decide +kernel
theorem dX10_aggSum_2 : decode cX10_aggSum 2 = .ok (.iload_n 2, 1) := by decide +kernel
theorem dX10_aggSum_3 : decode cX10_aggSum 3 = .ok (.iload_n 3, 1) := by decide +kernel
theorem dX10_aggSum_4 : decode cX10_aggSum 4 = .ok (.invokevirtual 299, 3) := by decide +kernel
theorem dX10_aggSum_7 : decode cX10_aggSum 7 = .ok (.ifCond .eq 10, 3) := by decide +kernel
theorem dX10_aggSum_10 : decode cX10_aggSum 10 = .ok (.aload_n 0, 1) := by decide +kernel
theorem dX10_aggSum_11 : decode cX10_aggSum 11 = .ok (.getfield 257, 3) := by decide +kernel
theorem dX10_aggSum_14 : decode cX10_aggSum 14 = .ok (.goto 4, 3) := by decide +kernel
theorem dX10_aggSum_17 : decode cX10_aggSum 17 = .ok (.lconst 0, 1) := by decide +kernel
theorem dX10_aggSum_18 : decode cX10_aggSum 18 = .ok (.lreturn, 1) := by decide +kernel
abbrev rm_X10_curTime : Room := { frames := 1, cells := 0, slots := 0, locals := 20 }
theorem hd_X10_curTime : yX10_curTime.cls = RX10 ∧ yX10_curTime.cls ≠ "java/lang/invoke/MethodHandle" ∧ yX10_curTime.cls ≠ "java/lang/invoke/VarHandle" ∧ (parseMethodDescriptor yX10_curTime.desc).map (fun d => d.parameters.length) = some 0 := by decide +kernel
set_option maxHeartbeats 4000000 in
set_option maxRecDepth 100000 in
theorem c_X10_curTime (l : Launch) (G : va_G) (cI cZ cJ : ClassId) (aM aMdisk aMits aMmany aMplace aMlength aMtimes aMvalues aMorder aMheadOf aMheadTime aMheadValue aMnext aMisNew aMcursorTime aMcursorValue aMmade : Nat) (M_thrown : Int32) (M_series : Int32) (M_most : Int32) (M_ratio : Int32) (M_writes : Int32) (M_fuse : Int32) (M_down : Int32) (M_recovers : Int32) (M_looks : Int32) (M_unpacked : Int32) (M_chunks : Int32) (M_epoch : Int32) (M_side : Int32) (M_logged : Int32) (M_nexts : Int32) (M_hasCursor : Int32) (M_cursorMany : Int32) (M_cursorAt : Int32) (M_bits : Int32) (M_from : Int32) (M_askMany : Int32) (M_askLeast : Int32) (M_askGreatest : Int32) (M_askSum : Int64) (M_cursorTime : Nat → Int32)  {r : Int32} {o_M_thrown : Int32} (hfin : m_X10_curTime M_thrown M_hasCursor M_cursorMany M_cursorAt M_cursorTime = some (r, o_M_thrown)) : CT l yX10_curTime cX10_curTime 1 (some .int) rm_X10_curTime G (tyC cI cZ cJ) [.ref aM] [oX10 aM M_thrown M_series M_most M_ratio aMdisk M_writes M_fuse M_down M_recovers M_looks M_unpacked aMits aMmany aMplace aMlength aMtimes aMvalues aMorder M_chunks M_epoch M_side aMheadOf aMheadTime aMheadValue M_logged aMnext aMisNew M_nexts aMcursorTime aMcursorValue M_hasCursor M_cursorMany M_cursorAt aMmade M_bits M_from M_askMany M_askLeast M_askGreatest M_askSum, rI aMcursorTime cI 6300 M_cursorTime] (some (.int r)) [oX10 aM o_M_thrown M_series M_most M_ratio aMdisk M_writes M_fuse M_down M_recovers M_looks M_unpacked aMits aMmany aMplace aMlength aMtimes aMvalues aMorder M_chunks M_epoch M_side aMheadOf aMheadTime aMheadValue M_logged aMnext aMisNew M_nexts aMcursorTime aMcursorValue M_hasCursor M_cursorMany M_cursorAt aMmade M_bits M_from M_askMany M_askLeast M_askGreatest M_askSum, rI aMcursorTime cI 6300 M_cursorTime] := by
  refine CT.ofW (lvl := [(0, .ref aM)]) (by decide) (Nat.le_of_ble_eq_true rfl) rfl ?_
  intro p e s m args below meth c A ls0 QQ hQQ hx hb hml hr hlocks htc hN hown hK hA hw0 hl0
  rw [m_X10_curTime] at hfin
  refine lv_aload_n hx hb dX10_curTime_0 rfl (lv_at hl0 0 rfl) ?_
  refine lv_iconst (v := (0 : Int32)) hx hb dX10_curTime_1 (by decide) ?_
  refine va_put (D := G) (ci := 10) (v := .int (0 : Int32)) (ty := .int) (C := RX10) (T := TX10) (N := 40) hx hb htc iX10 tyX10 tyX10_ok nmX10 hown hK hw0.1 hw0.2.1 hw0.2.2 0 rfl rfl 0 (by decide) (htc _ mw_947) (fun _ h9 => h9) rfl (tyX10_ok 0 (by decide)) rfl rfl (Nat.le_of_ble_eq_true rfl) dX10_curTime_2 (fun H1 locs1 hP hD hS => ?_)
  have hw1 : wS G A s H1 locs1 [oX10 aM (0 : Int32) M_series M_most M_ratio aMdisk M_writes M_fuse M_down M_recovers M_looks M_unpacked aMits aMmany aMplace aMlength aMtimes aMvalues aMorder M_chunks M_epoch M_side aMheadOf aMheadTime aMheadValue M_logged aMnext aMisNew M_nexts aMcursorTime aMcursorValue M_hasCursor M_cursorMany M_cursorAt aMmade M_bits M_from M_askMany M_askLeast M_askGreatest M_askSum, rI aMcursorTime cI 6300 M_cursorTime] := ⟨hP, hD, hS⟩
  clear hP hD hS hw0
  refine lv_aload_n hx hb dX10_curTime_5 rfl (lv_at hl0 0 rfl) ?_
  replace hfin := ob1_some hfin
  obtain ⟨r_3, hE_2, hfin⟩ := hfin
  refine ctV (a := aM) (As := []) (rest := []) (st1 := [.int r_3]) (wc := [oX10 aM (0 : Int32) M_series M_most M_ratio aMdisk M_writes M_fuse M_down M_recovers M_looks M_unpacked aMits aMmany aMplace aMlength aMtimes aMvalues aMorder M_chunks M_epoch M_side aMheadOf aMheadTime aMheadValue M_logged aMnext aMisNew M_nexts aMcursorTime aMcursorValue M_hasCursor M_cursorMany M_cursorAt aMmade M_bits M_from M_askMany M_askLeast M_askGreatest M_askSum]) (w1 := [oX10 aM (0 : Int32) M_series M_most M_ratio aMdisk M_writes M_fuse M_down M_recovers M_looks M_unpacked aMits aMmany aMplace aMlength aMtimes aMvalues aMorder M_chunks M_epoch M_side aMheadOf aMheadTime aMheadValue M_logged aMnext aMisNew M_nexts aMcursorTime aMcursorValue M_hasCursor M_cursorMany M_cursorAt aMmade M_bits M_from M_askMany M_askLeast M_askGreatest M_askSum]) (wr := [rI aMcursorTime cI 6300 M_cursorTime]) (wb := [oX10 aM (0 : Int32) M_series M_most M_ratio aMdisk M_writes M_fuse M_down M_recovers M_looks M_unpacked aMits aMmany aMplace aMlength aMtimes aMvalues aMorder M_chunks M_epoch M_side aMheadOf aMheadTime aMheadValue M_logged aMnext aMisNew M_nexts aMcursorTime aMcursorValue M_hasCursor M_cursorMany M_cursorAt aMmade M_bits M_from M_askMany M_askLeast M_askGreatest M_askSum, rI aMcursorTime cI 6300 M_cursorTime]) (v := (some (.int r_3))) hx hb hml hown htc hN (c_X10_isAt l G cI cZ cJ aM aMdisk aMits aMmany aMplace aMlength aMtimes aMvalues aMorder aMheadOf aMheadTime aMheadValue aMnext aMisNew aMcursorTime aMcursorValue aMmade (0 : Int32) M_series M_most M_ratio M_writes M_fuse M_down M_recovers M_looks M_unpacked M_chunks M_epoch M_side M_logged M_nexts M_hasCursor M_cursorMany M_cursorAt M_bits M_from M_askMany M_askLeast M_askGreatest M_askSum  hE_2) mw_1256 mw_1258 mp_69 mw_12 mw_1259 hd_X10_isAt ⟨rfl, rfl⟩ ⟨Nat.le_of_ble_eq_true rfl, Nat.le_of_ble_eq_true rfl⟩ hK hw1 hA [0] [1] [1, 0] rfl rfl rfl rfl rfl (by decide) rfl rfl rfl 0 rfl rfl rfl rfl hl0.1 rfl rfl (Nat.le_of_ble_eq_true rfl) dX10_curTime_6 ⟨Nat.zero_le _, Nat.zero_le _⟩ (fun H4 locs4 hw4 => ?_)
  clear hw1 H1 locs1
  replace hfin := ob1_some hfin
  obtain ⟨s_5, hJ_6, hfin⟩ := hfin
  have kj_7 : ∀ (H : Heap) (locs : List Loc) (ls : Array Slot), wS G A s H locs [oX10 aM (0 : Int32) M_series M_most M_ratio aMdisk M_writes M_fuse M_down M_recovers M_looks M_unpacked aMits aMmany aMplace aMlength aMtimes aMvalues aMorder M_chunks M_epoch M_side aMheadOf aMheadTime aMheadValue M_logged aMnext aMisNew M_nexts aMcursorTime aMcursorValue M_hasCursor M_cursorMany M_cursorAt aMmade M_bits M_from M_askMany M_askLeast M_askGreatest M_askSum, rI aMcursorTime cI 6300 M_cursorTime] → lv_has ls 1 [] → W p l e rm_X10_curTime s m args below meth c H locs 0 0 QQ (F0 m 25 ls [.int s_5]) := by
    clear hw4 H4 locs4 hl0 ls0 hJ_6
    intro H10 locs10 ls10 hw10 hl10
    cases hfin
    rw [hQQ]
    exact ct_iret hx hb hr hlocks hw10.1 hw10.2.1 hw10.2.2 dX10_curTime_25
  clear hfin
  refine lv_if_eq (tgt := 24) hx hb dX10_curTime_9 (by decide) (fun c_8 => ?_) (fun c_8 => ?_)
  · replace hJ_6 := it_t c_8 hJ_6
    refine lv_iconst (v := (0 : Int32)) hx hb dX10_curTime_24 (by decide) ?_
    cases hJ_6
    exact kj_7 _ _ _ hw4 (lv_sub hl0 [] rfl)
  · replace hJ_6 := it_f c_8 hJ_6
    refine lv_aload_n hx hb dX10_curTime_12 rfl (lv_at hl0 0 rfl) ?_
    refine va_get (D := G) (ci := 10) (v := .ref aMcursorTime) (C := RX10) (T := TX10) (N := 40) hx hb htc iX10 hown hK hw4.1 0 rfl rfl 28 (by decide) (htc _ mw_975) (fun _ h9 => h9) rfl dX10_curTime_13 ?_
    refine lv_aload_n hx hb dX10_curTime_16 rfl (lv_at hl0 0 rfl) ?_
    refine va_get (D := G) (ci := 10) (v := .int M_cursorAt) (C := RX10) (T := TX10) (N := 40) hx hb htc iX10 hown hK hw4.1 0 rfl rfl 32 (by decide) (htc _ mw_979) (fun _ h9 => h9) rfl dX10_curTime_17 ?_
    replace hJ_6 := ckb_some hJ_6
    obtain ⟨hin_9, hJ_6⟩ := hJ_6
    refine va_iald hx hb hK hw4.1 1 0 rfl rfl hin_9 dX10_curTime_20 ?_
    refine lv_goto (tgt := 25) hx hb dX10_curTime_21 (by decide) ?_
    cases hJ_6
    exact kj_7 _ _ _ hw4 (lv_sub hl0 [] rfl)
abbrev rm_X10_curVal : Room := { frames := 1, cells := 0, slots := 0, locals := 20 }
theorem hd_X10_curVal : yX10_curVal.cls = RX10 ∧ yX10_curVal.cls ≠ "java/lang/invoke/MethodHandle" ∧ yX10_curVal.cls ≠ "java/lang/invoke/VarHandle" ∧ (parseMethodDescriptor yX10_curVal.desc).map (fun d => d.parameters.length) = some 0 := by decide +kernel
set_option maxHeartbeats 4000000 in
set_option maxRecDepth 100000 in
theorem c_X10_curVal (l : Launch) (G : va_G) (cI cZ cJ : ClassId) (aM aMdisk aMits aMmany aMplace aMlength aMtimes aMvalues aMorder aMheadOf aMheadTime aMheadValue aMnext aMisNew aMcursorTime aMcursorValue aMmade : Nat) (M_thrown : Int32) (M_series : Int32) (M_most : Int32) (M_ratio : Int32) (M_writes : Int32) (M_fuse : Int32) (M_down : Int32) (M_recovers : Int32) (M_looks : Int32) (M_unpacked : Int32) (M_chunks : Int32) (M_epoch : Int32) (M_side : Int32) (M_logged : Int32) (M_nexts : Int32) (M_hasCursor : Int32) (M_cursorMany : Int32) (M_cursorAt : Int32) (M_bits : Int32) (M_from : Int32) (M_askMany : Int32) (M_askLeast : Int32) (M_askGreatest : Int32) (M_askSum : Int64) (M_cursorValue : Nat → Int32)  {r : Int32} {o_M_thrown : Int32} (hfin : m_X10_curVal M_thrown M_hasCursor M_cursorMany M_cursorAt M_cursorValue = some (r, o_M_thrown)) : CT l yX10_curVal cX10_curVal 1 (some .int) rm_X10_curVal G (tyC cI cZ cJ) [.ref aM] [oX10 aM M_thrown M_series M_most M_ratio aMdisk M_writes M_fuse M_down M_recovers M_looks M_unpacked aMits aMmany aMplace aMlength aMtimes aMvalues aMorder M_chunks M_epoch M_side aMheadOf aMheadTime aMheadValue M_logged aMnext aMisNew M_nexts aMcursorTime aMcursorValue M_hasCursor M_cursorMany M_cursorAt aMmade M_bits M_from M_askMany M_askLeast M_askGreatest M_askSum, rI aMcursorValue cI 6300 M_cursorValue] (some (.int r)) [oX10 aM o_M_thrown M_series M_most M_ratio aMdisk M_writes M_fuse M_down M_recovers M_looks M_unpacked aMits aMmany aMplace aMlength aMtimes aMvalues aMorder M_chunks M_epoch M_side aMheadOf aMheadTime aMheadValue M_logged aMnext aMisNew M_nexts aMcursorTime aMcursorValue M_hasCursor M_cursorMany M_cursorAt aMmade M_bits M_from M_askMany M_askLeast M_askGreatest M_askSum, rI aMcursorValue cI 6300 M_cursorValue] := by
  refine CT.ofW (lvl := [(0, .ref aM)]) (by decide) (Nat.le_of_ble_eq_true rfl) rfl ?_
  intro p e s m args below meth c A ls0 QQ hQQ hx hb hml hr hlocks htc hN hown hK hA hw0 hl0
  rw [m_X10_curVal] at hfin
  refine lv_aload_n hx hb dX10_curVal_0 rfl (lv_at hl0 0 rfl) ?_
  refine lv_iconst (v := (0 : Int32)) hx hb dX10_curVal_1 (by decide) ?_
  refine va_put (D := G) (ci := 10) (v := .int (0 : Int32)) (ty := .int) (C := RX10) (T := TX10) (N := 40) hx hb htc iX10 tyX10 tyX10_ok nmX10 hown hK hw0.1 hw0.2.1 hw0.2.2 0 rfl rfl 0 (by decide) (htc _ mw_947) (fun _ h9 => h9) rfl (tyX10_ok 0 (by decide)) rfl rfl (Nat.le_of_ble_eq_true rfl) dX10_curVal_2 (fun H1 locs1 hP hD hS => ?_)
  have hw1 : wS G A s H1 locs1 [oX10 aM (0 : Int32) M_series M_most M_ratio aMdisk M_writes M_fuse M_down M_recovers M_looks M_unpacked aMits aMmany aMplace aMlength aMtimes aMvalues aMorder M_chunks M_epoch M_side aMheadOf aMheadTime aMheadValue M_logged aMnext aMisNew M_nexts aMcursorTime aMcursorValue M_hasCursor M_cursorMany M_cursorAt aMmade M_bits M_from M_askMany M_askLeast M_askGreatest M_askSum, rI aMcursorValue cI 6300 M_cursorValue] := ⟨hP, hD, hS⟩
  clear hP hD hS hw0
  refine lv_aload_n hx hb dX10_curVal_5 rfl (lv_at hl0 0 rfl) ?_
  replace hfin := ob1_some hfin
  obtain ⟨r_3, hE_2, hfin⟩ := hfin
  refine ctV (a := aM) (As := []) (rest := []) (st1 := [.int r_3]) (wc := [oX10 aM (0 : Int32) M_series M_most M_ratio aMdisk M_writes M_fuse M_down M_recovers M_looks M_unpacked aMits aMmany aMplace aMlength aMtimes aMvalues aMorder M_chunks M_epoch M_side aMheadOf aMheadTime aMheadValue M_logged aMnext aMisNew M_nexts aMcursorTime aMcursorValue M_hasCursor M_cursorMany M_cursorAt aMmade M_bits M_from M_askMany M_askLeast M_askGreatest M_askSum]) (w1 := [oX10 aM (0 : Int32) M_series M_most M_ratio aMdisk M_writes M_fuse M_down M_recovers M_looks M_unpacked aMits aMmany aMplace aMlength aMtimes aMvalues aMorder M_chunks M_epoch M_side aMheadOf aMheadTime aMheadValue M_logged aMnext aMisNew M_nexts aMcursorTime aMcursorValue M_hasCursor M_cursorMany M_cursorAt aMmade M_bits M_from M_askMany M_askLeast M_askGreatest M_askSum]) (wr := [rI aMcursorValue cI 6300 M_cursorValue]) (wb := [oX10 aM (0 : Int32) M_series M_most M_ratio aMdisk M_writes M_fuse M_down M_recovers M_looks M_unpacked aMits aMmany aMplace aMlength aMtimes aMvalues aMorder M_chunks M_epoch M_side aMheadOf aMheadTime aMheadValue M_logged aMnext aMisNew M_nexts aMcursorTime aMcursorValue M_hasCursor M_cursorMany M_cursorAt aMmade M_bits M_from M_askMany M_askLeast M_askGreatest M_askSum, rI aMcursorValue cI 6300 M_cursorValue]) (v := (some (.int r_3))) hx hb hml hown htc hN (c_X10_isAt l G cI cZ cJ aM aMdisk aMits aMmany aMplace aMlength aMtimes aMvalues aMorder aMheadOf aMheadTime aMheadValue aMnext aMisNew aMcursorTime aMcursorValue aMmade (0 : Int32) M_series M_most M_ratio M_writes M_fuse M_down M_recovers M_looks M_unpacked M_chunks M_epoch M_side M_logged M_nexts M_hasCursor M_cursorMany M_cursorAt M_bits M_from M_askMany M_askLeast M_askGreatest M_askSum  hE_2) mw_1256 mw_1258 mp_69 mw_12 mw_1259 hd_X10_isAt ⟨rfl, rfl⟩ ⟨Nat.le_of_ble_eq_true rfl, Nat.le_of_ble_eq_true rfl⟩ hK hw1 hA [0] [1] [1, 0] rfl rfl rfl rfl rfl (by decide) rfl rfl rfl 0 rfl rfl rfl rfl hl0.1 rfl rfl (Nat.le_of_ble_eq_true rfl) dX10_curVal_6 ⟨Nat.zero_le _, Nat.zero_le _⟩ (fun H4 locs4 hw4 => ?_)
  clear hw1 H1 locs1
  replace hfin := ob1_some hfin
  obtain ⟨s_5, hJ_6, hfin⟩ := hfin
  have kj_7 : ∀ (H : Heap) (locs : List Loc) (ls : Array Slot), wS G A s H locs [oX10 aM (0 : Int32) M_series M_most M_ratio aMdisk M_writes M_fuse M_down M_recovers M_looks M_unpacked aMits aMmany aMplace aMlength aMtimes aMvalues aMorder M_chunks M_epoch M_side aMheadOf aMheadTime aMheadValue M_logged aMnext aMisNew M_nexts aMcursorTime aMcursorValue M_hasCursor M_cursorMany M_cursorAt aMmade M_bits M_from M_askMany M_askLeast M_askGreatest M_askSum, rI aMcursorValue cI 6300 M_cursorValue] → lv_has ls 1 [] → W p l e rm_X10_curVal s m args below meth c H locs 0 0 QQ (F0 m 25 ls [.int s_5]) := by
    clear hw4 H4 locs4 hl0 ls0 hJ_6
    intro H10 locs10 ls10 hw10 hl10
    cases hfin
    rw [hQQ]
    exact ct_iret hx hb hr hlocks hw10.1 hw10.2.1 hw10.2.2 dX10_curVal_25
  clear hfin
  refine lv_if_eq (tgt := 24) hx hb dX10_curVal_9 (by decide) (fun c_8 => ?_) (fun c_8 => ?_)
  · replace hJ_6 := it_t c_8 hJ_6
    refine lv_iconst (v := (0 : Int32)) hx hb dX10_curVal_24 (by decide) ?_
    cases hJ_6
    exact kj_7 _ _ _ hw4 (lv_sub hl0 [] rfl)
  · replace hJ_6 := it_f c_8 hJ_6
    refine lv_aload_n hx hb dX10_curVal_12 rfl (lv_at hl0 0 rfl) ?_
    refine va_get (D := G) (ci := 10) (v := .ref aMcursorValue) (C := RX10) (T := TX10) (N := 40) hx hb htc iX10 hown hK hw4.1 0 rfl rfl 29 (by decide) (htc _ mw_976) (fun _ h9 => h9) rfl dX10_curVal_13 ?_
    refine lv_aload_n hx hb dX10_curVal_16 rfl (lv_at hl0 0 rfl) ?_
    refine va_get (D := G) (ci := 10) (v := .int M_cursorAt) (C := RX10) (T := TX10) (N := 40) hx hb htc iX10 hown hK hw4.1 0 rfl rfl 32 (by decide) (htc _ mw_979) (fun _ h9 => h9) rfl dX10_curVal_17 ?_
    replace hJ_6 := ckb_some hJ_6
    obtain ⟨hin_9, hJ_6⟩ := hJ_6
    refine va_iald hx hb hK hw4.1 1 0 rfl rfl hin_9 dX10_curVal_20 ?_
    refine lv_goto (tgt := 25) hx hb dX10_curVal_21 (by decide) ?_
    cases hJ_6
    exact kj_7 _ _ _ hw4 (lv_sub hl0 [] rfl)
abbrev rm_X10_aggCount : Room := { frames := 4, cells := 0, slots := 0, locals := 105 }
theorem hd_X10_aggCount : yX10_aggCount.cls = RX10 ∧ yX10_aggCount.cls ≠ "java/lang/invoke/MethodHandle" ∧ yX10_aggCount.cls ≠ "java/lang/invoke/VarHandle" ∧ (parseMethodDescriptor yX10_aggCount.desc).map (fun d => d.parameters.length) = some 3 := by decide +kernel
set_option maxHeartbeats 4000000 in
set_option maxRecDepth 100000 in
theorem c_X10_aggCount (l : Launch) (G : va_G) (cI cZ cJ : ClassId) (aM aMdisk aMits aMmany aMplace aMlength aMtimes aMvalues aMorder aMheadOf aMheadTime aMheadValue aMnext aMisNew aMcursorTime aMcursorValue aMmade : Nat) (M_thrown : Int32) (M_series : Int32) (M_most : Int32) (M_ratio : Int32) (M_writes : Int32) (M_fuse : Int32) (M_down : Int32) (M_recovers : Int32) (M_looks : Int32) (M_unpacked : Int32) (M_chunks : Int32) (M_epoch : Int32) (M_side : Int32) (M_logged : Int32) (M_nexts : Int32) (M_hasCursor : Int32) (M_cursorMany : Int32) (M_cursorAt : Int32) (M_bits : Int32) (M_from : Int32) (M_askMany : Int32) (M_askLeast : Int32) (M_askGreatest : Int32) (M_askSum : Int64) (M_its : Nat → Int32) (M_many : Nat → Int32) (M_times : Nat → Int32) (M_values : Nat → Int32) (M_order : Nat → Int32) (M_headOf : Nat → Int32) (M_headTime : Nat → Int32) (M_headValue : Nat → Int32) (M_cursorTime : Nat → Int32) (M_cursorValue : Nat → Int32) (p0 : Int32) (p1 : Int32) (p2 : Int32) {r : Int32} {o_M_thrown : Int32} {o_M_looks : Int32} {o_M_unpacked : Int32} {o_M_askMany : Int32} {o_M_askLeast : Int32} {o_M_askGreatest : Int32} {o_M_askSum : Int64} {o_M_cursorTime : Nat → Int32} {o_M_cursorValue : Nat → Int32} (hfin : m_X10_aggCount M_thrown M_series M_ratio M_down M_looks M_unpacked M_chunks M_logged M_askMany M_askLeast M_askGreatest M_askSum M_its M_many M_times M_values M_order M_headOf M_headTime M_headValue M_cursorTime M_cursorValue p0 p1 p2 = some (r, o_M_thrown, o_M_looks, o_M_unpacked, o_M_askMany, o_M_askLeast, o_M_askGreatest, o_M_askSum, o_M_cursorTime, o_M_cursorValue)) : CT l yX10_aggCount cX10_aggCount 4 (some .int) rm_X10_aggCount G (tyC cI cZ cJ) [.ref aM, .int p0, .int p1, .int p2] [oX10 aM M_thrown M_series M_most M_ratio aMdisk M_writes M_fuse M_down M_recovers M_looks M_unpacked aMits aMmany aMplace aMlength aMtimes aMvalues aMorder M_chunks M_epoch M_side aMheadOf aMheadTime aMheadValue M_logged aMnext aMisNew M_nexts aMcursorTime aMcursorValue M_hasCursor M_cursorMany M_cursorAt aMmade M_bits M_from M_askMany M_askLeast M_askGreatest M_askSum, rI aMits cI 240 M_its, rI aMmany cI 240 M_many, rI aMtimes cI 15360 M_times, rI aMvalues cI 15360 M_values, rI aMorder cI 96 M_order, rI aMheadOf cI 128 M_headOf, rI aMheadTime cI 128 M_headTime, rI aMheadValue cI 128 M_headValue, rI aMcursorTime cI 6300 M_cursorTime, rI aMcursorValue cI 6300 M_cursorValue] (some (.int r)) [oX10 aM o_M_thrown M_series M_most M_ratio aMdisk M_writes M_fuse M_down M_recovers o_M_looks o_M_unpacked aMits aMmany aMplace aMlength aMtimes aMvalues aMorder M_chunks M_epoch M_side aMheadOf aMheadTime aMheadValue M_logged aMnext aMisNew M_nexts aMcursorTime aMcursorValue M_hasCursor M_cursorMany M_cursorAt aMmade M_bits M_from o_M_askMany o_M_askLeast o_M_askGreatest o_M_askSum, rI aMits cI 240 M_its, rI aMmany cI 240 M_many, rI aMtimes cI 15360 M_times, rI aMvalues cI 15360 M_values, rI aMorder cI 96 M_order, rI aMheadOf cI 128 M_headOf, rI aMheadTime cI 128 M_headTime, rI aMheadValue cI 128 M_headValue, rI aMcursorTime cI 6300 o_M_cursorTime, rI aMcursorValue cI 6300 o_M_cursorValue] := by
  refine CT.ofW (lvl := [(0, .ref aM), (1, .int p0), (2, .int p1), (3, .int p2)]) (by decide) (Nat.le_of_ble_eq_true rfl) rfl ?_
  intro p e s m args below meth c A ls0 QQ hQQ hx hb hml hr hlocks htc hN hown hK hA hw0 hl0
  rw [m_X10_aggCount] at hfin
  refine lv_aload_n hx hb dX10_aggCount_0 rfl (lv_at hl0 0 rfl) ?_
  refine lv_iconst (v := (0 : Int32)) hx hb dX10_aggCount_1 (by decide) ?_
  refine va_put (D := G) (ci := 10) (v := .int (0 : Int32)) (ty := .int) (C := RX10) (T := TX10) (N := 40) hx hb htc iX10 tyX10 tyX10_ok nmX10 hown hK hw0.1 hw0.2.1 hw0.2.2 0 rfl rfl 0 (by decide) (htc _ mw_947) (fun _ h9 => h9) rfl (tyX10_ok 0 (by decide)) rfl rfl (Nat.le_of_ble_eq_true rfl) dX10_aggCount_2 (fun H1 locs1 hP hD hS => ?_)
  have hw1 : wS G A s H1 locs1 [oX10 aM (0 : Int32) M_series M_most M_ratio aMdisk M_writes M_fuse M_down M_recovers M_looks M_unpacked aMits aMmany aMplace aMlength aMtimes aMvalues aMorder M_chunks M_epoch M_side aMheadOf aMheadTime aMheadValue M_logged aMnext aMisNew M_nexts aMcursorTime aMcursorValue M_hasCursor M_cursorMany M_cursorAt aMmade M_bits M_from M_askMany M_askLeast M_askGreatest M_askSum, rI aMits cI 240 M_its, rI aMmany cI 240 M_many, rI aMtimes cI 15360 M_times, rI aMvalues cI 15360 M_values, rI aMorder cI 96 M_order, rI aMheadOf cI 128 M_headOf, rI aMheadTime cI 128 M_headTime, rI aMheadValue cI 128 M_headValue, rI aMcursorTime cI 6300 M_cursorTime, rI aMcursorValue cI 6300 M_cursorValue] := ⟨hP, hD, hS⟩
  clear hP hD hS hw0
  refine lv_aload_n hx hb dX10_aggCount_5 rfl (lv_at hl0 0 rfl) ?_
  refine va_get (D := G) (ci := 10) (v := .int M_down) (C := RX10) (T := TX10) (N := 40) hx hb htc iX10 hown hK hw1.1 0 rfl rfl 7 (by decide) (htc _ mw_954) (fun _ h9 => h9) rfl dX10_aggCount_6 ?_
  refine lv_if_eq (tgt := 15) hx hb dX10_aggCount_9 (by decide) (fun c_2 => ?_) (fun c_2 => ?_)
  · replace hfin := it_t c_2 hfin
    refine lv_aload_n hx hb dX10_aggCount_15 rfl (lv_at hl0 0 rfl) ?_
    refine lv_iload_n hx hb dX10_aggCount_16 rfl (lv_at hl0 1 rfl) ?_
    replace hfin := ob1_some hfin
    obtain ⟨r_4, hE_3, hfin⟩ := hfin
    refine ctV (a := aM) (As := [.int p0]) (rest := []) (st1 := [.int r_4]) (wc := [oX10 aM (0 : Int32) M_series M_most M_ratio aMdisk M_writes M_fuse M_down M_recovers M_looks M_unpacked aMits aMmany aMplace aMlength aMtimes aMvalues aMorder M_chunks M_epoch M_side aMheadOf aMheadTime aMheadValue M_logged aMnext aMisNew M_nexts aMcursorTime aMcursorValue M_hasCursor M_cursorMany M_cursorAt aMmade M_bits M_from M_askMany M_askLeast M_askGreatest M_askSum]) (w1 := [oX10 aM (0 : Int32) M_series M_most M_ratio aMdisk M_writes M_fuse M_down M_recovers M_looks M_unpacked aMits aMmany aMplace aMlength aMtimes aMvalues aMorder M_chunks M_epoch M_side aMheadOf aMheadTime aMheadValue M_logged aMnext aMisNew M_nexts aMcursorTime aMcursorValue M_hasCursor M_cursorMany M_cursorAt aMmade M_bits M_from M_askMany M_askLeast M_askGreatest M_askSum]) (wr := [rI aMits cI 240 M_its, rI aMmany cI 240 M_many, rI aMtimes cI 15360 M_times, rI aMvalues cI 15360 M_values, rI aMorder cI 96 M_order, rI aMheadOf cI 128 M_headOf, rI aMheadTime cI 128 M_headTime, rI aMheadValue cI 128 M_headValue, rI aMcursorTime cI 6300 M_cursorTime, rI aMcursorValue cI 6300 M_cursorValue]) (wb := [oX10 aM (0 : Int32) M_series M_most M_ratio aMdisk M_writes M_fuse M_down M_recovers M_looks M_unpacked aMits aMmany aMplace aMlength aMtimes aMvalues aMorder M_chunks M_epoch M_side aMheadOf aMheadTime aMheadValue M_logged aMnext aMisNew M_nexts aMcursorTime aMcursorValue M_hasCursor M_cursorMany M_cursorAt aMmade M_bits M_from M_askMany M_askLeast M_askGreatest M_askSum, rI aMits cI 240 M_its, rI aMmany cI 240 M_many, rI aMtimes cI 15360 M_times, rI aMvalues cI 15360 M_values, rI aMorder cI 96 M_order, rI aMheadOf cI 128 M_headOf, rI aMheadTime cI 128 M_headTime, rI aMheadValue cI 128 M_headValue, rI aMcursorTime cI 6300 M_cursorTime, rI aMcursorValue cI 6300 M_cursorValue]) (v := (some (.int r_4))) hx hb hml hown htc hN (c_X10_isSeries l G cI cZ cJ aM aMdisk aMits aMmany aMplace aMlength aMtimes aMvalues aMorder aMheadOf aMheadTime aMheadValue aMnext aMisNew aMcursorTime aMcursorValue aMmade (0 : Int32) M_series M_most M_ratio M_writes M_fuse M_down M_recovers M_looks M_unpacked M_chunks M_epoch M_side M_logged M_nexts M_hasCursor M_cursorMany M_cursorAt M_bits M_from M_askMany M_askLeast M_askGreatest M_askSum p0 hE_3) mw_1080 mw_1082 mp_35 mw_12 mw_1083 hd_X10_isSeries ⟨rfl, rfl⟩ ⟨Nat.le_of_ble_eq_true rfl, Nat.le_of_ble_eq_true rfl⟩ hK hw1 hA [0] [1, 2, 3, 4, 5, 6, 7, 8, 9, 10] [10, 0, 1, 2, 3, 4, 5, 6, 7, 8, 9] rfl rfl rfl rfl rfl (by decide) rfl rfl rfl 0 rfl rfl rfl rfl hl0.1 rfl rfl (Nat.le_of_ble_eq_true rfl) dX10_aggCount_17 ⟨Nat.zero_le _, Nat.zero_le _⟩ (fun H5 locs5 hw5 => ?_)
    clear hw1 H1 locs1
    refine lv_if_ne (tgt := 26) hx hb dX10_aggCount_20 (by decide) (fun c_6 => ?_) (fun c_6 => ?_)
    · replace hfin := it_f c_6 hfin
      refine lv_aload_n hx hb dX10_aggCount_26 rfl (lv_at hl0 0 rfl) ?_
      refine lv_iload_n hx hb dX10_aggCount_27 rfl (lv_at hl0 1 rfl) ?_
      refine lv_iload_n hx hb dX10_aggCount_28 rfl (lv_at hl0 2 rfl) ?_
      refine lv_iload_n hx hb dX10_aggCount_29 rfl (lv_at hl0 3 rfl) ?_
      refine lv_iconst (v := (0 : Int32)) hx hb dX10_aggCount_30 (by decide) ?_
      replace hfin := ob8_some hfin
      obtain ⟨M_looks_8, M_unpacked_9, M_askMany_10, M_askLeast_11, M_askGreatest_12, M_askSum_13, M_cursorTime_14, M_cursorValue_15, hE_7, hfin⟩ := hfin
      refine ctV (a := aM) (As := [.int p0, .int p1, .int p2, .int (0 : Int32)]) (rest := []) (st1 := []) (wc := [oX10 aM (0 : Int32) M_series M_most M_ratio aMdisk M_writes M_fuse M_down M_recovers M_looks M_unpacked aMits aMmany aMplace aMlength aMtimes aMvalues aMorder M_chunks M_epoch M_side aMheadOf aMheadTime aMheadValue M_logged aMnext aMisNew M_nexts aMcursorTime aMcursorValue M_hasCursor M_cursorMany M_cursorAt aMmade M_bits M_from M_askMany M_askLeast M_askGreatest M_askSum, rI aMits cI 240 M_its, rI aMmany cI 240 M_many, rI aMtimes cI 15360 M_times, rI aMvalues cI 15360 M_values, rI aMorder cI 96 M_order, rI aMheadOf cI 128 M_headOf, rI aMheadTime cI 128 M_headTime, rI aMheadValue cI 128 M_headValue, rI aMcursorTime cI 6300 M_cursorTime, rI aMcursorValue cI 6300 M_cursorValue]) (w1 := [oX10 aM (0 : Int32) M_series M_most M_ratio aMdisk M_writes M_fuse M_down M_recovers M_looks_8 M_unpacked_9 aMits aMmany aMplace aMlength aMtimes aMvalues aMorder M_chunks M_epoch M_side aMheadOf aMheadTime aMheadValue M_logged aMnext aMisNew M_nexts aMcursorTime aMcursorValue M_hasCursor M_cursorMany M_cursorAt aMmade M_bits M_from M_askMany_10 M_askLeast_11 M_askGreatest_12 M_askSum_13, rI aMits cI 240 M_its, rI aMmany cI 240 M_many, rI aMtimes cI 15360 M_times, rI aMvalues cI 15360 M_values, rI aMorder cI 96 M_order, rI aMheadOf cI 128 M_headOf, rI aMheadTime cI 128 M_headTime, rI aMheadValue cI 128 M_headValue, rI aMcursorTime cI 6300 M_cursorTime_14, rI aMcursorValue cI 6300 M_cursorValue_15]) (wr := []) (wb := [oX10 aM (0 : Int32) M_series M_most M_ratio aMdisk M_writes M_fuse M_down M_recovers M_looks_8 M_unpacked_9 aMits aMmany aMplace aMlength aMtimes aMvalues aMorder M_chunks M_epoch M_side aMheadOf aMheadTime aMheadValue M_logged aMnext aMisNew M_nexts aMcursorTime aMcursorValue M_hasCursor M_cursorMany M_cursorAt aMmade M_bits M_from M_askMany_10 M_askLeast_11 M_askGreatest_12 M_askSum_13, rI aMits cI 240 M_its, rI aMmany cI 240 M_many, rI aMtimes cI 15360 M_times, rI aMvalues cI 15360 M_values, rI aMorder cI 96 M_order, rI aMheadOf cI 128 M_headOf, rI aMheadTime cI 128 M_headTime, rI aMheadValue cI 128 M_headValue, rI aMcursorTime cI 6300 M_cursorTime_14, rI aMcursorValue cI 6300 M_cursorValue_15]) (v := none) hx hb hml hown htc hN (c_X10_ask l G cI cZ cJ aM aMdisk aMits aMmany aMplace aMlength aMtimes aMvalues aMorder aMheadOf aMheadTime aMheadValue aMnext aMisNew aMcursorTime aMcursorValue aMmade (0 : Int32) M_series M_most M_ratio M_writes M_fuse M_down M_recovers M_looks M_unpacked M_chunks M_epoch M_side M_logged M_nexts M_hasCursor M_cursorMany M_cursorAt M_bits M_from M_askMany M_askLeast M_askGreatest M_askSum M_its M_many M_times M_values M_order M_headOf M_headTime M_headValue M_cursorTime M_cursorValue p0 p1 p2 (0 : Int32) hE_7) mw_1217 mw_1219 mp_62 mw_12 mw_1220 hd_X10_ask ⟨rfl, rfl⟩ ⟨Nat.le_of_ble_eq_true rfl, Nat.le_of_ble_eq_true rfl⟩ hK hw5 hA [0, 1, 2, 3, 4, 5, 6, 7, 8, 9, 10] [] [0, 1, 2, 3, 4, 5, 6, 7, 8, 9, 10] rfl rfl rfl rfl rfl (by decide) rfl rfl rfl 0 rfl rfl rfl rfl hl0.1 rfl rfl (Nat.le_of_ble_eq_true rfl) dX10_aggCount_31 ⟨Nat.zero_le _, Nat.zero_le _⟩ (fun H16 locs16 hw16 => ?_)
      clear hw5 H5 locs5
      refine lv_aload_n hx hb dX10_aggCount_34 rfl (lv_at hl0 0 rfl) ?_
      refine va_get (D := G) (ci := 10) (v := .int M_askMany_10) (C := RX10) (T := TX10) (N := 40) hx hb htc iX10 hown hK hw16.1 0 rfl rfl 36 (by decide) (htc _ mw_983) (fun _ h9 => h9) rfl dX10_aggCount_35 ?_
      cases hfin
      rw [hQQ]
      exact ct_iret hx hb hr hlocks hw16.1 hw16.2.1 hw16.2.2 dX10_aggCount_38
    · replace hfin := it_t c_6 hfin
      refine lv_bipush (v := (-2 : Int32)) hx hb dX10_aggCount_23 (by decide) ?_
      cases hfin
      rw [hQQ]
      exact ct_iret hx hb hr hlocks hw5.1 hw5.2.1 hw5.2.2 dX10_aggCount_25
  · replace hfin := it_f c_2 hfin
    refine lv_bipush (v := (-9 : Int32)) hx hb dX10_aggCount_12 (by decide) ?_
    cases hfin
    rw [hQQ]
    exact ct_iret hx hb hr hlocks hw1.1 hw1.2.1 hw1.2.2 dX10_aggCount_14
abbrev rm_X10_asks : Room := { frames := 4, cells := 0, slots := 0, locals := 105 }
theorem hd_X10_asks : yX10_asks.cls = RX10 ∧ yX10_asks.cls ≠ "java/lang/invoke/MethodHandle" ∧ yX10_asks.cls ≠ "java/lang/invoke/VarHandle" ∧ (parseMethodDescriptor yX10_asks.desc).map (fun d => d.parameters.length) = some 3 := by decide +kernel
set_option maxHeartbeats 4000000 in
set_option maxRecDepth 100000 in
theorem c_X10_asks (l : Launch) (G : va_G) (cI cZ cJ : ClassId) (aM aMdisk aMits aMmany aMplace aMlength aMtimes aMvalues aMorder aMheadOf aMheadTime aMheadValue aMnext aMisNew aMcursorTime aMcursorValue aMmade : Nat) (M_thrown : Int32) (M_series : Int32) (M_most : Int32) (M_ratio : Int32) (M_writes : Int32) (M_fuse : Int32) (M_down : Int32) (M_recovers : Int32) (M_looks : Int32) (M_unpacked : Int32) (M_chunks : Int32) (M_epoch : Int32) (M_side : Int32) (M_logged : Int32) (M_nexts : Int32) (M_hasCursor : Int32) (M_cursorMany : Int32) (M_cursorAt : Int32) (M_bits : Int32) (M_from : Int32) (M_askMany : Int32) (M_askLeast : Int32) (M_askGreatest : Int32) (M_askSum : Int64) (M_its : Nat → Int32) (M_many : Nat → Int32) (M_times : Nat → Int32) (M_values : Nat → Int32) (M_order : Nat → Int32) (M_headOf : Nat → Int32) (M_headTime : Nat → Int32) (M_headValue : Nat → Int32) (M_cursorTime : Nat → Int32) (M_cursorValue : Nat → Int32) (p0 : Int32) (p1 : Int32) (p2 : Int32) {r : Int32} {o_M_thrown : Int32} {o_M_looks : Int32} {o_M_unpacked : Int32} {o_M_askMany : Int32} {o_M_askLeast : Int32} {o_M_askGreatest : Int32} {o_M_askSum : Int64} {o_M_cursorTime : Nat → Int32} {o_M_cursorValue : Nat → Int32} (hfin : m_X10_asks M_thrown M_series M_ratio M_down M_looks M_unpacked M_chunks M_logged M_askMany M_askLeast M_askGreatest M_askSum M_its M_many M_times M_values M_order M_headOf M_headTime M_headValue M_cursorTime M_cursorValue p0 p1 p2 = some (r, o_M_thrown, o_M_looks, o_M_unpacked, o_M_askMany, o_M_askLeast, o_M_askGreatest, o_M_askSum, o_M_cursorTime, o_M_cursorValue)) : CT l yX10_asks cX10_asks 4 (some .boolean) rm_X10_asks G (tyC cI cZ cJ) [.ref aM, .int p0, .int p1, .int p2] [oX10 aM M_thrown M_series M_most M_ratio aMdisk M_writes M_fuse M_down M_recovers M_looks M_unpacked aMits aMmany aMplace aMlength aMtimes aMvalues aMorder M_chunks M_epoch M_side aMheadOf aMheadTime aMheadValue M_logged aMnext aMisNew M_nexts aMcursorTime aMcursorValue M_hasCursor M_cursorMany M_cursorAt aMmade M_bits M_from M_askMany M_askLeast M_askGreatest M_askSum, rI aMits cI 240 M_its, rI aMmany cI 240 M_many, rI aMtimes cI 15360 M_times, rI aMvalues cI 15360 M_values, rI aMorder cI 96 M_order, rI aMheadOf cI 128 M_headOf, rI aMheadTime cI 128 M_headTime, rI aMheadValue cI 128 M_headValue, rI aMcursorTime cI 6300 M_cursorTime, rI aMcursorValue cI 6300 M_cursorValue] (some (.int r)) [oX10 aM o_M_thrown M_series M_most M_ratio aMdisk M_writes M_fuse M_down M_recovers o_M_looks o_M_unpacked aMits aMmany aMplace aMlength aMtimes aMvalues aMorder M_chunks M_epoch M_side aMheadOf aMheadTime aMheadValue M_logged aMnext aMisNew M_nexts aMcursorTime aMcursorValue M_hasCursor M_cursorMany M_cursorAt aMmade M_bits M_from o_M_askMany o_M_askLeast o_M_askGreatest o_M_askSum, rI aMits cI 240 M_its, rI aMmany cI 240 M_many, rI aMtimes cI 15360 M_times, rI aMvalues cI 15360 M_values, rI aMorder cI 96 M_order, rI aMheadOf cI 128 M_headOf, rI aMheadTime cI 128 M_headTime, rI aMheadValue cI 128 M_headValue, rI aMcursorTime cI 6300 o_M_cursorTime, rI aMcursorValue cI 6300 o_M_cursorValue] := by
  refine CT.ofW (lvl := [(0, .ref aM), (1, .int p0), (2, .int p1), (3, .int p2)]) (by decide) (Nat.le_of_ble_eq_true rfl) rfl ?_
  intro p e s m args below meth c A ls0 QQ hQQ hx hb hml hr hlocks htc hN hown hK hA hw0 hl0
  rw [m_X10_asks] at hfin
  refine lv_aload_n hx hb dX10_asks_0 rfl (lv_at hl0 0 rfl) ?_
  refine lv_aload_n hx hb dX10_asks_1 rfl (lv_at hl0 0 rfl) ?_
  refine va_get (D := G) (ci := 10) (v := .int M_down) (C := RX10) (T := TX10) (N := 40) hx hb htc iX10 hown hK hw0.1 0 rfl rfl 7 (by decide) (htc _ mw_954) (fun _ h9 => h9) rfl dX10_asks_2 ?_
  replace hfin := ob1_some hfin
  obtain ⟨s_1, hJ_2, hfin⟩ := hfin
  have kj_3 : ∀ (H : Heap) (locs : List Loc) (ls : Array Slot), wS G A s H locs [oX10 aM M_thrown M_series M_most M_ratio aMdisk M_writes M_fuse M_down M_recovers M_looks M_unpacked aMits aMmany aMplace aMlength aMtimes aMvalues aMorder M_chunks M_epoch M_side aMheadOf aMheadTime aMheadValue M_logged aMnext aMisNew M_nexts aMcursorTime aMcursorValue M_hasCursor M_cursorMany M_cursorAt aMmade M_bits M_from M_askMany M_askLeast M_askGreatest M_askSum, rI aMits cI 240 M_its, rI aMmany cI 240 M_many, rI aMtimes cI 15360 M_times, rI aMvalues cI 15360 M_values, rI aMorder cI 96 M_order, rI aMheadOf cI 128 M_headOf, rI aMheadTime cI 128 M_headTime, rI aMheadValue cI 128 M_headValue, rI aMcursorTime cI 6300 M_cursorTime, rI aMcursorValue cI 6300 M_cursorValue] → lv_has ls 4 [(0, .ref aM), (1, .int p0), (2, .int p1), (3, .int p2)] → W p l e rm_X10_asks s m args below meth c H locs 0 0 QQ (F0 m 25 ls [.int s_1, .ref aM]) := by
    clear hw0 hl0 ls0 hJ_2
    intro H9 locs9 ls9 hw9 hl9
    refine va_put (D := G) (ci := 10) (v := .int s_1) (ty := .int) (C := RX10) (T := TX10) (N := 40) hx hb htc iX10 tyX10 tyX10_ok nmX10 hown hK hw9.1 hw9.2.1 hw9.2.2 0 rfl rfl 0 (by decide) (htc _ mw_947) (fun _ h9 => h9) rfl (tyX10_ok 0 (by decide)) rfl rfl (Nat.le_of_ble_eq_true rfl) dX10_asks_25 (fun H10 locs10 hP hD hS => ?_)
    have hw10 : wS G A s H10 locs10 [oX10 aM s_1 M_series M_most M_ratio aMdisk M_writes M_fuse M_down M_recovers M_looks M_unpacked aMits aMmany aMplace aMlength aMtimes aMvalues aMorder M_chunks M_epoch M_side aMheadOf aMheadTime aMheadValue M_logged aMnext aMisNew M_nexts aMcursorTime aMcursorValue M_hasCursor M_cursorMany M_cursorAt aMmade M_bits M_from M_askMany M_askLeast M_askGreatest M_askSum, rI aMits cI 240 M_its, rI aMmany cI 240 M_many, rI aMtimes cI 15360 M_times, rI aMvalues cI 15360 M_values, rI aMorder cI 96 M_order, rI aMheadOf cI 128 M_headOf, rI aMheadTime cI 128 M_headTime, rI aMheadValue cI 128 M_headValue, rI aMcursorTime cI 6300 M_cursorTime, rI aMcursorValue cI 6300 M_cursorValue] := ⟨hP, hD, hS⟩
    clear hP hD hS hw9 H9 locs9
    refine lv_aload_n hx hb dX10_asks_28 rfl (lv_at hl9 0 rfl) ?_
    refine va_get (D := G) (ci := 10) (v := .int s_1) (C := RX10) (T := TX10) (N := 40) hx hb htc iX10 hown hK hw10.1 0 rfl rfl 0 (by decide) (htc _ mw_947) (fun _ h9 => h9) rfl dX10_asks_29 ?_
    replace hfin := ob8_some hfin
    obtain ⟨M_looks_11, M_unpacked_12, M_askMany_13, M_askLeast_14, M_askGreatest_15, M_askSum_16, M_cursorTime_17, M_cursorValue_18, hJ_19, hfin⟩ := hfin
    have kj_20 : ∀ (H : Heap) (locs : List Loc) (ls : Array Slot), wS G A s H locs [oX10 aM s_1 M_series M_most M_ratio aMdisk M_writes M_fuse M_down M_recovers M_looks_11 M_unpacked_12 aMits aMmany aMplace aMlength aMtimes aMvalues aMorder M_chunks M_epoch M_side aMheadOf aMheadTime aMheadValue M_logged aMnext aMisNew M_nexts aMcursorTime aMcursorValue M_hasCursor M_cursorMany M_cursorAt aMmade M_bits M_from M_askMany_13 M_askLeast_14 M_askGreatest_15 M_askSum_16, rI aMits cI 240 M_its, rI aMmany cI 240 M_many, rI aMtimes cI 15360 M_times, rI aMvalues cI 15360 M_values, rI aMorder cI 96 M_order, rI aMheadOf cI 128 M_headOf, rI aMheadTime cI 128 M_headTime, rI aMheadValue cI 128 M_headValue, rI aMcursorTime cI 6300 M_cursorTime_17, rI aMcursorValue cI 6300 M_cursorValue_18] → lv_has ls 4 [(0, .ref aM)] → W p l e rm_X10_asks s m args below meth c H locs 0 0 QQ (F0 m 43 ls []) := by
      clear hw10 H10 locs10 hl9 ls9 hJ_19
      intro H32 locs32 ls32 hw32 hl32
      refine lv_aload_n hx hb dX10_asks_43 rfl (lv_at hl32 0 rfl) ?_
      refine va_get (D := G) (ci := 10) (v := .int s_1) (C := RX10) (T := TX10) (N := 40) hx hb htc iX10 hown hK hw32.1 0 rfl rfl 0 (by decide) (htc _ mw_947) (fun _ h9 => h9) rfl dX10_asks_44 ?_
      replace hfin := ob1_some hfin
      obtain ⟨s_33, hJ_34, hfin⟩ := hfin
      have kj_35 : ∀ (H : Heap) (locs : List Loc) (ls : Array Slot), wS G A s H locs [oX10 aM s_1 M_series M_most M_ratio aMdisk M_writes M_fuse M_down M_recovers M_looks_11 M_unpacked_12 aMits aMmany aMplace aMlength aMtimes aMvalues aMorder M_chunks M_epoch M_side aMheadOf aMheadTime aMheadValue M_logged aMnext aMisNew M_nexts aMcursorTime aMcursorValue M_hasCursor M_cursorMany M_cursorAt aMmade M_bits M_from M_askMany_13 M_askLeast_14 M_askGreatest_15 M_askSum_16, rI aMits cI 240 M_its, rI aMmany cI 240 M_many, rI aMtimes cI 15360 M_times, rI aMvalues cI 15360 M_values, rI aMorder cI 96 M_order, rI aMheadOf cI 128 M_headOf, rI aMheadTime cI 128 M_headTime, rI aMheadValue cI 128 M_headValue, rI aMcursorTime cI 6300 M_cursorTime_17, rI aMcursorValue cI 6300 M_cursorValue_18] → lv_has ls 4 [] → W p l e rm_X10_asks s m args below meth c H locs 0 0 QQ (F0 m 55 ls [.int s_33]) := by
        clear hw32 H32 locs32 hl32 ls32 hJ_34
        intro H37 locs37 ls37 hw37 hl37
        replace hfin := ckz_some hfin
        obtain ⟨hz_38, hfin⟩ := hfin
        cases hfin
        rw [hQQ]
        exact ct_zret hx hb hr hlocks hz_38 hw37.1 hw37.2.1 hw37.2.2 dX10_asks_55
      clear hfin
      refine lv_if_ne (tgt := 54) hx hb dX10_asks_47 (by decide) (fun c_36 => ?_) (fun c_36 => ?_)
      · replace hJ_34 := it_f c_36 hJ_34
        refine lv_iconst (v := (0 : Int32)) hx hb dX10_asks_54 (by decide) ?_
        cases hJ_34
        exact kj_35 _ _ _ hw32 (lv_sub hl32 [] rfl)
      · replace hJ_34 := it_t c_36 hJ_34
        refine lv_iconst (v := (1 : Int32)) hx hb dX10_asks_50 (by decide) ?_
        refine lv_goto (tgt := 55) hx hb dX10_asks_51 (by decide) ?_
        cases hJ_34
        exact kj_35 _ _ _ hw32 (lv_sub hl32 [] rfl)
    clear hfin
    refine lv_if_ne (tgt := 43) hx hb dX10_asks_32 (by decide) (fun c_21 => ?_) (fun c_21 => ?_)
    · replace hJ_19 := it_f c_21 hJ_19
      cases hJ_19
      exact kj_20 _ _ _ hw10 (lv_sub hl9 [0] rfl)
    · replace hJ_19 := it_t c_21 hJ_19
      refine lv_aload_n hx hb dX10_asks_35 rfl (lv_at hl9 0 rfl) ?_
      refine lv_iload_n hx hb dX10_asks_36 rfl (lv_at hl9 1 rfl) ?_
      refine lv_iload_n hx hb dX10_asks_37 rfl (lv_at hl9 2 rfl) ?_
      refine lv_iload_n hx hb dX10_asks_38 rfl (lv_at hl9 3 rfl) ?_
      refine lv_iconst (v := (0 : Int32)) hx hb dX10_asks_39 (by decide) ?_
      replace hJ_19 := ob8_some hJ_19
      obtain ⟨M_looks_23, M_unpacked_24, M_askMany_25, M_askLeast_26, M_askGreatest_27, M_askSum_28, M_cursorTime_29, M_cursorValue_30, hE_22, hJ_19⟩ := hJ_19
      refine ctV (a := aM) (As := [.int p0, .int p1, .int p2, .int (0 : Int32)]) (rest := []) (st1 := []) (wc := [oX10 aM s_1 M_series M_most M_ratio aMdisk M_writes M_fuse M_down M_recovers M_looks M_unpacked aMits aMmany aMplace aMlength aMtimes aMvalues aMorder M_chunks M_epoch M_side aMheadOf aMheadTime aMheadValue M_logged aMnext aMisNew M_nexts aMcursorTime aMcursorValue M_hasCursor M_cursorMany M_cursorAt aMmade M_bits M_from M_askMany M_askLeast M_askGreatest M_askSum, rI aMits cI 240 M_its, rI aMmany cI 240 M_many, rI aMtimes cI 15360 M_times, rI aMvalues cI 15360 M_values, rI aMorder cI 96 M_order, rI aMheadOf cI 128 M_headOf, rI aMheadTime cI 128 M_headTime, rI aMheadValue cI 128 M_headValue, rI aMcursorTime cI 6300 M_cursorTime, rI aMcursorValue cI 6300 M_cursorValue]) (w1 := [oX10 aM s_1 M_series M_most M_ratio aMdisk M_writes M_fuse M_down M_recovers M_looks_23 M_unpacked_24 aMits aMmany aMplace aMlength aMtimes aMvalues aMorder M_chunks M_epoch M_side aMheadOf aMheadTime aMheadValue M_logged aMnext aMisNew M_nexts aMcursorTime aMcursorValue M_hasCursor M_cursorMany M_cursorAt aMmade M_bits M_from M_askMany_25 M_askLeast_26 M_askGreatest_27 M_askSum_28, rI aMits cI 240 M_its, rI aMmany cI 240 M_many, rI aMtimes cI 15360 M_times, rI aMvalues cI 15360 M_values, rI aMorder cI 96 M_order, rI aMheadOf cI 128 M_headOf, rI aMheadTime cI 128 M_headTime, rI aMheadValue cI 128 M_headValue, rI aMcursorTime cI 6300 M_cursorTime_29, rI aMcursorValue cI 6300 M_cursorValue_30]) (wr := []) (wb := [oX10 aM s_1 M_series M_most M_ratio aMdisk M_writes M_fuse M_down M_recovers M_looks_23 M_unpacked_24 aMits aMmany aMplace aMlength aMtimes aMvalues aMorder M_chunks M_epoch M_side aMheadOf aMheadTime aMheadValue M_logged aMnext aMisNew M_nexts aMcursorTime aMcursorValue M_hasCursor M_cursorMany M_cursorAt aMmade M_bits M_from M_askMany_25 M_askLeast_26 M_askGreatest_27 M_askSum_28, rI aMits cI 240 M_its, rI aMmany cI 240 M_many, rI aMtimes cI 15360 M_times, rI aMvalues cI 15360 M_values, rI aMorder cI 96 M_order, rI aMheadOf cI 128 M_headOf, rI aMheadTime cI 128 M_headTime, rI aMheadValue cI 128 M_headValue, rI aMcursorTime cI 6300 M_cursorTime_29, rI aMcursorValue cI 6300 M_cursorValue_30]) (v := none) hx hb hml hown htc hN (c_X10_ask l G cI cZ cJ aM aMdisk aMits aMmany aMplace aMlength aMtimes aMvalues aMorder aMheadOf aMheadTime aMheadValue aMnext aMisNew aMcursorTime aMcursorValue aMmade s_1 M_series M_most M_ratio M_writes M_fuse M_down M_recovers M_looks M_unpacked M_chunks M_epoch M_side M_logged M_nexts M_hasCursor M_cursorMany M_cursorAt M_bits M_from M_askMany M_askLeast M_askGreatest M_askSum M_its M_many M_times M_values M_order M_headOf M_headTime M_headValue M_cursorTime M_cursorValue p0 p1 p2 (0 : Int32) hE_22) mw_1217 mw_1219 mp_62 mw_12 mw_1220 hd_X10_ask ⟨rfl, rfl⟩ ⟨Nat.le_of_ble_eq_true rfl, Nat.le_of_ble_eq_true rfl⟩ hK hw10 hA [0, 1, 2, 3, 4, 5, 6, 7, 8, 9, 10] [] [0, 1, 2, 3, 4, 5, 6, 7, 8, 9, 10] rfl rfl rfl rfl rfl (by decide) rfl rfl rfl 0 rfl rfl rfl rfl hl9.1 rfl rfl (Nat.le_of_ble_eq_true rfl) dX10_asks_40 ⟨Nat.zero_le _, Nat.zero_le _⟩ (fun H31 locs31 hw31 => ?_)
      clear hw10 H10 locs10
      cases hJ_19
      exact kj_20 _ _ _ hw31 (lv_sub hl9 [0] rfl)
  clear hfin
  refine lv_if_eq (tgt := 12) hx hb dX10_asks_5 (by decide) (fun c_4 => ?_) (fun c_4 => ?_)
  · replace hJ_2 := it_t c_4 hJ_2
    refine lv_aload_n hx hb dX10_asks_12 rfl (lv_at hl0 0 rfl) ?_
    refine lv_iload_n hx hb dX10_asks_13 rfl (lv_at hl0 1 rfl) ?_
    replace hJ_2 := ob1_some hJ_2
    obtain ⟨r_6, hE_5, hJ_2⟩ := hJ_2
    refine ctV (a := aM) (As := [.int p0]) (rest := [.ref aM]) (st1 := [.int r_6, .ref aM]) (wc := [oX10 aM M_thrown M_series M_most M_ratio aMdisk M_writes M_fuse M_down M_recovers M_looks M_unpacked aMits aMmany aMplace aMlength aMtimes aMvalues aMorder M_chunks M_epoch M_side aMheadOf aMheadTime aMheadValue M_logged aMnext aMisNew M_nexts aMcursorTime aMcursorValue M_hasCursor M_cursorMany M_cursorAt aMmade M_bits M_from M_askMany M_askLeast M_askGreatest M_askSum]) (w1 := [oX10 aM M_thrown M_series M_most M_ratio aMdisk M_writes M_fuse M_down M_recovers M_looks M_unpacked aMits aMmany aMplace aMlength aMtimes aMvalues aMorder M_chunks M_epoch M_side aMheadOf aMheadTime aMheadValue M_logged aMnext aMisNew M_nexts aMcursorTime aMcursorValue M_hasCursor M_cursorMany M_cursorAt aMmade M_bits M_from M_askMany M_askLeast M_askGreatest M_askSum]) (wr := [rI aMits cI 240 M_its, rI aMmany cI 240 M_many, rI aMtimes cI 15360 M_times, rI aMvalues cI 15360 M_values, rI aMorder cI 96 M_order, rI aMheadOf cI 128 M_headOf, rI aMheadTime cI 128 M_headTime, rI aMheadValue cI 128 M_headValue, rI aMcursorTime cI 6300 M_cursorTime, rI aMcursorValue cI 6300 M_cursorValue]) (wb := [oX10 aM M_thrown M_series M_most M_ratio aMdisk M_writes M_fuse M_down M_recovers M_looks M_unpacked aMits aMmany aMplace aMlength aMtimes aMvalues aMorder M_chunks M_epoch M_side aMheadOf aMheadTime aMheadValue M_logged aMnext aMisNew M_nexts aMcursorTime aMcursorValue M_hasCursor M_cursorMany M_cursorAt aMmade M_bits M_from M_askMany M_askLeast M_askGreatest M_askSum, rI aMits cI 240 M_its, rI aMmany cI 240 M_many, rI aMtimes cI 15360 M_times, rI aMvalues cI 15360 M_values, rI aMorder cI 96 M_order, rI aMheadOf cI 128 M_headOf, rI aMheadTime cI 128 M_headTime, rI aMheadValue cI 128 M_headValue, rI aMcursorTime cI 6300 M_cursorTime, rI aMcursorValue cI 6300 M_cursorValue]) (v := (some (.int r_6))) hx hb hml hown htc hN (c_X10_isSeries l G cI cZ cJ aM aMdisk aMits aMmany aMplace aMlength aMtimes aMvalues aMorder aMheadOf aMheadTime aMheadValue aMnext aMisNew aMcursorTime aMcursorValue aMmade M_thrown M_series M_most M_ratio M_writes M_fuse M_down M_recovers M_looks M_unpacked M_chunks M_epoch M_side M_logged M_nexts M_hasCursor M_cursorMany M_cursorAt M_bits M_from M_askMany M_askLeast M_askGreatest M_askSum p0 hE_5) mw_1080 mw_1082 mp_35 mw_12 mw_1083 hd_X10_isSeries ⟨rfl, rfl⟩ ⟨Nat.le_of_ble_eq_true rfl, Nat.le_of_ble_eq_true rfl⟩ hK hw0 hA [0] [1, 2, 3, 4, 5, 6, 7, 8, 9, 10] [10, 0, 1, 2, 3, 4, 5, 6, 7, 8, 9] rfl rfl rfl rfl rfl (by decide) rfl rfl rfl 0 rfl rfl rfl rfl hl0.1 rfl rfl (Nat.le_of_ble_eq_true rfl) dX10_asks_14 ⟨Nat.zero_le _, Nat.zero_le _⟩ (fun H7 locs7 hw7 => ?_)
    clear hw0
    refine lv_if_ne (tgt := 24) hx hb dX10_asks_17 (by decide) (fun c_8 => ?_) (fun c_8 => ?_)
    · replace hJ_2 := it_f c_8 hJ_2
      refine lv_iconst (v := (0 : Int32)) hx hb dX10_asks_24 (by decide) ?_
      cases hJ_2
      exact kj_3 _ _ _ hw7 (lv_sub hl0 [0, 1, 2, 3] rfl)
    · replace hJ_2 := it_t c_8 hJ_2
      refine lv_iconst (v := (2 : Int32)) hx hb dX10_asks_20 (by decide) ?_
      refine lv_goto (tgt := 25) hx hb dX10_asks_21 (by decide) ?_
      cases hJ_2
      exact kj_3 _ _ _ hw7 (lv_sub hl0 [0, 1, 2, 3] rfl)
  · replace hJ_2 := it_f c_4 hJ_2
    refine lv_iconst (v := (1 : Int32)) hx hb dX10_asks_8 (by decide) ?_
    refine lv_goto (tgt := 25) hx hb dX10_asks_9 (by decide) ?_
    cases hJ_2
    exact kj_3 _ _ _ hw0 (lv_sub hl0 [0, 1, 2, 3] rfl)
abbrev rm_X10_aggMin : Room := { frames := 5, cells := 0, slots := 0, locals := 128 }
theorem hd_X10_aggMin : yX10_aggMin.cls = RX10 ∧ yX10_aggMin.cls ≠ "java/lang/invoke/MethodHandle" ∧ yX10_aggMin.cls ≠ "java/lang/invoke/VarHandle" ∧ (parseMethodDescriptor yX10_aggMin.desc).map (fun d => d.parameters.length) = some 3 := by decide +kernel
set_option maxHeartbeats 4000000 in
set_option maxRecDepth 100000 in
theorem c_X10_aggMin (l : Launch) (G : va_G) (cI cZ cJ : ClassId) (aM aMdisk aMits aMmany aMplace aMlength aMtimes aMvalues aMorder aMheadOf aMheadTime aMheadValue aMnext aMisNew aMcursorTime aMcursorValue aMmade : Nat) (M_thrown : Int32) (M_series : Int32) (M_most : Int32) (M_ratio : Int32) (M_writes : Int32) (M_fuse : Int32) (M_down : Int32) (M_recovers : Int32) (M_looks : Int32) (M_unpacked : Int32) (M_chunks : Int32) (M_epoch : Int32) (M_side : Int32) (M_logged : Int32) (M_nexts : Int32) (M_hasCursor : Int32) (M_cursorMany : Int32) (M_cursorAt : Int32) (M_bits : Int32) (M_from : Int32) (M_askMany : Int32) (M_askLeast : Int32) (M_askGreatest : Int32) (M_askSum : Int64) (M_its : Nat → Int32) (M_many : Nat → Int32) (M_times : Nat → Int32) (M_values : Nat → Int32) (M_order : Nat → Int32) (M_headOf : Nat → Int32) (M_headTime : Nat → Int32) (M_headValue : Nat → Int32) (M_cursorTime : Nat → Int32) (M_cursorValue : Nat → Int32) (p0 : Int32) (p1 : Int32) (p2 : Int32) {r : Int32} {o_M_thrown : Int32} {o_M_looks : Int32} {o_M_unpacked : Int32} {o_M_askMany : Int32} {o_M_askLeast : Int32} {o_M_askGreatest : Int32} {o_M_askSum : Int64} {o_M_cursorTime : Nat → Int32} {o_M_cursorValue : Nat → Int32} (hfin : m_X10_aggMin M_thrown M_series M_ratio M_down M_looks M_unpacked M_chunks M_logged M_askMany M_askLeast M_askGreatest M_askSum M_its M_many M_times M_values M_order M_headOf M_headTime M_headValue M_cursorTime M_cursorValue p0 p1 p2 = some (r, o_M_thrown, o_M_looks, o_M_unpacked, o_M_askMany, o_M_askLeast, o_M_askGreatest, o_M_askSum, o_M_cursorTime, o_M_cursorValue)) : CT l yX10_aggMin cX10_aggMin 4 (some .int) rm_X10_aggMin G (tyC cI cZ cJ) [.ref aM, .int p0, .int p1, .int p2] [oX10 aM M_thrown M_series M_most M_ratio aMdisk M_writes M_fuse M_down M_recovers M_looks M_unpacked aMits aMmany aMplace aMlength aMtimes aMvalues aMorder M_chunks M_epoch M_side aMheadOf aMheadTime aMheadValue M_logged aMnext aMisNew M_nexts aMcursorTime aMcursorValue M_hasCursor M_cursorMany M_cursorAt aMmade M_bits M_from M_askMany M_askLeast M_askGreatest M_askSum, rI aMits cI 240 M_its, rI aMmany cI 240 M_many, rI aMtimes cI 15360 M_times, rI aMvalues cI 15360 M_values, rI aMorder cI 96 M_order, rI aMheadOf cI 128 M_headOf, rI aMheadTime cI 128 M_headTime, rI aMheadValue cI 128 M_headValue, rI aMcursorTime cI 6300 M_cursorTime, rI aMcursorValue cI 6300 M_cursorValue] (some (.int r)) [oX10 aM o_M_thrown M_series M_most M_ratio aMdisk M_writes M_fuse M_down M_recovers o_M_looks o_M_unpacked aMits aMmany aMplace aMlength aMtimes aMvalues aMorder M_chunks M_epoch M_side aMheadOf aMheadTime aMheadValue M_logged aMnext aMisNew M_nexts aMcursorTime aMcursorValue M_hasCursor M_cursorMany M_cursorAt aMmade M_bits M_from o_M_askMany o_M_askLeast o_M_askGreatest o_M_askSum, rI aMits cI 240 M_its, rI aMmany cI 240 M_many, rI aMtimes cI 15360 M_times, rI aMvalues cI 15360 M_values, rI aMorder cI 96 M_order, rI aMheadOf cI 128 M_headOf, rI aMheadTime cI 128 M_headTime, rI aMheadValue cI 128 M_headValue, rI aMcursorTime cI 6300 o_M_cursorTime, rI aMcursorValue cI 6300 o_M_cursorValue] := by
  refine CT.ofW (lvl := [(0, .ref aM), (1, .int p0), (2, .int p1), (3, .int p2)]) (by decide) (Nat.le_of_ble_eq_true rfl) rfl ?_
  intro p e s m args below meth c A ls0 QQ hQQ hx hb hml hr hlocks htc hN hown hK hA hw0 hl0
  rw [m_X10_aggMin] at hfin
  refine lv_aload_n hx hb dX10_aggMin_0 rfl (lv_at hl0 0 rfl) ?_
  refine lv_iload_n hx hb dX10_aggMin_1 rfl (lv_at hl0 1 rfl) ?_
  refine lv_iload_n hx hb dX10_aggMin_2 rfl (lv_at hl0 2 rfl) ?_
  refine lv_iload_n hx hb dX10_aggMin_3 rfl (lv_at hl0 3 rfl) ?_
  replace hfin := ob10_some hfin
  obtain ⟨r_2, M_thrown_3, M_looks_4, M_unpacked_5, M_askMany_6, M_askLeast_7, M_askGreatest_8, M_askSum_9, M_cursorTime_10, M_cursorValue_11, hE_1, hfin⟩ := hfin
  refine ctV (a := aM) (As := [.int p0, .int p1, .int p2]) (rest := []) (st1 := [.int r_2]) (wc := [oX10 aM M_thrown M_series M_most M_ratio aMdisk M_writes M_fuse M_down M_recovers M_looks M_unpacked aMits aMmany aMplace aMlength aMtimes aMvalues aMorder M_chunks M_epoch M_side aMheadOf aMheadTime aMheadValue M_logged aMnext aMisNew M_nexts aMcursorTime aMcursorValue M_hasCursor M_cursorMany M_cursorAt aMmade M_bits M_from M_askMany M_askLeast M_askGreatest M_askSum, rI aMits cI 240 M_its, rI aMmany cI 240 M_many, rI aMtimes cI 15360 M_times, rI aMvalues cI 15360 M_values, rI aMorder cI 96 M_order, rI aMheadOf cI 128 M_headOf, rI aMheadTime cI 128 M_headTime, rI aMheadValue cI 128 M_headValue, rI aMcursorTime cI 6300 M_cursorTime, rI aMcursorValue cI 6300 M_cursorValue]) (w1 := [oX10 aM M_thrown_3 M_series M_most M_ratio aMdisk M_writes M_fuse M_down M_recovers M_looks_4 M_unpacked_5 aMits aMmany aMplace aMlength aMtimes aMvalues aMorder M_chunks M_epoch M_side aMheadOf aMheadTime aMheadValue M_logged aMnext aMisNew M_nexts aMcursorTime aMcursorValue M_hasCursor M_cursorMany M_cursorAt aMmade M_bits M_from M_askMany_6 M_askLeast_7 M_askGreatest_8 M_askSum_9, rI aMits cI 240 M_its, rI aMmany cI 240 M_many, rI aMtimes cI 15360 M_times, rI aMvalues cI 15360 M_values, rI aMorder cI 96 M_order, rI aMheadOf cI 128 M_headOf, rI aMheadTime cI 128 M_headTime, rI aMheadValue cI 128 M_headValue, rI aMcursorTime cI 6300 M_cursorTime_10, rI aMcursorValue cI 6300 M_cursorValue_11]) (wr := []) (wb := [oX10 aM M_thrown_3 M_series M_most M_ratio aMdisk M_writes M_fuse M_down M_recovers M_looks_4 M_unpacked_5 aMits aMmany aMplace aMlength aMtimes aMvalues aMorder M_chunks M_epoch M_side aMheadOf aMheadTime aMheadValue M_logged aMnext aMisNew M_nexts aMcursorTime aMcursorValue M_hasCursor M_cursorMany M_cursorAt aMmade M_bits M_from M_askMany_6 M_askLeast_7 M_askGreatest_8 M_askSum_9, rI aMits cI 240 M_its, rI aMmany cI 240 M_many, rI aMtimes cI 15360 M_times, rI aMvalues cI 15360 M_values, rI aMorder cI 96 M_order, rI aMheadOf cI 128 M_headOf, rI aMheadTime cI 128 M_headTime, rI aMheadValue cI 128 M_headValue, rI aMcursorTime cI 6300 M_cursorTime_10, rI aMcursorValue cI 6300 M_cursorValue_11]) (v := (some (.int r_2))) hx hb hml hown htc hN (c_X10_asks l G cI cZ cJ aM aMdisk aMits aMmany aMplace aMlength aMtimes aMvalues aMorder aMheadOf aMheadTime aMheadValue aMnext aMisNew aMcursorTime aMcursorValue aMmade M_thrown M_series M_most M_ratio M_writes M_fuse M_down M_recovers M_looks M_unpacked M_chunks M_epoch M_side M_logged M_nexts M_hasCursor M_cursorMany M_cursorAt M_bits M_from M_askMany M_askLeast M_askGreatest M_askSum M_its M_many M_times M_values M_order M_headOf M_headTime M_headValue M_cursorTime M_cursorValue p0 p1 p2 hE_1) mw_1272 mw_1274 mp_70 mw_12 mw_1275 hd_X10_asks ⟨rfl, rfl⟩ ⟨Nat.le_of_ble_eq_true rfl, Nat.le_of_ble_eq_true rfl⟩ hK hw0 hA [0, 1, 2, 3, 4, 5, 6, 7, 8, 9, 10] [] [0, 1, 2, 3, 4, 5, 6, 7, 8, 9, 10] rfl rfl rfl rfl rfl (by decide) rfl rfl rfl 0 rfl rfl rfl rfl hl0.1 rfl rfl (Nat.le_of_ble_eq_true rfl) dX10_aggMin_4 ⟨Nat.zero_le _, Nat.zero_le _⟩ (fun H12 locs12 hw12 => ?_)
  clear hw0
  replace hfin := ob1_some hfin
  obtain ⟨s_13, hJ_14, hfin⟩ := hfin
  have kj_15 : ∀ (H : Heap) (locs : List Loc) (ls : Array Slot), wS G A s H locs [oX10 aM M_thrown_3 M_series M_most M_ratio aMdisk M_writes M_fuse M_down M_recovers M_looks_4 M_unpacked_5 aMits aMmany aMplace aMlength aMtimes aMvalues aMorder M_chunks M_epoch M_side aMheadOf aMheadTime aMheadValue M_logged aMnext aMisNew M_nexts aMcursorTime aMcursorValue M_hasCursor M_cursorMany M_cursorAt aMmade M_bits M_from M_askMany_6 M_askLeast_7 M_askGreatest_8 M_askSum_9, rI aMits cI 240 M_its, rI aMmany cI 240 M_many, rI aMtimes cI 15360 M_times, rI aMvalues cI 15360 M_values, rI aMorder cI 96 M_order, rI aMheadOf cI 128 M_headOf, rI aMheadTime cI 128 M_headTime, rI aMheadValue cI 128 M_headValue, rI aMcursorTime cI 6300 M_cursorTime_10, rI aMcursorValue cI 6300 M_cursorValue_11] → lv_has ls 4 [] → W p l e rm_X10_aggMin s m args below meth c H locs 0 0 QQ (F0 m 18 ls [.int s_13]) := by
    clear hw12 H12 locs12 hl0 ls0 hJ_14
    intro H17 locs17 ls17 hw17 hl17
    cases hfin
    rw [hQQ]
    exact ct_iret hx hb hr hlocks hw17.1 hw17.2.1 hw17.2.2 dX10_aggMin_18
  clear hfin
  refine lv_if_eq (tgt := 17) hx hb dX10_aggMin_7 (by decide) (fun c_16 => ?_) (fun c_16 => ?_)
  · replace hJ_14 := it_t c_16 hJ_14
    refine lv_iconst (v := (0 : Int32)) hx hb dX10_aggMin_17 (by decide) ?_
    cases hJ_14
    exact kj_15 _ _ _ hw12 (lv_sub hl0 [] rfl)
  · replace hJ_14 := it_f c_16 hJ_14
    refine lv_aload_n hx hb dX10_aggMin_10 rfl (lv_at hl0 0 rfl) ?_
    refine va_get (D := G) (ci := 10) (v := .int M_askLeast_7) (C := RX10) (T := TX10) (N := 40) hx hb htc iX10 hown hK hw12.1 0 rfl rfl 37 (by decide) (htc _ mw_984) (fun _ h9 => h9) rfl dX10_aggMin_11 ?_
    refine lv_goto (tgt := 18) hx hb dX10_aggMin_14 (by decide) ?_
    cases hJ_14
    exact kj_15 _ _ _ hw12 (lv_sub hl0 [] rfl)
abbrev rm_X10_aggMax : Room := { frames := 5, cells := 0, slots := 0, locals := 128 }
theorem hd_X10_aggMax : yX10_aggMax.cls = RX10 ∧ yX10_aggMax.cls ≠ "java/lang/invoke/MethodHandle" ∧ yX10_aggMax.cls ≠ "java/lang/invoke/VarHandle" ∧ (parseMethodDescriptor yX10_aggMax.desc).map (fun d => d.parameters.length) = some 3 := by decide +kernel
set_option maxHeartbeats 4000000 in
set_option maxRecDepth 100000 in
theorem c_X10_aggMax (l : Launch) (G : va_G) (cI cZ cJ : ClassId) (aM aMdisk aMits aMmany aMplace aMlength aMtimes aMvalues aMorder aMheadOf aMheadTime aMheadValue aMnext aMisNew aMcursorTime aMcursorValue aMmade : Nat) (M_thrown : Int32) (M_series : Int32) (M_most : Int32) (M_ratio : Int32) (M_writes : Int32) (M_fuse : Int32) (M_down : Int32) (M_recovers : Int32) (M_looks : Int32) (M_unpacked : Int32) (M_chunks : Int32) (M_epoch : Int32) (M_side : Int32) (M_logged : Int32) (M_nexts : Int32) (M_hasCursor : Int32) (M_cursorMany : Int32) (M_cursorAt : Int32) (M_bits : Int32) (M_from : Int32) (M_askMany : Int32) (M_askLeast : Int32) (M_askGreatest : Int32) (M_askSum : Int64) (M_its : Nat → Int32) (M_many : Nat → Int32) (M_times : Nat → Int32) (M_values : Nat → Int32) (M_order : Nat → Int32) (M_headOf : Nat → Int32) (M_headTime : Nat → Int32) (M_headValue : Nat → Int32) (M_cursorTime : Nat → Int32) (M_cursorValue : Nat → Int32) (p0 : Int32) (p1 : Int32) (p2 : Int32) {r : Int32} {o_M_thrown : Int32} {o_M_looks : Int32} {o_M_unpacked : Int32} {o_M_askMany : Int32} {o_M_askLeast : Int32} {o_M_askGreatest : Int32} {o_M_askSum : Int64} {o_M_cursorTime : Nat → Int32} {o_M_cursorValue : Nat → Int32} (hfin : m_X10_aggMax M_thrown M_series M_ratio M_down M_looks M_unpacked M_chunks M_logged M_askMany M_askLeast M_askGreatest M_askSum M_its M_many M_times M_values M_order M_headOf M_headTime M_headValue M_cursorTime M_cursorValue p0 p1 p2 = some (r, o_M_thrown, o_M_looks, o_M_unpacked, o_M_askMany, o_M_askLeast, o_M_askGreatest, o_M_askSum, o_M_cursorTime, o_M_cursorValue)) : CT l yX10_aggMax cX10_aggMax 4 (some .int) rm_X10_aggMax G (tyC cI cZ cJ) [.ref aM, .int p0, .int p1, .int p2] [oX10 aM M_thrown M_series M_most M_ratio aMdisk M_writes M_fuse M_down M_recovers M_looks M_unpacked aMits aMmany aMplace aMlength aMtimes aMvalues aMorder M_chunks M_epoch M_side aMheadOf aMheadTime aMheadValue M_logged aMnext aMisNew M_nexts aMcursorTime aMcursorValue M_hasCursor M_cursorMany M_cursorAt aMmade M_bits M_from M_askMany M_askLeast M_askGreatest M_askSum, rI aMits cI 240 M_its, rI aMmany cI 240 M_many, rI aMtimes cI 15360 M_times, rI aMvalues cI 15360 M_values, rI aMorder cI 96 M_order, rI aMheadOf cI 128 M_headOf, rI aMheadTime cI 128 M_headTime, rI aMheadValue cI 128 M_headValue, rI aMcursorTime cI 6300 M_cursorTime, rI aMcursorValue cI 6300 M_cursorValue] (some (.int r)) [oX10 aM o_M_thrown M_series M_most M_ratio aMdisk M_writes M_fuse M_down M_recovers o_M_looks o_M_unpacked aMits aMmany aMplace aMlength aMtimes aMvalues aMorder M_chunks M_epoch M_side aMheadOf aMheadTime aMheadValue M_logged aMnext aMisNew M_nexts aMcursorTime aMcursorValue M_hasCursor M_cursorMany M_cursorAt aMmade M_bits M_from o_M_askMany o_M_askLeast o_M_askGreatest o_M_askSum, rI aMits cI 240 M_its, rI aMmany cI 240 M_many, rI aMtimes cI 15360 M_times, rI aMvalues cI 15360 M_values, rI aMorder cI 96 M_order, rI aMheadOf cI 128 M_headOf, rI aMheadTime cI 128 M_headTime, rI aMheadValue cI 128 M_headValue, rI aMcursorTime cI 6300 o_M_cursorTime, rI aMcursorValue cI 6300 o_M_cursorValue] := by
  refine CT.ofW (lvl := [(0, .ref aM), (1, .int p0), (2, .int p1), (3, .int p2)]) (by decide) (Nat.le_of_ble_eq_true rfl) rfl ?_
  intro p e s m args below meth c A ls0 QQ hQQ hx hb hml hr hlocks htc hN hown hK hA hw0 hl0
  rw [m_X10_aggMax] at hfin
  refine lv_aload_n hx hb dX10_aggMax_0 rfl (lv_at hl0 0 rfl) ?_
  refine lv_iload_n hx hb dX10_aggMax_1 rfl (lv_at hl0 1 rfl) ?_
  refine lv_iload_n hx hb dX10_aggMax_2 rfl (lv_at hl0 2 rfl) ?_
  refine lv_iload_n hx hb dX10_aggMax_3 rfl (lv_at hl0 3 rfl) ?_
  replace hfin := ob10_some hfin
  obtain ⟨r_2, M_thrown_3, M_looks_4, M_unpacked_5, M_askMany_6, M_askLeast_7, M_askGreatest_8, M_askSum_9, M_cursorTime_10, M_cursorValue_11, hE_1, hfin⟩ := hfin
  refine ctV (a := aM) (As := [.int p0, .int p1, .int p2]) (rest := []) (st1 := [.int r_2]) (wc := [oX10 aM M_thrown M_series M_most M_ratio aMdisk M_writes M_fuse M_down M_recovers M_looks M_unpacked aMits aMmany aMplace aMlength aMtimes aMvalues aMorder M_chunks M_epoch M_side aMheadOf aMheadTime aMheadValue M_logged aMnext aMisNew M_nexts aMcursorTime aMcursorValue M_hasCursor M_cursorMany M_cursorAt aMmade M_bits M_from M_askMany M_askLeast M_askGreatest M_askSum, rI aMits cI 240 M_its, rI aMmany cI 240 M_many, rI aMtimes cI 15360 M_times, rI aMvalues cI 15360 M_values, rI aMorder cI 96 M_order, rI aMheadOf cI 128 M_headOf, rI aMheadTime cI 128 M_headTime, rI aMheadValue cI 128 M_headValue, rI aMcursorTime cI 6300 M_cursorTime, rI aMcursorValue cI 6300 M_cursorValue]) (w1 := [oX10 aM M_thrown_3 M_series M_most M_ratio aMdisk M_writes M_fuse M_down M_recovers M_looks_4 M_unpacked_5 aMits aMmany aMplace aMlength aMtimes aMvalues aMorder M_chunks M_epoch M_side aMheadOf aMheadTime aMheadValue M_logged aMnext aMisNew M_nexts aMcursorTime aMcursorValue M_hasCursor M_cursorMany M_cursorAt aMmade M_bits M_from M_askMany_6 M_askLeast_7 M_askGreatest_8 M_askSum_9, rI aMits cI 240 M_its, rI aMmany cI 240 M_many, rI aMtimes cI 15360 M_times, rI aMvalues cI 15360 M_values, rI aMorder cI 96 M_order, rI aMheadOf cI 128 M_headOf, rI aMheadTime cI 128 M_headTime, rI aMheadValue cI 128 M_headValue, rI aMcursorTime cI 6300 M_cursorTime_10, rI aMcursorValue cI 6300 M_cursorValue_11]) (wr := []) (wb := [oX10 aM M_thrown_3 M_series M_most M_ratio aMdisk M_writes M_fuse M_down M_recovers M_looks_4 M_unpacked_5 aMits aMmany aMplace aMlength aMtimes aMvalues aMorder M_chunks M_epoch M_side aMheadOf aMheadTime aMheadValue M_logged aMnext aMisNew M_nexts aMcursorTime aMcursorValue M_hasCursor M_cursorMany M_cursorAt aMmade M_bits M_from M_askMany_6 M_askLeast_7 M_askGreatest_8 M_askSum_9, rI aMits cI 240 M_its, rI aMmany cI 240 M_many, rI aMtimes cI 15360 M_times, rI aMvalues cI 15360 M_values, rI aMorder cI 96 M_order, rI aMheadOf cI 128 M_headOf, rI aMheadTime cI 128 M_headTime, rI aMheadValue cI 128 M_headValue, rI aMcursorTime cI 6300 M_cursorTime_10, rI aMcursorValue cI 6300 M_cursorValue_11]) (v := (some (.int r_2))) hx hb hml hown htc hN (c_X10_asks l G cI cZ cJ aM aMdisk aMits aMmany aMplace aMlength aMtimes aMvalues aMorder aMheadOf aMheadTime aMheadValue aMnext aMisNew aMcursorTime aMcursorValue aMmade M_thrown M_series M_most M_ratio M_writes M_fuse M_down M_recovers M_looks M_unpacked M_chunks M_epoch M_side M_logged M_nexts M_hasCursor M_cursorMany M_cursorAt M_bits M_from M_askMany M_askLeast M_askGreatest M_askSum M_its M_many M_times M_values M_order M_headOf M_headTime M_headValue M_cursorTime M_cursorValue p0 p1 p2 hE_1) mw_1272 mw_1274 mp_70 mw_12 mw_1275 hd_X10_asks ⟨rfl, rfl⟩ ⟨Nat.le_of_ble_eq_true rfl, Nat.le_of_ble_eq_true rfl⟩ hK hw0 hA [0, 1, 2, 3, 4, 5, 6, 7, 8, 9, 10] [] [0, 1, 2, 3, 4, 5, 6, 7, 8, 9, 10] rfl rfl rfl rfl rfl (by decide) rfl rfl rfl 0 rfl rfl rfl rfl hl0.1 rfl rfl (Nat.le_of_ble_eq_true rfl) dX10_aggMax_4 ⟨Nat.zero_le _, Nat.zero_le _⟩ (fun H12 locs12 hw12 => ?_)
  clear hw0
  replace hfin := ob1_some hfin
  obtain ⟨s_13, hJ_14, hfin⟩ := hfin
  have kj_15 : ∀ (H : Heap) (locs : List Loc) (ls : Array Slot), wS G A s H locs [oX10 aM M_thrown_3 M_series M_most M_ratio aMdisk M_writes M_fuse M_down M_recovers M_looks_4 M_unpacked_5 aMits aMmany aMplace aMlength aMtimes aMvalues aMorder M_chunks M_epoch M_side aMheadOf aMheadTime aMheadValue M_logged aMnext aMisNew M_nexts aMcursorTime aMcursorValue M_hasCursor M_cursorMany M_cursorAt aMmade M_bits M_from M_askMany_6 M_askLeast_7 M_askGreatest_8 M_askSum_9, rI aMits cI 240 M_its, rI aMmany cI 240 M_many, rI aMtimes cI 15360 M_times, rI aMvalues cI 15360 M_values, rI aMorder cI 96 M_order, rI aMheadOf cI 128 M_headOf, rI aMheadTime cI 128 M_headTime, rI aMheadValue cI 128 M_headValue, rI aMcursorTime cI 6300 M_cursorTime_10, rI aMcursorValue cI 6300 M_cursorValue_11] → lv_has ls 4 [] → W p l e rm_X10_aggMax s m args below meth c H locs 0 0 QQ (F0 m 18 ls [.int s_13]) := by
    clear hw12 H12 locs12 hl0 ls0 hJ_14
    intro H17 locs17 ls17 hw17 hl17
    cases hfin
    rw [hQQ]
    exact ct_iret hx hb hr hlocks hw17.1 hw17.2.1 hw17.2.2 dX10_aggMax_18
  clear hfin
  refine lv_if_eq (tgt := 17) hx hb dX10_aggMax_7 (by decide) (fun c_16 => ?_) (fun c_16 => ?_)
  · replace hJ_14 := it_t c_16 hJ_14
    refine lv_iconst (v := (0 : Int32)) hx hb dX10_aggMax_17 (by decide) ?_
    cases hJ_14
    exact kj_15 _ _ _ hw12 (lv_sub hl0 [] rfl)
  · replace hJ_14 := it_f c_16 hJ_14
    refine lv_aload_n hx hb dX10_aggMax_10 rfl (lv_at hl0 0 rfl) ?_
    refine va_get (D := G) (ci := 10) (v := .int M_askGreatest_8) (C := RX10) (T := TX10) (N := 40) hx hb htc iX10 hown hK hw12.1 0 rfl rfl 38 (by decide) (htc _ mw_985) (fun _ h9 => h9) rfl dX10_aggMax_11 ?_
    refine lv_goto (tgt := 18) hx hb dX10_aggMax_14 (by decide) ?_
    cases hJ_14
    exact kj_15 _ _ _ hw12 (lv_sub hl0 [] rfl)
abbrev rm_X10_aggSum : Room := { frames := 5, cells := 0, slots := 0, locals := 128 }
theorem hd_X10_aggSum : yX10_aggSum.cls = RX10 ∧ yX10_aggSum.cls ≠ "java/lang/invoke/MethodHandle" ∧ yX10_aggSum.cls ≠ "java/lang/invoke/VarHandle" ∧ (parseMethodDescriptor yX10_aggSum.desc).map (fun d => d.parameters.length) = some 3 := by decide +kernel
set_option maxHeartbeats 4000000 in
set_option maxRecDepth 100000 in
theorem c_X10_aggSum (l : Launch) (G : va_G) (cI cZ cJ : ClassId) (aM aMdisk aMits aMmany aMplace aMlength aMtimes aMvalues aMorder aMheadOf aMheadTime aMheadValue aMnext aMisNew aMcursorTime aMcursorValue aMmade : Nat) (M_thrown : Int32) (M_series : Int32) (M_most : Int32) (M_ratio : Int32) (M_writes : Int32) (M_fuse : Int32) (M_down : Int32) (M_recovers : Int32) (M_looks : Int32) (M_unpacked : Int32) (M_chunks : Int32) (M_epoch : Int32) (M_side : Int32) (M_logged : Int32) (M_nexts : Int32) (M_hasCursor : Int32) (M_cursorMany : Int32) (M_cursorAt : Int32) (M_bits : Int32) (M_from : Int32) (M_askMany : Int32) (M_askLeast : Int32) (M_askGreatest : Int32) (M_askSum : Int64) (M_its : Nat → Int32) (M_many : Nat → Int32) (M_times : Nat → Int32) (M_values : Nat → Int32) (M_order : Nat → Int32) (M_headOf : Nat → Int32) (M_headTime : Nat → Int32) (M_headValue : Nat → Int32) (M_cursorTime : Nat → Int32) (M_cursorValue : Nat → Int32) (p0 : Int32) (p1 : Int32) (p2 : Int32) {r : Int64} {o_M_thrown : Int32} {o_M_looks : Int32} {o_M_unpacked : Int32} {o_M_askMany : Int32} {o_M_askLeast : Int32} {o_M_askGreatest : Int32} {o_M_askSum : Int64} {o_M_cursorTime : Nat → Int32} {o_M_cursorValue : Nat → Int32} (hfin : m_X10_aggSum M_thrown M_series M_ratio M_down M_looks M_unpacked M_chunks M_logged M_askMany M_askLeast M_askGreatest M_askSum M_its M_many M_times M_values M_order M_headOf M_headTime M_headValue M_cursorTime M_cursorValue p0 p1 p2 = some (r, o_M_thrown, o_M_looks, o_M_unpacked, o_M_askMany, o_M_askLeast, o_M_askGreatest, o_M_askSum, o_M_cursorTime, o_M_cursorValue)) : CT l yX10_aggSum cX10_aggSum 4 (some .long) rm_X10_aggSum G (tyC cI cZ cJ) [.ref aM, .int p0, .int p1, .int p2] [oX10 aM M_thrown M_series M_most M_ratio aMdisk M_writes M_fuse M_down M_recovers M_looks M_unpacked aMits aMmany aMplace aMlength aMtimes aMvalues aMorder M_chunks M_epoch M_side aMheadOf aMheadTime aMheadValue M_logged aMnext aMisNew M_nexts aMcursorTime aMcursorValue M_hasCursor M_cursorMany M_cursorAt aMmade M_bits M_from M_askMany M_askLeast M_askGreatest M_askSum, rI aMits cI 240 M_its, rI aMmany cI 240 M_many, rI aMtimes cI 15360 M_times, rI aMvalues cI 15360 M_values, rI aMorder cI 96 M_order, rI aMheadOf cI 128 M_headOf, rI aMheadTime cI 128 M_headTime, rI aMheadValue cI 128 M_headValue, rI aMcursorTime cI 6300 M_cursorTime, rI aMcursorValue cI 6300 M_cursorValue] (some (.long r)) [oX10 aM o_M_thrown M_series M_most M_ratio aMdisk M_writes M_fuse M_down M_recovers o_M_looks o_M_unpacked aMits aMmany aMplace aMlength aMtimes aMvalues aMorder M_chunks M_epoch M_side aMheadOf aMheadTime aMheadValue M_logged aMnext aMisNew M_nexts aMcursorTime aMcursorValue M_hasCursor M_cursorMany M_cursorAt aMmade M_bits M_from o_M_askMany o_M_askLeast o_M_askGreatest o_M_askSum, rI aMits cI 240 M_its, rI aMmany cI 240 M_many, rI aMtimes cI 15360 M_times, rI aMvalues cI 15360 M_values, rI aMorder cI 96 M_order, rI aMheadOf cI 128 M_headOf, rI aMheadTime cI 128 M_headTime, rI aMheadValue cI 128 M_headValue, rI aMcursorTime cI 6300 o_M_cursorTime, rI aMcursorValue cI 6300 o_M_cursorValue] := by
  refine CT.ofW (lvl := [(0, .ref aM), (1, .int p0), (2, .int p1), (3, .int p2)]) (by decide) (Nat.le_of_ble_eq_true rfl) rfl ?_
  intro p e s m args below meth c A ls0 QQ hQQ hx hb hml hr hlocks htc hN hown hK hA hw0 hl0
  rw [m_X10_aggSum] at hfin
  refine lv_aload_n hx hb dX10_aggSum_0 rfl (lv_at hl0 0 rfl) ?_
  refine lv_iload_n hx hb dX10_aggSum_1 rfl (lv_at hl0 1 rfl) ?_
  refine lv_iload_n hx hb dX10_aggSum_2 rfl (lv_at hl0 2 rfl) ?_
  refine lv_iload_n hx hb dX10_aggSum_3 rfl (lv_at hl0 3 rfl) ?_
  replace hfin := ob10_some hfin
  obtain ⟨r_2, M_thrown_3, M_looks_4, M_unpacked_5, M_askMany_6, M_askLeast_7, M_askGreatest_8, M_askSum_9, M_cursorTime_10, M_cursorValue_11, hE_1, hfin⟩ := hfin
  refine ctV (a := aM) (As := [.int p0, .int p1, .int p2]) (rest := []) (st1 := [.int r_2]) (wc := [oX10 aM M_thrown M_series M_most M_ratio aMdisk M_writes M_fuse M_down M_recovers M_looks M_unpacked aMits aMmany aMplace aMlength aMtimes aMvalues aMorder M_chunks M_epoch M_side aMheadOf aMheadTime aMheadValue M_logged aMnext aMisNew M_nexts aMcursorTime aMcursorValue M_hasCursor M_cursorMany M_cursorAt aMmade M_bits M_from M_askMany M_askLeast M_askGreatest M_askSum, rI aMits cI 240 M_its, rI aMmany cI 240 M_many, rI aMtimes cI 15360 M_times, rI aMvalues cI 15360 M_values, rI aMorder cI 96 M_order, rI aMheadOf cI 128 M_headOf, rI aMheadTime cI 128 M_headTime, rI aMheadValue cI 128 M_headValue, rI aMcursorTime cI 6300 M_cursorTime, rI aMcursorValue cI 6300 M_cursorValue]) (w1 := [oX10 aM M_thrown_3 M_series M_most M_ratio aMdisk M_writes M_fuse M_down M_recovers M_looks_4 M_unpacked_5 aMits aMmany aMplace aMlength aMtimes aMvalues aMorder M_chunks M_epoch M_side aMheadOf aMheadTime aMheadValue M_logged aMnext aMisNew M_nexts aMcursorTime aMcursorValue M_hasCursor M_cursorMany M_cursorAt aMmade M_bits M_from M_askMany_6 M_askLeast_7 M_askGreatest_8 M_askSum_9, rI aMits cI 240 M_its, rI aMmany cI 240 M_many, rI aMtimes cI 15360 M_times, rI aMvalues cI 15360 M_values, rI aMorder cI 96 M_order, rI aMheadOf cI 128 M_headOf, rI aMheadTime cI 128 M_headTime, rI aMheadValue cI 128 M_headValue, rI aMcursorTime cI 6300 M_cursorTime_10, rI aMcursorValue cI 6300 M_cursorValue_11]) (wr := []) (wb := [oX10 aM M_thrown_3 M_series M_most M_ratio aMdisk M_writes M_fuse M_down M_recovers M_looks_4 M_unpacked_5 aMits aMmany aMplace aMlength aMtimes aMvalues aMorder M_chunks M_epoch M_side aMheadOf aMheadTime aMheadValue M_logged aMnext aMisNew M_nexts aMcursorTime aMcursorValue M_hasCursor M_cursorMany M_cursorAt aMmade M_bits M_from M_askMany_6 M_askLeast_7 M_askGreatest_8 M_askSum_9, rI aMits cI 240 M_its, rI aMmany cI 240 M_many, rI aMtimes cI 15360 M_times, rI aMvalues cI 15360 M_values, rI aMorder cI 96 M_order, rI aMheadOf cI 128 M_headOf, rI aMheadTime cI 128 M_headTime, rI aMheadValue cI 128 M_headValue, rI aMcursorTime cI 6300 M_cursorTime_10, rI aMcursorValue cI 6300 M_cursorValue_11]) (v := (some (.int r_2))) hx hb hml hown htc hN (c_X10_asks l G cI cZ cJ aM aMdisk aMits aMmany aMplace aMlength aMtimes aMvalues aMorder aMheadOf aMheadTime aMheadValue aMnext aMisNew aMcursorTime aMcursorValue aMmade M_thrown M_series M_most M_ratio M_writes M_fuse M_down M_recovers M_looks M_unpacked M_chunks M_epoch M_side M_logged M_nexts M_hasCursor M_cursorMany M_cursorAt M_bits M_from M_askMany M_askLeast M_askGreatest M_askSum M_its M_many M_times M_values M_order M_headOf M_headTime M_headValue M_cursorTime M_cursorValue p0 p1 p2 hE_1) mw_1272 mw_1274 mp_70 mw_12 mw_1275 hd_X10_asks ⟨rfl, rfl⟩ ⟨Nat.le_of_ble_eq_true rfl, Nat.le_of_ble_eq_true rfl⟩ hK hw0 hA [0, 1, 2, 3, 4, 5, 6, 7, 8, 9, 10] [] [0, 1, 2, 3, 4, 5, 6, 7, 8, 9, 10] rfl rfl rfl rfl rfl (by decide) rfl rfl rfl 0 rfl rfl rfl rfl hl0.1 rfl rfl (Nat.le_of_ble_eq_true rfl) dX10_aggSum_4 ⟨Nat.zero_le _, Nat.zero_le _⟩ (fun H12 locs12 hw12 => ?_)
  clear hw0
  replace hfin := ob1_some hfin
  obtain ⟨s_13, hJ_14, hfin⟩ := hfin
  have kj_15 : ∀ (H : Heap) (locs : List Loc) (ls : Array Slot), wS G A s H locs [oX10 aM M_thrown_3 M_series M_most M_ratio aMdisk M_writes M_fuse M_down M_recovers M_looks_4 M_unpacked_5 aMits aMmany aMplace aMlength aMtimes aMvalues aMorder M_chunks M_epoch M_side aMheadOf aMheadTime aMheadValue M_logged aMnext aMisNew M_nexts aMcursorTime aMcursorValue M_hasCursor M_cursorMany M_cursorAt aMmade M_bits M_from M_askMany_6 M_askLeast_7 M_askGreatest_8 M_askSum_9, rI aMits cI 240 M_its, rI aMmany cI 240 M_many, rI aMtimes cI 15360 M_times, rI aMvalues cI 15360 M_values, rI aMorder cI 96 M_order, rI aMheadOf cI 128 M_headOf, rI aMheadTime cI 128 M_headTime, rI aMheadValue cI 128 M_headValue, rI aMcursorTime cI 6300 M_cursorTime_10, rI aMcursorValue cI 6300 M_cursorValue_11] → lv_has ls 4 [] → W p l e rm_X10_aggSum s m args below meth c H locs 0 0 QQ (F0 m 18 ls [.long s_13]) := by
    clear hw12 H12 locs12 hl0 ls0 hJ_14
    intro H17 locs17 ls17 hw17 hl17
    cases hfin
    rw [hQQ]
    exact ct_lret hx hb hr hlocks hw17.1 hw17.2.1 hw17.2.2 dX10_aggSum_18
  clear hfin
  refine lv_if_eq (tgt := 17) hx hb dX10_aggSum_7 (by decide) (fun c_16 => ?_) (fun c_16 => ?_)
  · replace hJ_14 := it_t c_16 hJ_14
    refine lv_lconst (v := (0 : Int64)) hx hb dX10_aggSum_17 (by decide) ?_
    cases hJ_14
    exact kj_15 _ _ _ hw12 (lv_sub hl0 [] rfl)
  · replace hJ_14 := it_f c_16 hJ_14
    refine lv_aload_n hx hb dX10_aggSum_10 rfl (lv_at hl0 0 rfl) ?_
    refine va_get (D := G) (ci := 10) (v := .long M_askSum_9) (C := RX10) (T := TX10) (N := 40) hx hb htc iX10 hown hK hw12.1 0 rfl rfl 39 (by decide) (htc _ mw_986) (fun _ h9 => h9) rfl dX10_aggSum_11 ?_
    refine lv_goto (tgt := 18) hx hb dX10_aggSum_14 (by decide) ?_
    cases hJ_14
    exact kj_15 _ _ _ hw12 (lv_sub hl0 [] rfl)
