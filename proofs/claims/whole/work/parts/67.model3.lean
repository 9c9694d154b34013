theorem dX10_find_0 : decode cX10_find 0 = .ok (.iconst 0, 1) := by decide +kernel
theorem dX10_find_1 : decode cX10_find 1 = .ok (.istore_n 3, 1) := by decide +kernel
theorem dX10_find_2 : decode cX10_find 2 = .ok (.sipush 2435, 3) := by decide +kernel
theorem dX10_find_5 : decode cX10_find 5 = .ok (.istore 4, 2) := by decide +kernel
theorem dX10_find_7 : decode cX10_find 7 = .ok (.iload 4, 2) := by decide +kernel
theorem dX10_find_9 : decode cX10_find 9 = .ok (.sipush 4096, 3) := by decide +kernel
theorem dX10_find_12 : decode cX10_find 12 = .ok (.if_icmp .ge 39, 3) := by decide +kernel
theorem dX10_find_15 : decode cX10_find 15 = .ok (.aload_n 0, 1) := by decide +kernel
theorem dX10_find_16 : decode cX10_find 16 = .ok (.iload 4, 2) := by decide +kernel
theorem dX10_find_18 : decode cX10_find 18 = .ok (.iload_n 2, 1) := by decide +kernel
theorem dX10_find_19 : decode cX10_find 19 = .ok (.invokevirtual 183, 3) := by decide +kernel
theorem dX10_find_22 : decode cX10_find 22 = .ok (.ifCond .eq 7, 3) := by decide +kernel
theorem dX10_find_25 : decode cX10_find 25 = .ok (.iconst 0, 1) := by decide +kernel
theorem dX10_find_26 : decode cX10_find 26 = .ok (.goto 6, 3) := by decide +kernel
theorem dX10_find_29 : decode cX10_find 29 = .ok (.iload_n 3, 1) := by decide +kernel
theorem dX10_find_30 : decode cX10_find 30 = .ok (.iconst 1, 1) := by decide +kernel
theorem dX10_find_31 : decode cX10_find 31 = .ok (.iadd, 1) := by decide +kernel
theorem dX10_find_32 : decode cX10_find 32 = .ok (.istore_n 3, 1) := by decide +kernel
theorem dX10_find_33 : decode cX10_find 33 = .ok (.iload_n 3, 1) := by decide +kernel
theorem dX10_find_34 : decode cX10_find 34 = .ok (.iload_n 1, 1) := by decide +kernel
theorem dX10_find_35 : decode cX10_find 35 = .ok (.if_icmp .ne 10, 3) := by decide +kernel
theorem dX10_find_38 : decode cX10_find 38 = .ok (.iload 4, 2) := by decide +kernel
theorem dX10_find_40 : decode cX10_find 40 = .ok (.iload_n 1, 1) := by decide +kernel
theorem dX10_find_41 : decode cX10_find 41 = .ok (.isub, 1) := by decide +kernel
theorem dX10_find_42 : decode cX10_find 42 = .ok (.iconst 1, 1) := by decide +kernel
theorem dX10_find_43 : decode cX10_find 43 = .ok (.iadd, 1) := by decide +kernel
theorem dX10_find_44 : decode cX10_find 44 = .ok (.ireturn, 1) := by decide +kernel
theorem dX10_find_45 : decode cX10_find 45 = .ok (.iinc 4 1, 3) := by decide +kernel
theorem dX10_find_48 : decode cX10_find 48 = .ok (.goto (-41), 3) := by decide +kernel
theorem dX10_find_51 : decode cX10_find 51 = .ok (.iconst (-1), 1) := by decide +kernel
theorem dX10_find_52 : decode cX10_find 52 = .ok (.ireturn, 1) := by decide +kernel
theorem dX10_index_0 : decode cX10_index 0 = .ok (.iload_n 1, 1) := by decide +kernel
theorem dX10_index_1 : decode cX10_index 1 = .ok (.ifCond .ne 7, 3) := by decide +kernel
theorem dX10_index_4 : decode cX10_index 4 = .ok (.iconst 1, 1) := by decide +kernel
theorem dX10_index_5 : decode cX10_index 5 = .ok (.goto 6, 3) := by decide +kernel
theorem dX10_index_8 : decode cX10_index 8 = .ok (.sipush 962, 3) := by decide +kernel
theorem dX10_index_11 : decode cX10_index 11 = .ok (.ireturn, 1) := by decide +kernel
theorem dX10_writeChunk_0 : decode cX10_writeChunk 0 = .ok (.aload_n 0, 1) := by decide +kernel
theorem dX10_writeChunk_1 : decode cX10_writeChunk 1 = .ok (.iload_n 1, 1) := by decide +kernel
theorem dX10_writeChunk_2 : decode cX10_writeChunk 2 = .ok (.invokevirtual 186, 3) := by decide +kernel
theorem dX10_writeChunk_5 : decode cX10_writeChunk 5 = .ok (.istore_n 2, 1) := by decide +kernel
theorem dX10_writeChunk_6 : decode cX10_writeChunk 6 = .ok (.iconst 1, 1) := by decide +kernel
theorem dX10_writeChunk_7 : decode cX10_writeChunk 7 = .ok (.istore_n 3, 1) := by decide +kernel
theorem dX10_writeChunk_8 : decode cX10_writeChunk 8 = .ok (.iconst 0, 1) := by decide +kernel
theorem dX10_writeChunk_9 : decode cX10_writeChunk 9 = .ok (.istore 4, 2) := by decide +kernel
theorem dX10_writeChunk_11 : decode cX10_writeChunk 11 = .ok (.iload 4, 2) := by decide +kernel
theorem dX10_writeChunk_13 : decode cX10_writeChunk 13 = .ok (.iload_n 2, 1) := by decide +kernel
theorem dX10_writeChunk_14 : decode cX10_writeChunk 14 = .ok (.if_icmp .ge 34, 3) := by decide +kernel
theorem dX10_writeChunk_17 : decode cX10_writeChunk 17 = .ok (.iload_n 3, 1) := by decide +kernel
theorem dX10_writeChunk_18 : decode cX10_writeChunk 18 = .ok (.ifCond .eq 30, 3) := by decide +kernel
theorem dX10_writeChunk_21 : decode cX10_writeChunk 21 = .ok (.aload_n 0, 1) := by decide +kernel
theorem dX10_writeChunk_22 : decode cX10_writeChunk 22 = .ok (.aload_n 0, 1) := by decide +kernel
theorem dX10_writeChunk_23 : decode cX10_writeChunk 23 = .ok (.getfield 23, 3) := by decide +kernel
theorem dX10_writeChunk_26 : decode cX10_writeChunk 26 = .ok (.iload_n 1, 1) := by decide +kernel
theorem dX10_writeChunk_27 : decode cX10_writeChunk 27 = .ok (.iaload, 1) := by decide +kernel
theorem dX10_writeChunk_28 : decode cX10_writeChunk 28 = .ok (.iload 4, 2) := by decide +kernel
theorem dX10_writeChunk_30 : decode cX10_writeChunk 30 = .ok (.iadd, 1) := by decide +kernel
theorem dX10_writeChunk_31 : decode cX10_writeChunk 31 = .ok (.aload_n 0, 1) := by decide +kernel
theorem dX10_writeChunk_32 : decode cX10_writeChunk 32 = .ok (.getfield 60, 3) := by decide +kernel
theorem dX10_writeChunk_35 : decode cX10_writeChunk 35 = .ok (.iload 4, 2) := by decide +kernel
theorem dX10_writeChunk_37 : decode cX10_writeChunk 37 = .ok (.iaload, 1) := by decide +kernel
theorem dX10_writeChunk_38 : decode cX10_writeChunk 38 = .ok (.invokevirtual 109, 3) := by decide +kernel
theorem dX10_writeChunk_41 : decode cX10_writeChunk 41 = .ok (.istore_n 3, 1) := by decide +kernel
theorem dX10_writeChunk_42 : decode cX10_writeChunk 42 = .ok (.iinc 4 1, 3) := by decide +kernel
theorem dX10_writeChunk_45 : decode cX10_writeChunk 45 = .ok (.goto (-34), 3) := by decide +kernel
theorem dX10_writeChunk_48 : decode cX10_writeChunk 48 = .ok (.iload_n 3, 1) := by decide +kernel
theorem dX10_writeChunk_49 : decode cX10_writeChunk 49 = .ok (.ireturn, 1) := by decide +kernel
theorem dX10_firstTime_0 : decode cX10_firstTime 0 = .ok (.aload_n 0, 1) := by decide +kernel
theorem dX10_firstTime_1 : decode cX10_firstTime 1 = .ok (.getfield 29, 3) := by decide +kernel
theorem dX10_firstTime_4 : decode cX10_firstTime 4 = .ok (.bipush 64, 2) := by decide +kernel
theorem dX10_firstTime_6 : decode cX10_firstTime 6 = .ok (.iload_n 1, 1) := by decide +kernel
theorem dX10_firstTime_7 : decode cX10_firstTime 7 = .ok (.imul, 1) := by decide +kernel
theorem dX10_firstTime_8 : decode cX10_firstTime 8 = .ok (.iaload, 1) := by decide +kernel
theorem dX10_firstTime_9 : decode cX10_firstTime 9 = .ok (.ireturn, 1) := by decide +kernel
theorem dX10_lastTime_0 : decode cX10_lastTime 0 = .ok (.aload_n 0, 1) := by decide +kernel
theorem dX10_lastTime_1 : decode cX10_lastTime 1 = .ok (.getfield 29, 3) := by decide +kernel
theorem dX10_lastTime_4 : decode cX10_lastTime 4 = .ok (.bipush 64, 2) := by decide +kernel
theorem dX10_lastTime_6 : decode cX10_lastTime 6 = .ok (.iload_n 1, 1) := by decide +kernel
theorem dX10_lastTime_7 : decode cX10_lastTime 7 = .ok (.imul, 1) := by decide +kernel
theorem dX10_lastTime_8 : decode cX10_lastTime 8 = .ok (.aload_n 0, 1) := by decide +kernel
theorem dX10_lastTime_9 : decode cX10_lastTime 9 = .ok (.getfield 20, 3) := by decide +kernel
theorem dX10_lastTime_12 : decode cX10_lastTime 12 = .ok (.iload_n 1, 1) := by decide +kernel
theorem dX10_lastTime_13 : decode cX10_lastTime 13 = .ok (.iaload, 1) := by decide +kernel
theorem dX10_lastTime_14 : decode cX10_lastTime 14 = .ok (.iadd, 1) := by decide +kernel
theorem dX10_lastTime_15 : decode cX10_lastTime 15 = .ok (.iconst 1, 1) := by decide +kernel
theorem dX10_lastTime_16 : decode cX10_lastTime 16 = .ok (.isub, 1) := by decide +kernel
theorem dX10_lastTime_17 : decode cX10_lastTime 17 = .ok (.iaload, 1) := by decide +kernel
theorem dX10_lastTime_18 : decode cX10_lastTime 18 = .ok (.ireturn, 1) := by decide +kernel
theorem dX10_leastOf_0 : decode cX10_leastOf 0 = .ok (.aload_n 0, 1) := by decide +kernel
theorem dX10_leastOf_1 : decode cX10_leastOf 1 = .ok (.getfield 32, 3) := by decide +kernel
theorem dX10_leastOf_4 : decode cX10_leastOf 4 = .ok (.bipush 64, 2) := by decide +kernel
theorem dX10_leastOf_6 : decode cX10_leastOf 6 = .ok (.iload_n 1, 1) := by decide +kernel
theorem dX10_leastOf_7 : decode cX10_leastOf 7 = .ok (.imul, 1) := by decide +kernel
theorem dX10_leastOf_8 : decode cX10_leastOf 8 = .ok (.iaload, 1) := by decide +kernel
theorem dX10_leastOf_9 : decode cX10_leastOf 9 = .ok (.istore_n 2, 1) := by decide +kernel
theorem dX10_leastOf_10 : decode cX10_leastOf 10 = .ok (.iconst 1, 1) := by decide +kernel
theorem dX10_leastOf_11 : decode cX10_leastOf 11 = .ok (.istore_n 3, 1) := by decide +kernel
theorem dX10_leastOf_12 : decode cX10_leastOf 12 = .ok (.iload_n 3, 1) := by decide +kernel
theorem dX10_leastOf_13 : decode cX10_leastOf 13 = .ok (.aload_n 0, 1) := by decide +kernel
theorem dX10_leastOf_14 : decode cX10_leastOf 14 = .ok (.getfield 20, 3) := by decide +kernel
theorem dX10_leastOf_17 : decode cX10_leastOf 17 = .ok (.iload_n 1, 1) := by decide +kernel
theorem dX10_leastOf_18 : decode cX10_leastOf 18 = .ok (.iaload, 1) := by decide +kernel
theorem dX10_leastOf_19 : decode cX10_leastOf 19 = .ok (.if_icmp .ge 40, 3) := by decide +kernel
theorem dX10_leastOf_22 : decode cX10_leastOf 22 = .ok (.aload_n 0, 1) := by decide +kernel
theorem dX10_leastOf_23 : decode cX10_leastOf 23 = .ok (.getfield 32, 3) := by decide +kernel
theorem dX10_leastOf_26 : decode cX10_leastOf 26 = .ok (.bipush 64, 2) := by decide +kernel
theorem dX10_leastOf_28 : decode cX10_leastOf 28 = .ok (.iload_n 1, 1) := by decide +kernel
theorem dX10_leastOf_29 : decode cX10_leastOf 29 = .ok (.imul, 1) := by decide +kernel
theorem dX10_leastOf_30 : decode cX10_leastOf 30 = .ok (.iload_n 3, 1) := by decide +kernel
theorem dX10_leastOf_31 : decode cX10_leastOf 31 = .ok (.iadd, 1) := by decide +kernel
theorem dX10_leastOf_32 : decode cX10_leastOf 32 = .ok (.iaload, 1) := by decide +kernel
theorem dX10_leastOf_33 : decode cX10_leastOf 33 = .ok (.iload_n 2, 1) := by decide +kernel
theorem dX10_leastOf_34 : decode cX10_leastOf 34 = .ok (.if_icmp .ge 17, 3) := by decide +kernel
theorem dX10_leastOf_37 : decode cX10_leastOf 37 = .ok (.aload_n 0, 1) := by decide +kernel
theorem dX10_leastOf_38 : decode cX10_leastOf 38 = .ok (.getfield 32, 3) := by decide +kernel
theorem dX10_leastOf_41 : decode cX10_leastOf 41 = .ok (.bipush 64, 2) := by decide +kernel
theorem dX10_leastOf_43 : decode cX10_leastOf 43 = .ok (.iload_n 1, 1) := by decide +kernel
theorem dX10_leastOf_44 : decode cX10_leastOf 44 = .ok (.imul, 1) := by decide +kernel
theorem dX10_leastOf_45 : decode cX10_leastOf 45 = .ok (.iload_n 3, 1) := by decide +kernel
theorem dX10_leastOf_46 : decode cX10_leastOf 46 = .ok (.iadd, 1) := by decide +kernel
theorem dX10_leastOf_47 : decode cX10_leastOf 47 = .ok (.iaload, 1) := by decide +kernel
theorem dX10_leastOf_48 : decode cX10_leastOf 48 = .ok (.goto 4, 3) := by decide +kernel
theorem dX10_leastOf_51 : decode cX10_leastOf 51 = .ok (.iload_n 2, 1) := by decide +kernel
theorem dX10_leastOf_52 : decode cX10_leastOf 52 = .ok (.istore_n 2, 1) := by decide +kernel
theorem dX10_leastOf_53 : decode cX10_leastOf 53 = .ok (.iinc 3 1, 3) := by decide +kernel
theorem dX10_leastOf_56 : decode cX10_leastOf 56 = .ok (.goto (-44), 3) := by decide +kernel
theorem dX10_leastOf_59 : decode cX10_leastOf 59 = .ok (.iload_n 2, 1) := by decide +kernel
theorem dX10_leastOf_60 : decode cX10_leastOf 60 = .ok (.ireturn, 1) := by decide +kernel
theorem dX10_sumOf_0 : decode cX10_sumOf 0 = .ok (.lconst 0, 1) := by decide +kernel
theorem dX10_sumOf_1 : decode cX10_sumOf 1 = .ok (.lstore_n 2, 1) := by decide +kernel
theorem dX10_sumOf_2 : decode cX10_sumOf 2 = .ok (.iconst 0, 1) := by decide +kernel
theorem dX10_sumOf_3 : decode cX10_sumOf 3 = .ok (.istore 4, 2) := by decide +kernel
theorem dX10_sumOf_5 : decode cX10_sumOf 5 = .ok (.iload 4, 2) := by decide +kernel
theorem dX10_sumOf_7 : decode cX10_sumOf 7 = .ok (.aload_n 0, 1) := by decide +kernel
theorem dX10_sumOf_8 : decode cX10_sumOf 8 = .ok (.getfield 20, 3) := by decide +kernel
theorem dX10_sumOf_11 : decode cX10_sumOf 11 = .ok (.iload_n 1, 1) := by decide +kernel
theorem dX10_sumOf_12 : decode cX10_sumOf 12 = .ok (.iaload, 1) := by decide +kernel
theorem dX10_sumOf_13 : decode cX10_sumOf 13 = .ok (.if_icmp .ge 25, 3) := by decide +kernel
theorem dX10_sumOf_16 : decode cX10_sumOf 16 = .ok (.lload_n 2, 1) := by decide +kernel
theorem dX10_sumOf_17 : decode cX10_sumOf 17 = .ok (.aload_n 0, 1) := by decide +kernel
theorem dX10_sumOf_18 : decode cX10_sumOf 18 = .ok (.getfield 32, 3) := by decide +kernel
theorem dX10_sumOf_21 : decode cX10_sumOf 21 = .ok (.bipush 64, 2) := by decide +kernel
theorem dX10_sumOf_23 : decode cX10_sumOf 23 = .ok (.iload_n 1, 1) := by decide +kernel
theorem dX10_sumOf_24 : decode cX10_sumOf 24 = .ok (.imul, 1) := by decide +kernel
theorem dX10_sumOf_25 : decode cX10_sumOf 25 = .ok (.iload 4, 2) := by decide +kernel
theorem dX10_sumOf_27 : decode cX10_sumOf 27 = .ok (.iadd, 1) := by decide +kernel
theorem dX10_sumOf_28 : decode cX10_sumOf 28 = .ok (.iaload, 1) := by decide +kernel
theorem dX10_sumOf_29 : decode cX10_sumOf 29 = .ok (.i2l, 1) := by decide +kernel
theorem dX10_sumOf_30 : decode cX10_sumOf 30 = .ok (.ladd, 1) := by decide +kernel
theorem dX10_sumOf_31 : decode cX10_sumOf 31 = .ok (.lstore_n 2, 1) := by decide +kernel
theorem dX10_sumOf_32 : decode cX10_sumOf 32 = .ok (.iinc 4 1, 3) := by decide +kernel
theorem dX10_sumOf_35 : decode cX10_sumOf 35 = .ok (.goto (-30), 3) := by decide +kernel
theorem dX10_sumOf_38 : decode cX10_sumOf 38 = .ok (.lload_n 2, 1) := by decide +kernel
theorem dX10_sumOf_39 : decode cX10_sumOf 39 = .ok (.lreturn, 1) := by decide +kernel
abbrev rm_X10_find : Room := { frames := 2, cells := 0, slots := 0, locals := 46 }
theorem hd_X10_find : yX10_find.cls = RX10 ∧ yX10_find.cls ≠ "java/lang/invoke/MethodHandle" ∧ yX10_find.cls ≠ "java/lang/invoke/VarHandle" ∧ (parseMethodDescriptor yX10_find.desc).map (fun d => d.parameters.length) = some 2 := by decide +kernel
set_option maxHeartbeats 4000000 in
set_option maxRecDepth 100000 in
theorem c_X10_find (l : Launch) (G : va_G) (cI cZ cJ : ClassId) (aM aMdisk aMits aMmany aMplace aMlength aMtimes aMvalues aMorder aMheadOf aMheadTime aMheadValue aMnext aMisNew aMcursorTime aMcursorValue aMmade : Nat) (M_thrown : Int32) (M_series : Int32) (M_most : Int32) (M_ratio : Int32) (M_writes : Int32) (M_fuse : Int32) (M_down : Int32) (M_recovers : Int32) (M_looks : Int32) (M_unpacked : Int32) (M_chunks : Int32) (M_epoch : Int32) (M_side : Int32) (M_logged : Int32) (M_nexts : Int32) (M_hasCursor : Int32) (M_cursorMany : Int32) (M_cursorAt : Int32) (M_bits : Int32) (M_from : Int32) (M_askMany : Int32) (M_askLeast : Int32) (M_askGreatest : Int32) (M_askSum : Int64) (M_place : Nat → Int32) (M_length : Nat → Int32) (M_order : Nat → Int32) (M_next : Nat → Int32) (M_isNew : Nat → Int32) (p0 : Int32) (p1 : Int32) {r : Int32} (hfin : m_X10_find M_chunks M_place M_length M_order M_next M_isNew p0 p1 = some (r)) : CT l yX10_find cX10_find 5 (some .int) rm_X10_find G (tyC cI cZ cJ) [.ref aM, .int p0, .int p1] [oX10 aM M_thrown M_series M_most M_ratio aMdisk M_writes M_fuse M_down M_recovers M_looks M_unpacked aMits aMmany aMplace aMlength aMtimes aMvalues aMorder M_chunks M_epoch M_side aMheadOf aMheadTime aMheadValue M_logged aMnext aMisNew M_nexts aMcursorTime aMcursorValue M_hasCursor M_cursorMany M_cursorAt aMmade M_bits M_from M_askMany M_askLeast M_askGreatest M_askSum, rI aMplace cI 240 M_place, rI aMlength cI 240 M_length, rI aMorder cI 96 M_order, rI aMnext cI 240 M_next, rI aMisNew cZ 240 M_isNew] (some (.int r)) [oX10 aM M_thrown M_series M_most M_ratio aMdisk M_writes M_fuse M_down M_recovers M_looks M_unpacked aMits aMmany aMplace aMlength aMtimes aMvalues aMorder M_chunks M_epoch M_side aMheadOf aMheadTime aMheadValue M_logged aMnext aMisNew M_nexts aMcursorTime aMcursorValue M_hasCursor M_cursorMany M_cursorAt aMmade M_bits M_from M_askMany M_askLeast M_askGreatest M_askSum, rI aMplace cI 240 M_place, rI aMlength cI 240 M_length, rI aMorder cI 96 M_order, rI aMnext cI 240 M_next, rI aMisNew cZ 240 M_isNew] := by
  refine CT.ofW (lvl := [(0, .ref aM), (1, .int p0), (2, .int p1)]) (by decide) (Nat.le_of_ble_eq_true rfl) rfl ?_
  intro p e s m args below meth c A ls0 QQ hQQ hx hb hml hr hlocks htc hN hown hK hA hw0 hl0
  rw [m_X10_find] at hfin
  refine lv_iconst (v := (0 : Int32)) hx hb dX10_find_0 (by decide) ?_
  refine lv_istore_n (lv' := [(3, .int (0 : Int32)), (0, .ref aM), (1, .int p0), (2, .int p1)]) hx hb dX10_find_1 rfl hl0 (by decide) rfl (fun ls1 hl1 => ?_)
  clear hl0 ls0
  refine lv_sipush (v := (2435 : Int32)) hx hb dX10_find_2 (by decide) ?_
  refine lv_istore (lv' := [(4, .int (2435 : Int32)), (3, .int (0 : Int32)), (0, .ref aM), (1, .int p0), (2, .int p1)]) hx hb dX10_find_5 hl1 (by decide) rfl (fun ls2 hl2 => ?_)
  clear hl1 ls1
  have lp_7 : ∀ (n : Nat) (v3_3 : Int32) (v4_4 : Int32), lp_X10_find_7 M_chunks M_place M_length M_order M_next M_isNew p0 p1 n v3_3 v4_4 = some (r) → ∀ (H : Heap) (locs : List Loc) (ls : Array Slot), wS G A s H locs [oX10 aM M_thrown M_series M_most M_ratio aMdisk M_writes M_fuse M_down M_recovers M_looks M_unpacked aMits aMmany aMplace aMlength aMtimes aMvalues aMorder M_chunks M_epoch M_side aMheadOf aMheadTime aMheadValue M_logged aMnext aMisNew M_nexts aMcursorTime aMcursorValue M_hasCursor M_cursorMany M_cursorAt aMmade M_bits M_from M_askMany M_askLeast M_askGreatest M_askSum, rI aMplace cI 240 M_place, rI aMlength cI 240 M_length, rI aMorder cI 96 M_order, rI aMnext cI 240 M_next, rI aMisNew cZ 240 M_isNew] → lv_has ls 5 [(0, .ref aM), (1, .int p0), (2, .int p1), (3, .int v3_3), (4, .int v4_4)] → W p l e rm_X10_find s m args below meth c H locs 0 0 QQ (F0 m 7 ls []) := by
    clear hw0 hl2 ls2 hfin
    intro n
    induction n with
    | zero =>
      intro v3_3 v4_4 hB_8
      exact absurd hB_8 (by rw [lp_X10_find_7]; exact fun h9 => nomatch h9)
    | succ n ih =>
      intro v3_3 v4_4 hB_8 H9 locs9 ls9 hw9 hl9
      rw [lp_X10_find_7] at hB_8
      refine lv_iload hx hb dX10_find_7 (lv_at hl9 4 rfl) ?_
      refine lv_sipush (v := (4096 : Int32)) hx hb dX10_find_9 (by decide) ?_
      refine lv_icmp_ge (tgt := 51) hx hb dX10_find_12 (by decide) (fun c_10 => ?_) (fun c_10 => ?_)
      · replace hB_8 := it_t c_10 hB_8
        refine lv_iconst (v := (-1 : Int32)) hx hb dX10_find_51 (by decide) ?_
        cases hB_8
        rw [hQQ]
        exact ct_iret hx hb hr hlocks hw9.1 hw9.2.1 hw9.2.2 dX10_find_52
      · replace hB_8 := it_f c_10 hB_8
        refine lv_aload_n hx hb dX10_find_15 rfl (lv_at hl9 0 rfl) ?_
        refine lv_iload hx hb dX10_find_16 (lv_at hl9 4 rfl) ?_
        refine lv_iload_n hx hb dX10_find_18 rfl (lv_at hl9 2 rfl) ?_
        replace hB_8 := ob1_some hB_8
        obtain ⟨r_12, hE_11, hB_8⟩ := hB_8
        refine ctV (a := aM) (As := [.int v4_4, .int p1]) (rest := []) (st1 := [.int r_12]) (wc := [oX10 aM M_thrown M_series M_most M_ratio aMdisk M_writes M_fuse M_down M_recovers M_looks M_unpacked aMits aMmany aMplace aMlength aMtimes aMvalues aMorder M_chunks M_epoch M_side aMheadOf aMheadTime aMheadValue M_logged aMnext aMisNew M_nexts aMcursorTime aMcursorValue M_hasCursor M_cursorMany M_cursorAt aMmade M_bits M_from M_askMany M_askLeast M_askGreatest M_askSum, rI aMplace cI 240 M_place, rI aMlength cI 240 M_length, rI aMorder cI 96 M_order, rI aMnext cI 240 M_next, rI aMisNew cZ 240 M_isNew]) (w1 := [oX10 aM M_thrown M_series M_most M_ratio aMdisk M_writes M_fuse M_down M_recovers M_looks M_unpacked aMits aMmany aMplace aMlength aMtimes aMvalues aMorder M_chunks M_epoch M_side aMheadOf aMheadTime aMheadValue M_logged aMnext aMisNew M_nexts aMcursorTime aMcursorValue M_hasCursor M_cursorMany M_cursorAt aMmade M_bits M_from M_askMany M_askLeast M_askGreatest M_askSum, rI aMplace cI 240 M_place, rI aMlength cI 240 M_length, rI aMorder cI 96 M_order, rI aMnext cI 240 M_next, rI aMisNew cZ 240 M_isNew]) (wr := []) (wb := [oX10 aM M_thrown M_series M_most M_ratio aMdisk M_writes M_fuse M_down M_recovers M_looks M_unpacked aMits aMmany aMplace aMlength aMtimes aMvalues aMorder M_chunks M_epoch M_side aMheadOf aMheadTime aMheadValue M_logged aMnext aMisNew M_nexts aMcursorTime aMcursorValue M_hasCursor M_cursorMany M_cursorAt aMmade M_bits M_from M_askMany M_askLeast M_askGreatest M_askSum, rI aMplace cI 240 M_place, rI aMlength cI 240 M_length, rI aMorder cI 96 M_order, rI aMnext cI 240 M_next, rI aMisNew cZ 240 M_isNew]) (v := (some (.int r_12))) hx hb hml hown htc hN (c_X10_isTaken l G cI cZ cJ aM aMdisk aMits aMmany aMplace aMlength aMtimes aMvalues aMorder aMheadOf aMheadTime aMheadValue aMnext aMisNew aMcursorTime aMcursorValue aMmade M_thrown M_series M_most M_ratio M_writes M_fuse M_down M_recovers M_looks M_unpacked M_chunks M_epoch M_side M_logged M_nexts M_hasCursor M_cursorMany M_cursorAt M_bits M_from M_askMany M_askLeast M_askGreatest M_askSum M_place M_length M_order M_next M_isNew v4_4 p1 hE_11) mw_1157 mw_1159 mp_50 mw_12 mw_1160 hd_X10_isTaken ⟨rfl, rfl⟩ ⟨Nat.le_of_ble_eq_true rfl, Nat.le_of_ble_eq_true rfl⟩ hK hw9 hA [0, 1, 2, 3, 4, 5] [] [0, 1, 2, 3, 4, 5] rfl rfl rfl rfl rfl (by decide) rfl rfl rfl 0 rfl rfl rfl rfl hl9.1 rfl rfl (Nat.le_of_ble_eq_true rfl) dX10_find_19 ⟨Nat.zero_le _, Nat.zero_le _⟩ (fun H13 locs13 hw13 => ?_)
        clear hw9 H9 locs9
        replace hB_8 := ob1_some hB_8
        obtain ⟨s_14, hJ_15, hB_8⟩ := hB_8
        have kj_16 : ∀ (H : Heap) (locs : List Loc) (ls : Array Slot), wS G A s H locs [oX10 aM M_thrown M_series M_most M_ratio aMdisk M_writes M_fuse M_down M_recovers M_looks M_unpacked aMits aMmany aMplace aMlength aMtimes aMvalues aMorder M_chunks M_epoch M_side aMheadOf aMheadTime aMheadValue M_logged aMnext aMisNew M_nexts aMcursorTime aMcursorValue M_hasCursor M_cursorMany M_cursorAt aMmade M_bits M_from M_askMany M_askLeast M_askGreatest M_askSum, rI aMplace cI 240 M_place, rI aMlength cI 240 M_length, rI aMorder cI 96 M_order, rI aMnext cI 240 M_next, rI aMisNew cZ 240 M_isNew] → lv_has ls 5 [(0, .ref aM), (1, .int p0), (2, .int p1), (4, .int v4_4)] → W p l e rm_X10_find s m args below meth c H locs 0 0 QQ (F0 m 32 ls [.int s_14]) := by
          clear hw13 H13 locs13 hl9 ls9 hJ_15
          intro H18 locs18 ls18 hw18 hl18
          refine lv_istore_n (lv' := [(3, .int s_14), (0, .ref aM), (1, .int p0), (2, .int p1), (4, .int v4_4)]) hx hb dX10_find_32 rfl hl18 (by decide) rfl (fun ls19 hl19 => ?_)
          clear hl18 ls18
          refine lv_iload_n hx hb dX10_find_33 rfl (lv_at hl19 0 rfl) ?_
          refine lv_iload_n hx hb dX10_find_34 rfl (lv_at hl19 2 rfl) ?_
          refine lv_icmp_ne (tgt := 45) hx hb dX10_find_35 (by decide) (fun c_20 => ?_) (fun c_20 => ?_)
          · replace hB_8 := it_f c_20 hB_8
            refine lv_iinc (v := (v4_4 + (1 : Int32))) (lv' := [(4, .int (v4_4 + (1 : Int32))), (3, .int s_14), (0, .ref aM), (1, .int p0), (2, .int p1)]) hx hb dX10_find_45 hl19 (k := 4) rfl rfl (by decide) rfl (fun ls21 hl21 => ?_)
            clear hl19 ls19
            refine lv_goto (tgt := 7) hx hb dX10_find_48 (by decide) ?_
            exact ih s_14 (v4_4 + (1 : Int32)) hB_8 _ _ _ hw18 (lv_sub hl21 [2, 3, 4, 1, 0] rfl)
          · replace hB_8 := it_t c_20 hB_8
            refine lv_iload hx hb dX10_find_38 (lv_at hl19 4 rfl) ?_
            refine lv_iload_n hx hb dX10_find_40 rfl (lv_at hl19 2 rfl) ?_
            refine lv_isub hx hb dX10_find_41 ?_
            refine lv_iconst (v := (1 : Int32)) hx hb dX10_find_42 (by decide) ?_
            refine lv_iadd hx hb dX10_find_43 ?_
            cases hB_8
            rw [hQQ]
            exact ct_iret hx hb hr hlocks hw18.1 hw18.2.1 hw18.2.2 dX10_find_44
        clear hB_8
        refine lv_if_eq (tgt := 29) hx hb dX10_find_22 (by decide) (fun c_17 => ?_) (fun c_17 => ?_)
        · replace hJ_15 := it_t c_17 hJ_15
          refine lv_iload_n hx hb dX10_find_29 rfl (lv_at hl9 3 rfl) ?_
          refine lv_iconst (v := (1 : Int32)) hx hb dX10_find_30 (by decide) ?_
          refine lv_iadd hx hb dX10_find_31 ?_
          cases hJ_15
          exact kj_16 _ _ _ hw13 (lv_sub hl9 [0, 1, 2, 4] rfl)
        · replace hJ_15 := it_f c_17 hJ_15
          refine lv_iconst (v := (0 : Int32)) hx hb dX10_find_25 (by decide) ?_
          refine lv_goto (tgt := 32) hx hb dX10_find_26 (by decide) ?_
          cases hJ_15
          exact kj_16 _ _ _ hw13 (lv_sub hl9 [0, 1, 2, 4] rfl)
  exact lp_7 NN (0 : Int32) (2435 : Int32) hfin _ _ _ hw0 (lv_sub hl2 [2, 3, 4, 1, 0] rfl)
abbrev rm_X10_index : Room := { frames := 0, cells := 0, slots := 0, locals := 0 }
theorem hd_X10_index : yX10_index.cls = RX10 ∧ yX10_index.cls ≠ "java/lang/invoke/MethodHandle" ∧ yX10_index.cls ≠ "java/lang/invoke/VarHandle" ∧ (parseMethodDescriptor yX10_index.desc).map (fun d => d.parameters.length) = some 1 := by decide +kernel
set_option maxHeartbeats 4000000 in
set_option maxRecDepth 100000 in
theorem c_X10_index (l : Launch) (G : va_G) (cI cZ cJ : ClassId) (aM aMdisk aMits aMmany aMplace aMlength aMtimes aMvalues aMorder aMheadOf aMheadTime aMheadValue aMnext aMisNew aMcursorTime aMcursorValue aMmade : Nat) (M_thrown : Int32) (M_series : Int32) (M_most : Int32) (M_ratio : Int32) (M_writes : Int32) (M_fuse : Int32) (M_down : Int32) (M_recovers : Int32) (M_looks : Int32) (M_unpacked : Int32) (M_chunks : Int32) (M_epoch : Int32) (M_side : Int32) (M_logged : Int32) (M_nexts : Int32) (M_hasCursor : Int32) (M_cursorMany : Int32) (M_cursorAt : Int32) (M_bits : Int32) (M_from : Int32) (M_askMany : Int32) (M_askLeast : Int32) (M_askGreatest : Int32) (M_askSum : Int64) (p0 : Int32) {r : Int32} (hfin : m_X10_index p0 = some (r)) : CT l yX10_index cX10_index 2 (some .int) rm_X10_index G (tyC cI cZ cJ) [.ref aM, .int p0] [oX10 aM M_thrown M_series M_most M_ratio aMdisk M_writes M_fuse M_down M_recovers M_looks M_unpacked aMits aMmany aMplace aMlength aMtimes aMvalues aMorder M_chunks M_epoch M_side aMheadOf aMheadTime aMheadValue M_logged aMnext aMisNew M_nexts aMcursorTime aMcursorValue M_hasCursor M_cursorMany M_cursorAt aMmade M_bits M_from M_askMany M_askLeast M_askGreatest M_askSum] (some (.int r)) [oX10 aM M_thrown M_series M_most M_ratio aMdisk M_writes M_fuse M_down M_recovers M_looks M_unpacked aMits aMmany aMplace aMlength aMtimes aMvalues aMorder M_chunks M_epoch M_side aMheadOf aMheadTime aMheadValue M_logged aMnext aMisNew M_nexts aMcursorTime aMcursorValue M_hasCursor M_cursorMany M_cursorAt aMmade M_bits M_from M_askMany M_askLeast M_askGreatest M_askSum] := by
  refine CT.ofW (lvl := [(0, .ref aM), (1, .int p0)]) (by decide) (Nat.le_of_ble_eq_true rfl) rfl ?_
  intro p e s m args below meth c A ls0 QQ hQQ hx hb hml hr hlocks htc hN hown hK hA hw0 hl0
  rw [m_X10_index] at hfin
  refine lv_iload_n hx hb dX10_index_0 rfl (lv_at hl0 1 rfl) ?_
  replace hfin := ob1_some hfin
  obtain ⟨s_1, hJ_2, hfin⟩ := hfin
  have kj_3 : ∀ (H : Heap) (locs : List Loc) (ls : Array Slot), wS G A s H locs [oX10 aM M_thrown M_series M_most M_ratio aMdisk M_writes M_fuse M_down M_recovers M_looks M_unpacked aMits aMmany aMplace aMlength aMtimes aMvalues aMorder M_chunks M_epoch M_side aMheadOf aMheadTime aMheadValue M_logged aMnext aMisNew M_nexts aMcursorTime aMcursorValue M_hasCursor M_cursorMany M_cursorAt aMmade M_bits M_from M_askMany M_askLeast M_askGreatest M_askSum] → lv_has ls 2 [] → W p l e rm_X10_index s m args below meth c H locs 0 0 QQ (F0 m 11 ls [.int s_1]) := by
    clear hw0 hl0 ls0 hJ_2
    intro H5 locs5 ls5 hw5 hl5
    cases hfin
    rw [hQQ]
    exact ct_iret hx hb hr hlocks hw5.1 hw5.2.1 hw5.2.2 dX10_index_11
  clear hfin
  refine lv_if_ne (tgt := 8) hx hb dX10_index_1 (by decide) (fun c_4 => ?_) (fun c_4 => ?_)
  · replace hJ_2 := it_f c_4 hJ_2
    refine lv_sipush (v := (962 : Int32)) hx hb dX10_index_8 (by decide) ?_
    cases hJ_2
    exact kj_3 _ _ _ hw0 (lv_sub hl0 [] rfl)
  · replace hJ_2 := it_t c_4 hJ_2
    refine lv_iconst (v := (1 : Int32)) hx hb dX10_index_4 (by decide) ?_
    refine lv_goto (tgt := 11) hx hb dX10_index_5 (by decide) ?_
    cases hJ_2
    exact kj_3 _ _ _ hw0 (lv_sub hl0 [] rfl)
abbrev rm_X10_writeChunk : Room := { frames := 3, cells := 0, slots := 0, locals := 74 }
theorem hd_X10_writeChunk : yX10_writeChunk.cls = RX10 ∧ yX10_writeChunk.cls ≠ "java/lang/invoke/MethodHandle" ∧ yX10_writeChunk.cls ≠ "java/lang/invoke/VarHandle" ∧ (parseMethodDescriptor yX10_writeChunk.desc).map (fun d => d.parameters.length) = some 1 := by decide +kernel
set_option maxHeartbeats 4000000 in
set_option maxRecDepth 100000 in
theorem c_X10_writeChunk (l : Launch) (G : va_G) (cI cZ cJ : ClassId) (aM aMdisk aMits aMmany aMplace aMlength aMtimes aMvalues aMorder aMheadOf aMheadTime aMheadValue aMnext aMisNew aMcursorTime aMcursorValue aMmade : Nat) (M_thrown : Int32) (M_series : Int32) (M_most : Int32) (M_ratio : Int32) (M_writes : Int32) (M_fuse : Int32) (M_down : Int32) (M_recovers : Int32) (M_looks : Int32) (M_unpacked : Int32) (M_chunks : Int32) (M_epoch : Int32) (M_side : Int32) (M_logged : Int32) (M_nexts : Int32) (M_hasCursor : Int32) (M_cursorMany : Int32) (M_cursorAt : Int32) (M_bits : Int32) (M_from : Int32) (M_askMany : Int32) (M_askLeast : Int32) (M_askGreatest : Int32) (M_askSum : Int64) (M_disk : Nat → Int32) (M_many : Nat → Int32) (M_place : Nat → Int32) (M_times : Nat → Int32) (M_values : Nat → Int32) (M_made : Nat → Int32) (p0 : Int32) {r : Int32} {o_M_writes : Int32} {o_M_fuse : Int32} {o_M_down : Int32} {o_M_bits : Int32} {o_M_disk : Nat → Int32} {o_M_made : Nat → Int32} (hfin : m_X10_writeChunk M_writes M_fuse M_down M_bits M_disk M_many M_place M_times M_values M_made p0 = some (r, o_M_writes, o_M_fuse, o_M_down, o_M_bits, o_M_disk, o_M_made)) : CT l yX10_writeChunk cX10_writeChunk 5 (some .boolean) rm_X10_writeChunk G (tyC cI cZ cJ) [.ref aM, .int p0] [oX10 aM M_thrown M_series M_most M_ratio aMdisk M_writes M_fuse M_down M_recovers M_looks M_unpacked aMits aMmany aMplace aMlength aMtimes aMvalues aMorder M_chunks M_epoch M_side aMheadOf aMheadTime aMheadValue M_logged aMnext aMisNew M_nexts aMcursorTime aMcursorValue M_hasCursor M_cursorMany M_cursorAt aMmade M_bits M_from M_askMany M_askLeast M_askGreatest M_askSum, rI aMdisk cI 4096 M_disk, rI aMmany cI 240 M_many, rI aMplace cI 240 M_place, rI aMtimes cI 15360 M_times, rI aMvalues cI 15360 M_values, rI aMmade cI 200 M_made] (some (.int r)) [oX10 aM M_thrown M_series M_most M_ratio aMdisk o_M_writes o_M_fuse o_M_down M_recovers M_looks M_unpacked aMits aMmany aMplace aMlength aMtimes aMvalues aMorder M_chunks M_epoch M_side aMheadOf aMheadTime aMheadValue M_logged aMnext aMisNew M_nexts aMcursorTime aMcursorValue M_hasCursor M_cursorMany M_cursorAt aMmade o_M_bits M_from M_askMany M_askLeast M_askGreatest M_askSum, rI aMdisk cI 4096 o_M_disk, rI aMmany cI 240 M_many, rI aMplace cI 240 M_place, rI aMtimes cI 15360 M_times, rI aMvalues cI 15360 M_values, rI aMmade cI 200 o_M_made] := by
  refine CT.ofW (lvl := [(0, .ref aM), (1, .int p0)]) (by decide) (Nat.le_of_ble_eq_true rfl) rfl ?_
  intro p e s m args below meth c A ls0 QQ hQQ hx hb hml hr hlocks htc hN hown hK hA hw0 hl0
  rw [m_X10_writeChunk] at hfin
  refine lv_aload_n hx hb dX10_writeChunk_0 rfl (lv_at hl0 0 rfl) ?_
  refine lv_iload_n hx hb dX10_writeChunk_1 rfl (lv_at hl0 1 rfl) ?_
  replace hfin := ob3_some hfin
  obtain ⟨r_2, M_bits_3, M_made_4, hE_1, hfin⟩ := hfin
  refine ctV (a := aM) (As := [.int p0]) (rest := []) (st1 := [.int r_2]) (wc := [oX10 aM M_thrown M_series M_most M_ratio aMdisk M_writes M_fuse M_down M_recovers M_looks M_unpacked aMits aMmany aMplace aMlength aMtimes aMvalues aMorder M_chunks M_epoch M_side aMheadOf aMheadTime aMheadValue M_logged aMnext aMisNew M_nexts aMcursorTime aMcursorValue M_hasCursor M_cursorMany M_cursorAt aMmade M_bits M_from M_askMany M_askLeast M_askGreatest M_askSum, rI aMmany cI 240 M_many, rI aMtimes cI 15360 M_times, rI aMvalues cI 15360 M_values, rI aMmade cI 200 M_made]) (w1 := [oX10 aM M_thrown M_series M_most M_ratio aMdisk M_writes M_fuse M_down M_recovers M_looks M_unpacked aMits aMmany aMplace aMlength aMtimes aMvalues aMorder M_chunks M_epoch M_side aMheadOf aMheadTime aMheadValue M_logged aMnext aMisNew M_nexts aMcursorTime aMcursorValue M_hasCursor M_cursorMany M_cursorAt aMmade M_bits_3 M_from M_askMany M_askLeast M_askGreatest M_askSum, rI aMmany cI 240 M_many, rI aMtimes cI 15360 M_times, rI aMvalues cI 15360 M_values, rI aMmade cI 200 M_made_4]) (wr := [rI aMdisk cI 4096 M_disk, rI aMplace cI 240 M_place]) (wb := [oX10 aM M_thrown M_series M_most M_ratio aMdisk M_writes M_fuse M_down M_recovers M_looks M_unpacked aMits aMmany aMplace aMlength aMtimes aMvalues aMorder M_chunks M_epoch M_side aMheadOf aMheadTime aMheadValue M_logged aMnext aMisNew M_nexts aMcursorTime aMcursorValue M_hasCursor M_cursorMany M_cursorAt aMmade M_bits_3 M_from M_askMany M_askLeast M_askGreatest M_askSum, rI aMdisk cI 4096 M_disk, rI aMmany cI 240 M_many, rI aMplace cI 240 M_place, rI aMtimes cI 15360 M_times, rI aMvalues cI 15360 M_values, rI aMmade cI 200 M_made_4]) (v := (some (.int r_2))) hx hb hml hown htc hN (c_X10_make l G cI cZ cJ aM aMdisk aMits aMmany aMplace aMlength aMtimes aMvalues aMorder aMheadOf aMheadTime aMheadValue aMnext aMisNew aMcursorTime aMcursorValue aMmade M_thrown M_series M_most M_ratio M_writes M_fuse M_down M_recovers M_looks M_unpacked M_chunks M_epoch M_side M_logged M_nexts M_hasCursor M_cursorMany M_cursorAt M_bits M_from M_askMany M_askLeast M_askGreatest M_askSum M_many M_times M_values M_made p0 hE_1) mw_1124 mw_1126 mp_45 mw_12 mw_1127 hd_X10_make ⟨rfl, rfl⟩ ⟨Nat.le_of_ble_eq_true rfl, Nat.le_of_ble_eq_true rfl⟩ hK hw0 hA [0, 2, 4, 5, 6] [1, 3] [2, 0, 3, 1, 4, 5, 6] rfl rfl rfl rfl rfl (by decide) rfl rfl rfl 0 rfl rfl rfl rfl hl0.1 rfl rfl (Nat.le_of_ble_eq_true rfl) dX10_writeChunk_2 ⟨Nat.zero_le _, Nat.zero_le _⟩ (fun H5 locs5 hw5 => ?_)
  clear hw0
  refine lv_istore_n (lv' := [(2, .int r_2), (0, .ref aM), (1, .int p0)]) hx hb dX10_writeChunk_5 rfl hl0 (by decide) rfl (fun ls6 hl6 => ?_)
  clear hl0 ls0
  refine lv_iconst (v := (1 : Int32)) hx hb dX10_writeChunk_6 (by decide) ?_
  refine lv_istore_n (lv' := [(3, .int (1 : Int32)), (2, .int r_2), (0, .ref aM), (1, .int p0)]) hx hb dX10_writeChunk_7 rfl hl6 (by decide) rfl (fun ls7 hl7 => ?_)
  clear hl6 ls6
  refine lv_iconst (v := (0 : Int32)) hx hb dX10_writeChunk_8 (by decide) ?_
  refine lv_istore (lv' := [(4, .int (0 : Int32)), (3, .int (1 : Int32)), (2, .int r_2), (0, .ref aM), (1, .int p0)]) hx hb dX10_writeChunk_9 hl7 (by decide) rfl (fun ls8 hl8 => ?_)
  clear hl7 ls7
  replace hfin := ob5_some hfin
  obtain ⟨v3_19, M_writes_20, M_fuse_21, M_down_22, M_disk_23, hL_15, hfin⟩ := hfin
  have kx_16 : ∀ (H : Heap) (locs : List Loc) (ls : Array Slot), wS G A s H locs [oX10 aM M_thrown M_series M_most M_ratio aMdisk M_writes_20 M_fuse_21 M_down_22 M_recovers M_looks M_unpacked aMits aMmany aMplace aMlength aMtimes aMvalues aMorder M_chunks M_epoch M_side aMheadOf aMheadTime aMheadValue M_logged aMnext aMisNew M_nexts aMcursorTime aMcursorValue M_hasCursor M_cursorMany M_cursorAt aMmade M_bits_3 M_from M_askMany M_askLeast M_askGreatest M_askSum, rI aMdisk cI 4096 M_disk_23, rI aMmany cI 240 M_many, rI aMplace cI 240 M_place, rI aMtimes cI 15360 M_times, rI aMvalues cI 15360 M_values, rI aMmade cI 200 M_made_4] → lv_has ls 5 [(3, .int v3_19)] → W p l e rm_X10_writeChunk s m args below meth c H locs 0 0 QQ (F0 m 48 ls []) := by
    clear hw5 H5 locs5 hl8 ls8 hL_15
    intro H38 locs38 ls38 hw38 hl38
    refine lv_iload_n hx hb dX10_writeChunk_48 rfl (lv_at hl38 0 rfl) ?_
    replace hfin := ckz_some hfin
    obtain ⟨hz_39, hfin⟩ := hfin
    cases hfin
    rw [hQQ]
    exact ct_zret hx hb hr hlocks hz_39 hw38.1 hw38.2.1 hw38.2.2 dX10_writeChunk_49
  have lp_17 : ∀ (n : Nat) (v3_9 : Int32) (v4_10 : Int32) (M_writes_11 : Int32) (M_fuse_12 : Int32) (M_down_13 : Int32) (M_disk_14 : Nat → Int32), lp_X10_writeChunk_11 M_place p0 r_2 M_made_4 n v3_9 v4_10 M_writes_11 M_fuse_12 M_down_13 M_disk_14 = some (v3_19, M_writes_20, M_fuse_21, M_down_22, M_disk_23) → ∀ (H : Heap) (locs : List Loc) (ls : Array Slot), wS G A s H locs [oX10 aM M_thrown M_series M_most M_ratio aMdisk M_writes_11 M_fuse_12 M_down_13 M_recovers M_looks M_unpacked aMits aMmany aMplace aMlength aMtimes aMvalues aMorder M_chunks M_epoch M_side aMheadOf aMheadTime aMheadValue M_logged aMnext aMisNew M_nexts aMcursorTime aMcursorValue M_hasCursor M_cursorMany M_cursorAt aMmade M_bits_3 M_from M_askMany M_askLeast M_askGreatest M_askSum, rI aMdisk cI 4096 M_disk_14, rI aMmany cI 240 M_many, rI aMplace cI 240 M_place, rI aMtimes cI 15360 M_times, rI aMvalues cI 15360 M_values, rI aMmade cI 200 M_made_4] → lv_has ls 5 [(0, .ref aM), (1, .int p0), (2, .int r_2), (3, .int v3_9), (4, .int v4_10)] → W p l e rm_X10_writeChunk s m args below meth c H locs 0 0 QQ (F0 m 11 ls []) := by
    clear hw5 H5 locs5 hl8 ls8 hfin
    intro n
    induction n with
    | zero =>
      intro v3_9 v4_10 M_writes_11 M_fuse_12 M_down_13 M_disk_14 hB_18
      exact absurd hB_18 (by rw [lp_X10_writeChunk_11]; exact fun h9 => nomatch h9)
    | succ n ih =>
      intro v3_9 v4_10 M_writes_11 M_fuse_12 M_down_13 M_disk_14 hB_18 H24 locs24 ls24 hw24 hl24
      rw [lp_X10_writeChunk_11] at hB_18
      refine lv_iload hx hb dX10_writeChunk_11 (lv_at hl24 4 rfl) ?_
      refine lv_iload_n hx hb dX10_writeChunk_13 rfl (lv_at hl24 2 rfl) ?_
      refine lv_icmp_ge (tgt := 48) hx hb dX10_writeChunk_14 (by decide) (fun c_25 => ?_) (fun c_25 => ?_)
      · replace hB_18 := it_t c_25 hB_18
        cases hB_18
        exact kx_16 _ _ _ hw24 (lv_sub hl24 [3] rfl)
      · replace hB_18 := it_f c_25 hB_18
        refine lv_iload_n hx hb dX10_writeChunk_17 rfl (lv_at hl24 3 rfl) ?_
        refine lv_if_eq (tgt := 48) hx hb dX10_writeChunk_18 (by decide) (fun c_26 => ?_) (fun c_26 => ?_)
        · replace hB_18 := it_t c_26 hB_18
          cases hB_18
          exact kx_16 _ _ _ hw24 (lv_sub hl24 [3] rfl)
        · replace hB_18 := it_f c_26 hB_18
          refine lv_aload_n hx hb dX10_writeChunk_21 rfl (lv_at hl24 0 rfl) ?_
          refine lv_aload_n hx hb dX10_writeChunk_22 rfl (lv_at hl24 0 rfl) ?_
          refine va_get (D := G) (ci := 10) (v := .ref aMplace) (C := RX10) (T := TX10) (N := 40) hx hb htc iX10 hown hK hw24.1 0 rfl rfl 13 (by decide) (htc _ mw_960) (fun _ h9 => h9) rfl dX10_writeChunk_23 ?_
          refine lv_iload_n hx hb dX10_writeChunk_26 rfl (lv_at hl24 1 rfl) ?_
          replace hB_18 := ckb_some hB_18
          obtain ⟨hin_27, hB_18⟩ := hB_18
          refine va_iald hx hb hK hw24.1 3 0 rfl rfl hin_27 dX10_writeChunk_27 ?_
          refine lv_iload hx hb dX10_writeChunk_28 (lv_at hl24 4 rfl) ?_
          refine lv_iadd hx hb dX10_writeChunk_30 ?_
          refine lv_aload_n hx hb dX10_writeChunk_31 rfl (lv_at hl24 0 rfl) ?_
          refine va_get (D := G) (ci := 10) (v := .ref aMmade) (C := RX10) (T := TX10) (N := 40) hx hb htc iX10 hown hK hw24.1 0 rfl rfl 33 (by decide) (htc _ mw_980) (fun _ h9 => h9) rfl dX10_writeChunk_32 ?_
          refine lv_iload hx hb dX10_writeChunk_35 (lv_at hl24 4 rfl) ?_
          replace hB_18 := ckb_some hB_18
          obtain ⟨hin_28, hB_18⟩ := hB_18
          refine va_iald hx hb hK hw24.1 6 0 rfl rfl hin_28 dX10_writeChunk_37 ?_
          replace hB_18 := ob5_some hB_18
          obtain ⟨r_30, M_writes_31, M_fuse_32, M_down_33, M_disk_34, hE_29, hB_18⟩ := hB_18
          refine ctV (a := aM) (As := [.int ((M_place (Int32.toNatClampNeg p0)) + v4_10), .int (M_made_4 (Int32.toNatClampNeg v4_10))]) (rest := []) (st1 := [.int r_30]) (wc := [oX10 aM M_thrown M_series M_most M_ratio aMdisk M_writes_11 M_fuse_12 M_down_13 M_recovers M_looks M_unpacked aMits aMmany aMplace aMlength aMtimes aMvalues aMorder M_chunks M_epoch M_side aMheadOf aMheadTime aMheadValue M_logged aMnext aMisNew M_nexts aMcursorTime aMcursorValue M_hasCursor M_cursorMany M_cursorAt aMmade M_bits_3 M_from M_askMany M_askLeast M_askGreatest M_askSum, rI aMdisk cI 4096 M_disk_14]) (w1 := [oX10 aM M_thrown M_series M_most M_ratio aMdisk M_writes_31 M_fuse_32 M_down_33 M_recovers M_looks M_unpacked aMits aMmany aMplace aMlength aMtimes aMvalues aMorder M_chunks M_epoch M_side aMheadOf aMheadTime aMheadValue M_logged aMnext aMisNew M_nexts aMcursorTime aMcursorValue M_hasCursor M_cursorMany M_cursorAt aMmade M_bits_3 M_from M_askMany M_askLeast M_askGreatest M_askSum, rI aMdisk cI 4096 M_disk_34]) (wr := [rI aMmany cI 240 M_many, rI aMplace cI 240 M_place, rI aMtimes cI 15360 M_times, rI aMvalues cI 15360 M_values, rI aMmade cI 200 M_made_4]) (wb := [oX10 aM M_thrown M_series M_most M_ratio aMdisk M_writes_31 M_fuse_32 M_down_33 M_recovers M_looks M_unpacked aMits aMmany aMplace aMlength aMtimes aMvalues aMorder M_chunks M_epoch M_side aMheadOf aMheadTime aMheadValue M_logged aMnext aMisNew M_nexts aMcursorTime aMcursorValue M_hasCursor M_cursorMany M_cursorAt aMmade M_bits_3 M_from M_askMany M_askLeast M_askGreatest M_askSum, rI aMdisk cI 4096 M_disk_34, rI aMmany cI 240 M_many, rI aMplace cI 240 M_place, rI aMtimes cI 15360 M_times, rI aMvalues cI 15360 M_values, rI aMmade cI 200 M_made_4]) (v := (some (.int r_30))) hx hb hml hown htc hN (c_X10_write l G cI cZ cJ aM aMdisk aMits aMmany aMplace aMlength aMtimes aMvalues aMorder aMheadOf aMheadTime aMheadValue aMnext aMisNew aMcursorTime aMcursorValue aMmade M_thrown M_series M_most M_ratio M_writes_11 M_fuse_12 M_down_13 M_recovers M_looks M_unpacked M_chunks M_epoch M_side M_logged M_nexts M_hasCursor M_cursorMany M_cursorAt M_bits_3 M_from M_askMany M_askLeast M_askGreatest M_askSum M_disk_14 ((M_place (Int32.toNatClampNeg p0)) + v4_10) (M_made_4 (Int32.toNatClampNeg v4_10)) hE_29) mw_1088 mw_1090 mp_37 mw_12 mw_1091 hd_X10_write ⟨rfl, rfl⟩ ⟨Nat.le_of_ble_eq_true rfl, Nat.le_of_ble_eq_true rfl⟩ hK hw24 hA [0, 1] [2, 3, 4, 5, 6] [5, 6, 0, 1, 2, 3, 4] rfl rfl rfl rfl rfl (by decide) rfl rfl rfl 0 rfl rfl rfl rfl hl24.1 rfl rfl (Nat.le_of_ble_eq_true rfl) dX10_writeChunk_38 ⟨Nat.zero_le _, Nat.zero_le _⟩ (fun H35 locs35 hw35 => ?_)
          clear hw24 H24 locs24
          refine lv_istore_n (lv' := [(3, .int r_30), (0, .ref aM), (1, .int p0), (2, .int r_2), (4, .int v4_10)]) hx hb dX10_writeChunk_41 rfl hl24 (by decide) rfl (fun ls36 hl36 => ?_)
          clear hl24 ls24
          refine lv_iinc (v := (v4_10 + (1 : Int32))) (lv' := [(4, .int (v4_10 + (1 : Int32))), (3, .int r_30), (0, .ref aM), (1, .int p0), (2, .int r_2)]) hx hb dX10_writeChunk_42 hl36 (k := 4) rfl rfl (by decide) rfl (fun ls37 hl37 => ?_)
          clear hl36 ls36
          refine lv_goto (tgt := 11) hx hb dX10_writeChunk_45 (by decide) ?_
          exact ih r_30 (v4_10 + (1 : Int32)) M_writes_31 M_fuse_32 M_down_33 M_disk_34 hB_18 _ _ _ hw35 (lv_sub hl37 [2, 3, 4, 1, 0] rfl)
  exact lp_17 NN (1 : Int32) (0 : Int32) M_writes M_fuse M_down M_disk hL_15 _ _ _ hw5 (lv_sub hl8 [3, 4, 2, 1, 0] rfl)
abbrev rm_X10_sumOf : Room := { frames := 0, cells := 0, slots := 0, locals := 0 }
theorem hd_X10_sumOf : yX10_sumOf.cls = RX10 ∧ yX10_sumOf.cls ≠ "java/lang/invoke/MethodHandle" ∧ yX10_sumOf.cls ≠ "java/lang/invoke/VarHandle" ∧ (parseMethodDescriptor yX10_sumOf.desc).map (fun d => d.parameters.length) = some 1 := by decide +kernel
set_option maxHeartbeats 4000000 in
set_option maxRecDepth 100000 in
theorem c_X10_sumOf (l : Launch) (G : va_G) (cI cZ cJ : ClassId) (aM aMdisk aMits aMmany aMplace aMlength aMtimes aMvalues aMorder aMheadOf aMheadTime aMheadValue aMnext aMisNew aMcursorTime aMcursorValue aMmade : Nat) (M_thrown : Int32) (M_series : Int32) (M_most : Int32) (M_ratio : Int32) (M_writes : Int32) (M_fuse : Int32) (M_down : Int32) (M_recovers : Int32) (M_looks : Int32) (M_unpacked : Int32) (M_chunks : Int32) (M_epoch : Int32) (M_side : Int32) (M_logged : Int32) (M_nexts : Int32) (M_hasCursor : Int32) (M_cursorMany : Int32) (M_cursorAt : Int32) (M_bits : Int32) (M_from : Int32) (M_askMany : Int32) (M_askLeast : Int32) (M_askGreatest : Int32) (M_askSum : Int64) (M_many : Nat → Int32) (M_values : Nat → Int32) (p0 : Int32) {r : Int64} (hfin : m_X10_sumOf M_many M_values p0 = some (r)) : CT l yX10_sumOf cX10_sumOf 5 (some .long) rm_X10_sumOf G (tyC cI cZ cJ) [.ref aM, .int p0] [oX10 aM M_thrown M_series M_most M_ratio aMdisk M_writes M_fuse M_down M_recovers M_looks M_unpacked aMits aMmany aMplace aMlength aMtimes aMvalues aMorder M_chunks M_epoch M_side aMheadOf aMheadTime aMheadValue M_logged aMnext aMisNew M_nexts aMcursorTime aMcursorValue M_hasCursor M_cursorMany M_cursorAt aMmade M_bits M_from M_askMany M_askLeast M_askGreatest M_askSum, rI aMmany cI 240 M_many, rI aMvalues cI 15360 M_values] (some (.long r)) [oX10 aM M_thrown M_series M_most M_ratio aMdisk M_writes M_fuse M_down M_recovers M_looks M_unpacked aMits aMmany aMplace aMlength aMtimes aMvalues aMorder M_chunks M_epoch M_side aMheadOf aMheadTime aMheadValue M_logged aMnext aMisNew M_nexts aMcursorTime aMcursorValue M_hasCursor M_cursorMany M_cursorAt aMmade M_bits M_from M_askMany M_askLeast M_askGreatest M_askSum, rI aMmany cI 240 M_many, rI aMvalues cI 15360 M_values] := by
  refine CT.ofW (lvl := [(0, .ref aM), (1, .int p0)]) (by decide) (Nat.le_of_ble_eq_true rfl) rfl ?_
  intro p e s m args below meth c A ls0 QQ hQQ hx hb hml hr hlocks htc hN hown hK hA hw0 hl0
  rw [m_X10_sumOf] at hfin
  refine lv_lconst (v := (0 : Int64)) hx hb dX10_sumOf_0 (by decide) ?_
  refine lv_lstore_n (lv' := [(2, .long (0 : Int64)), (0, .ref aM), (1, .int p0)]) hx hb dX10_sumOf_1 rfl hl0 (by decide) rfl (fun ls1 hl1 => ?_)
  clear hl0 ls0
  refine lv_iconst (v := (0 : Int32)) hx hb dX10_sumOf_2 (by decide) ?_
  refine lv_istore (lv' := [(4, .int (0 : Int32)), (2, .long (0 : Int64)), (0, .ref aM), (1, .int p0)]) hx hb dX10_sumOf_3 hl1 (by decide) rfl (fun ls2 hl2 => ?_)
  clear hl1 ls1
  replace hfin := ob1_some hfin
  obtain ⟨v2_9, hL_5, hfin⟩ := hfin
  have kx_6 : ∀ (H : Heap) (locs : List Loc) (ls : Array Slot), wS G A s H locs [oX10 aM M_thrown M_series M_most M_ratio aMdisk M_writes M_fuse M_down M_recovers M_looks M_unpacked aMits aMmany aMplace aMlength aMtimes aMvalues aMorder M_chunks M_epoch M_side aMheadOf aMheadTime aMheadValue M_logged aMnext aMisNew M_nexts aMcursorTime aMcursorValue M_hasCursor M_cursorMany M_cursorAt aMmade M_bits M_from M_askMany M_askLeast M_askGreatest M_askSum, rI aMmany cI 240 M_many, rI aMvalues cI 15360 M_values] → lv_has ls 5 [(2, .long v2_9)] → W p l e rm_X10_sumOf s m args below meth c H locs 0 0 QQ (F0 m 38 ls []) := by
    clear hw0 hl2 ls2 hL_5
    intro H16 locs16 ls16 hw16 hl16
    refine lv_lload_n hx hb dX10_sumOf_38 rfl (lv_at hl16 0 rfl) ?_
    cases hfin
    rw [hQQ]
    exact ct_lret hx hb hr hlocks hw16.1 hw16.2.1 hw16.2.2 dX10_sumOf_39
  have lp_7 : ∀ (n : Nat) (v2_3 : Int64) (v4_4 : Int32), lp_X10_sumOf_5 M_many M_values p0 n v2_3 v4_4 = some (v2_9) → ∀ (H : Heap) (locs : List Loc) (ls : Array Slot), wS G A s H locs [oX10 aM M_thrown M_series M_most M_ratio aMdisk M_writes M_fuse M_down M_recovers M_looks M_unpacked aMits aMmany aMplace aMlength aMtimes aMvalues aMorder M_chunks M_epoch M_side aMheadOf aMheadTime aMheadValue M_logged aMnext aMisNew M_nexts aMcursorTime aMcursorValue M_hasCursor M_cursorMany M_cursorAt aMmade M_bits M_from M_askMany M_askLeast M_askGreatest M_askSum, rI aMmany cI 240 M_many, rI aMvalues cI 15360 M_values] → lv_has ls 5 [(0, .ref aM), (1, .int p0), (2, .long v2_3), (4, .int v4_4)] → W p l e rm_X10_sumOf s m args below meth c H locs 0 0 QQ (F0 m 5 ls []) := by
    clear hw0 hl2 ls2 hfin
    intro n
    induction n with
    | zero =>
      intro v2_3 v4_4 hB_8
      exact absurd hB_8 (by rw [lp_X10_sumOf_5]; exact fun h9 => nomatch h9)
    | succ n ih =>
      intro v2_3 v4_4 hB_8 H10 locs10 ls10 hw10 hl10
      rw [lp_X10_sumOf_5] at hB_8
      refine lv_iload hx hb dX10_sumOf_5 (lv_at hl10 3 rfl) ?_
      refine lv_aload_n hx hb dX10_sumOf_7 rfl (lv_at hl10 0 rfl) ?_
      refine va_get (D := G) (ci := 10) (v := .ref aMmany) (C := RX10) (T := TX10) (N := 40) hx hb htc iX10 hown hK hw10.1 0 rfl rfl 12 (by decide) (htc _ mw_959) (fun _ h9 => h9) rfl dX10_sumOf_8 ?_
      refine lv_iload_n hx hb dX10_sumOf_11 rfl (lv_at hl10 1 rfl) ?_
      replace hB_8 := ckb_some hB_8
      obtain ⟨hin_11, hB_8⟩ := hB_8
      refine va_iald hx hb hK hw10.1 1 0 rfl rfl hin_11 dX10_sumOf_12 ?_
      refine lv_icmp_ge (tgt := 38) hx hb dX10_sumOf_13 (by decide) (fun c_12 => ?_) (fun c_12 => ?_)
      · replace hB_8 := it_t c_12 hB_8
        cases hB_8
        exact kx_6 _ _ _ hw10 (lv_sub hl10 [2] rfl)
      · replace hB_8 := it_f c_12 hB_8
        refine lv_lload_n hx hb dX10_sumOf_16 rfl (lv_at hl10 2 rfl) ?_
        refine lv_aload_n hx hb dX10_sumOf_17 rfl (lv_at hl10 0 rfl) ?_
        refine va_get (D := G) (ci := 10) (v := .ref aMvalues) (C := RX10) (T := TX10) (N := 40) hx hb htc iX10 hown hK hw10.1 0 rfl rfl 16 (by decide) (htc _ mw_963) (fun _ h9 => h9) rfl dX10_sumOf_18 ?_
        refine lv_bipush (v := (64 : Int32)) hx hb dX10_sumOf_21 (by decide) ?_
        refine lv_iload_n hx hb dX10_sumOf_23 rfl (lv_at hl10 1 rfl) ?_
        refine lv_imul hx hb dX10_sumOf_24 ?_
        refine lv_iload hx hb dX10_sumOf_25 (lv_at hl10 3 rfl) ?_
        refine lv_iadd hx hb dX10_sumOf_27 ?_
        replace hB_8 := ckb_some hB_8
        obtain ⟨hin_13, hB_8⟩ := hB_8
        refine va_iald hx hb hK hw10.1 2 0 rfl rfl hin_13 dX10_sumOf_28 ?_
        refine lv_i2l hx hb dX10_sumOf_29 rfl ?_
        refine lv_ladd hx hb dX10_sumOf_30 ?_
        refine lv_lstore_n (lv' := [(2, .long (v2_3 + (Int32.toInt64 (M_values (Int32.toNatClampNeg (((64 : Int32) * p0) + v4_4)))))), (0, .ref aM), (1, .int p0), (4, .int v4_4)]) hx hb dX10_sumOf_31 rfl hl10 (by decide) rfl (fun ls14 hl14 => ?_)
        clear hl10 ls10
        refine lv_iinc (v := (v4_4 + (1 : Int32))) (lv' := [(4, .int (v4_4 + (1 : Int32))), (2, .long (v2_3 + (Int32.toInt64 (M_values (Int32.toNatClampNeg (((64 : Int32) * p0) + v4_4)))))), (0, .ref aM), (1, .int p0)]) hx hb dX10_sumOf_32 hl14 (k := 3) rfl rfl (by decide) rfl (fun ls15 hl15 => ?_)
        clear hl14 ls14
        refine lv_goto (tgt := 5) hx hb dX10_sumOf_35 (by decide) ?_
        exact ih (v2_3 + (Int32.toInt64 (M_values (Int32.toNatClampNeg (((64 : Int32) * p0) + v4_4))))) (v4_4 + (1 : Int32)) hB_8 _ _ _ hw10 (lv_sub hl15 [2, 3, 1, 0] rfl)
  exact lp_7 NN (0 : Int64) (0 : Int32) hL_5 _ _ _ hw0 (lv_sub hl2 [2, 3, 1, 0] rfl)
abbrev rm_X10_firstTime : Room := { frames := 0, cells := 0, slots := 0, locals := 0 }
theorem hd_X10_firstTime : yX10_firstTime.cls = RX10 ∧ yX10_firstTime.cls ≠ "java/lang/invoke/MethodHandle" ∧ yX10_firstTime.cls ≠ "java/lang/invoke/VarHandle" ∧ (parseMethodDescriptor yX10_firstTime.desc).map (fun d => d.parameters.length) = some 1 := by decide +kernel
set_option maxHeartbeats 4000000 in
set_option maxRecDepth 100000 in
theorem c_X10_firstTime (l : Launch) (G : va_G) (cI cZ cJ : ClassId) (aM aMdisk aMits aMmany aMplace aMlength aMtimes aMvalues aMorder aMheadOf aMheadTime aMheadValue aMnext aMisNew aMcursorTime aMcursorValue aMmade : Nat) (M_thrown : Int32) (M_series : Int32) (M_most : Int32) (M_ratio : Int32) (M_writes : Int32) (M_fuse : Int32) (M_down : Int32) (M_recovers : Int32) (M_looks : Int32) (M_unpacked : Int32) (M_chunks : Int32) (M_epoch : Int32) (M_side : Int32) (M_logged : Int32) (M_nexts : Int32) (M_hasCursor : Int32) (M_cursorMany : Int32) (M_cursorAt : Int32) (M_bits : Int32) (M_from : Int32) (M_askMany : Int32) (M_askLeast : Int32) (M_askGreatest : Int32) (M_askSum : Int64) (M_times : Nat → Int32) (p0 : Int32) {r : Int32} (hfin : m_X10_firstTime M_times p0 = some (r)) : CT l yX10_firstTime cX10_firstTime 2 (some .int) rm_X10_firstTime G (tyC cI cZ cJ) [.ref aM, .int p0] [oX10 aM M_thrown M_series M_most M_ratio aMdisk M_writes M_fuse M_down M_recovers M_looks M_unpacked aMits aMmany aMplace aMlength aMtimes aMvalues aMorder M_chunks M_epoch M_side aMheadOf aMheadTime aMheadValue M_logged aMnext aMisNew M_nexts aMcursorTime aMcursorValue M_hasCursor M_cursorMany M_cursorAt aMmade M_bits M_from M_askMany M_askLeast M_askGreatest M_askSum, rI aMtimes cI 15360 M_times] (some (.int r)) [oX10 aM M_thrown M_series M_most M_ratio aMdisk M_writes M_fuse M_down M_recovers M_looks M_unpacked aMits aMmany aMplace aMlength aMtimes aMvalues aMorder M_chunks M_epoch M_side aMheadOf aMheadTime aMheadValue M_logged aMnext aMisNew M_nexts aMcursorTime aMcursorValue M_hasCursor M_cursorMany M_cursorAt aMmade M_bits M_from M_askMany M_askLeast M_askGreatest M_askSum, rI aMtimes cI 15360 M_times] := by
  refine CT.ofW (lvl := [(0, .ref aM), (1, .int p0)]) (by decide) (Nat.le_of_ble_eq_true rfl) rfl ?_
  intro p e s m args below meth c A ls0 QQ hQQ hx hb hml hr hlocks htc hN hown hK hA hw0 hl0
  rw [m_X10_firstTime] at hfin
  refine lv_aload_n hx hb dX10_firstTime_0 rfl (lv_at hl0 0 rfl) ?_
  refine va_get (D := G) (ci := 10) (v := .ref aMtimes) (C := RX10) (T := TX10) (N := 40) hx hb htc iX10 hown hK hw0.1 0 rfl rfl 15 (by decide) (htc _ mw_962) (fun _ h9 => h9) rfl dX10_firstTime_1 ?_
  refine lv_bipush (v := (64 : Int32)) hx hb dX10_firstTime_4 (by decide) ?_
  refine lv_iload_n hx hb dX10_firstTime_6 rfl (lv_at hl0 1 rfl) ?_
  refine lv_imul hx hb dX10_firstTime_7 ?_
  replace hfin := ckb_some hfin
  obtain ⟨hin_1, hfin⟩ := hfin
  refine va_iald hx hb hK hw0.1 1 0 rfl rfl hin_1 dX10_firstTime_8 ?_
  cases hfin
  rw [hQQ]
  exact ct_iret hx hb hr hlocks hw0.1 hw0.2.1 hw0.2.2 dX10_firstTime_9
abbrev rm_X10_lastTime : Room := { frames := 0, cells := 0, slots := 0, locals := 0 }
theorem hd_X10_lastTime : yX10_lastTime.cls = RX10 ∧ yX10_lastTime.cls ≠ "java/lang/invoke/MethodHandle" ∧ yX10_lastTime.cls ≠ "java/lang/invoke/VarHandle" ∧ (parseMethodDescriptor yX10_lastTime.desc).map (fun d => d.parameters.length) = some 1 := by decide +kernel
set_option maxHeartbeats 4000000 in
set_option maxRecDepth 100000 in
theorem c_X10_lastTime (l : Launch) (G : va_G) (cI cZ cJ : ClassId) (aM aMdisk aMits aMmany aMplace aMlength aMtimes aMvalues aMorder aMheadOf aMheadTime aMheadValue aMnext aMisNew aMcursorTime aMcursorValue aMmade : Nat) (M_thrown : Int32) (M_series : Int32) (M_most : Int32) (M_ratio : Int32) (M_writes : Int32) (M_fuse : Int32) (M_down : Int32) (M_recovers : Int32) (M_looks : Int32) (M_unpacked : Int32) (M_chunks : Int32) (M_epoch : Int32) (M_side : Int32) (M_logged : Int32) (M_nexts : Int32) (M_hasCursor : Int32) (M_cursorMany : Int32) (M_cursorAt : Int32) (M_bits : Int32) (M_from : Int32) (M_askMany : Int32) (M_askLeast : Int32) (M_askGreatest : Int32) (M_askSum : Int64) (M_many : Nat → Int32) (M_times : Nat → Int32) (p0 : Int32) {r : Int32} (hfin : m_X10_lastTime M_many M_times p0 = some (r)) : CT l yX10_lastTime cX10_lastTime 2 (some .int) rm_X10_lastTime G (tyC cI cZ cJ) [.ref aM, .int p0] [oX10 aM M_thrown M_series M_most M_ratio aMdisk M_writes M_fuse M_down M_recovers M_looks M_unpacked aMits aMmany aMplace aMlength aMtimes aMvalues aMorder M_chunks M_epoch M_side aMheadOf aMheadTime aMheadValue M_logged aMnext aMisNew M_nexts aMcursorTime aMcursorValue M_hasCursor M_cursorMany M_cursorAt aMmade M_bits M_from M_askMany M_askLeast M_askGreatest M_askSum, rI aMmany cI 240 M_many, rI aMtimes cI 15360 M_times] (some (.int r)) [oX10 aM M_thrown M_series M_most M_ratio aMdisk M_writes M_fuse M_down M_recovers M_looks M_unpacked aMits aMmany aMplace aMlength aMtimes aMvalues aMorder M_chunks M_epoch M_side aMheadOf aMheadTime aMheadValue M_logged aMnext aMisNew M_nexts aMcursorTime aMcursorValue M_hasCursor M_cursorMany M_cursorAt aMmade M_bits M_from M_askMany M_askLeast M_askGreatest M_askSum, rI aMmany cI 240 M_many, rI aMtimes cI 15360 M_times] := by
  refine CT.ofW (lvl := [(0, .ref aM), (1, .int p0)]) (by decide) (Nat.le_of_ble_eq_true rfl) rfl ?_
  intro p e s m args below meth c A ls0 QQ hQQ hx hb hml hr hlocks htc hN hown hK hA hw0 hl0
  rw [m_X10_lastTime] at hfin
  refine lv_aload_n hx hb dX10_lastTime_0 rfl (lv_at hl0 0 rfl) ?_
  refine va_get (D := G) (ci := 10) (v := .ref aMtimes) (C := RX10) (T := TX10) (N := 40) hx hb htc iX10 hown hK hw0.1 0 rfl rfl 15 (by decide) (htc _ mw_962) (fun _ h9 => h9) rfl dX10_lastTime_1 ?_
  refine lv_bipush (v := (64 : Int32)) hx hb dX10_lastTime_4 (by decide) ?_
  refine lv_iload_n hx hb dX10_lastTime_6 rfl (lv_at hl0 1 rfl) ?_
  refine lv_imul hx hb dX10_lastTime_7 ?_
  refine lv_aload_n hx hb dX10_lastTime_8 rfl (lv_at hl0 0 rfl) ?_
  refine va_get (D := G) (ci := 10) (v := .ref aMmany) (C := RX10) (T := TX10) (N := 40) hx hb htc iX10 hown hK hw0.1 0 rfl rfl 12 (by decide) (htc _ mw_959) (fun _ h9 => h9) rfl dX10_lastTime_9 ?_
  refine lv_iload_n hx hb dX10_lastTime_12 rfl (lv_at hl0 1 rfl) ?_
  replace hfin := ckb_some hfin
  obtain ⟨hin_1, hfin⟩ := hfin
  refine va_iald hx hb hK hw0.1 1 0 rfl rfl hin_1 dX10_lastTime_13 ?_
  refine lv_iadd hx hb dX10_lastTime_14 ?_
  refine lv_iconst (v := (1 : Int32)) hx hb dX10_lastTime_15 (by decide) ?_
  refine lv_isub hx hb dX10_lastTime_16 ?_
  replace hfin := ckb_some hfin
  obtain ⟨hin_2, hfin⟩ := hfin
  refine va_iald hx hb hK hw0.1 2 0 rfl rfl hin_2 dX10_lastTime_17 ?_
  cases hfin
  rw [hQQ]
  exact ct_iret hx hb hr hlocks hw0.1 hw0.2.1 hw0.2.2 dX10_lastTime_18
abbrev rm_X10_leastOf : Room := { frames := 0, cells := 0, slots := 0, locals := 0 }
theorem hd_X10_leastOf : yX10_leastOf.cls = RX10 ∧ yX10_leastOf.cls ≠ "java/lang/invoke/MethodHandle" ∧ yX10_leastOf.cls ≠ "java/lang/invoke/VarHandle" ∧ (parseMethodDescriptor yX10_leastOf.desc).map (fun d => d.parameters.length) = some 1 := by decide +kernel
set_option maxHeartbeats 4000000 in
set_option maxRecDepth 100000 in
theorem c_X10_leastOf (l : Launch) (G : va_G) (cI cZ cJ : ClassId) (aM aMdisk aMits aMmany aMplace aMlength aMtimes aMvalues aMorder aMheadOf aMheadTime aMheadValue aMnext aMisNew aMcursorTime aMcursorValue aMmade : Nat) (M_thrown : Int32) (M_series : Int32) (M_most : Int32) (M_ratio : Int32) (M_writes : Int32) (M_fuse : Int32) (M_down : Int32) (M_recovers : Int32) (M_looks : Int32) (M_unpacked : Int32) (M_chunks : Int32) (M_epoch : Int32) (M_side : Int32) (M_logged : Int32) (M_nexts : Int32) (M_hasCursor : Int32) (M_cursorMany : Int32) (M_cursorAt : Int32) (M_bits : Int32) (M_from : Int32) (M_askMany : Int32) (M_askLeast : Int32) (M_askGreatest : Int32) (M_askSum : Int64) (M_many : Nat → Int32) (M_values : Nat → Int32) (p0 : Int32) {r : Int32} (hfin : m_X10_leastOf M_many M_values p0 = some (r)) : CT l yX10_leastOf cX10_leastOf 4 (some .int) rm_X10_leastOf G (tyC cI cZ cJ) [.ref aM, .int p0] [oX10 aM M_thrown M_series M_most M_ratio aMdisk M_writes M_fuse M_down M_recovers M_looks M_unpacked aMits aMmany aMplace aMlength aMtimes aMvalues aMorder M_chunks M_epoch M_side aMheadOf aMheadTime aMheadValue M_logged aMnext aMisNew M_nexts aMcursorTime aMcursorValue M_hasCursor M_cursorMany M_cursorAt aMmade M_bits M_from M_askMany M_askLeast M_askGreatest M_askSum, rI aMmany cI 240 M_many, rI aMvalues cI 15360 M_values] (some (.int r)) [oX10 aM M_thrown M_series M_most M_ratio aMdisk M_writes M_fuse M_down M_recovers M_looks M_unpacked aMits aMmany aMplace aMlength aMtimes aMvalues aMorder M_chunks M_epoch M_side aMheadOf aMheadTime aMheadValue M_logged aMnext aMisNew M_nexts aMcursorTime aMcursorValue M_hasCursor M_cursorMany M_cursorAt aMmade M_bits M_from M_askMany M_askLeast M_askGreatest M_askSum, rI aMmany cI 240 M_many, rI aMvalues cI 15360 M_values] := by
  refine CT.ofW (lvl := [(0, .ref aM), (1, .int p0)]) (by decide) (Nat.le_of_ble_eq_true rfl) rfl ?_
  intro p e s m args below meth c A ls0 QQ hQQ hx hb hml hr hlocks htc hN hown hK hA hw0 hl0
  rw [m_X10_leastOf] at hfin
  refine lv_aload_n hx hb dX10_leastOf_0 rfl (lv_at hl0 0 rfl) ?_
  refine va_get (D := G) (ci := 10) (v := .ref aMvalues) (C := RX10) (T := TX10) (N := 40) hx hb htc iX10 hown hK hw0.1 0 rfl rfl 16 (by decide) (htc _ mw_963) (fun _ h9 => h9) rfl dX10_leastOf_1 ?_
  refine lv_bipush (v := (64 : Int32)) hx hb dX10_leastOf_4 (by decide) ?_
  refine lv_iload_n hx hb dX10_leastOf_6 rfl (lv_at hl0 1 rfl) ?_
  refine lv_imul hx hb dX10_leastOf_7 ?_
  replace hfin := ckb_some hfin
  obtain ⟨hin_1, hfin⟩ := hfin
  refine va_iald hx hb hK hw0.1 2 0 rfl rfl hin_1 dX10_leastOf_8 ?_
  refine lv_istore_n (lv' := [(2, .int (M_values (Int32.toNatClampNeg ((64 : Int32) * p0)))), (0, .ref aM), (1, .int p0)]) hx hb dX10_leastOf_9 rfl hl0 (by decide) rfl (fun ls2 hl2 => ?_)
  clear hl0 ls0
  refine lv_iconst (v := (1 : Int32)) hx hb dX10_leastOf_10 (by decide) ?_
  refine lv_istore_n (lv' := [(3, .int (1 : Int32)), (2, .int (M_values (Int32.toNatClampNeg ((64 : Int32) * p0)))), (0, .ref aM), (1, .int p0)]) hx hb dX10_leastOf_11 rfl hl2 (by decide) rfl (fun ls3 hl3 => ?_)
  clear hl2 ls2
  replace hfin := ob1_some hfin
  obtain ⟨v2_10, hL_6, hfin⟩ := hfin
  have kx_7 : ∀ (H : Heap) (locs : List Loc) (ls : Array Slot), wS G A s H locs [oX10 aM M_thrown M_series M_most M_ratio aMdisk M_writes M_fuse M_down M_recovers M_looks M_unpacked aMits aMmany aMplace aMlength aMtimes aMvalues aMorder M_chunks M_epoch M_side aMheadOf aMheadTime aMheadValue M_logged aMnext aMisNew M_nexts aMcursorTime aMcursorValue M_hasCursor M_cursorMany M_cursorAt aMmade M_bits M_from M_askMany M_askLeast M_askGreatest M_askSum, rI aMmany cI 240 M_many, rI aMvalues cI 15360 M_values] → lv_has ls 4 [(2, .int v2_10)] → W p l e rm_X10_leastOf s m args below meth c H locs 0 0 QQ (F0 m 59 ls []) := by
    clear hw0 hl3 ls3 hL_6
    intro H23 locs23 ls23 hw23 hl23
    refine lv_iload_n hx hb dX10_leastOf_59 rfl (lv_at hl23 0 rfl) ?_
    cases hfin
    rw [hQQ]
    exact ct_iret hx hb hr hlocks hw23.1 hw23.2.1 hw23.2.2 dX10_leastOf_60
  have lp_8 : ∀ (n : Nat) (v2_4 : Int32) (v3_5 : Int32), lp_X10_leastOf_12 M_many M_values p0 n v2_4 v3_5 = some (v2_10) → ∀ (H : Heap) (locs : List Loc) (ls : Array Slot), wS G A s H locs [oX10 aM M_thrown M_series M_most M_ratio aMdisk M_writes M_fuse M_down M_recovers M_looks M_unpacked aMits aMmany aMplace aMlength aMtimes aMvalues aMorder M_chunks M_epoch M_side aMheadOf aMheadTime aMheadValue M_logged aMnext aMisNew M_nexts aMcursorTime aMcursorValue M_hasCursor M_cursorMany M_cursorAt aMmade M_bits M_from M_askMany M_askLeast M_askGreatest M_askSum, rI aMmany cI 240 M_many, rI aMvalues cI 15360 M_values] → lv_has ls 4 [(0, .ref aM), (1, .int p0), (2, .int v2_4), (3, .int v3_5)] → W p l e rm_X10_leastOf s m args below meth c H locs 0 0 QQ (F0 m 12 ls []) := by
    clear hw0 hl3 ls3 hfin
    intro n
    induction n with
    | zero =>
      intro v2_4 v3_5 hB_9
      exact absurd hB_9 (by rw [lp_X10_leastOf_12]; exact fun h9 => nomatch h9)
    | succ n ih =>
      intro v2_4 v3_5 hB_9 H11 locs11 ls11 hw11 hl11
      rw [lp_X10_leastOf_12] at hB_9
      refine lv_iload_n hx hb dX10_leastOf_12 rfl (lv_at hl11 3 rfl) ?_
      refine lv_aload_n hx hb dX10_leastOf_13 rfl (lv_at hl11 0 rfl) ?_
      refine va_get (D := G) (ci := 10) (v := .ref aMmany) (C := RX10) (T := TX10) (N := 40) hx hb htc iX10 hown hK hw11.1 0 rfl rfl 12 (by decide) (htc _ mw_959) (fun _ h9 => h9) rfl dX10_leastOf_14 ?_
      refine lv_iload_n hx hb dX10_leastOf_17 rfl (lv_at hl11 1 rfl) ?_
      replace hB_9 := ckb_some hB_9
      obtain ⟨hin_12, hB_9⟩ := hB_9
      refine va_iald hx hb hK hw11.1 1 0 rfl rfl hin_12 dX10_leastOf_18 ?_
      refine lv_icmp_ge (tgt := 59) hx hb dX10_leastOf_19 (by decide) (fun c_13 => ?_) (fun c_13 => ?_)
      · replace hB_9 := it_t c_13 hB_9
        cases hB_9
        exact kx_7 _ _ _ hw11 (lv_sub hl11 [2] rfl)
      · replace hB_9 := it_f c_13 hB_9
        refine lv_aload_n hx hb dX10_leastOf_22 rfl (lv_at hl11 0 rfl) ?_
        refine va_get (D := G) (ci := 10) (v := .ref aMvalues) (C := RX10) (T := TX10) (N := 40) hx hb htc iX10 hown hK hw11.1 0 rfl rfl 16 (by decide) (htc _ mw_963) (fun _ h9 => h9) rfl dX10_leastOf_23 ?_
        refine lv_bipush (v := (64 : Int32)) hx hb dX10_leastOf_26 (by decide) ?_
        refine lv_iload_n hx hb dX10_leastOf_28 rfl (lv_at hl11 1 rfl) ?_
        refine lv_imul hx hb dX10_leastOf_29 ?_
        refine lv_iload_n hx hb dX10_leastOf_30 rfl (lv_at hl11 3 rfl) ?_
        refine lv_iadd hx hb dX10_leastOf_31 ?_
        replace hB_9 := ckb_some hB_9
        obtain ⟨hin_14, hB_9⟩ := hB_9
        refine va_iald hx hb hK hw11.1 2 0 rfl rfl hin_14 dX10_leastOf_32 ?_
        refine lv_iload_n hx hb dX10_leastOf_33 rfl (lv_at hl11 2 rfl) ?_
        replace hB_9 := ob1_some hB_9
        obtain ⟨s_15, hJ_16, hB_9⟩ := hB_9
        have kj_17 : ∀ (H : Heap) (locs : List Loc) (ls : Array Slot), wS G A s H locs [oX10 aM M_thrown M_series M_most M_ratio aMdisk M_writes M_fuse M_down M_recovers M_looks M_unpacked aMits aMmany aMplace aMlength aMtimes aMvalues aMorder M_chunks M_epoch M_side aMheadOf aMheadTime aMheadValue M_logged aMnext aMisNew M_nexts aMcursorTime aMcursorValue M_hasCursor M_cursorMany M_cursorAt aMmade M_bits M_from M_askMany M_askLeast M_askGreatest M_askSum, rI aMmany cI 240 M_many, rI aMvalues cI 15360 M_values] → lv_has ls 4 [(0, .ref aM), (1, .int p0), (3, .int v3_5)] → W p l e rm_X10_leastOf s m args below meth c H locs 0 0 QQ (F0 m 52 ls [.int s_15]) := by
          clear hw11 H11 locs11 hl11 ls11 hJ_16
          intro H20 locs20 ls20 hw20 hl20
          refine lv_istore_n (lv' := [(2, .int s_15), (0, .ref aM), (1, .int p0), (3, .int v3_5)]) hx hb dX10_leastOf_52 rfl hl20 (by decide) rfl (fun ls21 hl21 => ?_)
          clear hl20 ls20
          refine lv_iinc (v := (v3_5 + (1 : Int32))) (lv' := [(3, .int (v3_5 + (1 : Int32))), (2, .int s_15), (0, .ref aM), (1, .int p0)]) hx hb dX10_leastOf_53 hl21 (k := 3) rfl rfl (by decide) rfl (fun ls22 hl22 => ?_)
          clear hl21 ls21
          refine lv_goto (tgt := 12) hx hb dX10_leastOf_56 (by decide) ?_
          exact ih s_15 (v3_5 + (1 : Int32)) hB_9 _ _ _ hw20 (lv_sub hl22 [2, 3, 1, 0] rfl)
        clear hB_9
        refine lv_icmp_ge (tgt := 51) hx hb dX10_leastOf_34 (by decide) (fun c_18 => ?_) (fun c_18 => ?_)
        · replace hJ_16 := it_t c_18 hJ_16
          refine lv_iload_n hx hb dX10_leastOf_51 rfl (lv_at hl11 2 rfl) ?_
          cases hJ_16
          exact kj_17 _ _ _ hw11 (lv_sub hl11 [0, 1, 3] rfl)
        · replace hJ_16 := it_f c_18 hJ_16
          refine lv_aload_n hx hb dX10_leastOf_37 rfl (lv_at hl11 0 rfl) ?_
          refine va_get (D := G) (ci := 10) (v := .ref aMvalues) (C := RX10) (T := TX10) (N := 40) hx hb htc iX10 hown hK hw11.1 0 rfl rfl 16 (by decide) (htc _ mw_963) (fun _ h9 => h9) rfl dX10_leastOf_38 ?_
          refine lv_bipush (v := (64 : Int32)) hx hb dX10_leastOf_41 (by decide) ?_
          refine lv_iload_n hx hb dX10_leastOf_43 rfl (lv_at hl11 1 rfl) ?_
          refine lv_imul hx hb dX10_leastOf_44 ?_
          refine lv_iload_n hx hb dX10_leastOf_45 rfl (lv_at hl11 3 rfl) ?_
          refine lv_iadd hx hb dX10_leastOf_46 ?_
          replace hJ_16 := ckb_some hJ_16
          obtain ⟨hin_19, hJ_16⟩ := hJ_16
          refine va_iald hx hb hK hw11.1 2 0 rfl rfl hin_19 dX10_leastOf_47 ?_
          refine lv_goto (tgt := 52) hx hb dX10_leastOf_48 (by decide) ?_
          cases hJ_16
          exact kj_17 _ _ _ hw11 (lv_sub hl11 [0, 1, 3] rfl)
  exact lp_8 NN (M_values (Int32.toNatClampNeg ((64 : Int32) * p0))) (1 : Int32) hL_6 _ _ _ hw0 (lv_sub hl3 [2, 3, 1, 0] rfl)
