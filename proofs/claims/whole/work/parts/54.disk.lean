theorem dX2_read_0 : decode cX2_read 0 = .ok (.iload_n 1, 1) := by decide +kernel
theorem dX2_read_1 : decode cX2_read 1 = .ok (.ifCond .lt 19, 3) := by decide +kernel
theorem dX2_read_4 : decode cX2_read 4 = .ok (.iload_n 1, 1) := by decide +kernel
theorem dX2_read_5 : decode cX2_read 5 = .ok (.sipush 4096, 3) := by decide +kernel
theorem dX2_read_8 : decode cX2_read 8 = .ok (.if_icmp .ge 12, 3) := by decide +kernel
theorem dX2_read_11 : decode cX2_read 11 = .ok (.aload_n 0, 1) := by decide +kernel
theorem dX2_read_12 : decode cX2_read 12 = .ok (.getfield 9, 3) := by decide +kernel
theorem dX2_read_15 : decode cX2_read 15 = .ok (.iload_n 1, 1) := by decide +kernel
theorem dX2_read_16 : decode cX2_read 16 = .ok (.iaload, 1) := by decide +kernel
theorem dX2_read_17 : decode cX2_read 17 = .ok (.goto 4, 3) := by decide +kernel
theorem dX2_read_20 : decode cX2_read 20 = .ok (.iconst 0, 1) := by decide +kernel
theorem dX2_read_21 : decode cX2_read 21 = .ok (.ireturn, 1) := by decide +kernel
theorem dX2_write_0 : decode cX2_write 0 = .ok (.aload_n 0, 1) := by decide +kernel
theorem dX2_write_1 : decode cX2_write 1 = .ok (.getfield 19, 3) := by decide +kernel
theorem dX2_write_4 : decode cX2_write 4 = .ok (.ifCond .ne 10, 3) := by decide +kernel
theorem dX2_write_7 : decode cX2_write 7 = .ok (.aload_n 0, 1) := by decide +kernel
theorem dX2_write_8 : decode cX2_write 8 = .ok (.iconst 1, 1) := by decide +kernel
theorem dX2_write_9 : decode cX2_write 9 = .ok (.putfield 22, 3) := by decide +kernel
theorem dX2_write_12 : decode cX2_write 12 = .ok (.iconst 0, 1) := by decide +kernel
theorem dX2_write_13 : decode cX2_write 13 = .ok (.ireturn, 1) := by decide +kernel
theorem dX2_write_14 : decode cX2_write 14 = .ok (.aload_n 0, 1) := by decide +kernel
theorem dX2_write_15 : decode cX2_write 15 = .ok (.getfield 19, 3) := by decide +kernel
theorem dX2_write_18 : decode cX2_write 18 = .ok (.ifCond .le 13, 3) := by decide +kernel
theorem dX2_write_21 : decode cX2_write 21 = .ok (.aload_n 0, 1) := by decide +kernel
theorem dX2_write_22 : decode cX2_write 22 = .ok (.dup, 1) := by decide +kernel
theorem dX2_write_23 : decode cX2_write 23 = .ok (.getfield 19, 3) := by decide +kernel
theorem dX2_write_26 : decode cX2_write 26 = .ok (.iconst 1, 1) := by decide +kernel
theorem dX2_write_27 : decode cX2_write 27 = .ok (.isub, 1) := by decide +kernel
theorem dX2_write_28 : decode cX2_write 28 = .ok (.putfield 19, 3) := by decide +kernel
theorem dX2_write_31 : decode cX2_write 31 = .ok (.iload_n 1, 1) := by decide +kernel
theorem dX2_write_32 : decode cX2_write 32 = .ok (.ifCond .lt 17, 3) := by decide +kernel
theorem dX2_write_35 : decode cX2_write 35 = .ok (.iload_n 1, 1) := by decide +kernel
theorem dX2_write_36 : decode cX2_write 36 = .ok (.sipush 4096, 3) := by decide +kernel
theorem dX2_write_39 : decode cX2_write 39 = .ok (.if_icmp .ge 10, 3) := by decide +kernel
theorem dX2_write_42 : decode cX2_write 42 = .ok (.aload_n 0, 1) := by decide +kernel
theorem dX2_write_43 : decode cX2_write 43 = .ok (.getfield 9, 3) := by decide +kernel
theorem dX2_write_46 : decode cX2_write 46 = .ok (.iload_n 1, 1) := by decide +kernel
theorem dX2_write_47 : decode cX2_write 47 = .ok (.iload_n 2, 1) := by decide +kernel
theorem dX2_write_48 : decode cX2_write 48 = .ok (.iastore, 1) := by decide +kernel
theorem dX2_write_49 : decode cX2_write 49 = .ok (.aload_n 0, 1) := by decide +kernel
theorem dX2_write_50 : decode cX2_write 50 = .ok (.dup, 1) := by decide +kernel
theorem dX2_write_51 : decode cX2_write 51 = .ok (.getfield 15, 3) := by decide +kernel
theorem dX2_write_54 : decode cX2_write 54 = .ok (.iconst 1, 1) := by decide +kernel
theorem dX2_write_55 : decode cX2_write 55 = .ok (.iadd, 1) := by decide +kernel
theorem dX2_write_56 : decode cX2_write 56 = .ok (.putfield 15, 3) := by decide +kernel
theorem dX2_write_59 : decode cX2_write 59 = .ok (.iconst 1, 1) := by decide +kernel
theorem dX2_write_60 : decode cX2_write 60 = .ok (.ireturn, 1) := by decide +kernel
theorem dX2_epoch_0 : decode cX2_epoch 0 = .ok (.aload_n 0, 1) := by decide +kernel
theorem dX2_epoch_1 : decode cX2_epoch 1 = .ok (.getfield 9, 3) := by decide +kernel
theorem dX2_epoch_4 : decode cX2_epoch 4 = .ok (.iconst 0, 1) := by decide +kernel
theorem dX2_epoch_5 : decode cX2_epoch 5 = .ok (.iaload, 1) := by decide +kernel
theorem dX2_epoch_6 : decode cX2_epoch 6 = .ok (.iconst 1, 1) := by decide +kernel
theorem dX2_epoch_7 : decode cX2_epoch 7 = .ok (.ishr, 1) := by decide +kernel
theorem dX2_epoch_8 : decode cX2_epoch 8 = .ok (.ireturn, 1) := by decide +kernel
theorem dX2_side_0 : decode cX2_side 0 = .ok (.aload_n 0, 1) := by decide +kernel
theorem dX2_side_1 : decode cX2_side 1 = .ok (.getfield 9, 3) := by decide +kernel
theorem dX2_side_4 : decode cX2_side 4 = .ok (.iconst 0, 1) := by decide +kernel
theorem dX2_side_5 : decode cX2_side 5 = .ok (.iaload, 1) := by decide +kernel
theorem dX2_side_6 : decode cX2_side 6 = .ok (.iconst 1, 1) := by decide +kernel
theorem dX2_side_7 : decode cX2_side 7 = .ok (.iand, 1) := by decide +kernel
theorem dX2_side_8 : decode cX2_side 8 = .ok (.ireturn, 1) := by decide +kernel
theorem dX2_limitWrites_0 : decode cX2_limitWrites 0 = .ok (.aload_n 0, 1) := by decide +kernel
theorem dX2_limitWrites_1 : decode cX2_limitWrites 1 = .ok (.iload_n 1, 1) := by decide +kernel
theorem dX2_limitWrites_2 : decode cX2_limitWrites 2 = .ok (.putfield 19, 3) := by decide +kernel
theorem dX2_limitWrites_5 : decode cX2_limitWrites 5 = .ok (.return_, 1) := by decide +kernel
theorem dX2_powerOn_0 : decode cX2_powerOn 0 = .ok (.aload_n 0, 1) := by decide +kernel
theorem dX2_powerOn_1 : decode cX2_powerOn 1 = .ok (.iconst (-1), 1) := by decide +kernel
theorem dX2_powerOn_2 : decode cX2_powerOn 2 = .ok (.putfield 19, 3) := by decide +kernel
theorem dX2_powerOn_5 : decode cX2_powerOn 5 = .ok (.aload_n 0, 1) := by decide +kernel
theorem dX2_powerOn_6 : decode cX2_powerOn 6 = .ok (.iconst 0, 1) := by decide +kernel
theorem dX2_powerOn_7 : decode cX2_powerOn 7 = .ok (.putfield 22, 3) := by decide +kernel
theorem dX2_powerOn_10 : decode cX2_powerOn 10 = .ok (.return_, 1) := by decide +kernel
theorem dX2_isDown_0 : decode cX2_isDown 0 = .ok (.aload_n 0, 1) := by decide +kernel
theorem dX2_isDown_1 : decode cX2_isDown 1 = .ok (.getfield 22, 3) := by decide +kernel
theorem dX2_isDown_4 : decode cX2_isDown 4 = .ok (.ireturn, 1) := by decide +kernel
theorem dX2_writesDone_0 : decode cX2_writesDone 0 = .ok (.aload_n 0, 1) := by decide +kernel
theorem dX2_writesDone_1 : decode cX2_writesDone 1 = .ok (.getfield 15, 3) := by decide +kernel
theorem dX2_writesDone_4 : decode cX2_writesDone 4 = .ok (.ireturn, 1) := by decide +kernel
theorem dX2_writesLeft_0 : decode cX2_writesLeft 0 = .ok (.aload_n 0, 1) := by decide +kernel
theorem dX2_writesLeft_1 : decode cX2_writesLeft 1 = .ok (.getfield 19, 3) := by decide +kernel
theorem dX2_writesLeft_4 : decode cX2_writesLeft 4 = .ok (.ireturn, 1) := by decide +kernel
abbrev rm_X2_isDown : Room := { frames := 0, cells := 0, slots := 0, locals := 0 }
theorem hd_X2_isDown : yX2_isDown.cls = RX2 ∧ yX2_isDown.cls ≠ "java/lang/invoke/MethodHandle" ∧ yX2_isDown.cls ≠ "java/lang/invoke/VarHandle" ∧ (parseMethodDescriptor yX2_isDown.desc).map (fun d => d.parameters.length) = some 0 := by decide +kernel
set_option maxHeartbeats 4000000 in
set_option maxRecDepth 100000 in
theorem c_X2_isDown (l : Launch) (G : va_G) (cI cZ cJ : ClassId) (aD aDc : Nat) (D_writesDone : Int32) (D_writesLeft : Int32) (D_down : Int32)  {r : Int32} (hfin : m_X2_isDown D_down = some (r)) : CT l yX2_isDown cX2_isDown 1 (some .boolean) rm_X2_isDown G (tyC cI cZ cJ) [.ref aD] [oX2 aD aDc D_writesDone D_writesLeft D_down] (some (.int r)) [oX2 aD aDc D_writesDone D_writesLeft D_down] := by
  refine CT.ofW (lvl := [(0, .ref aD)]) (by decide) (Nat.le_of_ble_eq_true rfl) rfl ?_
  intro p e s m args below meth c A ls0 QQ hQQ hx hb hml hr hlocks htc hN hown hK hA hw0 hl0
  rw [m_X2_isDown] at hfin
  refine lv_aload_n hx hb dX2_isDown_0 rfl (lv_at hl0 0 rfl) ?_
  refine va_get (D := G) (ci := 2) (v := .int D_down) (C := RX2) (T := TX2) (N := 4) hx hb htc iX2 hown hK hw0.1 0 rfl rfl 3 (by decide) (htc _ mw_45) (fun _ h9 => h9) rfl dX2_isDown_1 ?_
  replace hfin := ckz_some hfin
  obtain ⟨hz_1, hfin⟩ := hfin
  cases hfin
  rw [hQQ]
  exact ct_zret hx hb hr hlocks hz_1 hw0.1 hw0.2.1 hw0.2.2 dX2_isDown_4
abbrev rm_X2_read : Room := { frames := 0, cells := 0, slots := 0, locals := 0 }
theorem hd_X2_read : yX2_read.cls = RX2 ∧ yX2_read.cls ≠ "java/lang/invoke/MethodHandle" ∧ yX2_read.cls ≠ "java/lang/invoke/VarHandle" ∧ (parseMethodDescriptor yX2_read.desc).map (fun d => d.parameters.length) = some 1 := by decide +kernel
set_option maxHeartbeats 4000000 in
set_option maxRecDepth 100000 in
theorem c_X2_read (l : Launch) (G : va_G) (cI cZ cJ : ClassId) (aD aDc : Nat) (D_writesDone : Int32) (D_writesLeft : Int32) (D_down : Int32) (D_cells : Nat → Int32) (p0 : Int32) {r : Int32} (hfin : m_X2_read D_cells p0 = some (r)) : CT l yX2_read cX2_read 2 (some .int) rm_X2_read G (tyC cI cZ cJ) [.ref aD, .int p0] [oX2 aD aDc D_writesDone D_writesLeft D_down, rI aDc cI 4096 D_cells] (some (.int r)) [oX2 aD aDc D_writesDone D_writesLeft D_down, rI aDc cI 4096 D_cells] := by
  refine CT.ofW (lvl := [(0, .ref aD), (1, .int p0)]) (by decide) (Nat.le_of_ble_eq_true rfl) rfl ?_
  intro p e s m args below meth c A ls0 QQ hQQ hx hb hml hr hlocks htc hN hown hK hA hw0 hl0
  rw [m_X2_read] at hfin
  refine lv_iload_n hx hb dX2_read_0 rfl (lv_at hl0 1 rfl) ?_
  replace hfin := ob1_some hfin
  obtain ⟨s_1, hJ_2, hfin⟩ := hfin
  have kj_3 : ∀ (H : Heap) (locs : List Loc) (ls : Array Slot), wS G A s H locs [oX2 aD aDc D_writesDone D_writesLeft D_down, rI aDc cI 4096 D_cells] → lv_has ls 2 [] → W p l e rm_X2_read s m args below meth c H locs 0 0 QQ (F0 m 21 ls [.int s_1]) := by
    clear hw0 hl0 ls0 hJ_2
    intro H7 locs7 ls7 hw7 hl7
    cases hfin
    rw [hQQ]
    exact ct_iret hx hb hr hlocks hw7.1 hw7.2.1 hw7.2.2 dX2_read_21
  clear hfin
  refine lv_if_lt (tgt := 20) hx hb dX2_read_1 (by decide) (fun c_4 => ?_) (fun c_4 => ?_)
  · replace hJ_2 := it_t c_4 hJ_2
    refine lv_iconst (v := (0 : Int32)) hx hb dX2_read_20 (by decide) ?_
    cases hJ_2
    exact kj_3 _ _ _ hw0 (lv_sub hl0 [] rfl)
  · replace hJ_2 := it_f c_4 hJ_2
    refine lv_iload_n hx hb dX2_read_4 rfl (lv_at hl0 1 rfl) ?_
    refine lv_sipush (v := (4096 : Int32)) hx hb dX2_read_5 (by decide) ?_
    refine lv_icmp_ge (tgt := 20) hx hb dX2_read_8 (by decide) (fun c_5 => ?_) (fun c_5 => ?_)
    · replace hJ_2 := it_t c_5 hJ_2
      refine lv_iconst (v := (0 : Int32)) hx hb dX2_read_20 (by decide) ?_
      cases hJ_2
      exact kj_3 _ _ _ hw0 (lv_sub hl0 [] rfl)
    · replace hJ_2 := it_f c_5 hJ_2
      refine lv_aload_n hx hb dX2_read_11 rfl (lv_at hl0 0 rfl) ?_
      refine va_get (D := G) (ci := 2) (v := .ref aDc) (C := RX2) (T := TX2) (N := 4) hx hb htc iX2 hown hK hw0.1 0 rfl rfl 0 (by decide) (htc _ mw_42) (fun _ h9 => h9) rfl dX2_read_12 ?_
      refine lv_iload_n hx hb dX2_read_15 rfl (lv_at hl0 1 rfl) ?_
      replace hJ_2 := ckb_some hJ_2
      obtain ⟨hin_6, hJ_2⟩ := hJ_2
      refine va_iald hx hb hK hw0.1 1 0 rfl rfl hin_6 dX2_read_16 ?_
      refine lv_goto (tgt := 21) hx hb dX2_read_17 (by decide) ?_
      cases hJ_2
      exact kj_3 _ _ _ hw0 (lv_sub hl0 [] rfl)
abbrev rm_X2_side : Room := { frames := 0, cells := 0, slots := 0, locals := 0 }
theorem hd_X2_side : yX2_side.cls = RX2 ∧ yX2_side.cls ≠ "java/lang/invoke/MethodHandle" ∧ yX2_side.cls ≠ "java/lang/invoke/VarHandle" ∧ (parseMethodDescriptor yX2_side.desc).map (fun d => d.parameters.length) = some 0 := by decide +kernel
set_option maxHeartbeats 4000000 in
set_option maxRecDepth 100000 in
theorem c_X2_side (l : Launch) (G : va_G) (cI cZ cJ : ClassId) (aD aDc : Nat) (D_writesDone : Int32) (D_writesLeft : Int32) (D_down : Int32) (D_cells : Nat → Int32)  {r : Int32} (hfin : m_X2_side D_cells = some (r)) : CT l yX2_side cX2_side 1 (some .int) rm_X2_side G (tyC cI cZ cJ) [.ref aD] [oX2 aD aDc D_writesDone D_writesLeft D_down, rI aDc cI 4096 D_cells] (some (.int r)) [oX2 aD aDc D_writesDone D_writesLeft D_down, rI aDc cI 4096 D_cells] := by
  refine CT.ofW (lvl := [(0, .ref aD)]) (by decide) (Nat.le_of_ble_eq_true rfl) rfl ?_
  intro p e s m args below meth c A ls0 QQ hQQ hx hb hml hr hlocks htc hN hown hK hA hw0 hl0
  rw [m_X2_side] at hfin
  refine lv_aload_n hx hb dX2_side_0 rfl (lv_at hl0 0 rfl) ?_
  refine va_get (D := G) (ci := 2) (v := .ref aDc) (C := RX2) (T := TX2) (N := 4) hx hb htc iX2 hown hK hw0.1 0 rfl rfl 0 (by decide) (htc _ mw_42) (fun _ h9 => h9) rfl dX2_side_1 ?_
  refine lv_iconst (v := (0 : Int32)) hx hb dX2_side_4 (by decide) ?_
  replace hfin := ckb_some hfin
  obtain ⟨hin_1, hfin⟩ := hfin
  refine va_iald hx hb hK hw0.1 1 0 rfl rfl hin_1 dX2_side_5 ?_
  refine lv_iconst (v := (1 : Int32)) hx hb dX2_side_6 (by decide) ?_
  refine lv_iand hx hb dX2_side_7 ?_
  cases hfin
  rw [hQQ]
  exact ct_iret hx hb hr hlocks hw0.1 hw0.2.1 hw0.2.2 dX2_side_8
abbrev rm_X2_write : Room := { frames := 0, cells := 0, slots := 0, locals := 0 }
theorem hd_X2_write : yX2_write.cls = RX2 ∧ yX2_write.cls ≠ "java/lang/invoke/MethodHandle" ∧ yX2_write.cls ≠ "java/lang/invoke/VarHandle" ∧ (parseMethodDescriptor yX2_write.desc).map (fun d => d.parameters.length) = some 2 := by decide +kernel
set_option maxHeartbeats 4000000 in
set_option maxRecDepth 100000 in
theorem c_X2_write (l : Launch) (G : va_G) (cI cZ cJ : ClassId) (aD aDc : Nat) (D_writesDone : Int32) (D_writesLeft : Int32) (D_down : Int32) (D_cells : Nat → Int32) (p0 : Int32) (p1 : Int32) {r : Int32} {o_D_writesDone : Int32} {o_D_writesLeft : Int32} {o_D_down : Int32} {o_D_cells : Nat → Int32} (hfin : m_X2_write D_writesDone D_writesLeft D_down D_cells p0 p1 = some (r, o_D_writesDone, o_D_writesLeft, o_D_down, o_D_cells)) : CT l yX2_write cX2_write 3 (some .boolean) rm_X2_write G (tyC cI cZ cJ) [.ref aD, .int p0, .int p1] [oX2 aD aDc D_writesDone D_writesLeft D_down, rI aDc cI 4096 D_cells] (some (.int r)) [oX2 aD aDc o_D_writesDone o_D_writesLeft o_D_down, rI aDc cI 4096 o_D_cells] := by
  refine CT.ofW (lvl := [(0, .ref aD), (1, .int p0), (2, .int p1)]) (by decide) (Nat.le_of_ble_eq_true rfl) rfl ?_
  intro p e s m args below meth c A ls0 QQ hQQ hx hb hml hr hlocks htc hN hown hK hA hw0 hl0
  rw [m_X2_write] at hfin
  refine lv_aload_n hx hb dX2_write_0 rfl (lv_at hl0 0 rfl) ?_
  refine va_get (D := G) (ci := 2) (v := .int D_writesLeft) (C := RX2) (T := TX2) (N := 4) hx hb htc iX2 hown hK hw0.1 0 rfl rfl 2 (by decide) (htc _ mw_44) (fun _ h9 => h9) rfl dX2_write_1 ?_
  refine lv_if_ne (tgt := 14) hx hb dX2_write_4 (by decide) (fun c_1 => ?_) (fun c_1 => ?_)
  · replace hfin := it_f c_1 hfin
    refine lv_aload_n hx hb dX2_write_14 rfl (lv_at hl0 0 rfl) ?_
    refine va_get (D := G) (ci := 2) (v := .int D_writesLeft) (C := RX2) (T := TX2) (N := 4) hx hb htc iX2 hown hK hw0.1 0 rfl rfl 2 (by decide) (htc _ mw_44) (fun _ h9 => h9) rfl dX2_write_15 ?_
    replace hfin := ob1_some hfin
    obtain ⟨D_writesLeft_2, hJ_3, hfin⟩ := hfin
    have kj_4 : ∀ (H : Heap) (locs : List Loc) (ls : Array Slot), wS G A s H locs [oX2 aD aDc D_writesDone D_writesLeft_2 D_down, rI aDc cI 4096 D_cells] → lv_has ls 3 [(0, .ref aD), (1, .int p0), (2, .int p1)] → W p l e rm_X2_write s m args below meth c H locs 0 0 QQ (F0 m 31 ls []) := by
      clear hw0 hl0 ls0 hJ_3
      intro H7 locs7 ls7 hw7 hl7
      refine lv_iload_n hx hb dX2_write_31 rfl (lv_at hl7 1 rfl) ?_
      replace hfin := ob1_some hfin
      obtain ⟨D_cells_8, hJ_9, hfin⟩ := hfin
      have kj_10 : ∀ (H : Heap) (locs : List Loc) (ls : Array Slot), wS G A s H locs [oX2 aD aDc D_writesDone D_writesLeft_2 D_down, rI aDc cI 4096 D_cells_8] → lv_has ls 3 [(0, .ref aD)] → W p l e rm_X2_write s m args below meth c H locs 0 0 QQ (F0 m 49 ls []) := by
        clear hw7 H7 locs7 hl7 ls7 hJ_9
        intro H15 locs15 ls15 hw15 hl15
        refine lv_aload_n hx hb dX2_write_49 rfl (lv_at hl15 0 rfl) ?_
        refine lv_dup hx hb dX2_write_50 rfl ?_
        refine va_get (D := G) (ci := 2) (v := .int D_writesDone) (C := RX2) (T := TX2) (N := 4) hx hb htc iX2 hown hK hw15.1 0 rfl rfl 1 (by decide) (htc _ mw_43) (fun _ h9 => h9) rfl dX2_write_51 ?_
        refine lv_iconst (v := (1 : Int32)) hx hb dX2_write_54 (by decide) ?_
        refine lv_iadd hx hb dX2_write_55 ?_
        refine va_put (D := G) (ci := 2) (v := .int (D_writesDone + (1 : Int32))) (ty := .int) (C := RX2) (T := TX2) (N := 4) hx hb htc iX2 tyX2 tyX2_ok nmX2 hown hK hw15.1 hw15.2.1 hw15.2.2 0 rfl rfl 1 (by decide) (htc _ mw_43) (fun _ h9 => h9) rfl (tyX2_ok 1 (by decide)) rfl rfl (Nat.le_of_ble_eq_true rfl) dX2_write_56 (fun H16 locs16 hP hD hS => ?_)
        have hw16 : wS G A s H16 locs16 [oX2 aD aDc (D_writesDone + (1 : Int32)) D_writesLeft_2 D_down, rI aDc cI 4096 D_cells_8] := ⟨hP, hD, hS⟩
        clear hP hD hS hw15 H15 locs15
        refine lv_iconst (v := (1 : Int32)) hx hb dX2_write_59 (by decide) ?_
        cases hfin
        rw [hQQ]
        exact ct_zret hx hb hr hlocks (Or.inr rfl) hw16.1 hw16.2.1 hw16.2.2 dX2_write_60
      clear hfin
      refine lv_if_lt (tgt := 49) hx hb dX2_write_32 (by decide) (fun c_11 => ?_) (fun c_11 => ?_)
      · replace hJ_9 := it_t c_11 hJ_9
        cases hJ_9
        exact kj_10 _ _ _ hw7 (lv_sub hl7 [0] rfl)
      · replace hJ_9 := it_f c_11 hJ_9
        refine lv_iload_n hx hb dX2_write_35 rfl (lv_at hl7 1 rfl) ?_
        refine lv_sipush (v := (4096 : Int32)) hx hb dX2_write_36 (by decide) ?_
        refine lv_icmp_ge (tgt := 49) hx hb dX2_write_39 (by decide) (fun c_12 => ?_) (fun c_12 => ?_)
        · replace hJ_9 := it_t c_12 hJ_9
          cases hJ_9
          exact kj_10 _ _ _ hw7 (lv_sub hl7 [0] rfl)
        · replace hJ_9 := it_f c_12 hJ_9
          refine lv_aload_n hx hb dX2_write_42 rfl (lv_at hl7 0 rfl) ?_
          refine va_get (D := G) (ci := 2) (v := .ref aDc) (C := RX2) (T := TX2) (N := 4) hx hb htc iX2 hown hK hw7.1 0 rfl rfl 0 (by decide) (htc _ mw_42) (fun _ h9 => h9) rfl dX2_write_43 ?_
          refine lv_iload_n hx hb dX2_write_46 rfl (lv_at hl7 1 rfl) ?_
          refine lv_iload_n hx hb dX2_write_47 rfl (lv_at hl7 2 rfl) ?_
          replace hJ_9 := ckb_some hJ_9
          obtain ⟨hin_13, hJ_9⟩ := hJ_9
          refine va_iast hx hb hK hw7.1 hw7.2.1 hw7.2.2 1 0 rfl rfl hin_13 dX2_write_48 (fun H14 locs14 hP hD hS => ?_)
          have hw14 : wS G A s H14 locs14 [oX2 aD aDc D_writesDone D_writesLeft_2 D_down, rI aDc cI 4096 (upd D_cells (Int32.toNatClampNeg p0) p1)] := ⟨hP, hD, hS⟩
          clear hP hD hS hw7 H7 locs7
          cases hJ_9
          exact kj_10 _ _ _ hw14 (lv_sub hl7 [0] rfl)
    clear hfin
    refine lv_if_le (tgt := 31) hx hb dX2_write_18 (by decide) (fun c_5 => ?_) (fun c_5 => ?_)
    · replace hJ_3 := it_t c_5 hJ_3
      cases hJ_3
      exact kj_4 _ _ _ hw0 (lv_sub hl0 [0, 1, 2] rfl)
    · replace hJ_3 := it_f c_5 hJ_3
      refine lv_aload_n hx hb dX2_write_21 rfl (lv_at hl0 0 rfl) ?_
      refine lv_dup hx hb dX2_write_22 rfl ?_
      refine va_get (D := G) (ci := 2) (v := .int D_writesLeft) (C := RX2) (T := TX2) (N := 4) hx hb htc iX2 hown hK hw0.1 0 rfl rfl 2 (by decide) (htc _ mw_44) (fun _ h9 => h9) rfl dX2_write_23 ?_
      refine lv_iconst (v := (1 : Int32)) hx hb dX2_write_26 (by decide) ?_
      refine lv_isub hx hb dX2_write_27 ?_
      refine va_put (D := G) (ci := 2) (v := .int (D_writesLeft - (1 : Int32))) (ty := .int) (C := RX2) (T := TX2) (N := 4) hx hb htc iX2 tyX2 tyX2_ok nmX2 hown hK hw0.1 hw0.2.1 hw0.2.2 0 rfl rfl 2 (by decide) (htc _ mw_44) (fun _ h9 => h9) rfl (tyX2_ok 2 (by decide)) rfl rfl (Nat.le_of_ble_eq_true rfl) dX2_write_28 (fun H6 locs6 hP hD hS => ?_)
      have hw6 : wS G A s H6 locs6 [oX2 aD aDc D_writesDone (D_writesLeft - (1 : Int32)) D_down, rI aDc cI 4096 D_cells] := ⟨hP, hD, hS⟩
      clear hP hD hS hw0
      cases hJ_3
      exact kj_4 _ _ _ hw6 (lv_sub hl0 [0, 1, 2] rfl)
  · replace hfin := it_t c_1 hfin
    refine lv_aload_n hx hb dX2_write_7 rfl (lv_at hl0 0 rfl) ?_
    refine lv_iconst (v := (1 : Int32)) hx hb dX2_write_8 (by decide) ?_
    refine va_put (D := G) (ci := 2) (v := .int (1 : Int32)) (ty := .boolean) (C := RX2) (T := TX2) (N := 4) hx hb htc iX2 tyX2 tyX2_ok nmX2 hown hK hw0.1 hw0.2.1 hw0.2.2 0 rfl rfl 3 (by decide) (htc _ mw_45) (fun _ h9 => h9) rfl (tyX2_ok 3 (by decide)) rfl rfl (Nat.le_of_ble_eq_true rfl) dX2_write_9 (fun H17 locs17 hP hD hS => ?_)
    have hw17 : wS G A s H17 locs17 [oX2 aD aDc D_writesDone D_writesLeft (1 : Int32), rI aDc cI 4096 D_cells] := ⟨hP, hD, hS⟩
    clear hP hD hS hw0
    refine lv_iconst (v := (0 : Int32)) hx hb dX2_write_12 (by decide) ?_
    cases hfin
    rw [hQQ]
    exact ct_zret hx hb hr hlocks (Or.inl rfl) hw17.1 hw17.2.1 hw17.2.2 dX2_write_13
abbrev rm_X2_epoch : Room := { frames := 0, cells := 0, slots := 0, locals := 0 }
theorem hd_X2_epoch : yX2_epoch.cls = RX2 ∧ yX2_epoch.cls ≠ "java/lang/invoke/MethodHandle" ∧ yX2_epoch.cls ≠ "java/lang/invoke/VarHandle" ∧ (parseMethodDescriptor yX2_epoch.desc).map (fun d => d.parameters.length) = some 0 := by decide +kernel
set_option maxHeartbeats 4000000 in
set_option maxRecDepth 100000 in
theorem c_X2_epoch (l : Launch) (G : va_G) (cI cZ cJ : ClassId) (aD aDc : Nat) (D_writesDone : Int32) (D_writesLeft : Int32) (D_down : Int32) (D_cells : Nat → Int32)  {r : Int32} (hfin : m_X2_epoch D_cells = some (r)) : CT l yX2_epoch cX2_epoch 1 (some .int) rm_X2_epoch G (tyC cI cZ cJ) [.ref aD] [oX2 aD aDc D_writesDone D_writesLeft D_down, rI aDc cI 4096 D_cells] (some (.int r)) [oX2 aD aDc D_writesDone D_writesLeft D_down, rI aDc cI 4096 D_cells] := by
  refine CT.ofW (lvl := [(0, .ref aD)]) (by decide) (Nat.le_of_ble_eq_true rfl) rfl ?_
  intro p e s m args below meth c A ls0 QQ hQQ hx hb hml hr hlocks htc hN hown hK hA hw0 hl0
  rw [m_X2_epoch] at hfin
  refine lv_aload_n hx hb dX2_epoch_0 rfl (lv_at hl0 0 rfl) ?_
  refine va_get (D := G) (ci := 2) (v := .ref aDc) (C := RX2) (T := TX2) (N := 4) hx hb htc iX2 hown hK hw0.1 0 rfl rfl 0 (by decide) (htc _ mw_42) (fun _ h9 => h9) rfl dX2_epoch_1 ?_
  refine lv_iconst (v := (0 : Int32)) hx hb dX2_epoch_4 (by decide) ?_
  replace hfin := ckb_some hfin
  obtain ⟨hin_1, hfin⟩ := hfin
  refine va_iald hx hb hK hw0.1 1 0 rfl rfl hin_1 dX2_epoch_5 ?_
  refine lv_iconst (v := (1 : Int32)) hx hb dX2_epoch_6 (by decide) ?_
  refine lv_ishr hx hb dX2_epoch_7 ?_
  cases hfin
  rw [hQQ]
  exact ct_iret hx hb hr hlocks hw0.1 hw0.2.1 hw0.2.2 dX2_epoch_8
abbrev rm_X2_limitWrites : Room := { frames := 0, cells := 0, slots := 0, locals := 0 }
theorem hd_X2_limitWrites : yX2_limitWrites.cls = RX2 ∧ yX2_limitWrites.cls ≠ "java/lang/invoke/MethodHandle" ∧ yX2_limitWrites.cls ≠ "java/lang/invoke/VarHandle" ∧ (parseMethodDescriptor yX2_limitWrites.desc).map (fun d => d.parameters.length) = some 1 := by decide +kernel
set_option maxHeartbeats 4000000 in
set_option maxRecDepth 100000 in
theorem c_X2_limitWrites (l : Launch) (G : va_G) (cI cZ cJ : ClassId) (aD aDc : Nat) (D_writesDone : Int32) (D_writesLeft : Int32) (D_down : Int32) (p0 : Int32) {o_D_writesLeft : Int32} (hfin : m_X2_limitWrites D_writesLeft p0 = some (o_D_writesLeft)) : CT l yX2_limitWrites cX2_limitWrites 2 none rm_X2_limitWrites G (tyC cI cZ cJ) [.ref aD, .int p0] [oX2 aD aDc D_writesDone D_writesLeft D_down] none [oX2 aD aDc D_writesDone o_D_writesLeft D_down] := by
  refine CT.ofW (lvl := [(0, .ref aD), (1, .int p0)]) (by decide) (Nat.le_of_ble_eq_true rfl) rfl ?_
  intro p e s m args below meth c A ls0 QQ hQQ hx hb hml hr hlocks htc hN hown hK hA hw0 hl0
  rw [m_X2_limitWrites] at hfin
  refine lv_aload_n hx hb dX2_limitWrites_0 rfl (lv_at hl0 0 rfl) ?_
  refine lv_iload_n hx hb dX2_limitWrites_1 rfl (lv_at hl0 1 rfl) ?_
  refine va_put (D := G) (ci := 2) (v := .int p0) (ty := .int) (C := RX2) (T := TX2) (N := 4) hx hb htc iX2 tyX2 tyX2_ok nmX2 hown hK hw0.1 hw0.2.1 hw0.2.2 0 rfl rfl 2 (by decide) (htc _ mw_44) (fun _ h9 => h9) rfl (tyX2_ok 2 (by decide)) rfl rfl (Nat.le_of_ble_eq_true rfl) dX2_limitWrites_2 (fun H1 locs1 hP hD hS => ?_)
  have hw1 : wS G A s H1 locs1 [oX2 aD aDc D_writesDone p0 D_down] := ⟨hP, hD, hS⟩
  clear hP hD hS hw0
  cases hfin
  rw [hQQ]
  exact ct_vret hx hb hr hlocks hw1.1 hw1.2.1 hw1.2.2 dX2_limitWrites_5
abbrev rm_X2_powerOn : Room := { frames := 0, cells := 0, slots := 0, locals := 0 }
theorem hd_X2_powerOn : yX2_powerOn.cls = RX2 ∧ yX2_powerOn.cls ≠ "java/lang/invoke/MethodHandle" ∧ yX2_powerOn.cls ≠ "java/lang/invoke/VarHandle" ∧ (parseMethodDescriptor yX2_powerOn.desc).map (fun d => d.parameters.length) = some 0 := by decide +kernel
set_option maxHeartbeats 4000000 in
set_option maxRecDepth 100000 in
theorem c_X2_powerOn (l : Launch) (G : va_G) (cI cZ cJ : ClassId) (aD aDc : Nat) (D_writesDone : Int32) (D_writesLeft : Int32) (D_down : Int32)  {o_D_writesLeft : Int32} {o_D_down : Int32} (hfin : m_X2_powerOn D_writesLeft D_down = some (o_D_writesLeft, o_D_down)) : CT l yX2_powerOn cX2_powerOn 1 none rm_X2_powerOn G (tyC cI cZ cJ) [.ref aD] [oX2 aD aDc D_writesDone D_writesLeft D_down] none [oX2 aD aDc D_writesDone o_D_writesLeft o_D_down] := by
  refine CT.ofW (lvl := [(0, .ref aD)]) (by decide) (Nat.le_of_ble_eq_true rfl) rfl ?_
  intro p e s m args below meth c A ls0 QQ hQQ hx hb hml hr hlocks htc hN hown hK hA hw0 hl0
  rw [m_X2_powerOn] at hfin
  refine lv_aload_n hx hb dX2_powerOn_0 rfl (lv_at hl0 0 rfl) ?_
  refine lv_iconst (v := (-1 : Int32)) hx hb dX2_powerOn_1 (by decide) ?_
  refine va_put (D := G) (ci := 2) (v := .int (-1 : Int32)) (ty := .int) (C := RX2) (T := TX2) (N := 4) hx hb htc iX2 tyX2 tyX2_ok nmX2 hown hK hw0.1 hw0.2.1 hw0.2.2 0 rfl rfl 2 (by decide) (htc _ mw_44) (fun _ h9 => h9) rfl (tyX2_ok 2 (by decide)) rfl rfl (Nat.le_of_ble_eq_true rfl) dX2_powerOn_2 (fun H1 locs1 hP hD hS => ?_)
  have hw1 : wS G A s H1 locs1 [oX2 aD aDc D_writesDone (-1 : Int32) D_down] := ⟨hP, hD, hS⟩
  clear hP hD hS hw0
  refine lv_aload_n hx hb dX2_powerOn_5 rfl (lv_at hl0 0 rfl) ?_
  refine lv_iconst (v := (0 : Int32)) hx hb dX2_powerOn_6 (by decide) ?_
  refine va_put (D := G) (ci := 2) (v := .int (0 : Int32)) (ty := .boolean) (C := RX2) (T := TX2) (N := 4) hx hb htc iX2 tyX2 tyX2_ok nmX2 hown hK hw1.1 hw1.2.1 hw1.2.2 0 rfl rfl 3 (by decide) (htc _ mw_45) (fun _ h9 => h9) rfl (tyX2_ok 3 (by decide)) rfl rfl (Nat.le_of_ble_eq_true rfl) dX2_powerOn_7 (fun H2 locs2 hP hD hS => ?_)
  have hw2 : wS G A s H2 locs2 [oX2 aD aDc D_writesDone (-1 : Int32) (0 : Int32)] := ⟨hP, hD, hS⟩
  clear hP hD hS hw1 H1 locs1
  cases hfin
  rw [hQQ]
  exact ct_vret hx hb hr hlocks hw2.1 hw2.2.1 hw2.2.2 dX2_powerOn_10
abbrev rm_X2_writesDone : Room := { frames := 0, cells := 0, slots := 0, locals := 0 }
theorem hd_X2_writesDone : yX2_writesDone.cls = RX2 ∧ yX2_writesDone.cls ≠ "java/lang/invoke/MethodHandle" ∧ yX2_writesDone.cls ≠ "java/lang/invoke/VarHandle" ∧ (parseMethodDescriptor yX2_writesDone.desc).map (fun d => d.parameters.length) = some 0 := by decide +kernel
set_option maxHeartbeats 4000000 in
set_option maxRecDepth 100000 in
theorem c_X2_writesDone (l : Launch) (G : va_G) (cI cZ cJ : ClassId) (aD aDc : Nat) (D_writesDone : Int32) (D_writesLeft : Int32) (D_down : Int32)  {r : Int32} (hfin : m_X2_writesDone D_writesDone = some (r)) : CT l yX2_writesDone cX2_writesDone 1 (some .int) rm_X2_writesDone G (tyC cI cZ cJ) [.ref aD] [oX2 aD aDc D_writesDone D_writesLeft D_down] (some (.int r)) [oX2 aD aDc D_writesDone D_writesLeft D_down] := by
  refine CT.ofW (lvl := [(0, .ref aD)]) (by decide) (Nat.le_of_ble_eq_true rfl) rfl ?_
  intro p e s m args below meth c A ls0 QQ hQQ hx hb hml hr hlocks htc hN hown hK hA hw0 hl0
  rw [m_X2_writesDone] at hfin
  refine lv_aload_n hx hb dX2_writesDone_0 rfl (lv_at hl0 0 rfl) ?_
  refine va_get (D := G) (ci := 2) (v := .int D_writesDone) (C := RX2) (T := TX2) (N := 4) hx hb htc iX2 hown hK hw0.1 0 rfl rfl 1 (by decide) (htc _ mw_43) (fun _ h9 => h9) rfl dX2_writesDone_1 ?_
  cases hfin
  rw [hQQ]
  exact ct_iret hx hb hr hlocks hw0.1 hw0.2.1 hw0.2.2 dX2_writesDone_4
abbrev rm_X2_writesLeft : Room := { frames := 0, cells := 0, slots := 0, locals := 0 }
theorem hd_X2_writesLeft : yX2_writesLeft.cls = RX2 ∧ yX2_writesLeft.cls ≠ "java/lang/invoke/MethodHandle" ∧ yX2_writesLeft.cls ≠ "java/lang/invoke/VarHandle" ∧ (parseMethodDescriptor yX2_writesLeft.desc).map (fun d => d.parameters.length) = some 0 := by decide +kernel
set_option maxHeartbeats 4000000 in
set_option maxRecDepth 100000 in
theorem c_X2_writesLeft (l : Launch) (G : va_G) (cI cZ cJ : ClassId) (aD aDc : Nat) (D_writesDone : Int32) (D_writesLeft : Int32) (D_down : Int32)  {r : Int32} (hfin : m_X2_writesLeft D_writesLeft = some (r)) : CT l yX2_writesLeft cX2_writesLeft 1 (some .int) rm_X2_writesLeft G (tyC cI cZ cJ) [.ref aD] [oX2 aD aDc D_writesDone D_writesLeft D_down] (some (.int r)) [oX2 aD aDc D_writesDone D_writesLeft D_down] := by
  refine CT.ofW (lvl := [(0, .ref aD)]) (by decide) (Nat.le_of_ble_eq_true rfl) rfl ?_
  intro p e s m args below meth c A ls0 QQ hQQ hx hb hml hr hlocks htc hN hown hK hA hw0 hl0
  rw [m_X2_writesLeft] at hfin
  refine lv_aload_n hx hb dX2_writesLeft_0 rfl (lv_at hl0 0 rfl) ?_
  refine va_get (D := G) (ci := 2) (v := .int D_writesLeft) (C := RX2) (T := TX2) (N := 4) hx hb htc iX2 hown hK hw0.1 0 rfl rfl 2 (by decide) (htc _ mw_44) (fun _ h9 => h9) rfl dX2_writesLeft_1 ?_
  cases hfin
  rw [hQQ]
  exact ct_iret hx hb hr hlocks hw0.1 hw0.2.1 hw0.2.2 dX2_writesLeft_4
