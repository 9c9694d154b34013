theorem dX10_look_0 : decode cX10_look 0 = .ok (.aload_n 0, 1) := by decide +kernel
theorem dX10_look_1 : decode cX10_look 1 = .ok (.iconst 0, 1) := by decide +kernel
theorem dX10_look_2 : decode cX10_look 2 = .ok (.putfield 76, 3) := by decide +kernel
theorem dX10_look_5 : decode cX10_look 5 = .ok (.iload_n 1, 1) := by decide +kernel
theorem dX10_look_6 : decode cX10_look 6 = .ok (.tableswitch 114 0 8 #[50, 55, 60, 65, 70, 75, 80, 93, 109], 50) := by decide +kernel
theorem dX10_look_56 : decode cX10_look 56 = .ok (.aload_n 0, 1) := by decide +kernel
theorem dX10_look_57 : decode cX10_look 57 = .ok (.getfield 83, 3) := by decide +kernel
theorem dX10_look_60 : decode cX10_look 60 = .ok (.ireturn, 1) := by decide +kernel
theorem dX10_look_61 : decode cX10_look 61 = .ok (.aload_n 0, 1) := by decide +kernel
theorem dX10_look_62 : decode cX10_look 62 = .ok (.getfield 106, 3) := by decide +kernel
theorem dX10_look_65 : decode cX10_look 65 = .ok (.ireturn, 1) := by decide +kernel
theorem dX10_look_66 : decode cX10_look 66 = .ok (.aload_n 0, 1) := by decide +kernel
theorem dX10_look_67 : decode cX10_look 67 = .ok (.getfield 115, 3) := by decide +kernel
theorem dX10_look_70 : decode cX10_look 70 = .ok (.ireturn, 1) := by decide +kernel
theorem dX10_look_71 : decode cX10_look 71 = .ok (.aload_n 0, 1) := by decide +kernel
theorem dX10_look_72 : decode cX10_look 72 = .ok (.invokevirtual 310, 3) := by decide +kernel
theorem dX10_look_75 : decode cX10_look 75 = .ok (.ireturn, 1) := by decide +kernel
theorem dX10_look_76 : decode cX10_look 76 = .ok (.aload_n 0, 1) := by decide +kernel
theorem dX10_look_77 : decode cX10_look 77 = .ok (.getfield 268, 3) := by decide +kernel
theorem dX10_look_80 : decode cX10_look 80 = .ok (.ireturn, 1) := by decide +kernel
theorem dX10_look_81 : decode cX10_look 81 = .ok (.aload_n 0, 1) := by decide +kernel
theorem dX10_look_82 : decode cX10_look 82 = .ok (.getfield 271, 3) := by decide +kernel
theorem dX10_look_85 : decode cX10_look 85 = .ok (.ireturn, 1) := by decide +kernel
theorem dX10_look_86 : decode cX10_look 86 = .ok (.aload_n 0, 1) := by decide +kernel
theorem dX10_look_87 : decode cX10_look 87 = .ok (.getfield 79, 3) := by decide +kernel
theorem dX10_look_90 : decode cX10_look 90 = .ok (.ifCond .eq 7, 3) := by decide +kernel
theorem dX10_look_93 : decode cX10_look 93 = .ok (.iconst 1, 1) := by decide +kernel
theorem dX10_look_94 : decode cX10_look 94 = .ok (.goto 4, 3) := by decide +kernel
theorem dX10_look_97 : decode cX10_look 97 = .ok (.iconst 0, 1) := by decide +kernel
theorem dX10_look_98 : decode cX10_look 98 = .ok (.ireturn, 1) := by decide +kernel
theorem dX10_look_99 : decode cX10_look 99 = .ok (.aload_n 0, 1) := by decide +kernel
theorem dX10_look_100 : decode cX10_look 100 = .ok (.getfield 79, 3) := by decide +kernel
theorem dX10_look_103 : decode cX10_look 103 = .ok (.ifCond .eq 7, 3) := by decide +kernel
theorem dX10_look_106 : decode cX10_look 106 = .ok (.iconst 0, 1) := by decide +kernel
theorem dX10_look_107 : decode cX10_look 107 = .ok (.goto 7, 3) := by decide +kernel
theorem dX10_look_110 : decode cX10_look 110 = .ok (.aload_n 0, 1) := by decide +kernel
theorem dX10_look_111 : decode cX10_look 111 = .ok (.getfield 13, 3) := by decide +kernel
theorem dX10_look_114 : decode cX10_look 114 = .ok (.ireturn, 1) := by decide +kernel
theorem dX10_look_115 : decode cX10_look 115 = .ok (.aload_n 0, 1) := by decide +kernel
theorem dX10_look_116 : decode cX10_look 116 = .ok (.getfield 304, 3) := by decide +kernel
theorem dX10_look_119 : decode cX10_look 119 = .ok (.ireturn, 1) := by decide +kernel
theorem dX10_look_120 : decode cX10_look 120 = .ok (.iconst (-1), 1) := by decide +kernel
theorem dX10_look_121 : decode cX10_look 121 = .ok (.ireturn, 1) := by decide +kernel
abbrev rm_X10_look : Room := { frames := 1, cells := 0, slots := 0, locals := 22 }
theorem hd_X10_look : yX10_look.cls = RX10 ∧ yX10_look.cls ≠ "java/lang/invoke/MethodHandle" ∧ yX10_look.cls ≠ "java/lang/invoke/VarHandle" ∧ (parseMethodDescriptor yX10_look.desc).map (fun d => d.parameters.length) = some 1 := by decide +kernel
set_option maxHeartbeats 4000000 in
set_option maxRecDepth 100000 in
theorem c_X10_look (l : Launch) (G : va_G) (cI cZ cJ : ClassId) (aM aMdisk aMits aMmany aMplace aMlength aMtimes aMvalues aMorder aMheadOf aMheadTime aMheadValue aMnext aMisNew aMcursorTime aMcursorValue aMmade : Nat) (M_thrown : Int32) (M_series : Int32) (M_most : Int32) (M_ratio : Int32) (M_writes : Int32) (M_fuse : Int32) (M_down : Int32) (M_recovers : Int32) (M_looks : Int32) (M_unpacked : Int32) (M_chunks : Int32) (M_epoch : Int32) (M_side : Int32) (M_logged : Int32) (M_nexts : Int32) (M_hasCursor : Int32) (M_cursorMany : Int32) (M_cursorAt : Int32) (M_bits : Int32) (M_from : Int32) (M_askMany : Int32) (M_askLeast : Int32) (M_askGreatest : Int32) (M_askSum : Int64) (M_length : Nat → Int32) (M_order : Nat → Int32) (p0 : Int32) {r : Int32} {o_M_thrown : Int32} (hfin : m_X10_look M_thrown M_writes M_fuse M_down M_recovers M_looks M_unpacked M_chunks M_logged M_length M_order p0 = some (r, o_M_thrown)) : CT l yX10_look cX10_look 2 (some .int) rm_X10_look G (tyC cI cZ cJ) [.ref aM, .int p0] [oX10 aM M_thrown M_series M_most M_ratio aMdisk M_writes M_fuse M_down M_recovers M_looks M_unpacked aMits aMmany aMplace aMlength aMtimes aMvalues aMorder M_chunks M_epoch M_side aMheadOf aMheadTime aMheadValue M_logged aMnext aMisNew M_nexts aMcursorTime aMcursorValue M_hasCursor M_cursorMany M_cursorAt aMmade M_bits M_from M_askMany M_askLeast M_askGreatest M_askSum, rI aMlength cI 240 M_length, rI aMorder cI 96 M_order] (some (.int r)) [oX10 aM o_M_thrown M_series M_most M_ratio aMdisk M_writes M_fuse M_down M_recovers M_looks M_unpacked aMits aMmany aMplace aMlength aMtimes aMvalues aMorder M_chunks M_epoch M_side aMheadOf aMheadTime aMheadValue M_logged aMnext aMisNew M_nexts aMcursorTime aMcursorValue M_hasCursor M_cursorMany M_cursorAt aMmade M_bits M_from M_askMany M_askLeast M_askGreatest M_askSum, rI aMlength cI 240 M_length, rI aMorder cI 96 M_order] := by
  refine CT.ofW (lvl := [(0, .ref aM), (1, .int p0)]) (by decide) (Nat.le_of_ble_eq_true rfl) rfl ?_
  intro p e s m args below meth c A ls0 QQ hQQ hx hb hml hr hlocks htc hN hown hK hA hw0 hl0
  rw [m_X10_look] at hfin
  refine lv_aload_n hx hb dX10_look_0 rfl (lv_at hl0 0 rfl) ?_
  refine lv_iconst (v := (0 : Int32)) hx hb dX10_look_1 (by decide) ?_
  refine va_put (D := G) (ci := 10) (v := .int (0 : Int32)) (ty := .int) (C := RX10) (T := TX10) (N := 40) hx hb htc iX10 tyX10 tyX10_ok nmX10 hown hK hw0.1 hw0.2.1 hw0.2.2 0 rfl rfl 0 (by decide) (htc _ mw_947) (fun _ h9 => h9) rfl (tyX10_ok 0 (by decide)) rfl rfl (Nat.le_of_ble_eq_true rfl) dX10_look_2 (fun H1 locs1 hP hD hS => ?_)
  have hw1 : wS G A s H1 locs1 [oX10 aM (0 : Int32) M_series M_most M_ratio aMdisk M_writes M_fuse M_down M_recovers M_looks M_unpacked aMits aMmany aMplace aMlength aMtimes aMvalues aMorder M_chunks M_epoch M_side aMheadOf aMheadTime aMheadValue M_logged aMnext aMisNew M_nexts aMcursorTime aMcursorValue M_hasCursor M_cursorMany M_cursorAt aMmade M_bits M_from M_askMany M_askLeast M_askGreatest M_askSum, rI aMlength cI 240 M_length, rI aMorder cI 96 M_order] := ⟨hP, hD, hS⟩
  clear hP hD hS hw0
  refine lv_iload_n hx hb dX10_look_5 rfl (lv_at hl0 1 rfl) ?_
  by_cases c_2 : p0 = (0 : Int32)
  · replace hfin := it_t c_2 hfin
    refine lv_tableIn (tgt := 56) hx hb dX10_look_6 (by rw [c_2]; decide) (by rw [c_2]; decide) (by rw [c_2]; rfl) (by decide) ?_
    refine lv_aload_n hx hb dX10_look_56 rfl (lv_at hl0 0 rfl) ?_
    refine va_get (D := G) (ci := 10) (v := .int M_writes) (C := RX10) (T := TX10) (N := 40) hx hb htc iX10 hown hK hw1.1 0 rfl rfl 5 (by decide) (htc _ mw_952) (fun _ h9 => h9) rfl dX10_look_57 ?_
    cases hfin
    rw [hQQ]
    exact ct_iret hx hb hr hlocks hw1.1 hw1.2.1 hw1.2.2 dX10_look_60
  · replace hfin := it_f c_2 hfin
    by_cases c_3 : p0 = (1 : Int32)
    · replace hfin := it_t c_3 hfin
      refine lv_tableIn (tgt := 61) hx hb dX10_look_6 (by rw [c_3]; decide) (by rw [c_3]; decide) (by rw [c_3]; rfl) (by decide) ?_
      refine lv_aload_n hx hb dX10_look_61 rfl (lv_at hl0 0 rfl) ?_
      refine va_get (D := G) (ci := 10) (v := .int M_logged) (C := RX10) (T := TX10) (N := 40) hx hb htc iX10 hown hK hw1.1 0 rfl rfl 24 (by decide) (htc _ mw_971) (fun _ h9 => h9) rfl dX10_look_62 ?_
      cases hfin
      rw [hQQ]
      exact ct_iret hx hb hr hlocks hw1.1 hw1.2.1 hw1.2.2 dX10_look_65
    · replace hfin := it_f c_3 hfin
      by_cases c_4 : p0 = (2 : Int32)
      · replace hfin := it_t c_4 hfin
        refine lv_tableIn (tgt := 66) hx hb dX10_look_6 (by rw [c_4]; decide) (by rw [c_4]; decide) (by rw [c_4]; rfl) (by decide) ?_
        refine lv_aload_n hx hb dX10_look_66 rfl (lv_at hl0 0 rfl) ?_
        refine va_get (D := G) (ci := 10) (v := .int M_chunks) (C := RX10) (T := TX10) (N := 40) hx hb htc iX10 hown hK hw1.1 0 rfl rfl 18 (by decide) (htc _ mw_965) (fun _ h9 => h9) rfl dX10_look_67 ?_
        cases hfin
        rw [hQQ]
        exact ct_iret hx hb hr hlocks hw1.1 hw1.2.1 hw1.2.2 dX10_look_70
      · replace hfin := it_f c_4 hfin
        by_cases c_5 : p0 = (3 : Int32)
        · replace hfin := it_t c_5 hfin
          refine lv_tableIn (tgt := 71) hx hb dX10_look_6 (by rw [c_5]; decide) (by rw [c_5]; decide) (by rw [c_5]; rfl) (by decide) ?_
          refine lv_aload_n hx hb dX10_look_71 rfl (lv_at hl0 0 rfl) ?_
          replace hfin := ob1_some hfin
          obtain ⟨r_7, hE_6, hfin⟩ := hfin
          refine ctV (a := aM) (As := []) (rest := []) (st1 := [.int r_7]) (wc := [oX10 aM (0 : Int32) M_series M_most M_ratio aMdisk M_writes M_fuse M_down M_recovers M_looks M_unpacked aMits aMmany aMplace aMlength aMtimes aMvalues aMorder M_chunks M_epoch M_side aMheadOf aMheadTime aMheadValue M_logged aMnext aMisNew M_nexts aMcursorTime aMcursorValue M_hasCursor M_cursorMany M_cursorAt aMmade M_bits M_from M_askMany M_askLeast M_askGreatest M_askSum, rI aMlength cI 240 M_length, rI aMorder cI 96 M_order]) (w1 := [oX10 aM (0 : Int32) M_series M_most M_ratio aMdisk M_writes M_fuse M_down M_recovers M_looks M_unpacked aMits aMmany aMplace aMlength aMtimes aMvalues aMorder M_chunks M_epoch M_side aMheadOf aMheadTime aMheadValue M_logged aMnext aMisNew M_nexts aMcursorTime aMcursorValue M_hasCursor M_cursorMany M_cursorAt aMmade M_bits M_from M_askMany M_askLeast M_askGreatest M_askSum, rI aMlength cI 240 M_length, rI aMorder cI 96 M_order]) (wr := []) (wb := [oX10 aM (0 : Int32) M_series M_most M_ratio aMdisk M_writes M_fuse M_down M_recovers M_looks M_unpacked aMits aMmany aMplace aMlength aMtimes aMvalues aMorder M_chunks M_epoch M_side aMheadOf aMheadTime aMheadValue M_logged aMnext aMisNew M_nexts aMcursorTime aMcursorValue M_hasCursor M_cursorMany M_cursorAt aMmade M_bits M_from M_askMany M_askLeast M_askGreatest M_askSum, rI aMlength cI 240 M_length, rI aMorder cI 96 M_order]) (v := (some (.int r_7))) hx hb hml hown htc hN (c_X10_taken l G cI cZ cJ aM aMdisk aMits aMmany aMplace aMlength aMtimes aMvalues aMorder aMheadOf aMheadTime aMheadValue aMnext aMisNew aMcursorTime aMcursorValue aMmade (0 : Int32) M_series M_most M_ratio M_writes M_fuse M_down M_recovers M_looks M_unpacked M_chunks M_epoch M_side M_logged M_nexts M_hasCursor M_cursorMany M_cursorAt M_bits M_from M_askMany M_askLeast M_askGreatest M_askSum M_length M_order  hE_6) mw_1329 mw_1331 mp_75 mw_12 mw_1332 hd_X10_taken ⟨rfl, rfl⟩ ⟨Nat.le_of_ble_eq_true rfl, Nat.le_of_ble_eq_true rfl⟩ hK hw1 hA [0, 1, 2] [] [0, 1, 2] rfl rfl rfl rfl rfl (by decide) rfl rfl rfl 0 rfl rfl rfl rfl hl0.1 rfl rfl (Nat.le_of_ble_eq_true rfl) dX10_look_72 ⟨Nat.zero_le _, Nat.zero_le _⟩ (fun H8 locs8 hw8 => ?_)
          clear hw1 H1 locs1
          cases hfin
          rw [hQQ]
          exact ct_iret hx hb hr hlocks hw8.1 hw8.2.1 hw8.2.2 dX10_look_75
        · replace hfin := it_f c_5 hfin
          by_cases c_9 : p0 = (4 : Int32)
          · replace hfin := it_t c_9 hfin
            refine lv_tableIn (tgt := 76) hx hb dX10_look_6 (by rw [c_9]; decide) (by rw [c_9]; decide) (by rw [c_9]; rfl) (by decide) ?_
            refine lv_aload_n hx hb dX10_look_76 rfl (lv_at hl0 0 rfl) ?_
            refine va_get (D := G) (ci := 10) (v := .int M_looks) (C := RX10) (T := TX10) (N := 40) hx hb htc iX10 hown hK hw1.1 0 rfl rfl 9 (by decide) (htc _ mw_956) (fun _ h9 => h9) rfl dX10_look_77 ?_
            cases hfin
            rw [hQQ]
            exact ct_iret hx hb hr hlocks hw1.1 hw1.2.1 hw1.2.2 dX10_look_80
          · replace hfin := it_f c_9 hfin
            by_cases c_10 : p0 = (5 : Int32)
            · replace hfin := it_t c_10 hfin
              refine lv_tableIn (tgt := 81) hx hb dX10_look_6 (by rw [c_10]; decide) (by rw [c_10]; decide) (by rw [c_10]; rfl) (by decide) ?_
              refine lv_aload_n hx hb dX10_look_81 rfl (lv_at hl0 0 rfl) ?_
              refine va_get (D := G) (ci := 10) (v := .int M_unpacked) (C := RX10) (T := TX10) (N := 40) hx hb htc iX10 hown hK hw1.1 0 rfl rfl 10 (by decide) (htc _ mw_957) (fun _ h9 => h9) rfl dX10_look_82 ?_
              cases hfin
              rw [hQQ]
              exact ct_iret hx hb hr hlocks hw1.1 hw1.2.1 hw1.2.2 dX10_look_85
            · replace hfin := it_f c_10 hfin
              by_cases c_11 : p0 = (6 : Int32)
              · replace hfin := it_t c_11 hfin
                refine lv_tableIn (tgt := 86) hx hb dX10_look_6 (by rw [c_11]; decide) (by rw [c_11]; decide) (by rw [c_11]; rfl) (by decide) ?_
                refine lv_aload_n hx hb dX10_look_86 rfl (lv_at hl0 0 rfl) ?_
                refine va_get (D := G) (ci := 10) (v := .int M_down) (C := RX10) (T := TX10) (N := 40) hx hb htc iX10 hown hK hw1.1 0 rfl rfl 7 (by decide) (htc _ mw_954) (fun _ h9 => h9) rfl dX10_look_87 ?_
                replace hfin := ob1_some hfin
                obtain ⟨s_12, hJ_13, hfin⟩ := hfin
                have kj_14 : ∀ (H : Heap) (locs : List Loc) (ls : Array Slot), wS G A s H locs [oX10 aM (0 : Int32) M_series M_most M_ratio aMdisk M_writes M_fuse M_down M_recovers M_looks M_unpacked aMits aMmany aMplace aMlength aMtimes aMvalues aMorder M_chunks M_epoch M_side aMheadOf aMheadTime aMheadValue M_logged aMnext aMisNew M_nexts aMcursorTime aMcursorValue M_hasCursor M_cursorMany M_cursorAt aMmade M_bits M_from M_askMany M_askLeast M_askGreatest M_askSum, rI aMlength cI 240 M_length, rI aMorder cI 96 M_order] → lv_has ls 2 [] → W p l e rm_X10_look s m args below meth c H locs 0 0 QQ (F0 m 98 ls [.int s_12]) := by
                  clear hw1 H1 locs1 hl0 ls0 hJ_13
                  intro H16 locs16 ls16 hw16 hl16
                  cases hfin
                  rw [hQQ]
                  exact ct_iret hx hb hr hlocks hw16.1 hw16.2.1 hw16.2.2 dX10_look_98
                clear hfin
                refine lv_if_eq (tgt := 97) hx hb dX10_look_90 (by decide) (fun c_15 => ?_) (fun c_15 => ?_)
                · replace hJ_13 := it_t c_15 hJ_13
                  refine lv_iconst (v := (0 : Int32)) hx hb dX10_look_97 (by decide) ?_
                  cases hJ_13
                  exact kj_14 _ _ _ hw1 (lv_sub hl0 [] rfl)
                · replace hJ_13 := it_f c_15 hJ_13
                  refine lv_iconst (v := (1 : Int32)) hx hb dX10_look_93 (by decide) ?_
                  refine lv_goto (tgt := 98) hx hb dX10_look_94 (by decide) ?_
                  cases hJ_13
                  exact kj_14 _ _ _ hw1 (lv_sub hl0 [] rfl)
              · replace hfin := it_f c_11 hfin
                by_cases c_17 : p0 = (7 : Int32)
                · replace hfin := it_t c_17 hfin
                  refine lv_tableIn (tgt := 99) hx hb dX10_look_6 (by rw [c_17]; decide) (by rw [c_17]; decide) (by rw [c_17]; rfl) (by decide) ?_
                  refine lv_aload_n hx hb dX10_look_99 rfl (lv_at hl0 0 rfl) ?_
                  refine va_get (D := G) (ci := 10) (v := .int M_down) (C := RX10) (T := TX10) (N := 40) hx hb htc iX10 hown hK hw1.1 0 rfl rfl 7 (by decide) (htc _ mw_954) (fun _ h9 => h9) rfl dX10_look_100 ?_
                  replace hfin := ob1_some hfin
                  obtain ⟨s_18, hJ_19, hfin⟩ := hfin
                  have kj_20 : ∀ (H : Heap) (locs : List Loc) (ls : Array Slot), wS G A s H locs [oX10 aM (0 : Int32) M_series M_most M_ratio aMdisk M_writes M_fuse M_down M_recovers M_looks M_unpacked aMits aMmany aMplace aMlength aMtimes aMvalues aMorder M_chunks M_epoch M_side aMheadOf aMheadTime aMheadValue M_logged aMnext aMisNew M_nexts aMcursorTime aMcursorValue M_hasCursor M_cursorMany M_cursorAt aMmade M_bits M_from M_askMany M_askLeast M_askGreatest M_askSum, rI aMlength cI 240 M_length, rI aMorder cI 96 M_order] → lv_has ls 2 [] → W p l e rm_X10_look s m args below meth c H locs 0 0 QQ (F0 m 114 ls [.int s_18]) := by
                    clear hw1 H1 locs1 hl0 ls0 hJ_19
                    intro H22 locs22 ls22 hw22 hl22
                    cases hfin
                    rw [hQQ]
                    exact ct_iret hx hb hr hlocks hw22.1 hw22.2.1 hw22.2.2 dX10_look_114
                  clear hfin
                  refine lv_if_eq (tgt := 110) hx hb dX10_look_103 (by decide) (fun c_21 => ?_) (fun c_21 => ?_)
                  · replace hJ_19 := it_t c_21 hJ_19
                    refine lv_aload_n hx hb dX10_look_110 rfl (lv_at hl0 0 rfl) ?_
                    refine va_get (D := G) (ci := 10) (v := .int M_fuse) (C := RX10) (T := TX10) (N := 40) hx hb htc iX10 hown hK hw1.1 0 rfl rfl 6 (by decide) (htc _ mw_953) (fun _ h9 => h9) rfl dX10_look_111 ?_
                    cases hJ_19
                    exact kj_20 _ _ _ hw1 (lv_sub hl0 [] rfl)
                  · replace hJ_19 := it_f c_21 hJ_19
                    refine lv_iconst (v := (0 : Int32)) hx hb dX10_look_106 (by decide) ?_
                    refine lv_goto (tgt := 114) hx hb dX10_look_107 (by decide) ?_
                    cases hJ_19
                    exact kj_20 _ _ _ hw1 (lv_sub hl0 [] rfl)
                · replace hfin := it_f c_17 hfin
                  by_cases c_23 : p0 = (8 : Int32)
                  · replace hfin := it_t c_23 hfin
                    refine lv_tableIn (tgt := 115) hx hb dX10_look_6 (by rw [c_23]; decide) (by rw [c_23]; decide) (by rw [c_23]; rfl) (by decide) ?_
                    refine lv_aload_n hx hb dX10_look_115 rfl (lv_at hl0 0 rfl) ?_
                    refine va_get (D := G) (ci := 10) (v := .int M_recovers) (C := RX10) (T := TX10) (N := 40) hx hb htc iX10 hown hK hw1.1 0 rfl rfl 8 (by decide) (htc _ mw_955) (fun _ h9 => h9) rfl dX10_look_116 ?_
                    cases hfin
                    rw [hQQ]
                    exact ct_iret hx hb hr hlocks hw1.1 hw1.2.1 hw1.2.2 dX10_look_119
                  · replace hfin := it_f c_23 hfin
                    refine lv_tableOut (tgt := 120) hx hb dX10_look_6 (sw_out8 c_2 c_3 c_4 c_5 c_9 c_10 c_11 c_17 c_23) (by decide) ?_
                    refine lv_iconst (v := (-1 : Int32)) hx hb dX10_look_120 (by decide) ?_
                    cases hfin
                    rw [hQQ]
                    exact ct_iret hx hb hr hlocks hw1.1 hw1.2.1 hw1.2.2 dX10_look_121
