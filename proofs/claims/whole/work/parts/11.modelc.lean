def m_X2_isDown (D_down : Int32) : Option (Int32) :=
  ckz D_down <|
  some (D_down)
def m_X2_read (D_cells : Nat → Int32) (p0 : Int32) : Option (Int32) :=
  ob1 (
    if p0 < 0 then (
      some ((0 : Int32))) else (
      if (4096 : Int32) ≤ p0 then (
        some ((0 : Int32))) else (
        ckb p0 4096 <|
        some ((D_cells (Int32.toNatClampNeg p0)))))) fun s_1 =>
  some (s_1)
def m_X2_side (D_cells : Nat → Int32) : Option (Int32) :=
  ckb (0 : Int32) 4096 <|
  some (((D_cells (Int32.toNatClampNeg (0 : Int32))) &&& (1 : Int32)))
def m_X2_write (D_writesDone : Int32) (D_writesLeft : Int32) (D_down : Int32) (D_cells : Nat → Int32) (p0 : Int32) (p1 : Int32) : Option (Int32 × Int32 × Int32 × Int32 × (Nat → Int32)) :=
  if D_writesLeft = 0 then (
    some ((0 : Int32), D_writesDone, D_writesLeft, (1 : Int32), D_cells)) else (
    ob1 (
      if D_writesLeft ≤ 0 then (
        some (D_writesLeft)) else (
        some ((D_writesLeft - (1 : Int32))))) fun D_writesLeft_2 =>
    ob1 (
      if p0 < 0 then (
        some (D_cells)) else (
        if (4096 : Int32) ≤ p0 then (
          some (D_cells)) else (
          ckb p0 4096 <|
          some ((upd D_cells (Int32.toNatClampNeg p0) p1))))) fun D_cells_8 =>
    some ((1 : Int32), (D_writesDone + (1 : Int32)), D_writesLeft_2, D_down, D_cells_8))
def m_X2_epoch (D_cells : Nat → Int32) : Option (Int32) :=
  ckb (0 : Int32) 4096 <|
  some (((D_cells (Int32.toNatClampNeg (0 : Int32))) >>> ((1 : Int32) &&& 31)))
def m_X2_limitWrites (D_writesLeft : Int32) (p0 : Int32) : Option (Int32) :=
  some (p0)
def m_X2_powerOn (D_writesLeft : Int32) (D_down : Int32) : Option (Int32 × Int32) :=
  some ((-1 : Int32), (0 : Int32))
def m_X2_writesDone (D_writesDone : Int32) : Option (Int32) :=
  some (D_writesDone)
def m_X2_writesLeft (D_writesLeft : Int32) : Option (Int32) :=
  some (D_writesLeft)
def m_X9_indexOfSide (p0 : Int32) : Option (Int32) :=
  ob1 (
    if p0 = 0 then (
      some ((1 : Int32))) else (
      some ((962 : Int32)))) fun s_1 =>
  some (s_1)
def m_X9_nearest (p0 : Int32) (p1 : Int32) (p2 : Int32) : Option (Int32) :=
  some ((if p1 < (if p2 < p0 then p2 else p0) then (if p2 < p0 then p2 else p0) else p1))
def m_X3_chunks (D_cells : Nat → Int32) : Option (Int32) :=
  ob1 (m_X2_side D_cells) fun r_2 =>
  ob1 (m_X9_indexOfSide r_2) fun r_5 =>
  ob1 (m_X2_read D_cells r_5) fun r_8 =>
  some (r_8)
def m_X3_at (D_cells : Nat → Int32) (p0 : Int32) (p1 : Int32) : Option (Int32) :=
  ob1 (m_X2_side D_cells) fun r_2 =>
  ob1 (m_X9_indexOfSide r_2) fun r_5 =>
  ob1 (m_X2_read D_cells (((r_5 + (1 : Int32)) + (p0 * (10 : Int32))) + p1)) fun r_8 =>
  some (r_8)
def lp_X3_firstOf_7 (D_cells : Nat → Int32) (p0 : Int32) (r_2 : Int32) : Nat → Int32 → Option (Int32)
  | 0, _ => none
  | n + 1, v3_6 =>
    if r_2 ≤ v3_6 then (
      some (r_2)) else (
      ob1 (m_X3_at D_cells v3_6 (0 : Int32)) fun r_14 =>
      if r_14 < p0 then (
        lp_X3_firstOf_7 D_cells p0 r_2 n (v3_6 + (1 : Int32))) else (
        some (v3_6)))
def m_X3_firstOf (D_cells : Nat → Int32) (p0 : Int32) : Option (Int32) :=
  ob1 (m_X3_chunks D_cells) fun r_2 =>
  lp_X3_firstOf_7 D_cells p0 r_2 NN (0 : Int32)
def m_X3_endOf (D_cells : Nat → Int32) (p0 : Int32) : Option (Int32) :=
  ob1 (m_X3_firstOf D_cells (p0 + (1 : Int32))) fun r_2 =>
  some (r_2)
def lp_X3_total_10 (D_cells : Nat → Int32) (p0 : Int32) (r_2 : Int32) : Nat → Int32 → Int32 → Option (Int32)
  | 0, _, _ => none
  | n + 1, v3_7, v4_8 =>
    if r_2 ≤ v4_8 then (
      some (v3_7)) else (
      ob1 (m_X3_at D_cells v4_8 p0) fun r_17 =>
      lp_X3_total_10 D_cells p0 r_2 n (v3_7 + r_17) (v4_8 + (1 : Int32)))
def m_X3_total (D_cells : Nat → Int32) (p0 : Int32) : Option (Int32) :=
  ob1 (m_X3_chunks D_cells) fun r_2 =>
  ob1 (lp_X3_total_10 D_cells p0 r_2 NN (0 : Int32) (0 : Int32)) fun v3_13 =>
  some (v3_13)
def m_X3_points (D_cells : Nat → Int32) : Option (Int32) :=
  ob1 (m_X3_total D_cells (3 : Int32)) fun r_2 =>
  some (r_2)
def m_X3_cellsOfChunks (D_cells : Nat → Int32) : Option (Int32) :=
  ob1 (m_X3_total D_cells (9 : Int32)) fun r_2 =>
  some (r_2)
def m_X4_at (D_cells : Nat → Int32) (p0 : Int32) (p1 : Int32) : Option (Int32) :=
  ob1 (m_X2_read D_cells (((1923 : Int32) + (p0 * (4 : Int32))) + p1)) fun r_2 =>
  some (r_2)
def lp_X4_lastOf_7 (D_cells : Nat → Int32) (p0 : Int32) : Nat → Int32 → Option (Int32)
  | 0, _ => none
  | n + 1, v2_2 =>
    if v2_2 < 0 then (
      some ((-1 : Int32))) else (
      ob1 (m_X4_at D_cells v2_2 (0 : Int32)) fun r_10 =>
      if r_10 = p0 then (
        some (v2_2)) else (
        lp_X4_lastOf_7 D_cells p0 n (v2_2 + (-1 : Int32))))
def m_X4_lastOf (D_cells : Nat → Int32) (G_logged : Int32) (p0 : Int32) : Option (Int32) :=
  lp_X4_lastOf_7 D_cells p0 NN (G_logged - (1 : Int32))
def m_X4_isFull (G_logged : Int32) : Option (Int32) :=
  ob1 (
    if G_logged < (128 : Int32) then (
      some ((0 : Int32))) else (
      some ((1 : Int32)))) fun s_1 =>
  ckz s_1 <|
  some (s_1)
def m_X4_add (D_writesDone : Int32) (D_writesLeft : Int32) (D_down : Int32) (D_cells : Nat → Int32) (G_logged : Int32) (p0 : Int32) (p1 : Int32) (p2 : Int32) : Option (Int32 × Int32 × Int32 × Int32 × (Nat → Int32) × Int32) :=
  ob5 (m_X2_write D_writesDone D_writesLeft D_down D_cells (((1923 : Int32) + (G_logged * (4 : Int32))) + (0 : Int32)) p0) fun r_3 D_writesDone_4 D_writesLeft_5 D_down_6 D_cells_7 =>
  ob5 (
    if r_3 = 0 then (
      some ((0 : Int32), D_writesDone_4, D_writesLeft_5, D_down_6, D_cells_7)) else (
      ob5 (m_X2_write D_writesDone_4 D_writesLeft_5 D_down_6 D_cells_7 (((1923 : Int32) + (G_logged * (4 : Int32))) + (1 : Int32)) p1) fun r_18 D_writesDone_19 D_writesLeft_20 D_down_21 D_cells_22 =>
      if r_18 = 0 then (
        some ((0 : Int32), D_writesDone_19, D_writesLeft_20, D_down_21, D_cells_22)) else (
        ob5 (m_X2_write D_writesDone_19 D_writesLeft_20 D_down_21 D_cells_22 (((1923 : Int32) + (G_logged * (4 : Int32))) + (2 : Int32)) p2) fun r_26 D_writesDone_27 D_writesLeft_28 D_down_29 D_cells_30 =>
        if r_26 = 0 then (
          some ((0 : Int32), D_writesDone_27, D_writesLeft_28, D_down_29, D_cells_30)) else (
          ob1 (m_X2_epoch D_cells_30) fun r_34 =>
          ob5 (m_X2_write D_writesDone_27 D_writesLeft_28 D_down_29 D_cells_30 (((1923 : Int32) + (G_logged * (4 : Int32))) + (3 : Int32)) (r_34 + (1 : Int32))) fun r_37 D_writesDone_38 D_writesLeft_39 D_down_40 D_cells_41 =>
          if r_37 = 0 then (
            some ((0 : Int32), D_writesDone_38, D_writesLeft_39, D_down_40, D_cells_41)) else (
            some ((1 : Int32), D_writesDone_38, D_writesLeft_39, D_down_40, D_cells_41)))))) fun s_9 D_writesDone_10 D_writesLeft_11 D_down_12 D_cells_13 =>
  ob1 (
    if s_9 = 0 then (
      some (G_logged)) else (
      some ((G_logged + (1 : Int32))))) fun G_logged_46 =>
  ckz s_9 <|
  some (s_9, D_writesDone_10, D_writesLeft_11, D_down_12, D_cells_13, G_logged_46)
def m_X4_logged (G_logged : Int32) : Option (Int32) :=
  some (G_logged)
def lp_X4_readAgain_15 (D_cells : Nat → Int32) (r_2 : Int32) : Nat → Int32 → Option (Int32)
  | 0, _ => none
  | n + 1, G_logged_6 =>
    if (128 : Int32) ≤ G_logged_6 then (
      some (G_logged_6)) else (
      ob1 (m_X4_at D_cells G_logged_6 (3 : Int32)) fun r_15 =>
      if r_15 = (r_2 + (1 : Int32)) then (
        lp_X4_readAgain_15 D_cells r_2 n (G_logged_6 + (1 : Int32))) else (
        some (G_logged_6)))
def m_X4_readAgain (D_cells : Nat → Int32) (G_logged : Int32) : Option (Int32) :=
  ob1 (m_X2_epoch D_cells) fun r_2 =>
  ob1 (lp_X4_readAgain_15 D_cells r_2 NN (0 : Int32)) fun G_logged_11 =>
  some (G_logged_11)
def lp_X4_pointsOf_4 (D_cells : Nat → Int32) (G_logged : Int32) (p0 : Int32) : Nat → Int32 → Int32 → Option (Int32)
  | 0, _, _ => none
  | n + 1, v2_3, v3_4 =>
    if G_logged ≤ v3_4 then (
      some (v2_3)) else (
      ob1 (m_X4_at D_cells v3_4 (0 : Int32)) fun r_13 =>
      ob1 (
        if r_13 = p0 then (
          some ((v2_3 + (1 : Int32)))) else (
          some (v2_3))) fun v2_15 =>
      lp_X4_pointsOf_4 D_cells G_logged p0 n v2_15 (v3_4 + (1 : Int32)))
def m_X4_pointsOf (D_cells : Nat → Int32) (G_logged : Int32) (p0 : Int32) : Option (Int32) :=
  ob1 (lp_X4_pointsOf_4 D_cells G_logged p0 NN (0 : Int32) (0 : Int32)) fun v2_9 =>
  some (v2_9)
def m_X8_open (U_place : Int32) (U_bitsRead : Int32) (U_started : Int32) (p0 : Int32) : Option (Int32 × Int32 × Int32) :=
  some (p0, (0 : Int32), (0 : Int32))
def m_X8_readBits (D_cells : Nat → Int32) (U_place : Int32) (U_bitsRead : Int32) (p0 : Int32) : Option (Int64 × Int32) :=
  ob1 (m_X2_read D_cells ((U_place + (2 : Int32)) + (U_bitsRead / (32 : Int32)))) fun r_3 =>
  ob1 (m_X2_read D_cells (((U_place + (2 : Int32)) + (U_bitsRead / (32 : Int32))) + (1 : Int32))) fun r_6 =>
  some (((Int64.toUInt64 ((((Int32.toInt64 r_3) <<< (Int32.toInt64 (32 : Int32) &&& 63)) ||| ((Int32.toInt64 r_6) &&& (4294967295 : Int64))) <<< (Int32.toInt64 (U_bitsRead - U_bitsRead / (32 : Int32) * (32 : Int32)) &&& 63)) >>> ((Int32.toInt64 ((64 : Int32) - p0)).toUInt64 &&& Int64.toUInt64 63)).toInt64), (U_bitsRead + p0))
def lp_X8_readChange_2 (D_cells : Nat → Int32) (U_place : Int32) : Nat → Int32 → Int32 → Option (Int32 × Int32)
  | 0, _, _ => none
  | n + 1, v1_2, U_bitsRead_3 =>
    if (4 : Int32) ≤ v1_2 then (
      some (v1_2, U_bitsRead_3)) else (
      ob2 (m_X8_readBits D_cells U_place U_bitsRead_3 (1 : Int32)) fun r_13 U_bitsRead_14 =>
      if (lg_cmp r_13 (1 : Int64)) = 0 then (
        lp_X8_readChange_2 D_cells U_place n (v1_2 + (1 : Int32)) U_bitsRead_14) else (
        some (v1_2, U_bitsRead_14)))
def m_X8_readChange (D_cells : Nat → Int32) (U_place : Int32) (U_bitsRead : Int32) : Option (Int64 × Int32) :=
  ob2 (lp_X8_readChange_2 D_cells U_place NN (0 : Int32) U_bitsRead) fun v1_8 U_bitsRead_9 =>
  if v1_8 = (0 : Int32) then (
    some ((0 : Int64), U_bitsRead_9)) else if v1_8 = (1 : Int32) then (
    ob2 (m_X8_readBits D_cells U_place U_bitsRead_9 (7 : Int32)) fun r_22 U_bitsRead_23 =>
    some ((r_22 - (64 : Int64)), U_bitsRead_23)) else if v1_8 = (2 : Int32) then (
    ob2 (m_X8_readBits D_cells U_place U_bitsRead_9 (9 : Int32)) fun r_27 U_bitsRead_28 =>
    some ((r_27 - (256 : Int64)), U_bitsRead_28)) else if v1_8 = (3 : Int32) then (
    ob2 (m_X8_readBits D_cells U_place U_bitsRead_9 (12 : Int32)) fun r_32 U_bitsRead_33 =>
    some ((r_32 - (2048 : Int64)), U_bitsRead_33)) else (
    ob2 (m_X8_readBits D_cells U_place U_bitsRead_9 (2 : Int32)) fun r_36 U_bitsRead_37 =>
    ob2 (m_X8_readBits D_cells U_place U_bitsRead_37 (32 : Int32)) fun r_41 U_bitsRead_42 =>
    some ((((r_36 <<< (Int32.toInt64 (32 : Int32) &&& 63)) ||| r_41) - (8589934592 : Int64)), U_bitsRead_42))
def lp_X8_readDifference_4 (D_cells : Nat → Int32) (U_place : Int32) : Nat → Int32 → Int32 → Int32 → Option (Int32 × Int32)
  | 0, _, _, _ => none
  | n + 1, v1_3, v2_4, U_bitsRead_5 =>
    ob2 (m_X8_readBits D_cells U_place U_bitsRead_5 (1 : Int32)) fun r_14 U_bitsRead_15 =>
    if (lg_cmp r_14 (1 : Int64)) = 0 then (
      if (32 : Int32) ≤ v2_4 then (
        some (v1_3, U_bitsRead_15)) else (
        ob2 (m_X8_readBits D_cells U_place U_bitsRead_15 (4 : Int32)) fun r_20 U_bitsRead_21 =>
        lp_X8_readDifference_4 D_cells U_place n (v1_3 ||| ((Int64.toInt32 r_20) <<< (v2_4 &&& 31))) (v2_4 + (4 : Int32)) U_bitsRead_21)) else (
      some (v1_3, U_bitsRead_15))
def m_X8_readDifference (D_cells : Nat → Int32) (U_place : Int32) (U_bitsRead : Int32) : Option (Int32 × Int32) :=
  ob2 (lp_X8_readDifference_4 D_cells U_place NN (0 : Int32) (0 : Int32) U_bitsRead) fun v1_10 U_bitsRead_11 =>
  ob1 (
    if (v1_10 &&& (1 : Int32)) = 0 then (
      some (((Int32.toUInt32 v1_10 >>> (Int32.toUInt32 (1 : Int32) &&& Int32.toUInt32 31)).toInt32))) else (
      some (((-((Int32.toUInt32 v1_10 >>> (Int32.toUInt32 (1 : Int32) &&& Int32.toUInt32 31)).toInt32)) - (1 : Int32))))) fun s_26 =>
  some (s_26, U_bitsRead_11)
def m_X8_step (D_cells : Nat → Int32) (U_place : Int32) (U_bitsRead : Int32) (U_started : Int32) (U_time : Int32) (U_value : Int32) (U_rise : Int64) : Option (Int32 × Int32 × Int32 × Int32 × Int64) :=
  if U_started = 0 then (
    ob1 (m_X2_read D_cells U_place) fun r_15 =>
    ob1 (m_X2_read D_cells (U_place + (1 : Int32))) fun r_19 =>
    some (U_bitsRead, (1 : Int32), r_15, r_19, (0 : Int64))) else (
    ob2 (m_X8_readChange D_cells U_place U_bitsRead) fun r_3 U_bitsRead_4 =>
    ob2 (m_X8_readDifference D_cells U_place U_bitsRead_4) fun r_9 U_bitsRead_10 =>
    some (U_bitsRead_10, U_started, (Int64.toInt32 ((Int32.toInt64 U_time) + (U_rise + r_3))), (U_value + r_9), (U_rise + r_3)))
def m_X5_clear (K_used : Int32) (K_bitsFree : Int32) (K_full : Int32) : Option (Int32 × Int32 × Int32) :=
  some ((0 : Int32), (0 : Int32), (0 : Int32))
def m_X5_used (K_used : Int32) : Option (Int32) :=
  some (K_used)
def m_X5_isFull (K_full : Int32) : Option (Int32) :=
  ckz K_full <|
  some (K_full)
def m_X5_addCell (K_used : Int32) (K_full : Int32) (K_cells : Nat → Int32) (p0 : Int32) : Option (Int32 × Int32 × (Nat → Int32)) :=
  if K_used < (1661 : Int32) then (
    ckb K_used 1661 <|
    some ((K_used + (1 : Int32)), K_full, (upd K_cells (Int32.toNatClampNeg K_used) p0))) else (
    some (K_used, (1 : Int32), K_cells))
def m_X5_packFirst (K_used : Int32) (K_bitsFree : Int32) (K_full : Int32) (K_time : Int32) (K_value : Int32) (K_rise : Int64) (K_cells : Nat → Int32) (p0 : Int32) (p1 : Int32) : Option (Int32 × Int32 × Int32 × Int32 × Int32 × Int64 × (Nat → Int32)) :=
  ob3 (m_X5_addCell K_used K_full K_cells p0) fun K_used_2 K_full_3 K_cells_4 =>
  ob3 (m_X5_addCell K_used_2 K_full_3 K_cells_4 p1) fun K_used_7 K_full_8 K_cells_9 =>
  some (K_used_7, (0 : Int32), K_full_8, p0, p1, (0 : Int64), K_cells_9)
def lp_X5_addBits_5 (p0 : Int64) : Nat → Int32 → Int32 → Int32 → Int32 → (Nat → Int32) → Option (Int32 × Int32 × Int32 × (Nat → Int32))
  | 0, _, _, _, _, _ => none
  | n + 1, v4_2, K_used_3, K_bitsFree_4, K_full_5, K_cells_6 =>
    if v4_2 < 0 then (
      some (K_used_3, K_bitsFree_4, K_full_5, K_cells_6)) else (
      ob4 (
        if K_bitsFree_4 = 0 then (
          ob3 (m_X5_addCell K_used_3 K_full_5 K_cells_6 (0 : Int32)) fun K_used_25 K_full_26 K_cells_27 =>
          some (K_used_25, (32 : Int32), K_full_26, K_cells_27)) else (
          some (K_used_3, K_bitsFree_4, K_full_5, K_cells_6))) fun K_used_17 K_bitsFree_18 K_full_19 K_cells_20 =>
      ob1 (
        if K_used_17 ≤ 0 then (
          some (K_cells_20)) else (
          ckb (K_used_17 - (1 : Int32)) 1661 <|
          ckb (K_used_17 - (1 : Int32)) 1661 <|
          some ((upd K_cells_20 (Int32.toNatClampNeg (K_used_17 - (1 : Int32))) ((K_cells_20 (Int32.toNatClampNeg (K_used_17 - (1 : Int32)))) ||| ((Int64.toInt32 (((Int64.toUInt64 p0 >>> ((Int32.toInt64 v4_2).toUInt64 &&& Int64.toUInt64 63)).toInt64) &&& (1 : Int64))) <<< ((K_bitsFree_18 - (1 : Int32)) &&& 31))))))) fun K_cells_32 =>
      lp_X5_addBits_5 p0 n (v4_2 + (-1 : Int32)) K_used_17 (K_bitsFree_18 - (1 : Int32)) K_full_19 K_cells_32)
def m_X5_addBits (K_used : Int32) (K_bitsFree : Int32) (K_full : Int32) (K_cells : Nat → Int32) (p0 : Int64) (p1 : Int32) : Option (Int32 × Int32 × Int32 × (Nat → Int32)) :=
  ob4 (lp_X5_addBits_5 p0 NN (p1 - (1 : Int32)) K_used K_bitsFree K_full K_cells) fun K_used_11 K_bitsFree_12 K_full_13 K_cells_14 =>
  some (K_used_11, K_bitsFree_12, K_full_13, K_cells_14)
def m_X5_packChange (K_used : Int32) (K_bitsFree : Int32) (K_full : Int32) (K_cells : Nat → Int32) (p0 : Int64) : Option (Int32 × Int32 × Int32 × (Nat → Int32)) :=
  ob4 (
    if (lg_cmp p0 (0 : Int64)) = 0 then (
      ob4 (m_X5_addBits K_used K_bitsFree K_full K_cells (0 : Int64) (1 : Int32)) fun K_used_203 K_bitsFree_204 K_full_205 K_cells_206 =>
      some (K_used_203, K_bitsFree_204, K_full_205, K_cells_206)) else (
      if (lg_cmp p0 (-64 : Int64)) < 0 then (
        if (lg_cmp p0 (-256 : Int64)) < 0 then (
          if (lg_cmp p0 (-2048 : Int64)) < 0 then (
            ob4 (m_X5_addBits K_used K_bitsFree K_full K_cells (15 : Int64) (4 : Int32)) fun K_used_12 K_bitsFree_13 K_full_14 K_cells_15 =>
            ob4 (m_X5_addBits K_used_12 K_bitsFree_13 K_full_14 K_cells_15 (p0 + (8589934592 : Int64)) (34 : Int32)) fun K_used_18 K_bitsFree_19 K_full_20 K_cells_21 =>
            some (K_used_18, K_bitsFree_19, K_full_20, K_cells_21)) else (
            if 0 ≤ (lg_cmp p0 (2048 : Int64)) then (
              ob4 (m_X5_addBits K_used K_bitsFree K_full K_cells (15 : Int64) (4 : Int32)) fun K_used_25 K_bitsFree_26 K_full_27 K_cells_28 =>
              ob4 (m_X5_addBits K_used_25 K_bitsFree_26 K_full_27 K_cells_28 (p0 + (8589934592 : Int64)) (34 : Int32)) fun K_used_31 K_bitsFree_32 K_full_33 K_cells_34 =>
              some (K_used_31, K_bitsFree_32, K_full_33, K_cells_34)) else (
              ob4 (m_X5_addBits K_used K_bitsFree K_full K_cells (14 : Int64) (4 : Int32)) fun K_used_37 K_bitsFree_38 K_full_39 K_cells_40 =>
              ob4 (m_X5_addBits K_used_37 K_bitsFree_38 K_full_39 K_cells_40 (p0 + (2048 : Int64)) (12 : Int32)) fun K_used_43 K_bitsFree_44 K_full_45 K_cells_46 =>
              some (K_used_43, K_bitsFree_44, K_full_45, K_cells_46)))) else (
          if 0 ≤ (lg_cmp p0 (256 : Int64)) then (
            if (lg_cmp p0 (-2048 : Int64)) < 0 then (
              ob4 (m_X5_addBits K_used K_bitsFree K_full K_cells (15 : Int64) (4 : Int32)) fun K_used_51 K_bitsFree_52 K_full_53 K_cells_54 =>
              ob4 (m_X5_addBits K_used_51 K_bitsFree_52 K_full_53 K_cells_54 (p0 + (8589934592 : Int64)) (34 : Int32)) fun K_used_57 K_bitsFree_58 K_full_59 K_cells_60 =>
              some (K_used_57, K_bitsFree_58, K_full_59, K_cells_60)) else (
              if 0 ≤ (lg_cmp p0 (2048 : Int64)) then (
                ob4 (m_X5_addBits K_used K_bitsFree K_full K_cells (15 : Int64) (4 : Int32)) fun K_used_64 K_bitsFree_65 K_full_66 K_cells_67 =>
                ob4 (m_X5_addBits K_used_64 K_bitsFree_65 K_full_66 K_cells_67 (p0 + (8589934592 : Int64)) (34 : Int32)) fun K_used_70 K_bitsFree_71 K_full_72 K_cells_73 =>
                some (K_used_70, K_bitsFree_71, K_full_72, K_cells_73)) else (
                ob4 (m_X5_addBits K_used K_bitsFree K_full K_cells (14 : Int64) (4 : Int32)) fun K_used_76 K_bitsFree_77 K_full_78 K_cells_79 =>
                ob4 (m_X5_addBits K_used_76 K_bitsFree_77 K_full_78 K_cells_79 (p0 + (2048 : Int64)) (12 : Int32)) fun K_used_82 K_bitsFree_83 K_full_84 K_cells_85 =>
                some (K_used_82, K_bitsFree_83, K_full_84, K_cells_85)))) else (
            ob4 (m_X5_addBits K_used K_bitsFree K_full K_cells (6 : Int64) (3 : Int32)) fun K_used_88 K_bitsFree_89 K_full_90 K_cells_91 =>
            ob4 (m_X5_addBits K_used_88 K_bitsFree_89 K_full_90 K_cells_91 (p0 + (256 : Int64)) (9 : Int32)) fun K_used_94 K_bitsFree_95 K_full_96 K_cells_97 =>
            some (K_used_94, K_bitsFree_95, K_full_96, K_cells_97)))) else (
        if 0 ≤ (lg_cmp p0 (64 : Int64)) then (
          if (lg_cmp p0 (-256 : Int64)) < 0 then (
            if (lg_cmp p0 (-2048 : Int64)) < 0 then (
              ob4 (m_X5_addBits K_used K_bitsFree K_full K_cells (15 : Int64) (4 : Int32)) fun K_used_103 K_bitsFree_104 K_full_105 K_cells_106 =>
              ob4 (m_X5_addBits K_used_103 K_bitsFree_104 K_full_105 K_cells_106 (p0 + (8589934592 : Int64)) (34 : Int32)) fun K_used_109 K_bitsFree_110 K_full_111 K_cells_112 =>
              some (K_used_109, K_bitsFree_110, K_full_111, K_cells_112)) else (
              if 0 ≤ (lg_cmp p0 (2048 : Int64)) then (
                ob4 (m_X5_addBits K_used K_bitsFree K_full K_cells (15 : Int64) (4 : Int32)) fun K_used_116 K_bitsFree_117 K_full_118 K_cells_119 =>
                ob4 (m_X5_addBits K_used_116 K_bitsFree_117 K_full_118 K_cells_119 (p0 + (8589934592 : Int64)) (34 : Int32)) fun K_used_122 K_bitsFree_123 K_full_124 K_cells_125 =>
                some (K_used_122, K_bitsFree_123, K_full_124, K_cells_125)) else (
                ob4 (m_X5_addBits K_used K_bitsFree K_full K_cells (14 : Int64) (4 : Int32)) fun K_used_128 K_bitsFree_129 K_full_130 K_cells_131 =>
                ob4 (m_X5_addBits K_used_128 K_bitsFree_129 K_full_130 K_cells_131 (p0 + (2048 : Int64)) (12 : Int32)) fun K_used_134 K_bitsFree_135 K_full_136 K_cells_137 =>
                some (K_used_134, K_bitsFree_135, K_full_136, K_cells_137)))) else (
            if 0 ≤ (lg_cmp p0 (256 : Int64)) then (
              if (lg_cmp p0 (-2048 : Int64)) < 0 then (
                ob4 (m_X5_addBits K_used K_bitsFree K_full K_cells (15 : Int64) (4 : Int32)) fun K_used_142 K_bitsFree_143 K_full_144 K_cells_145 =>
                ob4 (m_X5_addBits K_used_142 K_bitsFree_143 K_full_144 K_cells_145 (p0 + (8589934592 : Int64)) (34 : Int32)) fun K_used_148 K_bitsFree_149 K_full_150 K_cells_151 =>
                some (K_used_148, K_bitsFree_149, K_full_150, K_cells_151)) else (
                if 0 ≤ (lg_cmp p0 (2048 : Int64)) then (
                  ob4 (m_X5_addBits K_used K_bitsFree K_full K_cells (15 : Int64) (4 : Int32)) fun K_used_155 K_bitsFree_156 K_full_157 K_cells_158 =>
                  ob4 (m_X5_addBits K_used_155 K_bitsFree_156 K_full_157 K_cells_158 (p0 + (8589934592 : Int64)) (34 : Int32)) fun K_used_161 K_bitsFree_162 K_full_163 K_cells_164 =>
                  some (K_used_161, K_bitsFree_162, K_full_163, K_cells_164)) else (
                  ob4 (m_X5_addBits K_used K_bitsFree K_full K_cells (14 : Int64) (4 : Int32)) fun K_used_167 K_bitsFree_168 K_full_169 K_cells_170 =>
                  ob4 (m_X5_addBits K_used_167 K_bitsFree_168 K_full_169 K_cells_170 (p0 + (2048 : Int64)) (12 : Int32)) fun K_used_173 K_bitsFree_174 K_full_175 K_cells_176 =>
                  some (K_used_173, K_bitsFree_174, K_full_175, K_cells_176)))) else (
              ob4 (m_X5_addBits K_used K_bitsFree K_full K_cells (6 : Int64) (3 : Int32)) fun K_used_179 K_bitsFree_180 K_full_181 K_cells_182 =>
              ob4 (m_X5_addBits K_used_179 K_bitsFree_180 K_full_181 K_cells_182 (p0 + (256 : Int64)) (9 : Int32)) fun K_used_185 K_bitsFree_186 K_full_187 K_cells_188 =>
              some (K_used_185, K_bitsFree_186, K_full_187, K_cells_188)))) else (
          ob4 (m_X5_addBits K_used K_bitsFree K_full K_cells (2 : Int64) (2 : Int32)) fun K_used_191 K_bitsFree_192 K_full_193 K_cells_194 =>
          ob4 (m_X5_addBits K_used_191 K_bitsFree_192 K_full_193 K_cells_194 (p0 + (64 : Int64)) (7 : Int32)) fun K_used_197 K_bitsFree_198 K_full_199 K_cells_200 =>
          some (K_used_197, K_bitsFree_198, K_full_199, K_cells_200))))) fun K_used_1 K_bitsFree_2 K_full_3 K_cells_4 =>
  some (K_used_1, K_bitsFree_2, K_full_3, K_cells_4)
def lp_X5_packDifference_19 (s_1 : Int32) : Nat → Int32 → Int32 → Int32 → Int32 → (Nat → Int32) → Option (Int32 × Int32 × Int32 × (Nat → Int32))
  | 0, _, _, _, _, _ => none
  | n + 1, v3_8, K_used_9, K_bitsFree_10, K_full_11, K_cells_12 =>
    if (32 : Int32) ≤ v3_8 then (
      some (K_used_9, K_bitsFree_10, K_full_11, K_cells_12)) else (
      if ((Int32.toUInt32 s_1 >>> (Int32.toUInt32 v3_8 &&& Int32.toUInt32 31)).toInt32) = 0 then (
        some (K_used_9, K_bitsFree_10, K_full_11, K_cells_12)) else (
        ob4 (m_X5_addBits K_used_9 K_bitsFree_10 K_full_11 K_cells_12 (1 : Int64) (1 : Int32)) fun K_used_25 K_bitsFree_26 K_full_27 K_cells_28 =>
        ob4 (m_X5_addBits K_used_25 K_bitsFree_26 K_full_27 K_cells_28 (Int32.toInt64 ((Int32.toUInt32 s_1 >>> (Int32.toUInt32 v3_8 &&& Int32.toUInt32 31)).toInt32)) (4 : Int32)) fun K_used_31 K_bitsFree_32 K_full_33 K_cells_34 =>
        lp_X5_packDifference_19 s_1 n (v3_8 + (4 : Int32)) K_used_31 K_bitsFree_32 K_full_33 K_cells_34))
def m_X5_packDifference (K_used : Int32) (K_bitsFree : Int32) (K_full : Int32) (K_cells : Nat → Int32) (p0 : Int32) : Option (Int32 × Int32 × Int32 × (Nat → Int32)) :=
  ob1 (
    if 0 ≤ p0 then (
      some (((2 : Int32) * p0))) else (
      some ((((-2 : Int32) * p0) - (1 : Int32))))) fun s_1 =>
  ob4 (lp_X5_packDifference_19 s_1 NN (0 : Int32) K_used K_bitsFree K_full K_cells) fun K_used_17 K_bitsFree_18 K_full_19 K_cells_20 =>
  ob4 (m_X5_addBits K_used_17 K_bitsFree_18 K_full_19 K_cells_20 (0 : Int64) (1 : Int32)) fun K_used_39 K_bitsFree_40 K_full_41 K_cells_42 =>
  some (K_used_39, K_bitsFree_40, K_full_41, K_cells_42)
def m_X5_packFurther (K_used : Int32) (K_bitsFree : Int32) (K_full : Int32) (K_time : Int32) (K_value : Int32) (K_rise : Int64) (K_cells : Nat → Int32) (p0 : Int32) (p1 : Int32) : Option (Int32 × Int32 × Int32 × Int32 × Int32 × Int64 × (Nat → Int32)) :=
  ob4 (m_X5_packChange K_used K_bitsFree K_full K_cells (((Int32.toInt64 p0) - (Int32.toInt64 K_time)) - K_rise)) fun K_used_3 K_bitsFree_4 K_full_5 K_cells_6 =>
  ob4 (m_X5_packDifference K_used_3 K_bitsFree_4 K_full_5 K_cells_6 (p1 - K_value)) fun K_used_9 K_bitsFree_10 K_full_11 K_cells_12 =>
  some (K_used_9, K_bitsFree_10, K_full_11, p0, p1, ((Int32.toInt64 p0) - (Int32.toInt64 K_time)), K_cells_12)
def m_X5_at (K_used : Int32) (K_cells : Nat → Int32) (p0 : Int32) : Option (Int32) :=
  ob1 (
    if p0 < 0 then (
      some ((0 : Int32))) else (
      if K_used ≤ p0 then (
        some ((0 : Int32))) else (
        ckb p0 1661 <|
        some ((K_cells (Int32.toNatClampNeg p0)))))) fun s_1 =>
  some (s_1)
def m_X6_clear (S_first : Int32) (S_last : Int32) (S_points : Int32) (S_least : Int32) (S_greatest : Int32) (S_sum : Int64) : Option (Int32 × Int32 × Int32 × Int32 × Int32 × Int64) :=
  some ((0 : Int32), (0 : Int32), (0 : Int32), (0 : Int32), (0 : Int32), (0 : Int64))
def m_X6_add (S_first : Int32) (S_last : Int32) (S_points : Int32) (S_least : Int32) (S_greatest : Int32) (S_sum : Int64) (p0 : Int32) (p1 : Int32) (p2 : Int32) (p3 : Int32) (p4 : Int32) (p5 : Int64) : Option (Int32 × Int32 × Int32 × Int32 × Int32 × Int64) :=
  ob1 (
    if S_points = 0 then (
      some ((1 : Int32))) else (
      some ((0 : Int32)))) fun s_1 =>
  ob1 (
    if s_1 = 0 then (
      some (S_first)) else (
      some (p0))) fun s_7 =>
  ob1 (
    if s_1 = 0 then (
      some ((if p3 < S_least then p3 else S_least))) else (
      some (p3))) fun s_15 =>
  ob1 (
    if s_1 = 0 then (
      some ((if S_greatest < p4 then p4 else S_greatest))) else (
      some (p4))) fun s_21 =>
  some (s_7, p1, (S_points + p2), s_15, s_21, (S_sum + p5))
def m_X6_addPoint (S_first : Int32) (S_last : Int32) (S_points : Int32) (S_least : Int32) (S_greatest : Int32) (S_sum : Int64) (p0 : Int32) (p1 : Int32) : Option (Int32 × Int32 × Int32 × Int32 × Int32 × Int64) :=
  ob6 (m_X6_add S_first S_last S_points S_least S_greatest S_sum p0 p0 (1 : Int32) p1 p1 (Int32.toInt64 p1)) fun S_first_2 S_last_3 S_points_4 S_least_5 S_greatest_6 S_sum_7 =>
  some (S_first_2, S_last_3, S_points_4, S_least_5, S_greatest_6, S_sum_7)
def m_X6_addEntry (D_cells : Nat → Int32) (S_first : Int32) (S_last : Int32) (S_points : Int32) (S_least : Int32) (S_greatest : Int32) (S_sum : Int64) (p1 : Int32) : Option (Int32 × Int32 × Int32 × Int32 × Int32 × Int64) :=
  ob1 (m_X3_at D_cells p1 (6 : Int32)) fun r_2 =>
  ob1 (m_X3_at D_cells p1 (7 : Int32)) fun r_6 =>
  ob1 (m_X3_at D_cells p1 (1 : Int32)) fun r_10 =>
  ob1 (m_X3_at D_cells p1 (2 : Int32)) fun r_13 =>
  ob1 (m_X3_at D_cells p1 (3 : Int32)) fun r_16 =>
  ob1 (m_X3_at D_cells p1 (4 : Int32)) fun r_19 =>
  ob1 (m_X3_at D_cells p1 (5 : Int32)) fun r_22 =>
  ob6 (m_X6_add S_first S_last S_points S_least S_greatest S_sum r_10 r_13 r_16 r_19 r_22 (((Int32.toInt64 r_2) <<< (Int32.toInt64 (32 : Int32) &&& 63)) ||| ((Int32.toInt64 r_6) &&& (4294967295 : Int64)))) fun S_first_25 S_last_26 S_points_27 S_least_28 S_greatest_29 S_sum_30 =>
  some (S_first_25, S_last_26, S_points_27, S_least_28, S_greatest_29, S_sum_30)
def m_X6_isOut (S_first : Int32) (S_last : Int32) (p0 : Int32) (p1 : Int32) : Option (Int32) :=
  ob1 (
    if S_last < p0 then (
      some ((1 : Int32))) else (
      if S_first ≤ p1 then (
        some ((0 : Int32))) else (
        some ((1 : Int32))))) fun s_1 =>
  ckz s_1 <|
  some (s_1)
def m_X6_isIn (S_first : Int32) (S_last : Int32) (p0 : Int32) (p1 : Int32) : Option (Int32) :=
  ob1 (
    if S_first < p0 then (
      some ((0 : Int32))) else (
      if p1 < S_last then (
        some ((0 : Int32))) else (
        some ((1 : Int32))))) fun s_1 =>
  ckz s_1 <|
  some (s_1)
def m_X6_addSummary (S_first : Int32) (S_last : Int32) (S_points : Int32) (S_least : Int32) (S_greatest : Int32) (S_sum : Int64) (S2_first : Int32) (S2_last : Int32) (S2_points : Int32) (S2_least : Int32) (S2_greatest : Int32) (S2_sum : Int64) : Option (Int32 × Int32 × Int32 × Int32 × Int32 × Int64) :=
  ob6 (m_X6_add S_first S_last S_points S_least S_greatest S_sum S2_first S2_last S2_points S2_least S2_greatest S2_sum) fun S_first_2 S_last_3 S_points_4 S_least_5 S_greatest_6 S_sum_7 =>
  some (S_first_2, S_last_3, S_points_4, S_least_5, S_greatest_6, S_sum_7)
def lp_X0_summaryOf_9 (D_cells : Nat → Int32) (p1 : Int32) : Nat → Int32 → Int32 → Int32 → Int32 → Int32 → Int32 → Int64 → Option (Int32 × Int32 × Int32 × Int32 × Int32 × Int64)
  | 0, _, _, _, _, _, _, _ => none
  | n + 1, v3_10, Z_first_11, Z_last_12, Z_points_13, Z_least_14, Z_greatest_15, Z_sum_16 =>
    if p1 ≤ v3_10 then (
      some (Z_first_11, Z_last_12, Z_points_13, Z_least_14, Z_greatest_15, Z_sum_16)) else (
      ob6 (m_X6_addEntry D_cells Z_first_11 Z_last_12 Z_points_13 Z_least_14 Z_greatest_15 Z_sum_16 v3_10) fun Z_first_30 Z_last_31 Z_points_32 Z_least_33 Z_greatest_34 Z_sum_35 =>
      lp_X0_summaryOf_9 D_cells p1 n (v3_10 + (1 : Int32)) Z_first_30 Z_last_31 Z_points_32 Z_least_33 Z_greatest_34 Z_sum_35)
def m_X0_summaryOf (D_cells : Nat → Int32) (Z_first : Int32) (Z_last : Int32) (Z_points : Int32) (Z_least : Int32) (Z_greatest : Int32) (Z_sum : Int64) (p0 : Int32) (p1 : Int32) : Option (Int32 × Int32 × Int32 × Int32 × Int32 × Int64) :=
  ob6 (m_X6_clear Z_first Z_last Z_points Z_least Z_greatest Z_sum) fun Z_first_2 Z_last_3 Z_points_4 Z_least_5 Z_greatest_6 Z_sum_7 =>
  ob6 (lp_X0_summaryOf_9 D_cells p1 NN p0 Z_first_2 Z_last_3 Z_points_4 Z_least_5 Z_greatest_6 Z_sum_7) fun Z_first_21 Z_last_22 Z_points_23 Z_least_24 Z_greatest_25 Z_sum_26 =>
  some (Z_first_21, Z_last_22, Z_points_23, Z_least_24, Z_greatest_25, Z_sum_26)
def m_X0_addIfAsked (F_first : Int32) (F_last : Int32) (F_points : Int32) (F_least : Int32) (F_greatest : Int32) (F_sum : Int64) (p0 : Int32) (p1 : Int32) (p2 : Int32) (p3 : Int32) : Option (Int32 × Int32 × Int32 × Int32 × Int32 × Int64) :=
  ob6 (
    if p0 < p2 then (
      some (F_first, F_last, F_points, F_least, F_greatest, F_sum)) else (
      if p3 < p0 then (
        some (F_first, F_last, F_points, F_least, F_greatest, F_sum)) else (
        ob6 (m_X6_addPoint F_first F_last F_points F_least F_greatest F_sum p0 p1) fun F_first_12 F_last_13 F_points_14 F_least_15 F_greatest_16 F_sum_17 =>
        some (F_first_12, F_last_13, F_points_14, F_least_15, F_greatest_16, F_sum_17)))) fun F_first_1 F_last_2 F_points_3 F_least_4 F_greatest_5 F_sum_6 =>
  some (F_first_1, F_last_2, F_points_3, F_least_4, F_greatest_5, F_sum_6)
def lp_X0_askEntries_99 (D_cells : Nat → Int32) (p2 : Int32) (p3 : Int32) (Z_points_52 : Int32) (U_place_87 : Int32) : Nat → Int32 → Int32 → Int32 → Int32 → Int32 → Int64 → Int32 → Int32 → Int32 → Int32 → Int32 → Int64 → Option (Int32 × Int32 × Int32 × Int32 × Int64 × Int32 × Int32 × Int32 × Int32 × Int32 × Int64)
  | 0, _, _, _, _, _, _, _, _, _, _, _, _ => none
  | n + 1, v7_92, U_bitsRead_93, U_started_94, U_time_95, U_value_96, U_rise_97, F_first_98, F_last_99, F_points_100, F_least_101, F_greatest_102, F_sum_103 =>
    if Z_points_52 ≤ v7_92 then (
      some (U_bitsRead_93, U_started_94, U_time_95, U_value_96, U_rise_97, F_first_98, F_last_99, F_points_100, F_least_101, F_greatest_102, F_sum_103)) else (
      ob5 (m_X8_step D_cells U_place_87 U_bitsRead_93 U_started_94 U_time_95 U_value_96 U_rise_97) fun U_bitsRead_122 U_started_123 U_time_124 U_value_125 U_rise_126 =>
      ob6 (m_X0_addIfAsked F_first_98 F_last_99 F_points_100 F_least_101 F_greatest_102 F_sum_103 U_time_124 U_value_125 p2 p3) fun F_first_129 F_last_130 F_points_131 F_least_132 F_greatest_133 F_sum_134 =>
      lp_X0_askEntries_99 D_cells p2 p3 Z_points_52 U_place_87 n (v7_92 + (1 : Int32)) U_bitsRead_122 U_started_123 U_time_124 U_value_125 U_rise_126 F_first_129 F_last_130 F_points_131 F_least_132 F_greatest_133 F_sum_134)
def lp_X0_askEntries_3 (D_cells : Nat → Int32) (p1 : Int32) (p2 : Int32) (p3 : Int32) : Nat → Int32 → Int32 → Int32 → Int32 → Int32 → Int32 → Int64 → Int32 → Int32 → Int32 → Int32 → Int32 → Int32 → Int32 → Int64 → Int32 → Int32 → Int32 → Int32 → Int32 → Int64 → Option (Int32 × Int32 × Int32 × Int32 × Int32 × Int64 × Int32 × Int32 × Int32 × Int32 × Int32 × Int32 × Int32 × Int64 × Int32 × Int32 × Int32 × Int32 × Int32 × Int64)
  | 0, _, _, _, _, _, _, _, _, _, _, _, _, _, _, _, _, _, _, _, _, _ => none
  | n + 1, v5_2, U_place_3, U_bitsRead_4, U_started_5, U_time_6, U_value_7, U_rise_8, Q_looks_9, Q_unpacked_10, F_first_11, F_last_12, F_points_13, F_least_14, F_greatest_15, F_sum_16, Z_first_17, Z_last_18, Z_points_19, Z_least_20, Z_greatest_21, Z_sum_22 =>
    if p1 ≤ v5_2 then (
      some (U_place_3, U_bitsRead_4, U_started_5, U_time_6, U_value_7, U_rise_8, Q_looks_9, Q_unpacked_10, F_first_11, F_last_12, F_points_13, F_least_14, F_greatest_15, F_sum_16, Z_first_17, Z_last_18, Z_points_19, Z_least_20, Z_greatest_21, Z_sum_22)) else (
      ob6 (m_X0_summaryOf D_cells Z_first_17 Z_last_18 Z_points_19 Z_least_20 Z_greatest_21 Z_sum_22 v5_2 (v5_2 + (1 : Int32))) fun Z_first_50 Z_last_51 Z_points_52 Z_least_53 Z_greatest_54 Z_sum_55 =>
      ob1 (m_X6_isOut Z_first_50 Z_last_51 p2 p3) fun r_60 =>
      ob13 (
        if r_60 = 0 then (
          ob1 (m_X6_isIn Z_first_50 Z_last_51 p2 p3) fun r_79 =>
          if r_79 = 0 then (
            ob1 (m_X3_at D_cells v5_2 (8 : Int32)) fun r_84 =>
            ob3 (m_X8_open U_place_3 U_bitsRead_4 U_started_5 r_84) fun U_place_87 U_bitsRead_88 U_started_89 =>
            ob11 (lp_X0_askEntries_99 D_cells p2 p3 Z_points_52 U_place_87 NN (0 : Int32) U_bitsRead_88 U_started_89 U_time_6 U_value_7 U_rise_8 F_first_11 F_last_12 F_points_13 F_least_14 F_greatest_15 F_sum_16) fun U_bitsRead_108 U_started_109 U_time_110 U_value_111 U_rise_112 F_first_113 F_last_114 F_points_115 F_least_116 F_greatest_117 F_sum_118 =>
            some (U_place_87, U_bitsRead_108, U_started_109, U_time_110, U_value_111, U_rise_112, (Q_unpacked_10 + (1 : Int32)), F_first_113, F_last_114, F_points_115, F_least_116, F_greatest_117, F_sum_118)) else (
            ob6 (m_X6_addSummary F_first_11 F_last_12 F_points_13 F_least_14 F_greatest_15 F_sum_16 Z_first_50 Z_last_51 Z_points_52 Z_least_53 Z_greatest_54 Z_sum_55) fun F_first_139 F_last_140 F_points_141 F_least_142 F_greatest_143 F_sum_144 =>
            some (U_place_3, U_bitsRead_4, U_started_5, U_time_6, U_value_7, U_rise_8, Q_unpacked_10, F_first_139, F_last_140, F_points_141, F_least_142, F_greatest_143, F_sum_144))) else (
          some (U_place_3, U_bitsRead_4, U_started_5, U_time_6, U_value_7, U_rise_8, Q_unpacked_10, F_first_11, F_last_12, F_points_13, F_least_14, F_greatest_15, F_sum_16))) fun U_place_62 U_bitsRead_63 U_started_64 U_time_65 U_value_66 U_rise_67 Q_unpacked_68 F_first_69 F_last_70 F_points_71 F_least_72 F_greatest_73 F_sum_74 =>
      lp_X0_askEntries_3 D_cells p1 p2 p3 n (v5_2 + (1 : Int32)) U_place_62 U_bitsRead_63 U_started_64 U_time_65 U_value_66 U_rise_67 (Q_looks_9 + (1 : Int32)) Q_unpacked_68 F_first_69 F_last_70 F_points_71 F_least_72 F_greatest_73 F_sum_74 Z_first_50 Z_last_51 Z_points_52 Z_least_53 Z_greatest_54 Z_sum_55)
def m_X0_askEntries (D_cells : Nat → Int32) (U_place : Int32) (U_bitsRead : Int32) (U_started : Int32) (U_time : Int32) (U_value : Int32) (U_rise : Int64) (Q_looks : Int32) (Q_unpacked : Int32) (F_first : Int32) (F_last : Int32) (F_points : Int32) (F_least : Int32) (F_greatest : Int32) (F_sum : Int64) (Z_first : Int32) (Z_last : Int32) (Z_points : Int32) (Z_least : Int32) (Z_greatest : Int32) (Z_sum : Int64) (p0 : Int32) (p1 : Int32) (p2 : Int32) (p3 : Int32) : Option (Int32 × Int32 × Int32 × Int32 × Int32 × Int64 × Int32 × Int32 × Int32 × Int32 × Int32 × Int32 × Int32 × Int64 × Int32 × Int32 × Int32 × Int32 × Int32 × Int64) :=
  ob20 (lp_X0_askEntries_3 D_cells p1 p2 p3 NN p0 U_place U_bitsRead U_started U_time U_value U_rise Q_looks Q_unpacked F_first F_last F_points F_least F_greatest F_sum Z_first Z_last Z_points Z_least Z_greatest Z_sum) fun U_place_27 U_bitsRead_28 U_started_29 U_time_30 U_value_31 U_rise_32 Q_looks_33 Q_unpacked_34 F_first_35 F_last_36 F_points_37 F_least_38 F_greatest_39 F_sum_40 Z_first_41 Z_last_42 Z_points_43 Z_least_44 Z_greatest_45 Z_sum_46 =>
  some (U_place_27, U_bitsRead_28, U_started_29, U_time_30, U_value_31, U_rise_32, Q_looks_33, Q_unpacked_34, F_first_35, F_last_36, F_points_37, F_least_38, F_greatest_39, F_sum_40, Z_first_41, Z_last_42, Z_points_43, Z_least_44, Z_greatest_45, Z_sum_46)
def lp_X0_askHead_3 (D_cells : Nat → Int32) (G_logged : Int32) (p0 : Int32) (p1 : Int32) (p2 : Int32) : Nat → Int32 → Int32 → Int32 → Int32 → Int32 → Int32 → Int64 → Option (Int32 × Int32 × Int32 × Int32 × Int32 × Int64)
  | 0, _, _, _, _, _, _, _ => none
  | n + 1, v4_2, F_first_3, F_last_4, F_points_5, F_least_6, F_greatest_7, F_sum_8 =>
    ob1 (m_X4_logged G_logged) fun r_21 =>
    if r_21 ≤ v4_2 then (
      some (F_first_3, F_last_4, F_points_5, F_least_6, F_greatest_7, F_sum_8)) else (
      ob1 (m_X4_at D_cells v4_2 (0 : Int32)) fun r_25 =>
      ob6 (
        if r_25 = p0 then (
          ob1 (m_X4_at D_cells v4_2 (1 : Int32)) fun r_37 =>
          ob1 (m_X4_at D_cells v4_2 (2 : Int32)) fun r_40 =>
          ob6 (m_X0_addIfAsked F_first_3 F_last_4 F_points_5 F_least_6 F_greatest_7 F_sum_8 r_37 r_40 p1 p2) fun F_first_43 F_last_44 F_points_45 F_least_46 F_greatest_47 F_sum_48 =>
          some (F_first_43, F_last_44, F_points_45, F_least_46, F_greatest_47, F_sum_48)) else (
          some (F_first_3, F_last_4, F_points_5, F_least_6, F_greatest_7, F_sum_8))) fun F_first_27 F_last_28 F_points_29 F_least_30 F_greatest_31 F_sum_32 =>
      lp_X0_askHead_3 D_cells G_logged p0 p1 p2 n (v4_2 + (1 : Int32)) F_first_27 F_last_28 F_points_29 F_least_30 F_greatest_31 F_sum_32)
def m_X0_askHead (D_cells : Nat → Int32) (G_logged : Int32) (F_first : Int32) (F_last : Int32) (F_points : Int32) (F_least : Int32) (F_greatest : Int32) (F_sum : Int64) (p0 : Int32) (p1 : Int32) (p2 : Int32) : Option (Int32 × Int32 × Int32 × Int32 × Int32 × Int64) :=
  ob6 (lp_X0_askHead_3 D_cells G_logged p0 p1 p2 NN (0 : Int32) F_first F_last F_points F_least F_greatest F_sum) fun F_first_13 F_last_14 F_points_15 F_least_16 F_greatest_17 F_sum_18 =>
  some (F_first_13, F_last_14, F_points_15, F_least_16, F_greatest_17, F_sum_18)
def lp_X0_ask_47 (D_cells : Nat → Int32) (Q_ratio : Int32) (p1 : Int32) (p2 : Int32) (r_2 : Int32) : Nat → Int32 → Int32 → Int32 → Int32 → Int32 → Int32 → Int64 → Int32 → Int32 → Int32 → Int32 → Int32 → Int32 → Int32 → Int64 → Int32 → Int32 → Int32 → Int32 → Int32 → Int64 → Option (Int32 × Int32 × Int32 × Int32 × Int32 × Int64 × Int32 × Int32 × Int32 × Int32 × Int32 × Int32 × Int32 × Int64 × Int32 × Int32 × Int32 × Int32 × Int32 × Int64)
  | 0, _, _, _, _, _, _, _, _, _, _, _, _, _, _, _, _, _, _, _, _, _ => none
  | n + 1, v6_20, U_place_21, U_bitsRead_22, U_started_23, U_time_24, U_value_25, U_rise_26, Q_looks_27, Q_unpacked_28, F_first_29, F_last_30, F_points_31, F_least_32, F_greatest_33, F_sum_34, Z_first_35, Z_last_36, Z_points_37, Z_least_38, Z_greatest_39, Z_sum_40 =>
    if r_2 ≤ v6_20 then (
      some (U_place_21, U_bitsRead_22, U_started_23, U_time_24, U_value_25, U_rise_26, Q_looks_27, Q_unpacked_28, F_first_29, F_last_30, F_points_31, F_least_32, F_greatest_33, F_sum_34, Z_first_35, Z_last_36, Z_points_37, Z_least_38, Z_greatest_39, Z_sum_40)) else (
      ob6 (m_X0_summaryOf D_cells Z_first_35 Z_last_36 Z_points_37 Z_least_38 Z_greatest_39 Z_sum_40 v6_20 (if r_2 < (v6_20 + (if (2 : Int32) < Q_ratio then Q_ratio else (2 : Int32))) then r_2 else (v6_20 + (if (2 : Int32) < Q_ratio then Q_ratio else (2 : Int32))))) fun Z_first_69 Z_last_70 Z_points_71 Z_least_72 Z_greatest_73 Z_sum_74 =>
      ob1 (m_X6_isOut Z_first_69 Z_last_70 p1 p2) fun r_79 =>
      ob20 (
        if r_79 = 0 then (
          ob1 (m_X6_isIn Z_first_69 Z_last_70 p1 p2) fun r_105 =>
          if r_105 = 0 then (
            ob20 (m_X0_askEntries D_cells U_place_21 U_bitsRead_22 U_started_23 U_time_24 U_value_25 U_rise_26 (Q_looks_27 + (1 : Int32)) Q_unpacked_28 F_first_29 F_last_30 F_points_31 F_least_32 F_greatest_33 F_sum_34 Z_first_69 Z_last_70 Z_points_71 Z_least_72 Z_greatest_73 Z_sum_74 v6_20 (if r_2 < (v6_20 + (if (2 : Int32) < Q_ratio then Q_ratio else (2 : Int32))) then r_2 else (v6_20 + (if (2 : Int32) < Q_ratio then Q_ratio else (2 : Int32)))) p1 p2) fun U_place_109 U_bitsRead_110 U_started_111 U_time_112 U_value_113 U_rise_114 Q_looks_115 Q_unpacked_116 F_first_117 F_last_118 F_points_119 F_least_120 F_greatest_121 F_sum_122 Z_first_123 Z_last_124 Z_points_125 Z_least_126 Z_greatest_127 Z_sum_128 =>
            some (U_place_109, U_bitsRead_110, U_started_111, U_time_112, U_value_113, U_rise_114, Q_looks_115, Q_unpacked_116, F_first_117, F_last_118, F_points_119, F_least_120, F_greatest_121, F_sum_122, Z_first_123, Z_last_124, Z_points_125, Z_least_126, Z_greatest_127, Z_sum_128)) else (
            ob6 (m_X6_addSummary F_first_29 F_last_30 F_points_31 F_least_32 F_greatest_33 F_sum_34 Z_first_69 Z_last_70 Z_points_71 Z_least_72 Z_greatest_73 Z_sum_74) fun F_first_131 F_last_132 F_points_133 F_least_134 F_greatest_135 F_sum_136 =>
            some (U_place_21, U_bitsRead_22, U_started_23, U_time_24, U_value_25, U_rise_26, (Q_looks_27 + (1 : Int32)), Q_unpacked_28, F_first_131, F_last_132, F_points_133, F_least_134, F_greatest_135, F_sum_136, Z_first_69, Z_last_70, Z_points_71, Z_least_72, Z_greatest_73, Z_sum_74))) else (
          some (U_place_21, U_bitsRead_22, U_started_23, U_time_24, U_value_25, U_rise_26, (Q_looks_27 + (1 : Int32)), Q_unpacked_28, F_first_29, F_last_30, F_points_31, F_least_32, F_greatest_33, F_sum_34, Z_first_69, Z_last_70, Z_points_71, Z_least_72, Z_greatest_73, Z_sum_74))) fun U_place_81 U_bitsRead_82 U_started_83 U_time_84 U_value_85 U_rise_86 Q_looks_87 Q_unpacked_88 F_first_89 F_last_90 F_points_91 F_least_92 F_greatest_93 F_sum_94 Z_first_95 Z_last_96 Z_points_97 Z_least_98 Z_greatest_99 Z_sum_100 =>
      lp_X0_ask_47 D_cells Q_ratio p1 p2 r_2 n (v6_20 + (if (2 : Int32) < Q_ratio then Q_ratio else (2 : Int32))) U_place_81 U_bitsRead_82 U_started_83 U_time_84 U_value_85 U_rise_86 Q_looks_87 Q_unpacked_88 F_first_89 F_last_90 F_points_91 F_least_92 F_greatest_93 F_sum_94 Z_first_95 Z_last_96 Z_points_97 Z_least_98 Z_greatest_99 Z_sum_100)
def m_X0_ask (D_cells : Nat → Int32) (G_logged : Int32) (U_place : Int32) (U_bitsRead : Int32) (U_started : Int32) (U_time : Int32) (U_value : Int32) (U_rise : Int64) (Q_ratio : Int32) (Q_looks : Int32) (Q_unpacked : Int32) (F_first : Int32) (F_last : Int32) (F_points : Int32) (F_least : Int32) (F_greatest : Int32) (F_sum : Int64) (Z_first : Int32) (Z_last : Int32) (Z_points : Int32) (Z_least : Int32) (Z_greatest : Int32) (Z_sum : Int64) (p0 : Int32) (p1 : Int32) (p2 : Int32) : Option (Int32 × Int32 × Int32 × Int32 × Int32 × Int64 × Int32 × Int32 × Int32 × Int32 × Int32 × Int32 × Int32 × Int64 × Int32 × Int32 × Int32 × Int32 × Int32 × Int64) :=
  ob1 (m_X3_endOf D_cells p0) fun r_2 =>
  ob6 (m_X6_clear F_first F_last F_points F_least F_greatest F_sum) fun F_first_8 F_last_9 F_points_10 F_least_11 F_greatest_12 F_sum_13 =>
  ob1 (m_X3_firstOf D_cells p0) fun r_17 =>
  ob20 (lp_X0_ask_47 D_cells Q_ratio p1 p2 r_2 NN r_17 U_place U_bitsRead U_started U_time U_value U_rise (0 : Int32) (0 : Int32) F_first_8 F_last_9 F_points_10 F_least_11 F_greatest_12 F_sum_13 Z_first Z_last Z_points Z_least Z_greatest Z_sum) fun U_place_45 U_bitsRead_46 U_started_47 U_time_48 U_value_49 U_rise_50 Q_looks_51 Q_unpacked_52 F_first_53 F_last_54 F_points_55 F_least_56 F_greatest_57 F_sum_58 Z_first_59 Z_last_60 Z_points_61 Z_least_62 Z_greatest_63 Z_sum_64 =>
  ob6 (m_X0_askHead D_cells G_logged F_first_53 F_last_54 F_points_55 F_least_56 F_greatest_57 F_sum_58 p0 p1 p2) fun F_first_142 F_last_143 F_points_144 F_least_145 F_greatest_146 F_sum_147 =>
  some (U_place_45, U_bitsRead_46, U_started_47, U_time_48, U_value_49, U_rise_50, Q_looks_51, Q_unpacked_52, F_first_142, F_last_143, F_points_144, F_least_145, F_greatest_146, F_sum_147, Z_first_59, Z_last_60, Z_points_61, Z_least_62, Z_greatest_63, Z_sum_64)
def m_X0_looks (Q_looks : Int32) : Option (Int32) :=
  some (Q_looks)
def m_X0_unpacked (Q_unpacked : Int32) : Option (Int32) :=
  some (Q_unpacked)
def m_X1_close (C_isOpen : Int32) (C_time : Int32) (C_value : Int32) : Option (Int32 × Int32 × Int32) :=
  some ((0 : Int32), (0 : Int32), (0 : Int32))
def m_X1_open (D_cells : Nat → Int32) (C_isOpen : Int32) (C_series : Int32) (C_from : Int32) (C_to : Int32) (C_entry : Int32) (C_entriesEnd : Int32) (C_pointsLeft : Int32) (C_block : Int32) (p0 : Int32) (p1 : Int32) (p2 : Int32) : Option (Int32 × Int32 × Int32 × Int32 × Int32 × Int32 × Int32 × Int32) :=
  ob1 (m_X3_firstOf D_cells p0) fun r_6 =>
  ob1 (m_X3_endOf D_cells p0) fun r_10 =>
  some ((1 : Int32), p0, p1, p2, r_6, r_10, (0 : Int32), (0 : Int32))
def lp_X1_openChunk_0 (D_cells : Nat → Int32) (C_from : Int32) (C_entriesEnd : Int32) : Nat → Int32 → Int32 → Int32 → Int32 → Int32 → Option (Int32 × Int32 × Int32 × Int32 × Int32)
  | 0, _, _, _, _, _ => none
  | n + 1, V_place_1, V_bitsRead_2, V_started_3, C_entry_4, C_pointsLeft_5 =>
    if C_entriesEnd ≤ C_entry_4 then (
      some (V_place_1, V_bitsRead_2, V_started_3, C_entry_4, C_pointsLeft_5)) else (
      if C_pointsLeft_5 = 0 then (
        ob1 (m_X3_at D_cells C_entry_4 (2 : Int32)) fun r_19 =>
        ob4 (
          if r_19 < C_from then (
            some (V_place_1, V_bitsRead_2, V_started_3, C_pointsLeft_5)) else (
            ob1 (m_X3_at D_cells C_entry_4 (8 : Int32)) fun r_29 =>
            ob3 (m_X8_open V_place_1 V_bitsRead_2 V_started_3 r_29) fun V_place_32 V_bitsRead_33 V_started_34 =>
            ob1 (m_X3_at D_cells C_entry_4 (3 : Int32)) fun r_37 =>
            some (V_place_32, V_bitsRead_33, V_started_34, r_37))) fun V_place_21 V_bitsRead_22 V_started_23 C_pointsLeft_24 =>
        lp_X1_openChunk_0 D_cells C_from C_entriesEnd n V_place_21 V_bitsRead_22 V_started_23 (C_entry_4 + (1 : Int32)) C_pointsLeft_24) else (
        some (V_place_1, V_bitsRead_2, V_started_3, C_entry_4, C_pointsLeft_5)))
def m_X1_openChunk (D_cells : Nat → Int32) (V_place : Int32) (V_bitsRead : Int32) (V_started : Int32) (C_from : Int32) (C_entry : Int32) (C_entriesEnd : Int32) (C_pointsLeft : Int32) : Option (Int32 × Int32 × Int32 × Int32 × Int32) :=
  ob5 (lp_X1_openChunk_0 D_cells C_from C_entriesEnd NN V_place V_bitsRead V_started C_entry C_pointsLeft) fun V_place_10 V_bitsRead_11 V_started_12 C_entry_13 C_pointsLeft_14 =>
  some (V_place_10, V_bitsRead_11, V_started_12, C_entry_13, C_pointsLeft_14)
def m_X1_standAt (C_time : Int32) (C_value : Int32) (p0 : Int32) (p1 : Int32) : Option (Int32 × Int32) :=
  some (p0, p1)
def lp_X1_findInChunks_11 (D_cells : Nat → Int32) (C_from : Int32) (C_time : Int32) (C_value : Int32) (V_place_1 : Int32) (C_entry_4 : Int32) : Nat → Int32 → Int32 → Int32 → Int32 → Int64 → Int32 → Option (Int32 × Int32 × Int32 × Int32 × Int32 × Int32 × Int64 × Int32 × Int32 × Int32 × Int32)
  | 0, _, _, _, _, _, _ => none
  | n + 1, V_bitsRead_17, V_started_18, V_time_19, V_value_20, V_rise_21, C_pointsLeft_22 =>
    if C_pointsLeft_22 ≤ 0 then (
      some ((0 : Int32), V_place_1, V_bitsRead_17, V_started_18, V_time_19, V_value_20, V_rise_21, C_entry_4, C_pointsLeft_22, C_time, C_value)) else (
      ob5 (m_X8_step D_cells V_place_1 V_bitsRead_17 V_started_18 V_time_19 V_value_20 V_rise_21) fun V_bitsRead_31 V_started_32 V_time_33 V_value_34 V_rise_35 =>
      if V_time_33 < C_from then (
        lp_X1_findInChunks_11 D_cells C_from C_time C_value V_place_1 C_entry_4 n V_bitsRead_31 V_started_32 V_time_33 V_value_34 V_rise_35 (C_pointsLeft_22 - (1 : Int32))) else (
        ob2 (m_X1_standAt C_time C_value V_time_33 V_value_34) fun C_time_39 C_value_40 =>
        some ((1 : Int32), V_place_1, V_bitsRead_31, V_started_32, V_time_33, V_value_34, V_rise_35, C_entry_4, (C_pointsLeft_22 - (1 : Int32)), C_time_39, C_value_40)))
def m_X1_findInChunks (D_cells : Nat → Int32) (V_place : Int32) (V_bitsRead : Int32) (V_started : Int32) (V_time : Int32) (V_value : Int32) (V_rise : Int64) (C_from : Int32) (C_entry : Int32) (C_entriesEnd : Int32) (C_pointsLeft : Int32) (C_time : Int32) (C_value : Int32) : Option (Int32 × Int32 × Int32 × Int32 × Int32 × Int32 × Int64 × Int32 × Int32 × Int32 × Int32) :=
  ob5 (
    if C_pointsLeft = 0 then (
      ob5 (m_X1_openChunk D_cells V_place V_bitsRead V_started C_from C_entry C_entriesEnd C_pointsLeft) fun V_place_10 V_bitsRead_11 V_started_12 C_entry_13 C_pointsLeft_14 =>
      some (V_place_10, V_bitsRead_11, V_started_12, C_entry_13, C_pointsLeft_14)) else (
      some (V_place, V_bitsRead, V_started, C_entry, C_pointsLeft))) fun V_place_1 V_bitsRead_2 V_started_3 C_entry_4 C_pointsLeft_5 =>
  lp_X1_findInChunks_11 D_cells C_from C_time C_value V_place_1 C_entry_4 NN V_bitsRead_2 V_started_3 V_time V_value V_rise C_pointsLeft_5
def lp_X1_findInHead_0 (D_cells : Nat → Int32) (G_logged : Int32) (C_series : Int32) (C_from : Int32) (C_time : Int32) (C_value : Int32) : Nat → Int32 → Option (Int32 × Int32 × Int32 × Int32)
  | 0, _ => none
  | n + 1, C_block_1 =>
    ob1 (m_X4_logged G_logged) fun r_8 =>
    if r_8 ≤ C_block_1 then (
      some ((0 : Int32), C_block_1, C_time, C_value)) else (
      ob1 (m_X4_at D_cells C_block_1 (0 : Int32)) fun r_14 =>
      if r_14 = C_series then (
        ob1 (m_X4_at D_cells C_block_1 (1 : Int32)) fun r_18 =>
        if r_18 < C_from then (
          lp_X1_findInHead_0 D_cells G_logged C_series C_from C_time C_value n (C_block_1 + (1 : Int32))) else (
          ob1 (m_X4_at D_cells C_block_1 (1 : Int32)) fun r_22 =>
          ob1 (m_X4_at D_cells C_block_1 (2 : Int32)) fun r_25 =>
          ob2 (m_X1_standAt C_time C_value r_22 r_25) fun C_time_28 C_value_29 =>
          some ((1 : Int32), (C_block_1 + (1 : Int32)), C_time_28, C_value_29))) else (
        lp_X1_findInHead_0 D_cells G_logged C_series C_from C_time C_value n (C_block_1 + (1 : Int32))))
def m_X1_findInHead (D_cells : Nat → Int32) (G_logged : Int32) (C_series : Int32) (C_from : Int32) (C_block : Int32) (C_time : Int32) (C_value : Int32) : Option (Int32 × Int32 × Int32 × Int32) :=
  lp_X1_findInHead_0 D_cells G_logged C_series C_from C_time C_value NN C_block
def m_X1_advance (D_cells : Nat → Int32) (G_logged : Int32) (V_place : Int32) (V_bitsRead : Int32) (V_started : Int32) (V_time : Int32) (V_value : Int32) (V_rise : Int64) (C_isOpen : Int32) (C_series : Int32) (C_from : Int32) (C_to : Int32) (C_entry : Int32) (C_entriesEnd : Int32) (C_pointsLeft : Int32) (C_block : Int32) (C_time : Int32) (C_value : Int32) : Option (Int32 × Int32 × Int32 × Int32 × Int32 × Int32 × Int64 × Int32 × Int32 × Int32 × Int32 × Int32 × Int32) :=
  if C_isOpen = 0 then (
    ob3 (m_X1_close C_isOpen C_time C_value) fun C_isOpen_3 C_time_4 C_value_5 =>
    some ((0 : Int32), V_place, V_bitsRead, V_started, V_time, V_value, V_rise, C_isOpen_3, C_entry, C_pointsLeft, C_block, C_time_4, C_value_5)) else (
    ob11 (m_X1_findInChunks D_cells V_place V_bitsRead V_started V_time V_value V_rise C_from C_entry C_entriesEnd C_pointsLeft C_time C_value) fun r_8 V_place_9 V_bitsRead_10 V_started_11 V_time_12 V_value_13 V_rise_14 C_entry_15 C_pointsLeft_16 C_time_17 C_value_18 =>
    if r_8 = 0 then (
      ob4 (m_X1_findInHead D_cells G_logged C_series C_from C_block C_time_17 C_value_18) fun r_28 C_block_29 C_time_30 C_value_31 =>
      if r_28 = 0 then (
        ob3 (m_X1_close C_isOpen C_time_30 C_value_31) fun C_isOpen_35 C_time_36 C_value_37 =>
        some ((0 : Int32), V_place_9, V_bitsRead_10, V_started_11, V_time_12, V_value_13, V_rise_14, C_isOpen_35, C_entry_15, C_pointsLeft_16, C_block_29, C_time_36, C_value_37)) else (
        if C_to < C_time_30 then (
          ob3 (m_X1_close C_isOpen C_time_30 C_value_31) fun C_isOpen_41 C_time_42 C_value_43 =>
          some ((0 : Int32), V_place_9, V_bitsRead_10, V_started_11, V_time_12, V_value_13, V_rise_14, C_isOpen_41, C_entry_15, C_pointsLeft_16, C_block_29, C_time_42, C_value_43)) else (
          some ((1 : Int32), V_place_9, V_bitsRead_10, V_started_11, V_time_12, V_value_13, V_rise_14, C_isOpen, C_entry_15, C_pointsLeft_16, C_block_29, C_time_30, C_value_31)))) else (
      if C_to < C_time_17 then (
        ob3 (m_X1_close C_isOpen C_time_17 C_value_18) fun C_isOpen_23 C_time_24 C_value_25 =>
        some ((0 : Int32), V_place_9, V_bitsRead_10, V_started_11, V_time_12, V_value_13, V_rise_14, C_isOpen_23, C_entry_15, C_pointsLeft_16, C_block, C_time_24, C_value_25)) else (
        some ((1 : Int32), V_place_9, V_bitsRead_10, V_started_11, V_time_12, V_value_13, V_rise_14, C_isOpen, C_entry_15, C_pointsLeft_16, C_block, C_time_17, C_value_18))))
def lp_X7_take_6 (p0 : Int32) (p1 : Int32) : Nat → Int32 → (Nat → Int32) → Option ((Nat → Int32))
  | 0, _, _ => none
  | n + 1, v3_2, T_taken_3 =>
    if ((p0 - (2435 : Int32)) + p1) ≤ v3_2 then (
      some (T_taken_3)) else (
      ob1 (
        if v3_2 < 0 then (
          some (T_taken_3)) else (
          if (1661 : Int32) ≤ v3_2 then (
            some (T_taken_3)) else (
            ckb v3_2 1661 <|
            some ((upd T_taken_3 (Int32.toNatClampNeg v3_2) (vp_nar .boolean (1 : Int32))))))) fun T_taken_11 =>
      lp_X7_take_6 p0 p1 n (v3_2 + (1 : Int32)) T_taken_11)
def m_X7_take (T_taken : Nat → Int32) (p0 : Int32) (p1 : Int32) : Option ((Nat → Int32)) :=
  ob1 (lp_X7_take_6 p0 p1 NN (p0 - (2435 : Int32)) T_taken) fun T_taken_8 =>
  some (T_taken_8)
def lp_X7_begin_31 : Nat → Int32 → (Nat → Int32) → Option ((Nat → Int32))
  | 0, _, _ => none
  | n + 1, v1_18, T_taken_19 =>
    if (1661 : Int32) ≤ v1_18 then (
      some (T_taken_19)) else (
      ckb v1_18 1661 <|
      lp_X7_begin_31 n (v1_18 + (1 : Int32)) (upd T_taken_19 (Int32.toNatClampNeg v1_18) (vp_nar .boolean (0 : Int32))))
def lp_X7_begin_61 (D_cells : Nat → Int32) (r_32 : Int32) : Nat → Int32 → (Nat → Int32) → Option ((Nat → Int32))
  | 0, _, _ => none
  | n + 1, v2_36, T_taken_37 =>
    if r_32 ≤ v2_36 then (
      some (T_taken_37)) else (
      ob1 (m_X3_at D_cells v2_36 (8 : Int32)) fun r_46 =>
      ob1 (m_X3_at D_cells v2_36 (9 : Int32)) fun r_49 =>
      ob1 (m_X7_take T_taken_37 r_46 r_49) fun T_taken_52 =>
      lp_X7_begin_61 D_cells r_32 n (v2_36 + (1 : Int32)) T_taken_52)
def m_X7_begin (D_cells : Nat → Int32) (T_chunks : Int32) (T_chunksMade : Int32) (T_lacksSpace : Int32) (K_used : Int32) (K_bitsFree : Int32) (K_full : Int32) (O_first : Int32) (O_last : Int32) (O_points : Int32) (O_least : Int32) (O_greatest : Int32) (O_sum : Int64) (T_taken : Nat → Int32) : Option (Int32 × Int32 × Int32 × Int32 × Int32 × Int32 × Int32 × Int32 × Int32 × Int32 × Int32 × Int64 × (Nat → Int32)) :=
  ob3 (m_X5_clear K_used K_bitsFree K_full) fun K_used_2 K_bitsFree_3 K_full_4 =>
  ob6 (m_X6_clear O_first O_last O_points O_least O_greatest O_sum) fun O_first_7 O_last_8 O_points_9 O_least_10 O_greatest_11 O_sum_12 =>
  ob1 (lp_X7_begin_31 NN (0 : Int32) T_taken) fun T_taken_24 =>
  ob1 (m_X3_chunks D_cells) fun r_32 =>
  ob1 (lp_X7_begin_61 D_cells r_32 NN (0 : Int32) T_taken_24) fun T_taken_42 =>
  some ((0 : Int32), (0 : Int32), (0 : Int32), K_used_2, K_bitsFree_3, K_full_4, O_first_7, O_last_8, O_points_9, O_least_10, O_greatest_11, O_sum_12, T_taken_42)
def lp_X7_keep_17 (D_cells : Nat → Int32) (T_chunks : Int32) (p0 : Int32) : Nat → Int32 → (Nat → Int32) → Option ((Nat → Int32))
  | 0, _, _ => none
  | n + 1, v2_3, T_image_4 =>
    if (10 : Int32) ≤ v2_3 then (
      some (T_image_4)) else (
      ob1 (m_X3_at D_cells p0 v2_3) fun r_13 =>
      ckb (((1 : Int32) + (T_chunks * (10 : Int32))) + v2_3) 961 <|
      lp_X7_keep_17 D_cells T_chunks p0 n (v2_3 + (1 : Int32)) (upd T_image_4 (Int32.toNatClampNeg (((1 : Int32) + (T_chunks * (10 : Int32))) + v2_3)) r_13))
def m_X7_keep (D_cells : Nat → Int32) (T_chunks : Int32) (T_lacksSpace : Int32) (T_image : Nat → Int32) (T_packedFrom : Nat → Int32) (p0 : Int32) : Option (Int32 × Int32 × (Nat → Int32) × (Nat → Int32)) :=
  if T_chunks < (96 : Int32) then (
    ob1 (lp_X7_keep_17 D_cells T_chunks p0 NN (0 : Int32) T_image) fun T_image_9 =>
    ckb T_chunks 96 <|
    some ((T_chunks + (1 : Int32)), T_lacksSpace, T_image_9, (upd T_packedFrom (Int32.toNatClampNeg T_chunks) (-1 : Int32)))) else (
    some (T_chunks, (1 : Int32), T_image, T_packedFrom))
def m_X7_pointsOpen (O_points : Int32) : Option (Int32) :=
  some (O_points)
def lp_X7_findPlace_4 (T_taken : Nat → Int32) (p0 : Int32) : Nat → Int32 → Int32 → Option (Int32)
  | 0, _, _ => none
  | n + 1, v2_3, v3_4 =>
    if (1661 : Int32) ≤ v3_4 then (
      some ((-1 : Int32))) else (
      ckb v3_4 1661 <|
      ob1 (
        if (T_taken (Int32.toNatClampNeg v3_4)) = 0 then (
          some ((v2_3 + (1 : Int32)))) else (
          some ((0 : Int32)))) fun s_12 =>
      if s_12 = p0 then (
        some (((((2435 : Int32) + v3_4) + (1 : Int32)) - p0))) else (
        lp_X7_findPlace_4 T_taken p0 n s_12 (v3_4 + (1 : Int32))))
def m_X7_findPlace (T_taken : Nat → Int32) (p0 : Int32) : Option (Int32) :=
  lp_X7_findPlace_4 T_taken p0 NN (0 : Int32) (0 : Int32)
def m_X7_addEntry (T_chunks : Int32) (T_openFrom : Int32) (O_first : Int32) (O_last : Int32) (O_points : Int32) (O_least : Int32) (O_greatest : Int32) (O_sum : Int64) (T_image : Nat → Int32) (T_packedFrom : Nat → Int32) (p0 : Int32) (p1 : Int32) (p2 : Int32) : Option (Int32 × (Nat → Int32) × (Nat → Int32)) :=
  ckb (((1 : Int32) + (T_chunks * (10 : Int32))) + (0 : Int32)) 961 <|
  ckb (((1 : Int32) + (T_chunks * (10 : Int32))) + (1 : Int32)) 961 <|
  ckb (((1 : Int32) + (T_chunks * (10 : Int32))) + (2 : Int32)) 961 <|
  ckb (((1 : Int32) + (T_chunks * (10 : Int32))) + (3 : Int32)) 961 <|
  ckb (((1 : Int32) + (T_chunks * (10 : Int32))) + (4 : Int32)) 961 <|
  ckb (((1 : Int32) + (T_chunks * (10 : Int32))) + (5 : Int32)) 961 <|
  ckb (((1 : Int32) + (T_chunks * (10 : Int32))) + (6 : Int32)) 961 <|
  ckb (((1 : Int32) + (T_chunks * (10 : Int32))) + (7 : Int32)) 961 <|
  ckb (((1 : Int32) + (T_chunks * (10 : Int32))) + (8 : Int32)) 961 <|
  ckb (((1 : Int32) + (T_chunks * (10 : Int32))) + (9 : Int32)) 961 <|
  ckb T_chunks 96 <|
  some ((T_chunks + (1 : Int32)), (upd (upd (upd (upd (upd (upd (upd (upd (upd (upd T_image (Int32.toNatClampNeg (((1 : Int32) + (T_chunks * (10 : Int32))) + (0 : Int32))) p0) (Int32.toNatClampNeg (((1 : Int32) + (T_chunks * (10 : Int32))) + (1 : Int32))) O_first) (Int32.toNatClampNeg (((1 : Int32) + (T_chunks * (10 : Int32))) + (2 : Int32))) O_last) (Int32.toNatClampNeg (((1 : Int32) + (T_chunks * (10 : Int32))) + (3 : Int32))) O_points) (Int32.toNatClampNeg (((1 : Int32) + (T_chunks * (10 : Int32))) + (4 : Int32))) O_least) (Int32.toNatClampNeg (((1 : Int32) + (T_chunks * (10 : Int32))) + (5 : Int32))) O_greatest) (Int32.toNatClampNeg (((1 : Int32) + (T_chunks * (10 : Int32))) + (6 : Int32))) (Int64.toInt32 (O_sum >>> (Int32.toInt64 (32 : Int32) &&& 63)))) (Int32.toNatClampNeg (((1 : Int32) + (T_chunks * (10 : Int32))) + (7 : Int32))) (Int64.toInt32 O_sum)) (Int32.toNatClampNeg (((1 : Int32) + (T_chunks * (10 : Int32))) + (8 : Int32))) p1) (Int32.toNatClampNeg (((1 : Int32) + (T_chunks * (10 : Int32))) + (9 : Int32))) p2), (upd T_packedFrom (Int32.toNatClampNeg T_chunks) T_openFrom))
def m_X7_seal (T_chunks : Int32) (T_chunksMade : Int32) (T_openFrom : Int32) (T_lacksSpace : Int32) (K_used : Int32) (K_full : Int32) (O_first : Int32) (O_last : Int32) (O_points : Int32) (O_least : Int32) (O_greatest : Int32) (O_sum : Int64) (T_image : Nat → Int32) (T_packedFrom : Nat → Int32) (T_taken : Nat → Int32) (p0 : Int32) : Option (Int32 × Int32 × Int32 × Int32 × Int32 × Int32 × Int32 × Int32 × Int64 × (Nat → Int32) × (Nat → Int32) × (Nat → Int32)) :=
  if O_points = 0 then (
    some (T_chunks, T_chunksMade, T_lacksSpace, O_first, O_last, O_points, O_least, O_greatest, O_sum, T_image, T_packedFrom, T_taken)) else (
    ob1 (m_X5_used K_used) fun r_3 =>
    ob1 (m_X7_findPlace T_taken (r_3 - T_openFrom)) fun r_7 =>
    ob1 (m_X5_isFull K_full) fun r_11 =>
    ob5 (
      if r_11 = 0 then (
        if r_7 = (-1 : Int32) then (
          some (T_chunks, (1 : Int32), T_image, T_packedFrom, T_taken)) else (
          if T_chunks < (96 : Int32) then (
            ob1 (m_X7_take T_taken r_7 (r_3 - T_openFrom)) fun T_taken_26 =>
            ob3 (m_X7_addEntry T_chunks T_openFrom O_first O_last O_points O_least O_greatest O_sum T_image T_packedFrom p0 r_7 (r_3 - T_openFrom)) fun T_chunks_29 T_image_30 T_packedFrom_31 =>
            some (T_chunks_29, T_lacksSpace, T_image_30, T_packedFrom_31, T_taken_26)) else (
            some (T_chunks, (1 : Int32), T_image, T_packedFrom, T_taken)))) else (
        some (T_chunks, (1 : Int32), T_image, T_packedFrom, T_taken))) fun T_chunks_13 T_lacksSpace_14 T_image_15 T_packedFrom_16 T_taken_17 =>
    ob6 (m_X6_clear O_first O_last O_points O_least O_greatest O_sum) fun O_first_37 O_last_38 O_points_39 O_least_40 O_greatest_41 O_sum_42 =>
    some (T_chunks_13, (T_chunksMade + (1 : Int32)), T_lacksSpace_14, O_first_37, O_last_38, O_points_39, O_least_40, O_greatest_41, O_sum_42, T_image_15, T_packedFrom_16, T_taken_17))
def m_X7_pack (T_openFrom : Int32) (K_used : Int32) (K_bitsFree : Int32) (K_full : Int32) (K_time : Int32) (K_value : Int32) (K_rise : Int64) (K_cells : Nat → Int32) (O_first : Int32) (O_last : Int32) (O_points : Int32) (O_least : Int32) (O_greatest : Int32) (O_sum : Int64) (p0 : Int32) (p1 : Int32) : Option (Int32 × Int32 × Int32 × Int32 × Int32 × Int32 × Int64 × (Nat → Int32) × Int32 × Int32 × Int32 × Int32 × Int32 × Int64) :=
  ob8 (
    if O_points = 0 then (
      ob1 (m_X5_used K_used) fun r_22 =>
      ob7 (m_X5_packFirst K_used K_bitsFree K_full K_time K_value K_rise K_cells p0 p1) fun K_used_26 K_bitsFree_27 K_full_28 K_time_29 K_value_30 K_rise_31 K_cells_32 =>
      some (r_22, K_used_26, K_bitsFree_27, K_full_28, K_time_29, K_value_30, K_rise_31, K_cells_32)) else (
      ob7 (m_X5_packFurther K_used K_bitsFree K_full K_time K_value K_rise K_cells p0 p1) fun K_used_13 K_bitsFree_14 K_full_15 K_time_16 K_value_17 K_rise_18 K_cells_19 =>
      some (T_openFrom, K_used_13, K_bitsFree_14, K_full_15, K_time_16, K_value_17, K_rise_18, K_cells_19))) fun T_openFrom_1 K_used_2 K_bitsFree_3 K_full_4 K_time_5 K_value_6 K_rise_7 K_cells_8 =>
  ob6 (m_X6_addPoint O_first O_last O_points O_least O_greatest O_sum p0 p1) fun O_first_36 O_last_37 O_points_38 O_least_39 O_greatest_40 O_sum_41 =>
  some (T_openFrom_1, K_used_2, K_bitsFree_3, K_full_4, K_time_5, K_value_6, K_rise_7, K_cells_8, O_first_36, O_last_37, O_points_38, O_least_39, O_greatest_40, O_sum_41)
def m_X7_chunksMade (T_chunksMade : Int32) : Option (Int32) :=
  some (T_chunksMade)
def m_X7_lacksSpace (T_lacksSpace : Int32) : Option (Int32) :=
  ckz T_lacksSpace <|
  some (T_lacksSpace)
def lp_X7_writeCellsOf_31 (K_used : Int32) (K_cells : Nat → Int32) (T_image : Nat → Int32) (T_packedFrom : Nat → Int32) (p0 : Int32) : Nat → Int32 → Int32 → Int32 → Int32 → (Nat → Int32) → Option (Int32 × Int32 × Int32 × Int32 × (Nat → Int32))
  | 0, _, _, _, _, _ => none
  | n + 1, v5_7, D_writesDone_8, D_writesLeft_9, D_down_10, D_cells_11 =>
    if (T_image (Int32.toNatClampNeg (((1 : Int32) + (p0 * (10 : Int32))) + (9 : Int32)))) ≤ v5_7 then (
      some ((1 : Int32), D_writesDone_8, D_writesLeft_9, D_down_10, D_cells_11)) else (
      ckb p0 96 <|
      ob1 (m_X5_at K_used K_cells ((T_packedFrom (Int32.toNatClampNeg p0)) + v5_7)) fun r_20 =>
      ob5 (m_X2_write D_writesDone_8 D_writesLeft_9 D_down_10 D_cells_11 ((T_image (Int32.toNatClampNeg (((1 : Int32) + (p0 * (10 : Int32))) + (8 : Int32)))) + v5_7) r_20) fun r_23 D_writesDone_24 D_writesLeft_25 D_down_26 D_cells_27 =>
      if r_23 = 0 then (
        some ((0 : Int32), D_writesDone_24, D_writesLeft_25, D_down_26, D_cells_27)) else (
        lp_X7_writeCellsOf_31 K_used K_cells T_image T_packedFrom p0 n (v5_7 + (1 : Int32)) D_writesDone_24 D_writesLeft_25 D_down_26 D_cells_27))
def m_X7_writeCellsOf (D_writesDone : Int32) (D_writesLeft : Int32) (D_down : Int32) (D_cells : Nat → Int32) (K_used : Int32) (K_cells : Nat → Int32) (T_image : Nat → Int32) (T_packedFrom : Nat → Int32) (p0 : Int32) : Option (Int32 × Int32 × Int32 × Int32 × (Nat → Int32)) :=
  ckb (((1 : Int32) + (p0 * (10 : Int32))) + (8 : Int32)) 961 <|
  ckb (((1 : Int32) + (p0 * (10 : Int32))) + (9 : Int32)) 961 <|
  lp_X7_writeCellsOf_31 K_used K_cells T_image T_packedFrom p0 NN (0 : Int32) D_writesDone D_writesLeft D_down D_cells
def lp_X7_writeChunks_2 (T_chunks : Int32) (K_used : Int32) (K_cells : Nat → Int32) (T_image : Nat → Int32) (T_packedFrom : Nat → Int32) : Nat → Int32 → Int32 → Int32 → Int32 → (Nat → Int32) → Option (Int32 × Int32 × Int32 × Int32 × (Nat → Int32))
  | 0, _, _, _, _, _ => none
  | n + 1, v1_2, D_writesDone_3, D_writesLeft_4, D_down_5, D_cells_6 =>
    if T_chunks ≤ v1_2 then (
      some ((1 : Int32), D_writesDone_3, D_writesLeft_4, D_down_5, D_cells_6)) else (
      ckb v1_2 96 <|
      if (T_packedFrom (Int32.toNatClampNeg v1_2)) = (-1 : Int32) then (
        lp_X7_writeChunks_2 T_chunks K_used K_cells T_image T_packedFrom n (v1_2 + (1 : Int32)) D_writesDone_3 D_writesLeft_4 D_down_5 D_cells_6) else (
        ob5 (m_X7_writeCellsOf D_writesDone_3 D_writesLeft_4 D_down_5 D_cells_6 K_used K_cells T_image T_packedFrom v1_2) fun r_17 D_writesDone_18 D_writesLeft_19 D_down_20 D_cells_21 =>
        if r_17 = 0 then (
          some ((0 : Int32), D_writesDone_18, D_writesLeft_19, D_down_20, D_cells_21)) else (
          lp_X7_writeChunks_2 T_chunks K_used K_cells T_image T_packedFrom n (v1_2 + (1 : Int32)) D_writesDone_18 D_writesLeft_19 D_down_20 D_cells_21)))
def m_X7_writeChunks (D_writesDone : Int32) (D_writesLeft : Int32) (D_down : Int32) (D_cells : Nat → Int32) (T_chunks : Int32) (K_used : Int32) (K_cells : Nat → Int32) (T_image : Nat → Int32) (T_packedFrom : Nat → Int32) : Option (Int32 × Int32 × Int32 × Int32 × (Nat → Int32)) :=
  lp_X7_writeChunks_2 T_chunks K_used K_cells T_image T_packedFrom NN (0 : Int32) D_writesDone D_writesLeft D_down D_cells
def lp_X7_writeIndex_12 (T_chunks : Int32) (T_image : Nat → Int32) (p0 : Int32) : Nat → Int32 → Int32 → Int32 → Int32 → (Nat → Int32) → Option (Int32 × Int32 × Int32 × Int32 × (Nat → Int32) × (Nat → Int32))
  | 0, _, _, _, _, _ => none
  | n + 1, v2_4, D_writesDone_5, D_writesLeft_6, D_down_7, D_cells_8 =>
    if ((1 : Int32) + (T_chunks * (10 : Int32))) ≤ v2_4 then (
      some ((1 : Int32), D_writesDone_5, D_writesLeft_6, D_down_7, D_cells_8, (upd T_image (Int32.toNatClampNeg (0 : Int32)) T_chunks))) else (
      ckb v2_4 961 <|
      ob5 (m_X2_write D_writesDone_5 D_writesLeft_6 D_down_7 D_cells_8 (p0 + v2_4) ((upd T_image (Int32.toNatClampNeg (0 : Int32)) T_chunks) (Int32.toNatClampNeg v2_4))) fun r_17 D_writesDone_18 D_writesLeft_19 D_down_20 D_cells_21 =>
      if r_17 = 0 then (
        some ((0 : Int32), D_writesDone_18, D_writesLeft_19, D_down_20, D_cells_21, (upd T_image (Int32.toNatClampNeg (0 : Int32)) T_chunks))) else (
        lp_X7_writeIndex_12 T_chunks T_image p0 n (v2_4 + (1 : Int32)) D_writesDone_18 D_writesLeft_19 D_down_20 D_cells_21))
def m_X7_writeIndex (D_writesDone : Int32) (D_writesLeft : Int32) (D_down : Int32) (D_cells : Nat → Int32) (T_chunks : Int32) (T_image : Nat → Int32) (p0 : Int32) : Option (Int32 × Int32 × Int32 × Int32 × (Nat → Int32) × (Nat → Int32)) :=
  ckb (0 : Int32) 961 <|
  lp_X7_writeIndex_12 T_chunks T_image p0 NN (0 : Int32) D_writesDone D_writesLeft D_down D_cells
def m_X7_writeOut (D_writesDone : Int32) (D_writesLeft : Int32) (D_down : Int32) (D_cells : Nat → Int32) (T_chunks : Int32) (K_used : Int32) (K_cells : Nat → Int32) (T_image : Nat → Int32) (T_packedFrom : Nat → Int32) (p0 : Int32) : Option (Int32 × Int32 × Int32 × Int32 × (Nat → Int32) × (Nat → Int32)) :=
  ob1 (m_X2_side D_cells) fun r_2 =>
  ob5 (m_X7_writeChunks D_writesDone D_writesLeft D_down D_cells T_chunks K_used K_cells T_image T_packedFrom) fun r_6 D_writesDone_7 D_writesLeft_8 D_down_9 D_cells_10 =>
  ob6 (
    if r_6 = 0 then (
      some ((0 : Int32), D_writesDone_7, D_writesLeft_8, D_down_9, D_cells_10, T_image)) else (
      ob1 (m_X9_indexOfSide ((1 : Int32) - r_2)) fun r_22 =>
      ob6 (m_X7_writeIndex D_writesDone_7 D_writesLeft_8 D_down_9 D_cells_10 T_chunks T_image r_22) fun r_25 D_writesDone_26 D_writesLeft_27 D_down_28 D_cells_29 T_image_30 =>
      if r_25 = 0 then (
        some ((0 : Int32), D_writesDone_26, D_writesLeft_27, D_down_28, D_cells_29, T_image_30)) else (
        ob5 (m_X2_write D_writesDone_26 D_writesLeft_27 D_down_28 D_cells_29 (0 : Int32) (((2 : Int32) * p0) + ((1 : Int32) - r_2))) fun r_34 D_writesDone_35 D_writesLeft_36 D_down_37 D_cells_38 =>
        if r_34 = 0 then (
          some ((0 : Int32), D_writesDone_35, D_writesLeft_36, D_down_37, D_cells_38, T_image_30)) else (
          some ((1 : Int32), D_writesDone_35, D_writesLeft_36, D_down_37, D_cells_38, T_image_30))))) fun s_12 D_writesDone_13 D_writesLeft_14 D_down_15 D_cells_16 T_image_17 =>
  ckz s_12 <|
  some (s_12, D_writesDone_13, D_writesLeft_14, D_down_15, D_cells_16, T_image_17)
def m_X7_chunks (T_chunks : Int32) : Option (Int32) :=
  some (T_chunks)
def m_X9_isSeries (P_seriesCount : Int32) (p0 : Int32) : Option (Int32) :=
  ob1 (
    if p0 < 0 then (
      some ((0 : Int32))) else (
      if P_seriesCount ≤ p0 then (
        some ((0 : Int32))) else (
        some ((1 : Int32))))) fun s_1 =>
  ckz s_1 <|
  some (s_1)
def m_X9_isRising (D_cells : Nat → Int32) (G_logged : Int32) (p0 : Int32) (p1 : Int32) : Option (Int32) :=
  ob1 (m_X4_lastOf D_cells G_logged p0) fun r_2 =>
  if r_2 = (-1 : Int32) then (
    ob1 (m_X3_endOf D_cells p0) fun r_7 =>
    ob1 (m_X3_firstOf D_cells p0) fun r_11 =>
    ob1 (
      if r_11 = r_7 then (
        some ((1 : Int32))) else (
        ob1 (m_X3_at D_cells (r_7 - (1 : Int32)) (2 : Int32)) fun r_18 =>
        if p1 ≤ r_18 then (
          some ((0 : Int32))) else (
          some ((1 : Int32))))) fun s_13 =>
    ckz s_13 <|
    some (s_13)) else (
    ob1 (m_X4_at D_cells r_2 (1 : Int32)) fun r_24 =>
    ob1 (
      if p1 ≤ r_24 then (
        some ((0 : Int32))) else (
        some ((1 : Int32)))) fun s_26 =>
    ckz s_26 <|
    some (s_26))
def m_X9_append (P_seriesCount : Int32) (D_writesDone : Int32) (D_writesLeft : Int32) (D_down : Int32) (D_cells : Nat → Int32) (G_logged : Int32) (C_isOpen : Int32) (C_time : Int32) (C_value : Int32) (p0 : Int32) (p1 : Int32) (p2 : Int32) : Option (Int32 × Int32 × Int32 × Int32 × (Nat → Int32) × Int32 × Int32 × Int32 × Int32) :=
  ob3 (m_X1_close C_isOpen C_time C_value) fun C_isOpen_2 C_time_3 C_value_4 =>
  ob1 (m_X2_isDown D_down) fun r_7 =>
  if r_7 = 0 then (
    ob1 (m_X9_isSeries P_seriesCount p0) fun r_11 =>
    if r_11 = 0 then (
      some ((-2 : Int32), D_writesDone, D_writesLeft, D_down, D_cells, G_logged, C_isOpen_2, C_time_3, C_value_4)) else (
      ob1 (m_X9_isRising D_cells G_logged p0 p1) fun r_15 =>
      if r_15 = 0 then (
        some ((-1 : Int32), D_writesDone, D_writesLeft, D_down, D_cells, G_logged, C_isOpen_2, C_time_3, C_value_4)) else (
        ob1 (m_X4_isFull G_logged) fun r_19 =>
        if r_19 = 0 then (
          ob6 (m_X4_add D_writesDone D_writesLeft D_down D_cells G_logged p0 p1 p2) fun r_23 D_writesDone_24 D_writesLeft_25 D_down_26 D_cells_27 G_logged_28 =>
          ob1 (
            if r_23 = 0 then (
              some ((-9 : Int32))) else (
              some ((0 : Int32)))) fun s_30 =>
          some (s_30, D_writesDone_24, D_writesLeft_25, D_down_26, D_cells_27, G_logged_28, C_isOpen_2, C_time_3, C_value_4)) else (
          some ((-3 : Int32), D_writesDone, D_writesLeft, D_down, D_cells, G_logged, C_isOpen_2, C_time_3, C_value_4))))) else (
    some ((-9 : Int32), D_writesDone, D_writesLeft, D_down, D_cells, G_logged, C_isOpen_2, C_time_3, C_value_4))
def lp_X9_keepEntries_2 (D_cells : Nat → Int32) (p1 : Int32) : Nat → Int32 → Int32 → Int32 → (Nat → Int32) → (Nat → Int32) → Option (Int32 × Int32 × (Nat → Int32) × (Nat → Int32))
  | 0, _, _, _, _, _ => none
  | n + 1, v3_2, T_chunks_3, T_lacksSpace_4, T_image_5, T_packedFrom_6 =>
    if p1 ≤ v3_2 then (
      some (T_chunks_3, T_lacksSpace_4, T_image_5, T_packedFrom_6)) else (
      ob4 (m_X7_keep D_cells T_chunks_3 T_lacksSpace_4 T_image_5 T_packedFrom_6 v3_2) fun T_chunks_18 T_lacksSpace_19 T_image_20 T_packedFrom_21 =>
      lp_X9_keepEntries_2 D_cells p1 n (v3_2 + (1 : Int32)) T_chunks_18 T_lacksSpace_19 T_image_20 T_packedFrom_21)
def m_X9_keepEntries (D_cells : Nat → Int32) (T_chunks : Int32) (T_lacksSpace : Int32) (T_image : Nat → Int32) (T_packedFrom : Nat → Int32) (p0 : Int32) (p1 : Int32) : Option (Int32 × Int32 × (Nat → Int32) × (Nat → Int32)) :=
  ob4 (lp_X9_keepEntries_2 D_cells p1 NN p0 T_chunks T_lacksSpace T_image T_packedFrom) fun T_chunks_11 T_lacksSpace_12 T_image_13 T_packedFrom_14 =>
  some (T_chunks_11, T_lacksSpace_12, T_image_13, T_packedFrom_14)
def lp_X9_sealHead_2 (P_most : Int32) (D_cells : Nat → Int32) (G_logged : Int32) (p0 : Int32) : Nat → Int32 → Int32 → Int32 → Int32 → Int32 → Int32 → Int32 → Int32 → Int32 → Int32 → Int64 → (Nat → Int32) → Int32 → Int32 → Int32 → Int32 → Int32 → Int64 → (Nat → Int32) → (Nat → Int32) → (Nat → Int32) → Option (Int32 × Int32 × Int32 × Int32 × Int32 × Int32 × Int32 × Int32 × Int32 × Int64 × (Nat → Int32) × Int32 × Int32 × Int32 × Int32 × Int32 × Int64 × (Nat → Int32) × (Nat → Int32) × (Nat → Int32))
  | 0, _, _, _, _, _, _, _, _, _, _, _, _, _, _, _, _, _, _, _, _, _ => none
  | n + 1, v2_2, T_chunks_3, T_chunksMade_4, T_openFrom_5, T_lacksSpace_6, K_used_7, K_bitsFree_8, K_full_9, K_time_10, K_value_11, K_rise_12, K_cells_13, O_first_14, O_last_15, O_points_16, O_least_17, O_greatest_18, O_sum_19, T_image_20, T_packedFrom_21, T_taken_22 =>
    ob1 (m_X4_logged G_logged) fun r_49 =>
    if r_49 ≤ v2_2 then (
      some (T_chunks_3, T_chunksMade_4, T_openFrom_5, T_lacksSpace_6, K_used_7, K_bitsFree_8, K_full_9, K_time_10, K_value_11, K_rise_12, K_cells_13, O_first_14, O_last_15, O_points_16, O_least_17, O_greatest_18, O_sum_19, T_image_20, T_packedFrom_21, T_taken_22)) else (
      ob1 (m_X4_at D_cells v2_2 (0 : Int32)) fun r_53 =>
      ob20 (
        if r_53 = p0 then (
          ob1 (m_X7_pointsOpen O_points_16) fun r_79 =>
          ob12 (
            if r_79 = P_most then (
              ob12 (m_X7_seal T_chunks_3 T_chunksMade_4 T_openFrom_5 T_lacksSpace_6 K_used_7 K_full_9 O_first_14 O_last_15 O_points_16 O_least_17 O_greatest_18 O_sum_19 T_image_20 T_packedFrom_21 T_taken_22 p0) fun T_chunks_97 T_chunksMade_98 T_lacksSpace_99 O_first_100 O_last_101 O_points_102 O_least_103 O_greatest_104 O_sum_105 T_image_106 T_packedFrom_107 T_taken_108 =>
              some (T_chunks_97, T_chunksMade_98, T_lacksSpace_99, O_first_100, O_last_101, O_points_102, O_least_103, O_greatest_104, O_sum_105, T_image_106, T_packedFrom_107, T_taken_108)) else (
              some (T_chunks_3, T_chunksMade_4, T_lacksSpace_6, O_first_14, O_last_15, O_points_16, O_least_17, O_greatest_18, O_sum_19, T_image_20, T_packedFrom_21, T_taken_22))) fun T_chunks_81 T_chunksMade_82 T_lacksSpace_83 O_first_84 O_last_85 O_points_86 O_least_87 O_greatest_88 O_sum_89 T_image_90 T_packedFrom_91 T_taken_92 =>
          ob1 (m_X4_at D_cells v2_2 (1 : Int32)) fun r_112 =>
          ob1 (m_X4_at D_cells v2_2 (2 : Int32)) fun r_115 =>
          ob14 (m_X7_pack T_openFrom_5 K_used_7 K_bitsFree_8 K_full_9 K_time_10 K_value_11 K_rise_12 K_cells_13 O_first_84 O_last_85 O_points_86 O_least_87 O_greatest_88 O_sum_89 r_112 r_115) fun T_openFrom_118 K_used_119 K_bitsFree_120 K_full_121 K_time_122 K_value_123 K_rise_124 K_cells_125 O_first_126 O_last_127 O_points_128 O_least_129 O_greatest_130 O_sum_131 =>
          some (T_chunks_81, T_chunksMade_82, T_openFrom_118, T_lacksSpace_83, K_used_119, K_bitsFree_120, K_full_121, K_time_122, K_value_123, K_rise_124, K_cells_125, O_first_126, O_last_127, O_points_128, O_least_129, O_greatest_130, O_sum_131, T_image_90, T_packedFrom_91, T_taken_92)) else (
          some (T_chunks_3, T_chunksMade_4, T_openFrom_5, T_lacksSpace_6, K_used_7, K_bitsFree_8, K_full_9, K_time_10, K_value_11, K_rise_12, K_cells_13, O_first_14, O_last_15, O_points_16, O_least_17, O_greatest_18, O_sum_19, T_image_20, T_packedFrom_21, T_taken_22))) fun T_chunks_55 T_chunksMade_56 T_openFrom_57 T_lacksSpace_58 K_used_59 K_bitsFree_60 K_full_61 K_time_62 K_value_63 K_rise_64 K_cells_65 O_first_66 O_last_67 O_points_68 O_least_69 O_greatest_70 O_sum_71 T_image_72 T_packedFrom_73 T_taken_74 =>
      lp_X9_sealHead_2 P_most D_cells G_logged p0 n (v2_2 + (1 : Int32)) T_chunks_55 T_chunksMade_56 T_openFrom_57 T_lacksSpace_58 K_used_59 K_bitsFree_60 K_full_61 K_time_62 K_value_63 K_rise_64 K_cells_65 O_first_66 O_last_67 O_points_68 O_least_69 O_greatest_70 O_sum_71 T_image_72 T_packedFrom_73 T_taken_74)
def m_X9_sealHead (P_most : Int32) (D_cells : Nat → Int32) (G_logged : Int32) (T_chunks : Int32) (T_chunksMade : Int32) (T_openFrom : Int32) (T_lacksSpace : Int32) (K_used : Int32) (K_bitsFree : Int32) (K_full : Int32) (K_time : Int32) (K_value : Int32) (K_rise : Int64) (K_cells : Nat → Int32) (O_first : Int32) (O_last : Int32) (O_points : Int32) (O_least : Int32) (O_greatest : Int32) (O_sum : Int64) (T_image : Nat → Int32) (T_packedFrom : Nat → Int32) (T_taken : Nat → Int32) (p0 : Int32) : Option (Int32 × Int32 × Int32 × Int32 × Int32 × Int32 × Int32 × Int32 × Int32 × Int64 × (Nat → Int32) × Int32 × Int32 × Int32 × Int32 × Int32 × Int64 × (Nat → Int32) × (Nat → Int32) × (Nat → Int32)) :=
  ob20 (lp_X9_sealHead_2 P_most D_cells G_logged p0 NN (0 : Int32) T_chunks T_chunksMade T_openFrom T_lacksSpace K_used K_bitsFree K_full K_time K_value K_rise K_cells O_first O_last O_points O_least O_greatest O_sum T_image T_packedFrom T_taken) fun T_chunks_27 T_chunksMade_28 T_openFrom_29 T_lacksSpace_30 K_used_31 K_bitsFree_32 K_full_33 K_time_34 K_value_35 K_rise_36 K_cells_37 O_first_38 O_last_39 O_points_40 O_least_41 O_greatest_42 O_sum_43 T_image_44 T_packedFrom_45 T_taken_46 =>
  ob12 (m_X7_seal T_chunks_27 T_chunksMade_28 T_openFrom_29 T_lacksSpace_30 K_used_31 K_full_33 O_first_38 O_last_39 O_points_40 O_least_41 O_greatest_42 O_sum_43 T_image_44 T_packedFrom_45 T_taken_46 p0) fun T_chunks_137 T_chunksMade_138 T_lacksSpace_139 O_first_140 O_last_141 O_points_142 O_least_143 O_greatest_144 O_sum_145 T_image_146 T_packedFrom_147 T_taken_148 =>
  some (T_chunks_137, T_chunksMade_138, T_openFrom_29, T_lacksSpace_139, K_used_31, K_bitsFree_32, K_full_33, K_time_34, K_value_35, K_rise_36, K_cells_37, O_first_140, O_last_141, O_points_142, O_least_143, O_greatest_144, O_sum_145, T_image_146, T_packedFrom_147, T_taken_148)
def m_X9_turnDisk (D_writesDone : Int32) (D_writesLeft : Int32) (D_down : Int32) (D_cells : Nat → Int32) (T_chunks : Int32) (T_lacksSpace : Int32) (K_used : Int32) (K_cells : Nat → Int32) (T_image : Nat → Int32) (T_packedFrom : Nat → Int32) (p0 : Int32) (p1 : Int32) : Option (Int32 × Int32 × Int32 × Int32 × (Nat → Int32) × (Nat → Int32)) :=
  ob1 (m_X7_lacksSpace T_lacksSpace) fun r_2 =>
  if r_2 = 0 then (
    ob6 (m_X7_writeOut D_writesDone D_writesLeft D_down D_cells T_chunks K_used K_cells T_image T_packedFrom p0) fun r_6 D_writesDone_7 D_writesLeft_8 D_down_9 D_cells_10 T_image_11 =>
    ob1 (
      if r_6 = 0 then (
        some ((-9 : Int32))) else (
        some (p1))) fun s_13 =>
    some (s_13, D_writesDone_7, D_writesLeft_8, D_down_9, D_cells_10, T_image_11)) else (
    some ((-3 : Int32), D_writesDone, D_writesLeft, D_down, D_cells, T_image))
def lp_X9_flush_41 (P_seriesCount : Int32) (P_most : Int32) (D_cells : Nat → Int32) (G_logged : Int32) : Nat → Int32 → Int32 → Int32 → Int32 → Int32 → Int32 → Int32 → Int32 → Int32 → Int32 → Int64 → (Nat → Int32) → Int32 → Int32 → Int32 → Int32 → Int32 → Int64 → (Nat → Int32) → (Nat → Int32) → (Nat → Int32) → Option (Int32 × Int32 × Int32 × Int32 × Int32 × Int32 × Int32 × Int32 × Int32 × Int64 × (Nat → Int32) × Int32 × Int32 × Int32 × Int32 × Int32 × Int64 × (Nat → Int32) × (Nat → Int32) × (Nat → Int32))
  | 0, _, _, _, _, _, _, _, _, _, _, _, _, _, _, _, _, _, _, _, _, _ => none
  | n + 1, v1_30, T_chunks_31, T_chunksMade_32, T_openFrom_33, T_lacksSpace_34, K_used_35, K_bitsFree_36, K_full_37, K_time_38, K_value_39, K_rise_40, K_cells_41, O_first_42, O_last_43, O_points_44, O_least_45, O_greatest_46, O_sum_47, T_image_48, T_packedFrom_49, T_taken_50 =>
    if P_seriesCount ≤ v1_30 then (
      some (T_chunks_31, T_chunksMade_32, T_openFrom_33, T_lacksSpace_34, K_used_35, K_bitsFree_36, K_full_37, K_time_38, K_value_39, K_rise_40, K_cells_41, O_first_42, O_last_43, O_points_44, O_least_45, O_greatest_46, O_sum_47, T_image_48, T_packedFrom_49, T_taken_50)) else (
      ob1 (m_X3_firstOf D_cells v1_30) fun r_78 =>
      ob1 (m_X3_endOf D_cells v1_30) fun r_81 =>
      ob4 (m_X9_keepEntries D_cells T_chunks_31 T_lacksSpace_34 T_image_48 T_packedFrom_49 r_78 r_81) fun T_chunks_84 T_lacksSpace_85 T_image_86 T_packedFrom_87 =>
      ob20 (m_X9_sealHead P_most D_cells G_logged T_chunks_84 T_chunksMade_32 T_openFrom_33 T_lacksSpace_85 K_used_35 K_bitsFree_36 K_full_37 K_time_38 K_value_39 K_rise_40 K_cells_41 O_first_42 O_last_43 O_points_44 O_least_45 O_greatest_46 O_sum_47 T_image_86 T_packedFrom_87 T_taken_50 v1_30) fun T_chunks_90 T_chunksMade_91 T_openFrom_92 T_lacksSpace_93 K_used_94 K_bitsFree_95 K_full_96 K_time_97 K_value_98 K_rise_99 K_cells_100 O_first_101 O_last_102 O_points_103 O_least_104 O_greatest_105 O_sum_106 T_image_107 T_packedFrom_108 T_taken_109 =>
      lp_X9_flush_41 P_seriesCount P_most D_cells G_logged n (v1_30 + (1 : Int32)) T_chunks_90 T_chunksMade_91 T_openFrom_92 T_lacksSpace_93 K_used_94 K_bitsFree_95 K_full_96 K_time_97 K_value_98 K_rise_99 K_cells_100 O_first_101 O_last_102 O_points_103 O_least_104 O_greatest_105 O_sum_106 T_image_107 T_packedFrom_108 T_taken_109)
def m_X9_flush (P_seriesCount : Int32) (P_most : Int32) (D_writesDone : Int32) (D_writesLeft : Int32) (D_down : Int32) (D_cells : Nat → Int32) (G_logged : Int32) (T_chunks : Int32) (T_chunksMade : Int32) (T_openFrom : Int32) (T_lacksSpace : Int32) (K_used : Int32) (K_bitsFree : Int32) (K_full : Int32) (K_time : Int32) (K_value : Int32) (K_rise : Int64) (K_cells : Nat → Int32) (O_first : Int32) (O_last : Int32) (O_points : Int32) (O_least : Int32) (O_greatest : Int32) (O_sum : Int64) (T_image : Nat → Int32) (T_packedFrom : Nat → Int32) (T_taken : Nat → Int32) (C_isOpen : Int32) (C_time : Int32) (C_value : Int32) : Option (Int32 × Int32 × Int32 × Int32 × (Nat → Int32) × Int32 × Int32 × Int32 × Int32 × Int32 × Int32 × Int32 × Int32 × Int32 × Int32 × Int64 × (Nat → Int32) × Int32 × Int32 × Int32 × Int32 × Int32 × Int64 × (Nat → Int32) × (Nat → Int32) × (Nat → Int32) × Int32 × Int32 × Int32) :=
  ob3 (m_X1_close C_isOpen C_time C_value) fun C_isOpen_2 C_time_3 C_value_4 =>
  ob1 (m_X2_isDown D_down) fun r_7 =>
  if r_7 = 0 then (
    ob1 (m_X4_logged G_logged) fun r_11 =>
    if r_11 = 0 then (
      some ((0 : Int32), D_writesDone, D_writesLeft, D_down, D_cells, G_logged, T_chunks, T_chunksMade, T_openFrom, T_lacksSpace, K_used, K_bitsFree, K_full, K_time, K_value, K_rise, K_cells, O_first, O_last, O_points, O_least, O_greatest, O_sum, T_image, T_packedFrom, T_taken, C_isOpen_2, C_time_3, C_value_4)) else (
      ob13 (m_X7_begin D_cells T_chunks T_chunksMade T_lacksSpace K_used K_bitsFree K_full O_first O_last O_points O_least O_greatest O_sum T_taken) fun T_chunks_15 T_chunksMade_16 T_lacksSpace_17 K_used_18 K_bitsFree_19 K_full_20 O_first_21 O_last_22 O_points_23 O_least_24 O_greatest_25 O_sum_26 T_taken_27 =>
      ob20 (lp_X9_flush_41 P_seriesCount P_most D_cells G_logged NN (0 : Int32) T_chunks_15 T_chunksMade_16 T_openFrom T_lacksSpace_17 K_used_18 K_bitsFree_19 K_full_20 K_time K_value K_rise K_cells O_first_21 O_last_22 O_points_23 O_least_24 O_greatest_25 O_sum_26 T_image T_packedFrom T_taken_27) fun T_chunks_55 T_chunksMade_56 T_openFrom_57 T_lacksSpace_58 K_used_59 K_bitsFree_60 K_full_61 K_time_62 K_value_63 K_rise_64 K_cells_65 O_first_66 O_last_67 O_points_68 O_least_69 O_greatest_70 O_sum_71 T_image_72 T_packedFrom_73 T_taken_74 =>
      ob1 (m_X2_epoch D_cells) fun r_114 =>
      ob1 (m_X7_chunksMade T_chunksMade_56) fun r_117 =>
      ob6 (m_X9_turnDisk D_writesDone D_writesLeft D_down D_cells T_chunks_55 T_lacksSpace_58 K_used_59 K_cells_65 T_image_72 T_packedFrom_73 (r_114 + (1 : Int32)) r_117) fun r_120 D_writesDone_121 D_writesLeft_122 D_down_123 D_cells_124 T_image_125 =>
      ob1 (m_X4_readAgain D_cells_124 G_logged) fun G_logged_129 =>
      some (r_120, D_writesDone_121, D_writesLeft_122, D_down_123, D_cells_124, G_logged_129, T_chunks_55, T_chunksMade_56, T_openFrom_57, T_lacksSpace_58, K_used_59, K_bitsFree_60, K_full_61, K_time_62, K_value_63, K_rise_64, K_cells_65, O_first_66, O_last_67, O_points_68, O_least_69, O_greatest_70, O_sum_71, T_image_125, T_packedFrom_73, T_taken_74, C_isOpen_2, C_time_3, C_value_4))) else (
    some ((-9 : Int32), D_writesDone, D_writesLeft, D_down, D_cells, G_logged, T_chunks, T_chunksMade, T_openFrom, T_lacksSpace, K_used, K_bitsFree, K_full, K_time, K_value, K_rise, K_cells, O_first, O_last, O_points, O_least, O_greatest, O_sum, T_image, T_packedFrom, T_taken, C_isOpen_2, C_time_3, C_value_4))
def lp_X9_makeOneOf_56 (D_cells : Nat → Int32) (r_51 : Int32) (U_place_58 : Int32) : Nat → Int32 → Int32 → Int32 → Int32 → Int32 → Int64 → Int32 → Int32 → Int32 → Int32 → Int32 → Int32 → Int64 → (Nat → Int32) → Int32 → Int32 → Int32 → Int32 → Int32 → Int64 → Option (Int32 × Int32 × Int32 × Int32 × Int64 × Int32 × Int32 × Int32 × Int32 × Int32 × Int32 × Int64 × (Nat → Int32) × Int32 × Int32 × Int32 × Int32 × Int32 × Int64)
  | 0, _, _, _, _, _, _, _, _, _, _, _, _, _, _, _, _, _, _, _, _ => none
  | n + 1, v6_63, U_bitsRead_64, U_started_65, U_time_66, U_value_67, U_rise_68, T_openFrom_69, K_used_70, K_bitsFree_71, K_full_72, K_time_73, K_value_74, K_rise_75, K_cells_76, O_first_77, O_last_78, O_points_79, O_least_80, O_greatest_81, O_sum_82 =>
    if r_51 ≤ v6_63 then (
      some (U_bitsRead_64, U_started_65, U_time_66, U_value_67, U_rise_68, T_openFrom_69, K_used_70, K_bitsFree_71, K_full_72, K_time_73, K_value_74, K_rise_75, K_cells_76, O_first_77, O_last_78, O_points_79, O_least_80, O_greatest_81, O_sum_82)) else (
      ob5 (m_X8_step D_cells U_place_58 U_bitsRead_64 U_started_65 U_time_66 U_value_67 U_rise_68) fun U_bitsRead_109 U_started_110 U_time_111 U_value_112 U_rise_113 =>
      ob14 (m_X7_pack T_openFrom_69 K_used_70 K_bitsFree_71 K_full_72 K_time_73 K_value_74 K_rise_75 K_cells_76 O_first_77 O_last_78 O_points_79 O_least_80 O_greatest_81 O_sum_82 U_time_111 U_value_112) fun T_openFrom_116 K_used_117 K_bitsFree_118 K_full_119 K_time_120 K_value_121 K_rise_122 K_cells_123 O_first_124 O_last_125 O_points_126 O_least_127 O_greatest_128 O_sum_129 =>
      lp_X9_makeOneOf_56 D_cells r_51 U_place_58 n (v6_63 + (1 : Int32)) U_bitsRead_109 U_started_110 U_time_111 U_value_112 U_rise_113 T_openFrom_116 K_used_117 K_bitsFree_118 K_full_119 K_time_120 K_value_121 K_rise_122 K_cells_123 O_first_124 O_last_125 O_points_126 O_least_127 O_greatest_128 O_sum_129)
def lp_X9_makeOneOf_17 (D_cells : Nat → Int32) (p2 : Int32) : Nat → Int32 → Int32 → Int32 → Int32 → Int32 → Int32 → Int64 → Int32 → Int32 → Int32 → Int32 → Int32 → Int32 → Int64 → (Nat → Int32) → Int32 → Int32 → Int32 → Int32 → Int32 → Int64 → Option (Int32 × Int32 × Int32 × Int32 × Int32 × Int64 × Int32 × Int32 × Int32 × Int32 × Int32 × Int32 × Int64 × (Nat → Int32) × Int32 × Int32 × Int32 × Int32 × Int32 × Int64)
  | 0, _, _, _, _, _, _, _, _, _, _, _, _, _, _, _, _, _, _, _, _, _ => none
  | n + 1, v4_3, U_place_4, U_bitsRead_5, U_started_6, U_time_7, U_value_8, U_rise_9, T_openFrom_10, K_used_11, K_bitsFree_12, K_full_13, K_time_14, K_value_15, K_rise_16, K_cells_17, O_first_18, O_last_19, O_points_20, O_least_21, O_greatest_22, O_sum_23 =>
    if p2 ≤ v4_3 then (
      some (U_place_4, U_bitsRead_5, U_started_6, U_time_7, U_value_8, U_rise_9, T_openFrom_10, K_used_11, K_bitsFree_12, K_full_13, K_time_14, K_value_15, K_rise_16, K_cells_17, O_first_18, O_last_19, O_points_20, O_least_21, O_greatest_22, O_sum_23)) else (
      ob1 (m_X3_at D_cells v4_3 (3 : Int32)) fun r_51 =>
      ob1 (m_X3_at D_cells v4_3 (8 : Int32)) fun r_55 =>
      ob3 (m_X8_open U_place_4 U_bitsRead_5 U_started_6 r_55) fun U_place_58 U_bitsRead_59 U_started_60 =>
      ob19 (lp_X9_makeOneOf_56 D_cells r_51 U_place_58 NN (0 : Int32) U_bitsRead_59 U_started_60 U_time_7 U_value_8 U_rise_9 T_openFrom_10 K_used_11 K_bitsFree_12 K_full_13 K_time_14 K_value_15 K_rise_16 K_cells_17 O_first_18 O_last_19 O_points_20 O_least_21 O_greatest_22 O_sum_23) fun U_bitsRead_87 U_started_88 U_time_89 U_value_90 U_rise_91 T_openFrom_92 K_used_93 K_bitsFree_94 K_full_95 K_time_96 K_value_97 K_rise_98 K_cells_99 O_first_100 O_last_101 O_points_102 O_least_103 O_greatest_104 O_sum_105 =>
      lp_X9_makeOneOf_17 D_cells p2 n (v4_3 + (1 : Int32)) U_place_58 U_bitsRead_87 U_started_88 U_time_89 U_value_90 U_rise_91 T_openFrom_92 K_used_93 K_bitsFree_94 K_full_95 K_time_96 K_value_97 K_rise_98 K_cells_99 O_first_100 O_last_101 O_points_102 O_least_103 O_greatest_104 O_sum_105)
def m_X9_makeOneOf (D_cells : Nat → Int32) (U_place : Int32) (U_bitsRead : Int32) (U_started : Int32) (U_time : Int32) (U_value : Int32) (U_rise : Int64) (T_chunks : Int32) (T_chunksMade : Int32) (T_openFrom : Int32) (T_lacksSpace : Int32) (K_used : Int32) (K_bitsFree : Int32) (K_full : Int32) (K_time : Int32) (K_value : Int32) (K_rise : Int64) (K_cells : Nat → Int32) (O_first : Int32) (O_last : Int32) (O_points : Int32) (O_least : Int32) (O_greatest : Int32) (O_sum : Int64) (T_image : Nat → Int32) (T_packedFrom : Nat → Int32) (T_taken : Nat → Int32) (p0 : Int32) (p1 : Int32) (p2 : Int32) : Option (Int32 × Int32 × Int32 × Int32 × Int32 × Int64 × Int32 × Int32 × Int32 × Int32 × Int32 × Int32 × Int32 × Int32 × Int32 × Int64 × (Nat → Int32) × Int32 × Int32 × Int32 × Int32 × Int32 × Int64 × (Nat → Int32) × (Nat → Int32) × (Nat → Int32)) :=
  if (1 : Int32) < (p2 - p1) then (
    ob20 (lp_X9_makeOneOf_17 D_cells p2 NN p1 U_place U_bitsRead U_started U_time U_value U_rise T_openFrom K_used K_bitsFree K_full K_time K_value K_rise K_cells O_first O_last O_points O_least O_greatest O_sum) fun U_place_28 U_bitsRead_29 U_started_30 U_time_31 U_value_32 U_rise_33 T_openFrom_34 K_used_35 K_bitsFree_36 K_full_37 K_time_38 K_value_39 K_rise_40 K_cells_41 O_first_42 O_last_43 O_points_44 O_least_45 O_greatest_46 O_sum_47 =>
    ob12 (m_X7_seal T_chunks T_chunksMade T_openFrom_34 T_lacksSpace K_used_35 K_full_37 O_first_42 O_last_43 O_points_44 O_least_45 O_greatest_46 O_sum_47 T_image T_packedFrom T_taken p0) fun T_chunks_136 T_chunksMade_137 T_lacksSpace_138 O_first_139 O_last_140 O_points_141 O_least_142 O_greatest_143 O_sum_144 T_image_145 T_packedFrom_146 T_taken_147 =>
    some (U_place_28, U_bitsRead_29, U_started_30, U_time_31, U_value_32, U_rise_33, T_chunks_136, T_chunksMade_137, T_openFrom_34, T_lacksSpace_138, K_used_35, K_bitsFree_36, K_full_37, K_time_38, K_value_39, K_rise_40, K_cells_41, O_first_139, O_last_140, O_points_141, O_least_142, O_greatest_143, O_sum_144, T_image_145, T_packedFrom_146, T_taken_147)) else (
    ob4 (m_X9_keepEntries D_cells T_chunks T_lacksSpace T_image T_packedFrom p1 p2) fun T_chunks_150 T_lacksSpace_151 T_image_152 T_packedFrom_153 =>
    some (U_place, U_bitsRead, U_started, U_time, U_value, U_rise, T_chunks_150, T_chunksMade, T_openFrom, T_lacksSpace_151, K_used, K_bitsFree, K_full, K_time, K_value, K_rise, K_cells, O_first, O_last, O_points, O_least, O_greatest, O_sum, T_image_152, T_packedFrom_153, T_taken))
def lp_X9_joinEntries_9 (P_most : Int32) (D_cells : Nat → Int32) (p0 : Int32) (p2 : Int32) : Nat → Int32 → Int32 → Int32 → Int32 → Int32 → Int32 → Int32 → Int32 → Int64 → Int32 → Int32 → Int32 → Int32 → Int32 → Int32 → Int32 → Int32 → Int32 → Int64 → (Nat → Int32) → Int32 → Int32 → Int32 → Int32 → Int32 → Int64 → (Nat → Int32) → (Nat → Int32) → (Nat → Int32) → Option (Int32 × Int32 × Int32 × Int32 × Int32 × Int32 × Int64 × Int32 × Int32 × Int32 × Int32 × Int32 × Int32 × Int32 × Int32 × Int32 × Int64 × (Nat → Int32) × Int32 × Int32 × Int32 × Int32 × Int32 × Int64 × (Nat → Int32) × (Nat → Int32) × (Nat → Int32))
  | 0, _, _, _, _, _, _, _, _, _, _, _, _, _, _, _, _, _, _, _, _, _, _, _, _, _, _, _, _, _ => none
  | n + 1, v4_4, v5_5, v6_6, U_place_7, U_bitsRead_8, U_started_9, U_time_10, U_value_11, U_rise_12, T_chunks_13, T_chunksMade_14, T_openFrom_15, T_lacksSpace_16, K_used_17, K_bitsFree_18, K_full_19, K_time_20, K_value_21, K_rise_22, K_cells_23, O_first_24, O_last_25, O_points_26, O_least_27, O_greatest_28, O_sum_29, T_image_30, T_packedFrom_31, T_taken_32 =>
    if p2 ≤ v6_6 then (
      some (v4_4, U_place_7, U_bitsRead_8, U_started_9, U_time_10, U_value_11, U_rise_12, T_chunks_13, T_chunksMade_14, T_openFrom_15, T_lacksSpace_16, K_used_17, K_bitsFree_18, K_full_19, K_time_20, K_value_21, K_rise_22, K_cells_23, O_first_24, O_last_25, O_points_26, O_least_27, O_greatest_28, O_sum_29, T_image_30, T_packedFrom_31, T_taken_32)) else (
      ob1 (m_X3_at D_cells v6_6 (3 : Int32)) fun r_67 =>
      ob28 (
        if (v5_5 + r_67) ≤ P_most then (
          some (v4_4, v5_5, U_place_7, U_bitsRead_8, U_started_9, U_time_10, U_value_11, U_rise_12, T_chunks_13, T_chunksMade_14, T_openFrom_15, T_lacksSpace_16, K_used_17, K_bitsFree_18, K_full_19, K_time_20, K_value_21, K_rise_22, K_cells_23, O_first_24, O_last_25, O_points_26, O_least_27, O_greatest_28, O_sum_29, T_image_30, T_packedFrom_31, T_taken_32)) else (
          ob26 (m_X9_makeOneOf D_cells U_place_7 U_bitsRead_8 U_started_9 U_time_10 U_value_11 U_rise_12 T_chunks_13 T_chunksMade_14 T_openFrom_15 T_lacksSpace_16 K_used_17 K_bitsFree_18 K_full_19 K_time_20 K_value_21 K_rise_22 K_cells_23 O_first_24 O_last_25 O_points_26 O_least_27 O_greatest_28 O_sum_29 T_image_30 T_packedFrom_31 T_taken_32 p0 v4_4 v6_6) fun U_place_102 U_bitsRead_103 U_started_104 U_time_105 U_value_106 U_rise_107 T_chunks_108 T_chunksMade_109 T_openFrom_110 T_lacksSpace_111 K_used_112 K_bitsFree_113 K_full_114 K_time_115 K_value_116 K_rise_117 K_cells_118 O_first_119 O_last_120 O_points_121 O_least_122 O_greatest_123 O_sum_124 T_image_125 T_packedFrom_126 T_taken_127 =>
          some (v6_6, (0 : Int32), U_place_102, U_bitsRead_103, U_started_104, U_time_105, U_value_106, U_rise_107, T_chunks_108, T_chunksMade_109, T_openFrom_110, T_lacksSpace_111, K_used_112, K_bitsFree_113, K_full_114, K_time_115, K_value_116, K_rise_117, K_cells_118, O_first_119, O_last_120, O_points_121, O_least_122, O_greatest_123, O_sum_124, T_image_125, T_packedFrom_126, T_taken_127))) fun v4_70 v5_71 U_place_72 U_bitsRead_73 U_started_74 U_time_75 U_value_76 U_rise_77 T_chunks_78 T_chunksMade_79 T_openFrom_80 T_lacksSpace_81 K_used_82 K_bitsFree_83 K_full_84 K_time_85 K_value_86 K_rise_87 K_cells_88 O_first_89 O_last_90 O_points_91 O_least_92 O_greatest_93 O_sum_94 T_image_95 T_packedFrom_96 T_taken_97 =>
      lp_X9_joinEntries_9 P_most D_cells p0 p2 n v4_70 (v5_71 + r_67) (v6_6 + (1 : Int32)) U_place_72 U_bitsRead_73 U_started_74 U_time_75 U_value_76 U_rise_77 T_chunks_78 T_chunksMade_79 T_openFrom_80 T_lacksSpace_81 K_used_82 K_bitsFree_83 K_full_84 K_time_85 K_value_86 K_rise_87 K_cells_88 O_first_89 O_last_90 O_points_91 O_least_92 O_greatest_93 O_sum_94 T_image_95 T_packedFrom_96 T_taken_97)
def m_X9_joinEntries (P_most : Int32) (D_cells : Nat → Int32) (U_place : Int32) (U_bitsRead : Int32) (U_started : Int32) (U_time : Int32) (U_value : Int32) (U_rise : Int64) (T_chunks : Int32) (T_chunksMade : Int32) (T_openFrom : Int32) (T_lacksSpace : Int32) (K_used : Int32) (K_bitsFree : Int32) (K_full : Int32) (K_time : Int32) (K_value : Int32) (K_rise : Int64) (K_cells : Nat → Int32) (O_first : Int32) (O_last : Int32) (O_points : Int32) (O_least : Int32) (O_greatest : Int32) (O_sum : Int64) (T_image : Nat → Int32) (T_packedFrom : Nat → Int32) (T_taken : Nat → Int32) (p0 : Int32) (p1 : Int32) (p2 : Int32) : Option (Int32 × Int32 × Int32 × Int32 × Int32 × Int64 × Int32 × Int32 × Int32 × Int32 × Int32 × Int32 × Int32 × Int32 × Int32 × Int64 × (Nat → Int32) × Int32 × Int32 × Int32 × Int32 × Int32 × Int64 × (Nat → Int32) × (Nat → Int32) × (Nat → Int32)) :=
  ob27 (lp_X9_joinEntries_9 P_most D_cells p0 p2 NN p1 (0 : Int32) p1 U_place U_bitsRead U_started U_time U_value U_rise T_chunks T_chunksMade T_openFrom T_lacksSpace K_used K_bitsFree K_full K_time K_value K_rise K_cells O_first O_last O_points O_least O_greatest O_sum T_image T_packedFrom T_taken) fun v4_37 U_place_38 U_bitsRead_39 U_started_40 U_time_41 U_value_42 U_rise_43 T_chunks_44 T_chunksMade_45 T_openFrom_46 T_lacksSpace_47 K_used_48 K_bitsFree_49 K_full_50 K_time_51 K_value_52 K_rise_53 K_cells_54 O_first_55 O_last_56 O_points_57 O_least_58 O_greatest_59 O_sum_60 T_image_61 T_packedFrom_62 T_taken_63 =>
  ob26 (m_X9_makeOneOf D_cells U_place_38 U_bitsRead_39 U_started_40 U_time_41 U_value_42 U_rise_43 T_chunks_44 T_chunksMade_45 T_openFrom_46 T_lacksSpace_47 K_used_48 K_bitsFree_49 K_full_50 K_time_51 K_value_52 K_rise_53 K_cells_54 O_first_55 O_last_56 O_points_57 O_least_58 O_greatest_59 O_sum_60 T_image_61 T_packedFrom_62 T_taken_63 p0 v4_37 p2) fun U_place_136 U_bitsRead_137 U_started_138 U_time_139 U_value_140 U_rise_141 T_chunks_142 T_chunksMade_143 T_openFrom_144 T_lacksSpace_145 K_used_146 K_bitsFree_147 K_full_148 K_time_149 K_value_150 K_rise_151 K_cells_152 O_first_153 O_last_154 O_points_155 O_least_156 O_greatest_157 O_sum_158 T_image_159 T_packedFrom_160 T_taken_161 =>
  some (U_place_136, U_bitsRead_137, U_started_138, U_time_139, U_value_140, U_rise_141, T_chunks_142, T_chunksMade_143, T_openFrom_144, T_lacksSpace_145, K_used_146, K_bitsFree_147, K_full_148, K_time_149, K_value_150, K_rise_151, K_cells_152, O_first_153, O_last_154, O_points_155, O_least_156, O_greatest_157, O_sum_158, T_image_159, T_packedFrom_160, T_taken_161)
def m_X9_compact (P_seriesCount : Int32) (P_most : Int32) (D_writesDone : Int32) (D_writesLeft : Int32) (D_down : Int32) (D_cells : Nat → Int32) (U_place : Int32) (U_bitsRead : Int32) (U_started : Int32) (U_time : Int32) (U_value : Int32) (U_rise : Int64) (T_chunks : Int32) (T_chunksMade : Int32) (T_openFrom : Int32) (T_lacksSpace : Int32) (K_used : Int32) (K_bitsFree : Int32) (K_full : Int32) (K_time : Int32) (K_value : Int32) (K_rise : Int64) (K_cells : Nat → Int32) (O_first : Int32) (O_last : Int32) (O_points : Int32) (O_least : Int32) (O_greatest : Int32) (O_sum : Int64) (T_image : Nat → Int32) (T_packedFrom : Nat → Int32) (T_taken : Nat → Int32) (C_isOpen : Int32) (C_time : Int32) (C_value : Int32) (p0 : Int32) : Option (Int32 × Int32 × Int32 × Int32 × (Nat → Int32) × Int32 × Int32 × Int32 × Int32 × Int32 × Int64 × Int32 × Int32 × Int32 × Int32 × Int32 × Int32 × Int32 × Int32 × Int32 × Int64 × (Nat → Int32) × Int32 × Int32 × Int32 × Int32 × Int32 × Int64 × (Nat → Int32) × (Nat → Int32) × (Nat → Int32) × Int32 × Int32 × Int32) :=
  ob3 (m_X1_close C_isOpen C_time C_value) fun C_isOpen_2 C_time_3 C_value_4 =>
  ob1 (m_X2_isDown D_down) fun r_7 =>
  if r_7 = 0 then (
    ob1 (m_X9_isSeries P_seriesCount p0) fun r_11 =>
    if r_11 = 0 then (
      some ((-2 : Int32), D_writesDone, D_writesLeft, D_down, D_cells, U_place, U_bitsRead, U_started, U_time, U_value, U_rise, T_chunks, T_chunksMade, T_openFrom, T_lacksSpace, K_used, K_bitsFree, K_full, K_time, K_value, K_rise, K_cells, O_first, O_last, O_points, O_least, O_greatest, O_sum, T_image, T_packedFrom, T_taken, C_isOpen_2, C_time_3, C_value_4)) else (
      ob1 (m_X3_firstOf D_cells p0) fun r_15 =>
      ob1 (m_X3_endOf D_cells p0) fun r_19 =>
      ob13 (m_X7_begin D_cells T_chunks T_chunksMade T_lacksSpace K_used K_bitsFree K_full O_first O_last O_points O_least O_greatest O_sum T_taken) fun T_chunks_23 T_chunksMade_24 T_lacksSpace_25 K_used_26 K_bitsFree_27 K_full_28 O_first_29 O_last_30 O_points_31 O_least_32 O_greatest_33 O_sum_34 T_taken_35 =>
      ob4 (m_X9_keepEntries D_cells T_chunks_23 T_lacksSpace_25 T_image T_packedFrom (0 : Int32) r_15) fun T_chunks_38 T_lacksSpace_39 T_image_40 T_packedFrom_41 =>
      ob26 (m_X9_joinEntries P_most D_cells U_place U_bitsRead U_started U_time U_value U_rise T_chunks_38 T_chunksMade_24 T_openFrom T_lacksSpace_39 K_used_26 K_bitsFree_27 K_full_28 K_time K_value K_rise K_cells O_first_29 O_last_30 O_points_31 O_least_32 O_greatest_33 O_sum_34 T_image_40 T_packedFrom_41 T_taken_35 p0 r_15 r_19) fun U_place_44 U_bitsRead_45 U_started_46 U_time_47 U_value_48 U_rise_49 T_chunks_50 T_chunksMade_51 T_openFrom_52 T_lacksSpace_53 K_used_54 K_bitsFree_55 K_full_56 K_time_57 K_value_58 K_rise_59 K_cells_60 O_first_61 O_last_62 O_points_63 O_least_64 O_greatest_65 O_sum_66 T_image_67 T_packedFrom_68 T_taken_69 =>
      ob1 (m_X3_chunks D_cells) fun r_72 =>
      ob4 (m_X9_keepEntries D_cells T_chunks_50 T_lacksSpace_53 T_image_67 T_packedFrom_68 r_19 r_72) fun T_chunks_75 T_lacksSpace_76 T_image_77 T_packedFrom_78 =>
      ob1 (m_X7_chunksMade T_chunksMade_51) fun r_81 =>
      if r_81 = 0 then (
        some ((0 : Int32), D_writesDone, D_writesLeft, D_down, D_cells, U_place_44, U_bitsRead_45, U_started_46, U_time_47, U_value_48, U_rise_49, T_chunks_75, T_chunksMade_51, T_openFrom_52, T_lacksSpace_76, K_used_54, K_bitsFree_55, K_full_56, K_time_57, K_value_58, K_rise_59, K_cells_60, O_first_61, O_last_62, O_points_63, O_least_64, O_greatest_65, O_sum_66, T_image_77, T_packedFrom_78, T_taken_69, C_isOpen_2, C_time_3, C_value_4)) else (
        ob1 (m_X2_epoch D_cells) fun r_85 =>
        ob1 (m_X3_chunks D_cells) fun r_88 =>
        ob1 (m_X7_chunks T_chunks_75) fun r_91 =>
        ob6 (m_X9_turnDisk D_writesDone D_writesLeft D_down D_cells T_chunks_75 T_lacksSpace_76 K_used_54 K_cells_60 T_image_77 T_packedFrom_78 r_85 (r_88 - r_91)) fun r_94 D_writesDone_95 D_writesLeft_96 D_down_97 D_cells_98 T_image_99 =>
        some (r_94, D_writesDone_95, D_writesLeft_96, D_down_97, D_cells_98, U_place_44, U_bitsRead_45, U_started_46, U_time_47, U_value_48, U_rise_49, T_chunks_75, T_chunksMade_51, T_openFrom_52, T_lacksSpace_76, K_used_54, K_bitsFree_55, K_full_56, K_time_57, K_value_58, K_rise_59, K_cells_60, O_first_61, O_last_62, O_points_63, O_least_64, O_greatest_65, O_sum_66, T_image_99, T_packedFrom_78, T_taken_69, C_isOpen_2, C_time_3, C_value_4)))) else (
    some ((-9 : Int32), D_writesDone, D_writesLeft, D_down, D_cells, U_place, U_bitsRead, U_started, U_time, U_value, U_rise, T_chunks, T_chunksMade, T_openFrom, T_lacksSpace, K_used, K_bitsFree, K_full, K_time, K_value, K_rise, K_cells, O_first, O_last, O_points, O_least, O_greatest, O_sum, T_image, T_packedFrom, T_taken, C_isOpen_2, C_time_3, C_value_4))
def lp_X9_expire_31 (D_cells : Nat → Int32) (p0 : Int32) : Nat → Int32 → Int32 → Int32 → Int32 → (Nat → Int32) → (Nat → Int32) → Option (Int32 × Int32 × Int32 × (Nat → Int32) × (Nat → Int32))
  | 0, _, _, _, _, _, _ => none
  | n + 1, v2_27, v3_28, T_chunks_29, T_lacksSpace_30, T_image_31, T_packedFrom_32 =>
    ob1 (m_X3_chunks D_cells) fun r_44 =>
    if r_44 ≤ v3_28 then (
      some (v2_27, T_chunks_29, T_lacksSpace_30, T_image_31, T_packedFrom_32)) else (
      ob1 (m_X3_at D_cells v3_28 (2 : Int32)) fun r_48 =>
      ob5 (
        if p0 ≤ r_48 then (
          ob4 (m_X7_keep D_cells T_chunks_29 T_lacksSpace_30 T_image_31 T_packedFrom_32 v3_28) fun T_chunks_59 T_lacksSpace_60 T_image_61 T_packedFrom_62 =>
          some (v2_27, T_chunks_59, T_lacksSpace_60, T_image_61, T_packedFrom_62)) else (
          ob1 (m_X3_at D_cells v3_28 (3 : Int32)) fun r_65 =>
          some ((v2_27 + r_65), T_chunks_29, T_lacksSpace_30, T_image_31, T_packedFrom_32))) fun v2_50 T_chunks_51 T_lacksSpace_52 T_image_53 T_packedFrom_54 =>
      lp_X9_expire_31 D_cells p0 n v2_50 (v3_28 + (1 : Int32)) T_chunks_51 T_lacksSpace_52 T_image_53 T_packedFrom_54)
def m_X9_expire (D_writesDone : Int32) (D_writesLeft : Int32) (D_down : Int32) (D_cells : Nat → Int32) (T_chunks : Int32) (T_chunksMade : Int32) (T_lacksSpace : Int32) (K_used : Int32) (K_bitsFree : Int32) (K_full : Int32) (K_cells : Nat → Int32) (O_first : Int32) (O_last : Int32) (O_points : Int32) (O_least : Int32) (O_greatest : Int32) (O_sum : Int64) (T_image : Nat → Int32) (T_packedFrom : Nat → Int32) (T_taken : Nat → Int32) (C_isOpen : Int32) (C_time : Int32) (C_value : Int32) (p0 : Int32) : Option (Int32 × Int32 × Int32 × Int32 × (Nat → Int32) × Int32 × Int32 × Int32 × Int32 × Int32 × Int32 × Int32 × Int32 × Int32 × Int32 × Int32 × Int64 × (Nat → Int32) × (Nat → Int32) × (Nat → Int32) × Int32 × Int32 × Int32) :=
  ob3 (m_X1_close C_isOpen C_time C_value) fun C_isOpen_2 C_time_3 C_value_4 =>
  ob1 (m_X2_isDown D_down) fun r_7 =>
  if r_7 = 0 then (
    ob13 (m_X7_begin D_cells T_chunks T_chunksMade T_lacksSpace K_used K_bitsFree K_full O_first O_last O_points O_least O_greatest O_sum T_taken) fun T_chunks_12 T_chunksMade_13 T_lacksSpace_14 K_used_15 K_bitsFree_16 K_full_17 O_first_18 O_last_19 O_points_20 O_least_21 O_greatest_22 O_sum_23 T_taken_24 =>
    ob5 (lp_X9_expire_31 D_cells p0 NN (0 : Int32) (0 : Int32) T_chunks_12 T_lacksSpace_14 T_image T_packedFrom) fun v2_37 T_chunks_38 T_lacksSpace_39 T_image_40 T_packedFrom_41 =>
    if v2_37 = 0 then (
      some ((0 : Int32), D_writesDone, D_writesLeft, D_down, D_cells, T_chunks_38, T_chunksMade_13, T_lacksSpace_39, K_used_15, K_bitsFree_16, K_full_17, O_first_18, O_last_19, O_points_20, O_least_21, O_greatest_22, O_sum_23, T_image_40, T_packedFrom_41, T_taken_24, C_isOpen_2, C_time_3, C_value_4)) else (
      ob1 (m_X2_epoch D_cells) fun r_73 =>
      ob6 (m_X9_turnDisk D_writesDone D_writesLeft D_down D_cells T_chunks_38 T_lacksSpace_39 K_used_15 K_cells T_image_40 T_packedFrom_41 r_73 v2_37) fun r_76 D_writesDone_77 D_writesLeft_78 D_down_79 D_cells_80 T_image_81 =>
      some (r_76, D_writesDone_77, D_writesLeft_78, D_down_79, D_cells_80, T_chunks_38, T_chunksMade_13, T_lacksSpace_39, K_used_15, K_bitsFree_16, K_full_17, O_first_18, O_last_19, O_points_20, O_least_21, O_greatest_22, O_sum_23, T_image_81, T_packedFrom_41, T_taken_24, C_isOpen_2, C_time_3, C_value_4))) else (
    some ((-9 : Int32), D_writesDone, D_writesLeft, D_down, D_cells, T_chunks, T_chunksMade, T_lacksSpace, K_used, K_bitsFree, K_full, O_first, O_last, O_points, O_least, O_greatest, O_sum, T_image, T_packedFrom, T_taken, C_isOpen_2, C_time_3, C_value_4))
def m_X9_seek (P_seriesCount : Int32) (D_down : Int32) (D_cells : Nat → Int32) (G_logged : Int32) (U_place : Int32) (U_bitsRead : Int32) (U_started : Int32) (U_time : Int32) (U_value : Int32) (U_rise : Int64) (Q_ratio : Int32) (Q_looks : Int32) (Q_unpacked : Int32) (F_first : Int32) (F_last : Int32) (F_points : Int32) (F_least : Int32) (F_greatest : Int32) (F_sum : Int64) (Z_first : Int32) (Z_last : Int32) (Z_points : Int32) (Z_least : Int32) (Z_greatest : Int32) (Z_sum : Int64) (C_isOpen : Int32) (C_series : Int32) (C_from : Int32) (C_to : Int32) (C_entry : Int32) (C_entriesEnd : Int32) (C_pointsLeft : Int32) (C_block : Int32) (C_time : Int32) (C_value : Int32) (p0 : Int32) (p1 : Int32) (p2 : Int32) : Option (Int32 × Int32 × Int32 × Int32 × Int32 × Int32 × Int64 × Int32 × Int32 × Int32 × Int32 × Int32 × Int32 × Int32 × Int64 × Int32 × Int32 × Int32 × Int32 × Int32 × Int64 × Int32 × Int32 × Int32 × Int32 × Int32 × Int32 × Int32 × Int32 × Int32 × Int32) :=
  ob3 (m_X1_close C_isOpen C_time C_value) fun C_isOpen_2 C_time_3 C_value_4 =>
  ob1 (m_X2_isDown D_down) fun r_7 =>
  if r_7 = 0 then (
    ob1 (m_X9_isSeries P_seriesCount p0) fun r_11 =>
    if r_11 = 0 then (
      some ((-2 : Int32), U_place, U_bitsRead, U_started, U_time, U_value, U_rise, Q_looks, Q_unpacked, F_first, F_last, F_points, F_least, F_greatest, F_sum, Z_first, Z_last, Z_points, Z_least, Z_greatest, Z_sum, C_isOpen_2, C_series, C_from, C_to, C_entry, C_entriesEnd, C_pointsLeft, C_block, C_time_3, C_value_4)) else (
      ob8 (m_X1_open D_cells C_isOpen_2 C_series C_from C_to C_entry C_entriesEnd C_pointsLeft C_block p0 p1 p2) fun C_isOpen_15 C_series_16 C_from_17 C_to_18 C_entry_19 C_entriesEnd_20 C_pointsLeft_21 C_block_22 =>
      ob20 (m_X0_ask D_cells G_logged U_place U_bitsRead U_started U_time U_value U_rise Q_ratio Q_looks Q_unpacked F_first F_last F_points F_least F_greatest F_sum Z_first Z_last Z_points Z_least Z_greatest Z_sum p0 p1 p2) fun U_place_25 U_bitsRead_26 U_started_27 U_time_28 U_value_29 U_rise_30 Q_looks_31 Q_unpacked_32 F_first_33 F_last_34 F_points_35 F_least_36 F_greatest_37 F_sum_38 Z_first_39 Z_last_40 Z_points_41 Z_least_42 Z_greatest_43 Z_sum_44 =>
      some (F_points_35, U_place_25, U_bitsRead_26, U_started_27, U_time_28, U_value_29, U_rise_30, Q_looks_31, Q_unpacked_32, F_first_33, F_last_34, F_points_35, F_least_36, F_greatest_37, F_sum_38, Z_first_39, Z_last_40, Z_points_41, Z_least_42, Z_greatest_43, Z_sum_44, C_isOpen_15, C_series_16, C_from_17, C_to_18, C_entry_19, C_entriesEnd_20, C_pointsLeft_21, C_block_22, C_time_3, C_value_4))) else (
    some ((-9 : Int32), U_place, U_bitsRead, U_started, U_time, U_value, U_rise, Q_looks, Q_unpacked, F_first, F_last, F_points, F_least, F_greatest, F_sum, Z_first, Z_last, Z_points, Z_least, Z_greatest, Z_sum, C_isOpen_2, C_series, C_from, C_to, C_entry, C_entriesEnd, C_pointsLeft, C_block, C_time_3, C_value_4))
def m_X9_next (D_cells : Nat → Int32) (G_logged : Int32) (V_place : Int32) (V_bitsRead : Int32) (V_started : Int32) (V_time : Int32) (V_value : Int32) (V_rise : Int64) (C_isOpen : Int32) (C_series : Int32) (C_from : Int32) (C_to : Int32) (C_entry : Int32) (C_entriesEnd : Int32) (C_pointsLeft : Int32) (C_block : Int32) (C_time : Int32) (C_value : Int32) : Option (Int32 × Int32 × Int32 × Int32 × Int32 × Int32 × Int64 × Int32 × Int32 × Int32 × Int32 × Int32 × Int32) :=
  ob13 (m_X1_advance D_cells G_logged V_place V_bitsRead V_started V_time V_value V_rise C_isOpen C_series C_from C_to C_entry C_entriesEnd C_pointsLeft C_block C_time C_value) fun r_2 V_place_3 V_bitsRead_4 V_started_5 V_time_6 V_value_7 V_rise_8 C_isOpen_9 C_entry_10 C_pointsLeft_11 C_block_12 C_time_13 C_value_14 =>
  ckz r_2 <|
  some (r_2, V_place_3, V_bitsRead_4, V_started_5, V_time_6, V_value_7, V_rise_8, C_isOpen_9, C_entry_10, C_pointsLeft_11, C_block_12, C_time_13, C_value_14)
def m_X9_curTime (C_time : Int32) : Option (Int32) :=
  some (C_time)
def m_X9_curVal (C_value : Int32) : Option (Int32) :=
  some (C_value)
def m_X9_aggCount (P_seriesCount : Int32) (D_down : Int32) (D_cells : Nat → Int32) (G_logged : Int32) (U_place : Int32) (U_bitsRead : Int32) (U_started : Int32) (U_time : Int32) (U_value : Int32) (U_rise : Int64) (Q_ratio : Int32) (Q_looks : Int32) (Q_unpacked : Int32) (F_first : Int32) (F_last : Int32) (F_points : Int32) (F_least : Int32) (F_greatest : Int32) (F_sum : Int64) (Z_first : Int32) (Z_last : Int32) (Z_points : Int32) (Z_least : Int32) (Z_greatest : Int32) (Z_sum : Int64) (p0 : Int32) (p1 : Int32) (p2 : Int32) : Option (Int32 × Int32 × Int32 × Int32 × Int32 × Int32 × Int64 × Int32 × Int32 × Int32 × Int32 × Int32 × Int32 × Int32 × Int64 × Int32 × Int32 × Int32 × Int32 × Int32 × Int64) :=
  ob1 (m_X2_isDown D_down) fun r_2 =>
  if r_2 = 0 then (
    ob1 (m_X9_isSeries P_seriesCount p0) fun r_6 =>
    if r_6 = 0 then (
      some ((-2 : Int32), U_place, U_bitsRead, U_started, U_time, U_value, U_rise, Q_looks, Q_unpacked, F_first, F_last, F_points, F_least, F_greatest, F_sum, Z_first, Z_last, Z_points, Z_least, Z_greatest, Z_sum)) else (
      ob20 (m_X0_ask D_cells G_logged U_place U_bitsRead U_started U_time U_value U_rise Q_ratio Q_looks Q_unpacked F_first F_last F_points F_least F_greatest F_sum Z_first Z_last Z_points Z_least Z_greatest Z_sum p0 p1 p2) fun U_place_10 U_bitsRead_11 U_started_12 U_time_13 U_value_14 U_rise_15 Q_looks_16 Q_unpacked_17 F_first_18 F_last_19 F_points_20 F_least_21 F_greatest_22 F_sum_23 Z_first_24 Z_last_25 Z_points_26 Z_least_27 Z_greatest_28 Z_sum_29 =>
      some (F_points_20, U_place_10, U_bitsRead_11, U_started_12, U_time_13, U_value_14, U_rise_15, Q_looks_16, Q_unpacked_17, F_first_18, F_last_19, F_points_20, F_least_21, F_greatest_22, F_sum_23, Z_first_24, Z_last_25, Z_points_26, Z_least_27, Z_greatest_28, Z_sum_29))) else (
    some ((-9 : Int32), U_place, U_bitsRead, U_started, U_time, U_value, U_rise, Q_looks, Q_unpacked, F_first, F_last, F_points, F_least, F_greatest, F_sum, Z_first, Z_last, Z_points, Z_least, Z_greatest, Z_sum))
def m_X9_crashAfter (D_writesLeft : Int32) (D_down : Int32) (p0 : Int32) : Option (Int32 × Int32) :=
  ob1 (m_X2_isDown D_down) fun r_2 =>
  if r_2 = 0 then (
    if p0 < 0 then (
      some ((0 : Int32), D_writesLeft)) else (
      if p0 ≤ (1000000 : Int32) then (
        ob1 (m_X2_limitWrites D_writesLeft p0) fun D_writesLeft_8 =>
        some ((1 : Int32), D_writesLeft_8)) else (
        some ((0 : Int32), D_writesLeft)))) else (
    some ((0 : Int32), D_writesLeft))
def m_X9_recover (P_recoveries : Int32) (D_writesLeft : Int32) (D_down : Int32) (D_cells : Nat → Int32) (G_logged : Int32) (C_isOpen : Int32) (C_time : Int32) (C_value : Int32) : Option (Int32 × Int32 × Int32 × Int32 × Int32 × Int32 × Int32 × Int32) :=
  ob3 (m_X1_close C_isOpen C_time C_value) fun C_isOpen_2 C_time_3 C_value_4 =>
  ob2 (m_X2_powerOn D_writesLeft D_down) fun D_writesLeft_8 D_down_9 =>
  ob1 (m_X4_readAgain D_cells G_logged) fun G_logged_12 =>
  ob1 (m_X3_points D_cells) fun r_15 =>
  ob1 (m_X4_logged G_logged_12) fun r_18 =>
  some ((r_15 + r_18), (P_recoveries + (1 : Int32)), D_writesLeft_8, D_down_9, G_logged_12, C_isOpen_2, C_time_3, C_value_4)
def m_X9_cell (D_cells : Nat → Int32) (p0 : Int32) : Option (Int32) :=
  ob1 (m_X2_read D_cells p0) fun r_2 =>
  some (r_2)
def m_X9_chunksOf (D_cells : Nat → Int32) (p0 : Int32) : Option (Int32) :=
  ob1 (m_X3_endOf D_cells p0) fun r_2 =>
  ob1 (m_X3_firstOf D_cells p0) fun r_5 =>
  some ((r_2 - r_5))
def m_X9_groupsOf (P_ratio : Int32) (D_cells : Nat → Int32) (p0 : Int32) : Option (Int32) :=
  ob1 (
    if (2 : Int32) ≤ P_ratio then (
      ob1 (m_X9_chunksOf D_cells p0) fun r_6 =>
      ckn P_ratio <|
      some ((((r_6 + P_ratio) - (1 : Int32)) / P_ratio))) else (
      some ((0 : Int32)))) fun s_1 =>
  some (s_1)
def m_X9_look (P_recoveries : Int32) (D_writesDone : Int32) (D_writesLeft : Int32) (D_down : Int32) (D_cells : Nat → Int32) (G_logged : Int32) (Q_looks : Int32) (Q_unpacked : Int32) (p0 : Int32) : Option (Int32) :=
  if p0 = (0 : Int32) then (
    ob1 (m_X2_writesDone D_writesDone) fun r_3 =>
    some (r_3)) else if p0 = (1 : Int32) then (
    ob1 (m_X4_logged G_logged) fun r_7 =>
    some (r_7)) else if p0 = (2 : Int32) then (
    ob1 (m_X3_chunks D_cells) fun r_11 =>
    some (r_11)) else if p0 = (3 : Int32) then (
    ob1 (m_X3_cellsOfChunks D_cells) fun r_15 =>
    some (r_15)) else if p0 = (4 : Int32) then (
    ob1 (m_X0_looks Q_looks) fun r_19 =>
    some (r_19)) else if p0 = (5 : Int32) then (
    ob1 (m_X0_unpacked Q_unpacked) fun r_23 =>
    some (r_23)) else if p0 = (6 : Int32) then (
    ob1 (m_X2_isDown D_down) fun r_27 =>
    ob1 (
      if r_27 = 0 then (
        some ((0 : Int32))) else (
        some ((1 : Int32)))) fun s_29 =>
    some (s_29)) else if p0 = (7 : Int32) then (
    ob1 (m_X2_writesLeft D_writesLeft) fun r_36 =>
    some (r_36)) else if p0 = (8 : Int32) then (
    some (P_recoveries)) else (
    some ((-1 : Int32)))
