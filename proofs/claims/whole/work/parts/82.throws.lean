def m_X9_throwUnlessUp (D_down : Int32) : Option (Int32) :=
  ob1 (m_X2_isDown D_down) fun r_2 =>
  if r_2 = 0 then (
    some ((0 : Int32))) else (
    some ((1 : Int32)))
def m_X9_throwUnlessSeries (P_seriesCount : Int32) (p0 : Int32) : Option (Int32) :=
  ob1 (m_X9_isSeries P_seriesCount p0) fun r_2 =>
  if r_2 = 0 then (
    some ((2 : Int32))) else (
    some ((0 : Int32)))
def m_X9_aggMin (P_seriesCount : Int32) (D_down : Int32) (D_cells : Nat → Int32) (G_logged : Int32) (U_place : Int32) (U_bitsRead : Int32) (U_started : Int32) (U_time : Int32) (U_value : Int32) (U_rise : Int64) (Q_ratio : Int32) (Q_looks : Int32) (Q_unpacked : Int32) (F_first : Int32) (F_last : Int32) (F_points : Int32) (F_least : Int32) (F_greatest : Int32) (F_sum : Int64) (Z_first : Int32) (Z_last : Int32) (Z_points : Int32) (Z_least : Int32) (Z_greatest : Int32) (Z_sum : Int64) (p0 : Int32) (p1 : Int32) (p2 : Int32) : Option (Int32 × Int32 × Int32 × Int32 × Int32 × Int32 × Int32 × Int64 × Int32 × Int32 × Int32 × Int32 × Int32 × Int32 × Int32 × Int64 × Int32 × Int32 × Int32 × Int32 × Int32 × Int64) :=
  ob1 (m_X9_throwUnlessUp D_down) fun k_2 =>
  if k_2 = 0 then (
    ob1 (m_X9_throwUnlessSeries P_seriesCount p0) fun k_6 =>
    if k_6 = 0 then (
      ob20 (m_X0_ask D_cells G_logged U_place U_bitsRead U_started U_time U_value U_rise Q_ratio Q_looks Q_unpacked F_first F_last F_points F_least F_greatest F_sum Z_first Z_last Z_points Z_least Z_greatest Z_sum p0 p1 p2) fun U_place_10 U_bitsRead_11 U_started_12 U_time_13 U_value_14 U_rise_15 Q_looks_16 Q_unpacked_17 F_first_18 F_last_19 F_points_20 F_least_21 F_greatest_22 F_sum_23 Z_first_24 Z_last_25 Z_points_26 Z_least_27 Z_greatest_28 Z_sum_29 =>
      some ((0 : Int32), F_least_21, U_place_10, U_bitsRead_11, U_started_12, U_time_13, U_value_14, U_rise_15, Q_looks_16, Q_unpacked_17, F_first_18, F_last_19, F_points_20, F_least_21, F_greatest_22, F_sum_23, Z_first_24, Z_last_25, Z_points_26, Z_least_27, Z_greatest_28, Z_sum_29)) else (
      some (k_6, (0 : Int32), U_place, U_bitsRead, U_started, U_time, U_value, U_rise, Q_looks, Q_unpacked, F_first, F_last, F_points, F_least, F_greatest, F_sum, Z_first, Z_last, Z_points, Z_least, Z_greatest, Z_sum))) else (
    some (k_2, (0 : Int32), U_place, U_bitsRead, U_started, U_time, U_value, U_rise, Q_looks, Q_unpacked, F_first, F_last, F_points, F_least, F_greatest, F_sum, Z_first, Z_last, Z_points, Z_least, Z_greatest, Z_sum))
def m_X9_aggMax (P_seriesCount : Int32) (D_down : Int32) (D_cells : Nat → Int32) (G_logged : Int32) (U_place : Int32) (U_bitsRead : Int32) (U_started : Int32) (U_time : Int32) (U_value : Int32) (U_rise : Int64) (Q_ratio : Int32) (Q_looks : Int32) (Q_unpacked : Int32) (F_first : Int32) (F_last : Int32) (F_points : Int32) (F_least : Int32) (F_greatest : Int32) (F_sum : Int64) (Z_first : Int32) (Z_last : Int32) (Z_points : Int32) (Z_least : Int32) (Z_greatest : Int32) (Z_sum : Int64) (p0 : Int32) (p1 : Int32) (p2 : Int32) : Option (Int32 × Int32 × Int32 × Int32 × Int32 × Int32 × Int32 × Int64 × Int32 × Int32 × Int32 × Int32 × Int32 × Int32 × Int32 × Int64 × Int32 × Int32 × Int32 × Int32 × Int32 × Int64) :=
  ob1 (m_X9_throwUnlessUp D_down) fun k_2 =>
  if k_2 = 0 then (
    ob1 (m_X9_throwUnlessSeries P_seriesCount p0) fun k_6 =>
    if k_6 = 0 then (
      ob20 (m_X0_ask D_cells G_logged U_place U_bitsRead U_started U_time U_value U_rise Q_ratio Q_looks Q_unpacked F_first F_last F_points F_least F_greatest F_sum Z_first Z_last Z_points Z_least Z_greatest Z_sum p0 p1 p2) fun U_place_10 U_bitsRead_11 U_started_12 U_time_13 U_value_14 U_rise_15 Q_looks_16 Q_unpacked_17 F_first_18 F_last_19 F_points_20 F_least_21 F_greatest_22 F_sum_23 Z_first_24 Z_last_25 Z_points_26 Z_least_27 Z_greatest_28 Z_sum_29 =>
      some ((0 : Int32), F_greatest_22, U_place_10, U_bitsRead_11, U_started_12, U_time_13, U_value_14, U_rise_15, Q_looks_16, Q_unpacked_17, F_first_18, F_last_19, F_points_20, F_least_21, F_greatest_22, F_sum_23, Z_first_24, Z_last_25, Z_points_26, Z_least_27, Z_greatest_28, Z_sum_29)) else (
      some (k_6, (0 : Int32), U_place, U_bitsRead, U_started, U_time, U_value, U_rise, Q_looks, Q_unpacked, F_first, F_last, F_points, F_least, F_greatest, F_sum, Z_first, Z_last, Z_points, Z_least, Z_greatest, Z_sum))) else (
    some (k_2, (0 : Int32), U_place, U_bitsRead, U_started, U_time, U_value, U_rise, Q_looks, Q_unpacked, F_first, F_last, F_points, F_least, F_greatest, F_sum, Z_first, Z_last, Z_points, Z_least, Z_greatest, Z_sum))
def m_X9_aggSum (P_seriesCount : Int32) (D_down : Int32) (D_cells : Nat → Int32) (G_logged : Int32) (U_place : Int32) (U_bitsRead : Int32) (U_started : Int32) (U_time : Int32) (U_value : Int32) (U_rise : Int64) (Q_ratio : Int32) (Q_looks : Int32) (Q_unpacked : Int32) (F_first : Int32) (F_last : Int32) (F_points : Int32) (F_least : Int32) (F_greatest : Int32) (F_sum : Int64) (Z_first : Int32) (Z_last : Int32) (Z_points : Int32) (Z_least : Int32) (Z_greatest : Int32) (Z_sum : Int64) (p0 : Int32) (p1 : Int32) (p2 : Int32) : Option (Int32 × Int64 × Int32 × Int32 × Int32 × Int32 × Int32 × Int64 × Int32 × Int32 × Int32 × Int32 × Int32 × Int32 × Int32 × Int64 × Int32 × Int32 × Int32 × Int32 × Int32 × Int64) :=
  ob1 (m_X9_throwUnlessUp D_down) fun k_2 =>
  if k_2 = 0 then (
    ob1 (m_X9_throwUnlessSeries P_seriesCount p0) fun k_6 =>
    if k_6 = 0 then (
      ob20 (m_X0_ask D_cells G_logged U_place U_bitsRead U_started U_time U_value U_rise Q_ratio Q_looks Q_unpacked F_first F_last F_points F_least F_greatest F_sum Z_first Z_last Z_points Z_least Z_greatest Z_sum p0 p1 p2) fun U_place_10 U_bitsRead_11 U_started_12 U_time_13 U_value_14 U_rise_15 Q_looks_16 Q_unpacked_17 F_first_18 F_last_19 F_points_20 F_least_21 F_greatest_22 F_sum_23 Z_first_24 Z_last_25 Z_points_26 Z_least_27 Z_greatest_28 Z_sum_29 =>
      some ((0 : Int32), F_sum_23, U_place_10, U_bitsRead_11, U_started_12, U_time_13, U_value_14, U_rise_15, Q_looks_16, Q_unpacked_17, F_first_18, F_last_19, F_points_20, F_least_21, F_greatest_22, F_sum_23, Z_first_24, Z_last_25, Z_points_26, Z_least_27, Z_greatest_28, Z_sum_29)) else (
      some (k_6, (0 : Int64), U_place, U_bitsRead, U_started, U_time, U_value, U_rise, Q_looks, Q_unpacked, F_first, F_last, F_points, F_least, F_greatest, F_sum, Z_first, Z_last, Z_points, Z_least, Z_greatest, Z_sum))) else (
    some (k_2, (0 : Int64), U_place, U_bitsRead, U_started, U_time, U_value, U_rise, Q_looks, Q_unpacked, F_first, F_last, F_points, F_least, F_greatest, F_sum, Z_first, Z_last, Z_points, Z_least, Z_greatest, Z_sum))
def m_X9_sizes (P_seriesCount : Int32) (P_ratio : Int32) (D_down : Int32) (D_cells : Nat → Int32) (G_logged : Int32) (p0 : Int32) (p1 : Int32) : Option (Int32 × Int32) :=
  ob1 (m_X9_throwUnlessUp D_down) fun k_2 =>
  if k_2 = 0 then (
    ob1 (m_X9_throwUnlessSeries P_seriesCount p0) fun k_6 =>
    if k_6 = 0 then (
      if p1 = (0 : Int32) then (
        ob1 (m_X9_chunksOf D_cells p0) fun r_11 =>
        some ((0 : Int32), r_11)) else if p1 = (1 : Int32) then (
        ob1 (m_X4_pointsOf D_cells G_logged p0) fun r_15 =>
        some ((0 : Int32), r_15)) else if p1 = (2 : Int32) then (
        ob1 (m_X9_groupsOf P_ratio D_cells p0) fun r_19 =>
        some ((0 : Int32), r_19)) else (
        some ((3 : Int32), (0 : Int32)))) else (
      some (k_6, (0 : Int32)))) else (
    some (k_2, (0 : Int32)))
def m_X9_chunk (P_seriesCount : Int32) (D_down : Int32) (D_cells : Nat → Int32) (p0 : Int32) (p1 : Int32) (p2 : Int32) : Option (Int32 × Int32) :=
  ob1 (m_X9_throwUnlessUp D_down) fun k_2 =>
  if k_2 = 0 then (
    ob1 (m_X9_throwUnlessSeries P_seriesCount p0) fun k_6 =>
    if k_6 = 0 then (
      if p1 < 0 then (
        some ((3 : Int32), (0 : Int32))) else (
        ob1 (m_X9_chunksOf D_cells p0) fun r_11 =>
        if p1 < r_11 then (
          ob1 (m_X3_firstOf D_cells p0) fun r_15 =>
          if p2 = (0 : Int32) then (
            ob1 (m_X3_at D_cells (r_15 + p1) (1 : Int32)) fun r_20 =>
            some ((0 : Int32), r_20)) else if p2 = (1 : Int32) then (
            ob1 (m_X3_at D_cells (r_15 + p1) (2 : Int32)) fun r_24 =>
            some ((0 : Int32), r_24)) else if p2 = (2 : Int32) then (
            ob1 (m_X3_at D_cells (r_15 + p1) (3 : Int32)) fun r_28 =>
            some ((0 : Int32), r_28)) else if p2 = (3 : Int32) then (
            ob1 (m_X3_at D_cells (r_15 + p1) (4 : Int32)) fun r_32 =>
            some ((0 : Int32), r_32)) else if p2 = (4 : Int32) then (
            ob1 (m_X3_at D_cells (r_15 + p1) (5 : Int32)) fun r_36 =>
            some ((0 : Int32), r_36)) else if p2 = (5 : Int32) then (
            ob1 (m_X3_at D_cells (r_15 + p1) (8 : Int32)) fun r_40 =>
            some ((0 : Int32), r_40)) else if p2 = (6 : Int32) then (
            ob1 (m_X3_at D_cells (r_15 + p1) (9 : Int32)) fun r_44 =>
            some ((0 : Int32), r_44)) else (
            some ((3 : Int32), (0 : Int32)))) else (
          some ((3 : Int32), (0 : Int32))))) else (
      some (k_6, (0 : Int32)))) else (
    some (k_2, (0 : Int32)))
def m_X9_group (P_seriesCount : Int32) (P_ratio : Int32) (D_down : Int32) (D_cells : Nat → Int32) (Z_first : Int32) (Z_last : Int32) (Z_points : Int32) (Z_least : Int32) (Z_greatest : Int32) (Z_sum : Int64) (p0 : Int32) (p1 : Int32) (p2 : Int32) : Option (Int32 × Int32 × Int32 × Int32 × Int32 × Int32 × Int32 × Int64) :=
  ob1 (m_X9_throwUnlessUp D_down) fun k_2 =>
  if k_2 = 0 then (
    ob1 (m_X9_throwUnlessSeries P_seriesCount p0) fun k_6 =>
    if k_6 = 0 then (
      if p1 < 0 then (
        some ((3 : Int32), (0 : Int32), Z_first, Z_last, Z_points, Z_least, Z_greatest, Z_sum)) else (
        ob1 (m_X9_groupsOf P_ratio D_cells p0) fun r_11 =>
        if p1 < r_11 then (
          ob1 (m_X3_firstOf D_cells p0) fun r_15 =>
          ob1 (m_X3_endOf D_cells p0) fun r_19 =>
          ob6 (m_X0_summaryOf D_cells Z_first Z_last Z_points Z_least Z_greatest Z_sum (r_15 + (p1 * P_ratio)) (if r_19 < ((r_15 + (p1 * P_ratio)) + P_ratio) then r_19 else ((r_15 + (p1 * P_ratio)) + P_ratio))) fun Z_first_23 Z_last_24 Z_points_25 Z_least_26 Z_greatest_27 Z_sum_28 =>
          if p2 = (0 : Int32) then (
            some ((0 : Int32), Z_first_23, Z_first_23, Z_last_24, Z_points_25, Z_least_26, Z_greatest_27, Z_sum_28)) else if p2 = (1 : Int32) then (
            some ((0 : Int32), Z_last_24, Z_first_23, Z_last_24, Z_points_25, Z_least_26, Z_greatest_27, Z_sum_28)) else if p2 = (2 : Int32) then (
            some ((0 : Int32), Z_points_25, Z_first_23, Z_last_24, Z_points_25, Z_least_26, Z_greatest_27, Z_sum_28)) else if p2 = (3 : Int32) then (
            some ((0 : Int32), Z_least_26, Z_first_23, Z_last_24, Z_points_25, Z_least_26, Z_greatest_27, Z_sum_28)) else if p2 = (4 : Int32) then (
            some ((0 : Int32), Z_greatest_27, Z_first_23, Z_last_24, Z_points_25, Z_least_26, Z_greatest_27, Z_sum_28)) else if p2 = (5 : Int32) then (
            some ((0 : Int32), ((if r_19 < ((r_15 + (p1 * P_ratio)) + P_ratio) then r_19 else ((r_15 + (p1 * P_ratio)) + P_ratio)) - (r_15 + (p1 * P_ratio))), Z_first_23, Z_last_24, Z_points_25, Z_least_26, Z_greatest_27, Z_sum_28)) else (
            some ((3 : Int32), (0 : Int32), Z_first_23, Z_last_24, Z_points_25, Z_least_26, Z_greatest_27, Z_sum_28))) else (
          some ((3 : Int32), (0 : Int32), Z_first, Z_last, Z_points, Z_least, Z_greatest, Z_sum)))) else (
      some (k_6, (0 : Int32), Z_first, Z_last, Z_points, Z_least, Z_greatest, Z_sum))) else (
    some (k_2, (0 : Int32), Z_first, Z_last, Z_points, Z_least, Z_greatest, Z_sum))
theorem exN_1 : exN (1 : Int32) = xISE := by decide +kernel
theorem exN_2 : exN (2 : Int32) = xIOE := by decide +kernel
theorem exN_3 : exN (3 : Int32) = xNSE := by decide +kernel
theorem dX9_aggMin_0 : decode cX9_aggMin 0 = .ok (.aload_n 0, 1) := by decide +kernel
theorem dX9_aggMin_1 : decode cX9_aggMin 1 = .ok (.invokevirtual 175, 3) := by decide +kernel
theorem dX9_aggMin_4 : decode cX9_aggMin 4 = .ok (.aload_n 0, 1) := by decide +kernel
theorem dX9_aggMin_5 : decode cX9_aggMin 5 = .ok (.iload_n 1, 1) := by decide +kernel
theorem dX9_aggMin_6 : decode cX9_aggMin 6 = .ok (.invokevirtual 178, 3) := by decide +kernel
theorem dX9_aggMin_9 : decode cX9_aggMin 9 = .ok (.aload_n 0, 1) := by decide +kernel
theorem dX9_aggMin_10 : decode cX9_aggMin 10 = .ok (.getfield 70, 3) := by decide +kernel
theorem dX9_aggMin_13 : decode cX9_aggMin 13 = .ok (.iload_n 1, 1) := by decide +kernel
theorem dX9_aggMin_14 : decode cX9_aggMin 14 = .ok (.iload_n 2, 1) := by decide +kernel
theorem dX9_aggMin_15 : decode cX9_aggMin 15 = .ok (.iload_n 3, 1) := by decide +kernel
theorem dX9_aggMin_16 : decode cX9_aggMin 16 = .ok (.invokevirtual 157, 3) := by decide +kernel
theorem dX9_aggMin_19 : decode cX9_aggMin 19 = .ok (.getfield 181, 3) := by decide +kernel
theorem dX9_aggMin_22 : decode cX9_aggMin 22 = .ok (.ireturn, 1) := by decide +kernel
theorem dX9_aggMax_0 : decode cX9_aggMax 0 = .ok (.aload_n 0, 1) := by decide +kernel
theorem dX9_aggMax_1 : decode cX9_aggMax 1 = .ok (.invokevirtual 175, 3) := by decide +kernel
theorem dX9_aggMax_4 : decode cX9_aggMax 4 = .ok (.aload_n 0, 1) := by decide +kernel
theorem dX9_aggMax_5 : decode cX9_aggMax 5 = .ok (.iload_n 1, 1) := by decide +kernel
theorem dX9_aggMax_6 : decode cX9_aggMax 6 = .ok (.invokevirtual 178, 3) := by decide +kernel
theorem dX9_aggMax_9 : decode cX9_aggMax 9 = .ok (.aload_n 0, 1) := by decide +kernel
theorem dX9_aggMax_10 : decode cX9_aggMax 10 = .ok (.getfield 70, 3) := by decide +kernel
theorem dX9_aggMax_13 : decode cX9_aggMax 13 = .ok (.iload_n 1, 1) := by decide +kernel
theorem dX9_aggMax_14 : decode cX9_aggMax 14 = .ok (.iload_n 2, 1) := by decide +kernel
theorem dX9_aggMax_15 : decode cX9_aggMax 15 = .ok (.iload_n 3, 1) := by decide +kernel
theorem dX9_aggMax_16 : decode cX9_aggMax 16 = .ok (.invokevirtual 157, 3) := by decide +kernel
theorem dX9_aggMax_19 : decode cX9_aggMax 19 = .ok (.getfield 184, 3) := by decide +kernel
theorem dX9_aggMax_22 : decode cX9_aggMax 22 = .ok (.ireturn, 1) := by decide +kernel
theorem dX9_aggSum_0 : decode cX9_aggSum 0 = .ok (.aload_n 0, 1) := by decide +kernel
theorem dX9_aggSum_1 : decode cX9_aggSum 1 = .ok (.invokevirtual 175, 3) := by decide +kernel
theorem dX9_aggSum_4 : decode cX9_aggSum 4 = .ok (.aload_n 0, 1) := by decide +kernel
theorem dX9_aggSum_5 : decode cX9_aggSum 5 = .ok (.iload_n 1, 1) := by decide +kernel
theorem dX9_aggSum_6 : decode cX9_aggSum 6 = .ok (.invokevirtual 178, 3) := by decide +kernel
theorem dX9_aggSum_9 : decode cX9_aggSum 9 = .ok (.aload_n 0, 1) := by decide +kernel
theorem dX9_aggSum_10 : decode cX9_aggSum 10 = .ok (.getfield 70, 3) := by decide +kernel
theorem dX9_aggSum_13 : decode cX9_aggSum 13 = .ok (.iload_n 1, 1) := by decide +kernel
theorem dX9_aggSum_14 : decode cX9_aggSum 14 = .ok (.iload_n 2, 1) := by decide +kernel
theorem dX9_aggSum_15 : decode cX9_aggSum 15 = .ok (.iload_n 3, 1) := by decide +kernel
theorem dX9_aggSum_16 : decode cX9_aggSum 16 = .ok (.invokevirtual 157, 3) := by decide +kernel
theorem dX9_aggSum_19 : decode cX9_aggSum 19 = .ok (.getfield 187, 3) := by decide +kernel
theorem dX9_aggSum_22 : decode cX9_aggSum 22 = .ok (.lreturn, 1) := by decide +kernel
theorem dX9_sizes_0 : decode cX9_sizes 0 = .ok (.aload_n 0, 1) := by decide +kernel
theorem dX9_sizes_1 : decode cX9_sizes 1 = .ok (.invokevirtual 175, 3) := by decide +kernel
theorem dX9_sizes_4 : decode cX9_sizes 4 = .ok (.aload_n 0, 1) := by decide +kernel
theorem dX9_sizes_5 : decode cX9_sizes 5 = .ok (.iload_n 1, 1) := by decide +kernel
theorem dX9_sizes_6 : decode cX9_sizes 6 = .ok (.invokevirtual 178, 3) := by decide +kernel
theorem dX9_sizes_9 : decode cX9_sizes 9 = .ok (.iload_n 2, 1) := by decide +kernel
theorem dX9_sizes_10 : decode cX9_sizes 10 = .ok (.tableswitch 47 0 2 #[26, 32, 41], 26) := by decide +kernel
theorem dX9_sizes_36 : decode cX9_sizes 36 = .ok (.aload_n 0, 1) := by decide +kernel
theorem dX9_sizes_37 : decode cX9_sizes 37 = .ok (.iload_n 1, 1) := by decide +kernel
theorem dX9_sizes_38 : decode cX9_sizes 38 = .ok (.invokevirtual 203, 3) := by decide +kernel
theorem dX9_sizes_41 : decode cX9_sizes 41 = .ok (.ireturn, 1) := by decide +kernel
theorem dX9_sizes_42 : decode cX9_sizes 42 = .ok (.aload_n 0, 1) := by decide +kernel
theorem dX9_sizes_43 : decode cX9_sizes 43 = .ok (.getfield 45, 3) := by decide +kernel
theorem dX9_sizes_46 : decode cX9_sizes 46 = .ok (.iload_n 1, 1) := by decide +kernel
theorem dX9_sizes_47 : decode cX9_sizes 47 = .ok (.invokevirtual 206, 3) := by decide +kernel
theorem dX9_sizes_50 : decode cX9_sizes 50 = .ok (.ireturn, 1) := by decide +kernel
theorem dX9_sizes_51 : decode cX9_sizes 51 = .ok (.aload_n 0, 1) := by decide +kernel
theorem dX9_sizes_52 : decode cX9_sizes 52 = .ok (.iload_n 1, 1) := by decide +kernel
theorem dX9_sizes_53 : decode cX9_sizes 53 = .ok (.invokevirtual 209, 3) := by decide +kernel
theorem dX9_sizes_56 : decode cX9_sizes 56 = .ok (.ireturn, 1) := by decide +kernel
theorem dX9_sizes_57 : decode cX9_sizes 57 = .ok (.new 212, 3) := by decide +kernel
theorem dX9_sizes_60 : decode cX9_sizes 60 = .ok (.dup, 1) := by decide +kernel
theorem dX9_sizes_61 : decode cX9_sizes 61 = .ok (.ldc 214, 2) := by decide +kernel
theorem dX9_sizes_63 : decode cX9_sizes 63 = .ok (.invokespecial 216, 3) := by decide +kernel
theorem dX9_sizes_66 : decode cX9_sizes 66 = .ok (.athrow, 1) := by decide +kernel
theorem dX9_chunk_0 : decode cX9_chunk 0 = .ok (.aload_n 0, 1) := by decide +kernel
theorem dX9_chunk_1 : decode cX9_chunk 1 = .ok (.invokevirtual 175, 3) := by decide +kernel
theorem dX9_chunk_4 : decode cX9_chunk 4 = .ok (.aload_n 0, 1) := by decide +kernel
theorem dX9_chunk_5 : decode cX9_chunk 5 = .ok (.iload_n 1, 1) := by decide +kernel
theorem dX9_chunk_6 : decode cX9_chunk 6 = .ok (.invokevirtual 178, 3) := by decide +kernel
theorem dX9_chunk_9 : decode cX9_chunk 9 = .ok (.iload_n 2, 1) := by decide +kernel
theorem dX9_chunk_10 : decode cX9_chunk 10 = .ok (.ifCond .lt 12, 3) := by decide +kernel
theorem dX9_chunk_13 : decode cX9_chunk 13 = .ok (.iload_n 2, 1) := by decide +kernel
theorem dX9_chunk_14 : decode cX9_chunk 14 = .ok (.aload_n 0, 1) := by decide +kernel
theorem dX9_chunk_15 : decode cX9_chunk 15 = .ok (.iload_n 1, 1) := by decide +kernel
theorem dX9_chunk_16 : decode cX9_chunk 16 = .ok (.invokevirtual 203, 3) := by decide +kernel
theorem dX9_chunk_19 : decode cX9_chunk 19 = .ok (.if_icmp .lt 13, 3) := by decide +kernel
theorem dX9_chunk_22 : decode cX9_chunk 22 = .ok (.new 212, 3) := by decide +kernel
theorem dX9_chunk_25 : decode cX9_chunk 25 = .ok (.dup, 1) := by decide +kernel
theorem dX9_chunk_26 : decode cX9_chunk 26 = .ok (.ldc 219, 2) := by decide +kernel
theorem dX9_chunk_28 : decode cX9_chunk 28 = .ok (.invokespecial 216, 3) := by decide +kernel
theorem dX9_chunk_31 : decode cX9_chunk 31 = .ok (.athrow, 1) := by decide +kernel
theorem dX9_chunk_32 : decode cX9_chunk 32 = .ok (.aload_n 0, 1) := by decide +kernel
theorem dX9_chunk_33 : decode cX9_chunk 33 = .ok (.getfield 38, 3) := by decide +kernel
theorem dX9_chunk_36 : decode cX9_chunk 36 = .ok (.iload_n 1, 1) := by decide +kernel
theorem dX9_chunk_37 : decode cX9_chunk 37 = .ok (.invokevirtual 112, 3) := by decide +kernel
theorem dX9_chunk_40 : decode cX9_chunk 40 = .ok (.iload_n 2, 1) := by decide +kernel
theorem dX9_chunk_41 : decode cX9_chunk 41 = .ok (.iadd, 1) := by decide +kernel
theorem dX9_chunk_42 : decode cX9_chunk 42 = .ok (.istore 4, 2) := by decide +kernel
theorem dX9_chunk_44 : decode cX9_chunk 44 = .ok (.iload_n 3, 1) := by decide +kernel
theorem dX9_chunk_45 : decode cX9_chunk 45 = .ok (.tableswitch 122 0 6 #[43, 54, 65, 76, 87, 98, 110], 43) := by decide +kernel
theorem dX9_chunk_88 : decode cX9_chunk 88 = .ok (.aload_n 0, 1) := by decide +kernel
theorem dX9_chunk_89 : decode cX9_chunk 89 = .ok (.getfield 38, 3) := by decide +kernel
theorem dX9_chunk_92 : decode cX9_chunk 92 = .ok (.iload 4, 2) := by decide +kernel
theorem dX9_chunk_94 : decode cX9_chunk 94 = .ok (.iconst 1, 1) := by decide +kernel
theorem dX9_chunk_95 : decode cX9_chunk 95 = .ok (.invokevirtual 148, 3) := by decide +kernel
theorem dX9_chunk_98 : decode cX9_chunk 98 = .ok (.ireturn, 1) := by decide +kernel
theorem dX9_chunk_99 : decode cX9_chunk 99 = .ok (.aload_n 0, 1) := by decide +kernel
theorem dX9_chunk_100 : decode cX9_chunk 100 = .ok (.getfield 38, 3) := by decide +kernel
theorem dX9_chunk_103 : decode cX9_chunk 103 = .ok (.iload 4, 2) := by decide +kernel
theorem dX9_chunk_105 : decode cX9_chunk 105 = .ok (.iconst 2, 1) := by decide +kernel
theorem dX9_chunk_106 : decode cX9_chunk 106 = .ok (.invokevirtual 148, 3) := by decide +kernel
theorem dX9_chunk_109 : decode cX9_chunk 109 = .ok (.ireturn, 1) := by decide +kernel
theorem dX9_chunk_110 : decode cX9_chunk 110 = .ok (.aload_n 0, 1) := by decide +kernel
theorem dX9_chunk_111 : decode cX9_chunk 111 = .ok (.getfield 38, 3) := by decide +kernel
theorem dX9_chunk_114 : decode cX9_chunk 114 = .ok (.iload 4, 2) := by decide +kernel
theorem dX9_chunk_116 : decode cX9_chunk 116 = .ok (.iconst 3, 1) := by decide +kernel
theorem dX9_chunk_117 : decode cX9_chunk 117 = .ok (.invokevirtual 148, 3) := by decide +kernel
theorem dX9_chunk_120 : decode cX9_chunk 120 = .ok (.ireturn, 1) := by decide +kernel
theorem dX9_chunk_121 : decode cX9_chunk 121 = .ok (.aload_n 0, 1) := by decide +kernel
theorem dX9_chunk_122 : decode cX9_chunk 122 = .ok (.getfield 38, 3) := by decide +kernel
theorem dX9_chunk_125 : decode cX9_chunk 125 = .ok (.iload 4, 2) := by decide +kernel
theorem dX9_chunk_127 : decode cX9_chunk 127 = .ok (.iconst 4, 1) := by decide +kernel
theorem dX9_chunk_128 : decode cX9_chunk 128 = .ok (.invokevirtual 148, 3) := by decide +kernel
theorem dX9_chunk_131 : decode cX9_chunk 131 = .ok (.ireturn, 1) := by decide +kernel
theorem dX9_chunk_132 : decode cX9_chunk 132 = .ok (.aload_n 0, 1) := by decide +kernel
theorem dX9_chunk_133 : decode cX9_chunk 133 = .ok (.getfield 38, 3) := by decide +kernel
theorem dX9_chunk_136 : decode cX9_chunk 136 = .ok (.iload 4, 2) := by decide +kernel
theorem dX9_chunk_138 : decode cX9_chunk 138 = .ok (.iconst 5, 1) := by decide +kernel
theorem dX9_chunk_139 : decode cX9_chunk 139 = .ok (.invokevirtual 148, 3) := by decide +kernel
theorem dX9_chunk_142 : decode cX9_chunk 142 = .ok (.ireturn, 1) := by decide +kernel
theorem dX9_chunk_143 : decode cX9_chunk 143 = .ok (.aload_n 0, 1) := by decide +kernel
theorem dX9_chunk_144 : decode cX9_chunk 144 = .ok (.getfield 38, 3) := by decide +kernel
theorem dX9_chunk_147 : decode cX9_chunk 147 = .ok (.iload 4, 2) := by decide +kernel
theorem dX9_chunk_149 : decode cX9_chunk 149 = .ok (.bipush 8, 2) := by decide +kernel
theorem dX9_chunk_151 : decode cX9_chunk 151 = .ok (.invokevirtual 148, 3) := by decide +kernel
theorem dX9_chunk_154 : decode cX9_chunk 154 = .ok (.ireturn, 1) := by decide +kernel
theorem dX9_chunk_155 : decode cX9_chunk 155 = .ok (.aload_n 0, 1) := by decide +kernel
theorem dX9_chunk_156 : decode cX9_chunk 156 = .ok (.getfield 38, 3) := by decide +kernel
theorem dX9_chunk_159 : decode cX9_chunk 159 = .ok (.iload 4, 2) := by decide +kernel
theorem dX9_chunk_161 : decode cX9_chunk 161 = .ok (.bipush 9, 2) := by decide +kernel
theorem dX9_chunk_163 : decode cX9_chunk 163 = .ok (.invokevirtual 148, 3) := by decide +kernel
theorem dX9_chunk_166 : decode cX9_chunk 166 = .ok (.ireturn, 1) := by decide +kernel
theorem dX9_chunk_167 : decode cX9_chunk 167 = .ok (.new 212, 3) := by decide +kernel
theorem dX9_chunk_170 : decode cX9_chunk 170 = .ok (.dup, 1) := by decide +kernel
theorem dX9_chunk_171 : decode cX9_chunk 171 = .ok (.ldc 221, 2) := by decide +kernel
theorem dX9_chunk_173 : decode cX9_chunk 173 = .ok (.invokespecial 216, 3) := by decide +kernel
theorem dX9_chunk_176 : decode cX9_chunk 176 = .ok (.athrow, 1) := by decide +kernel
theorem dX9_group_0 : decode cX9_group 0 = .ok (.aload_n 0, 1) := by decide +kernel
theorem dX9_group_1 : decode cX9_group 1 = .ok (.invokevirtual 175, 3) := by decide +kernel
theorem dX9_group_4 : decode cX9_group 4 = .ok (.aload_n 0, 1) := by decide +kernel
theorem dX9_group_5 : decode cX9_group 5 = .ok (.iload_n 1, 1) := by decide +kernel
theorem dX9_group_6 : decode cX9_group 6 = .ok (.invokevirtual 178, 3) := by decide +kernel
theorem dX9_group_9 : decode cX9_group 9 = .ok (.iload_n 2, 1) := by decide +kernel
theorem dX9_group_10 : decode cX9_group 10 = .ok (.ifCond .lt 12, 3) := by decide +kernel
theorem dX9_group_13 : decode cX9_group 13 = .ok (.iload_n 2, 1) := by decide +kernel
theorem dX9_group_14 : decode cX9_group 14 = .ok (.aload_n 0, 1) := by decide +kernel
theorem dX9_group_15 : decode cX9_group 15 = .ok (.iload_n 1, 1) := by decide +kernel
theorem dX9_group_16 : decode cX9_group 16 = .ok (.invokevirtual 209, 3) := by decide +kernel
theorem dX9_group_19 : decode cX9_group 19 = .ok (.if_icmp .lt 13, 3) := by decide +kernel
theorem dX9_group_22 : decode cX9_group 22 = .ok (.new 212, 3) := by decide +kernel
theorem dX9_group_25 : decode cX9_group 25 = .ok (.dup, 1) := by decide +kernel
theorem dX9_group_26 : decode cX9_group 26 = .ok (.ldc 223, 2) := by decide +kernel
theorem dX9_group_28 : decode cX9_group 28 = .ok (.invokespecial 216, 3) := by decide +kernel
theorem dX9_group_31 : decode cX9_group 31 = .ok (.athrow, 1) := by decide +kernel
theorem dX9_group_32 : decode cX9_group 32 = .ok (.aload_n 0, 1) := by decide +kernel
theorem dX9_group_33 : decode cX9_group 33 = .ok (.getfield 38, 3) := by decide +kernel
theorem dX9_group_36 : decode cX9_group 36 = .ok (.iload_n 1, 1) := by decide +kernel
theorem dX9_group_37 : decode cX9_group 37 = .ok (.invokevirtual 112, 3) := by decide +kernel
theorem dX9_group_40 : decode cX9_group 40 = .ok (.iload_n 2, 1) := by decide +kernel
theorem dX9_group_41 : decode cX9_group 41 = .ok (.aload_n 0, 1) := by decide +kernel
theorem dX9_group_42 : decode cX9_group 42 = .ok (.getfield 23, 3) := by decide +kernel
theorem dX9_group_45 : decode cX9_group 45 = .ok (.imul, 1) := by decide +kernel
theorem dX9_group_46 : decode cX9_group 46 = .ok (.iadd, 1) := by decide +kernel
theorem dX9_group_47 : decode cX9_group 47 = .ok (.istore 4, 2) := by decide +kernel
theorem dX9_group_49 : decode cX9_group 49 = .ok (.iload 4, 2) := by decide +kernel
theorem dX9_group_51 : decode cX9_group 51 = .ok (.aload_n 0, 1) := by decide +kernel
theorem dX9_group_52 : decode cX9_group 52 = .ok (.getfield 23, 3) := by decide +kernel
theorem dX9_group_55 : decode cX9_group 55 = .ok (.iadd, 1) := by decide +kernel
theorem dX9_group_56 : decode cX9_group 56 = .ok (.aload_n 0, 1) := by decide +kernel
theorem dX9_group_57 : decode cX9_group 57 = .ok (.getfield 38, 3) := by decide +kernel
theorem dX9_group_60 : decode cX9_group 60 = .ok (.iload_n 1, 1) := by decide +kernel
theorem dX9_group_61 : decode cX9_group 61 = .ok (.invokevirtual 116, 3) := by decide +kernel
theorem dX9_group_64 : decode cX9_group 64 = .ok (.invokestatic 225, 3) := by decide +kernel
theorem dX9_group_67 : decode cX9_group 67 = .ok (.istore 5, 2) := by decide +kernel
theorem dX9_group_69 : decode cX9_group 69 = .ok (.aload_n 0, 1) := by decide +kernel
theorem dX9_group_70 : decode cX9_group 70 = .ok (.getfield 70, 3) := by decide +kernel
theorem dX9_group_73 : decode cX9_group 73 = .ok (.iload 4, 2) := by decide +kernel
theorem dX9_group_75 : decode cX9_group 75 = .ok (.iload 5, 2) := by decide +kernel
theorem dX9_group_77 : decode cX9_group 77 = .ok (.invokevirtual 230, 3) := by decide +kernel
theorem dX9_group_80 : decode cX9_group 80 = .ok (.astore 6, 2) := by decide +kernel
theorem dX9_group_82 : decode cX9_group 82 = .ok (.iload_n 3, 1) := by decide +kernel
theorem dX9_group_83 : decode cX9_group 83 = .ok (.tableswitch 73 0 5 #[37, 43, 49, 55, 61, 67], 37) := by decide +kernel
theorem dX9_group_120 : decode cX9_group 120 = .ok (.aload 6, 2) := by decide +kernel
theorem dX9_group_122 : decode cX9_group 122 = .ok (.getfield 234, 3) := by decide +kernel
theorem dX9_group_125 : decode cX9_group 125 = .ok (.ireturn, 1) := by decide +kernel
theorem dX9_group_126 : decode cX9_group 126 = .ok (.aload 6, 2) := by decide +kernel
theorem dX9_group_128 : decode cX9_group 128 = .ok (.getfield 237, 3) := by decide +kernel
theorem dX9_group_131 : decode cX9_group 131 = .ok (.ireturn, 1) := by decide +kernel
theorem dX9_group_132 : decode cX9_group 132 = .ok (.aload 6, 2) := by decide +kernel
theorem dX9_group_134 : decode cX9_group 134 = .ok (.getfield 161, 3) := by decide +kernel
theorem dX9_group_137 : decode cX9_group 137 = .ok (.ireturn, 1) := by decide +kernel
theorem dX9_group_138 : decode cX9_group 138 = .ok (.aload 6, 2) := by decide +kernel
theorem dX9_group_140 : decode cX9_group 140 = .ok (.getfield 181, 3) := by decide +kernel
theorem dX9_group_143 : decode cX9_group 143 = .ok (.ireturn, 1) := by decide +kernel
theorem dX9_group_144 : decode cX9_group 144 = .ok (.aload 6, 2) := by decide +kernel
theorem dX9_group_146 : decode cX9_group 146 = .ok (.getfield 184, 3) := by decide +kernel
theorem dX9_group_149 : decode cX9_group 149 = .ok (.ireturn, 1) := by decide +kernel
theorem dX9_group_150 : decode cX9_group 150 = .ok (.iload 5, 2) := by decide +kernel
theorem dX9_group_152 : decode cX9_group 152 = .ok (.iload 4, 2) := by decide +kernel
theorem dX9_group_154 : decode cX9_group 154 = .ok (.isub, 1) := by decide +kernel
theorem dX9_group_155 : decode cX9_group 155 = .ok (.ireturn, 1) := by decide +kernel
theorem dX9_group_156 : decode cX9_group 156 = .ok (.new 212, 3) := by decide +kernel
theorem dX9_group_159 : decode cX9_group 159 = .ok (.dup, 1) := by decide +kernel
theorem dX9_group_160 : decode cX9_group 160 = .ok (.ldc 240, 2) := by decide +kernel
theorem dX9_group_162 : decode cX9_group 162 = .ok (.invokespecial 216, 3) := by decide +kernel
theorem dX9_group_165 : decode cX9_group 165 = .ok (.athrow, 1) := by decide +kernel
theorem dX9_throwUnlessUp_0 : decode cX9_throwUnlessUp 0 = .ok (.aload_n 0, 1) := by decide +kernel
theorem dX9_throwUnlessUp_1 : decode cX9_throwUnlessUp 1 = .ok (.getfield 29, 3) := by decide +kernel
theorem dX9_throwUnlessUp_4 : decode cX9_throwUnlessUp 4 = .ok (.invokevirtual 86, 3) := by decide +kernel
theorem dX9_throwUnlessUp_7 : decode cX9_throwUnlessUp 7 = .ok (.ifCond .eq 14, 3) := by decide +kernel
theorem dX9_throwUnlessUp_10 : decode cX9_throwUnlessUp 10 = .ok (.new 260, 3) := by decide +kernel
theorem dX9_throwUnlessUp_13 : decode cX9_throwUnlessUp 13 = .ok (.dup, 1) := by decide +kernel
theorem dX9_throwUnlessUp_14 : decode cX9_throwUnlessUp 14 = .ok (.ldc_w 262, 3) := by decide +kernel
theorem dX9_throwUnlessUp_17 : decode cX9_throwUnlessUp 17 = .ok (.invokespecial 264, 3) := by decide +kernel
theorem dX9_throwUnlessUp_20 : decode cX9_throwUnlessUp 20 = .ok (.athrow, 1) := by decide +kernel
theorem dX9_throwUnlessUp_21 : decode cX9_throwUnlessUp 21 = .ok (.return_, 1) := by decide +kernel
theorem dX9_throwUnlessSeries_0 : decode cX9_throwUnlessSeries 0 = .ok (.aload_n 0, 1) := by decide +kernel
theorem dX9_throwUnlessSeries_1 : decode cX9_throwUnlessSeries 1 = .ok (.iload_n 1, 1) := by decide +kernel
theorem dX9_throwUnlessSeries_2 : decode cX9_throwUnlessSeries 2 = .ok (.invokevirtual 90, 3) := by decide +kernel
theorem dX9_throwUnlessSeries_5 : decode cX9_throwUnlessSeries 5 = .ok (.ifCond .ne 14, 3) := by decide +kernel
theorem dX9_throwUnlessSeries_8 : decode cX9_throwUnlessSeries 8 = .ok (.new 265, 3) := by decide +kernel
theorem dX9_throwUnlessSeries_11 : decode cX9_throwUnlessSeries 11 = .ok (.dup, 1) := by decide +kernel
theorem dX9_throwUnlessSeries_12 : decode cX9_throwUnlessSeries 12 = .ok (.ldc_w 267, 3) := by decide +kernel
theorem dX9_throwUnlessSeries_15 : decode cX9_throwUnlessSeries 15 = .ok (.invokespecial 269, 3) := by decide +kernel
theorem dX9_throwUnlessSeries_18 : decode cX9_throwUnlessSeries 18 = .ok (.athrow, 1) := by decide +kernel
theorem dX9_throwUnlessSeries_19 : decode cX9_throwUnlessSeries 19 = .ok (.return_, 1) := by decide +kernel
abbrev rm_X9_throwUnlessUp : Room := { frames := 6, cells := 0, slots := 0, locals := 82 }
abbrev rx_X9_throwUnlessUp : Room := { frames := 6, cells := 1, slots := 6, locals := 82 }
theorem hd_X9_throwUnlessUp : yX9_throwUnlessUp.cls = RX9 ∧ yX9_throwUnlessUp.cls ≠ "java/lang/invoke/MethodHandle" ∧ yX9_throwUnlessUp.cls ≠ "java/lang/invoke/VarHandle" ∧ (parseMethodDescriptor yX9_throwUnlessUp.desc).map (fun d => d.parameters.length) = some 0 := by decide +kernel
set_option maxHeartbeats 4000000 in
set_option maxRecDepth 100000 in
theorem c_X9_throwUnlessUp (l : Launch) (G : va_G) (cI cZ cJ : ClassId) (aP aD aI aG aU aT aQ aC aDc : Nat) (P_seriesCount : Int32) (P_most : Int32) (P_ratio : Int32) (P_recoveries : Int32) (D_writesDone : Int32) (D_writesLeft : Int32) (D_down : Int32)   (hfin : m_X9_throwUnlessUp D_down = some ((0 : Int32))) : CT l yX9_throwUnlessUp cX9_throwUnlessUp 1 none rm_X9_throwUnlessUp G (tyC cI cZ cJ) [.ref aP] [oX9 aP P_seriesCount P_most P_ratio aD aI aG aU aT aQ aC P_recoveries, oX2 aD aDc D_writesDone D_writesLeft D_down] none [oX9 aP P_seriesCount P_most P_ratio aD aI aG aU aT aQ aC P_recoveries, oX2 aD aDc D_writesDone D_writesLeft D_down] := by
  refine CT.ofW (lvl := [(0, .ref aP)]) (by decide) (Nat.le_of_ble_eq_true rfl) rfl ?_
  intro p e s m args below meth c A ls0 QQ hQQ hx hb hml hr hlocks htc hN hown hK hA hw0 hl0
  rw [m_X9_throwUnlessUp] at hfin
  refine lv_aload_n hx hb dX9_throwUnlessUp_0 rfl (lv_at hl0 0 rfl) ?_
  refine va_get (D := G) (ci := 9) (v := .ref aD) (C := RX9) (T := TX9) (N := 11) hx hb htc iX9 hown hK hw0.1 0 rfl rfl 3 (by decide) (htc _ mw_306) (fun _ h9 => h9) rfl dX9_throwUnlessUp_1 ?_
  replace hfin := ob1_some hfin
  obtain ⟨r_2, hE_1, hfin⟩ := hfin
  refine ctV (a := aD) (As := []) (rest := []) (st1 := [.int r_2]) (wc := [oX2 aD aDc D_writesDone D_writesLeft D_down]) (w1 := [oX2 aD aDc D_writesDone D_writesLeft D_down]) (wr := [oX9 aP P_seriesCount P_most P_ratio aD aI aG aU aT aQ aC P_recoveries]) (wb := [oX9 aP P_seriesCount P_most P_ratio aD aI aG aU aT aQ aC P_recoveries, oX2 aD aDc D_writesDone D_writesLeft D_down]) (v := (some (.int r_2))) hx hb hml hown htc hN (c_X2_isDown l G cI cZ cJ aD aDc D_writesDone D_writesLeft D_down  hE_1) mw_345 mw_346 mw_347 mw_3 mw_348 hd_X2_isDown ⟨rfl, rfl⟩ ⟨Nat.le_of_ble_eq_true rfl, Nat.le_of_ble_eq_true rfl⟩ hK hw0 hA [1] [0] [0, 1] rfl rfl rfl rfl rfl (by decide) rfl rfl rfl 0 rfl rfl rfl rfl hl0.1 rfl rfl (Nat.le_of_ble_eq_true rfl) dX9_throwUnlessUp_4 ⟨Nat.zero_le _, Nat.zero_le _⟩ (fun H3 locs3 hw3 => ?_)
  clear hw0
  refine lv_if_eq (tgt := 21) hx hb dX9_throwUnlessUp_7 (by decide) (fun c_4 => ?_) (fun c_4 => ?_)
  · replace hfin := it_t c_4 hfin
    cases hfin
    rw [hQQ]
    exact ct_vret hx hb hr hlocks hw3.1 hw3.2.1 hw3.2.2 dX9_throwUnlessUp_21
  · replace hfin := it_f c_4 hfin
    exact absurd (Option.some.inj hfin) (show ¬ (1 : Int32) = 0 by decide)
set_option maxHeartbeats 4000000 in
set_option maxRecDepth 100000 in
theorem x_X9_throwUnlessUp (l : Launch) (hST : l.stackTraces = false) (G : va_G) (cI cZ cJ : ClassId) (aP aD aI aG aU aT aQ aC aDc : Nat) (P_seriesCount : Int32) (P_most : Int32) (P_ratio : Int32) (P_recoveries : Int32) (D_writesDone : Int32) (D_writesLeft : Int32) (D_down : Int32)  {k : Int32}  (hfin : m_X9_throwUnlessUp D_down = some (k)) (hk : ¬ k = 0) : XT l yX9_throwUnlessUp cX9_throwUnlessUp 1 none rx_X9_throwUnlessUp G (tyC cI cZ cJ) [.ref aP] [oX9 aP P_seriesCount P_most P_ratio aD aI aG aU aT aQ aC P_recoveries, oX2 aD aDc D_writesDone D_writesLeft D_down] k [oX9 aP P_seriesCount P_most P_ratio aD aI aG aU aT aQ aC P_recoveries, oX2 aD aDc D_writesDone D_writesLeft D_down] := by
  refine XT.ofW (lvl := [(0, .ref aP)]) (by decide) (Nat.le_of_ble_eq_true rfl) rfl ?_
  intro p e s m args below meth c A ls0 QQ hQQ hT hX hx hb hml hr hlocks htc hN hown hK hA hw0 hl0
  rw [m_X9_throwUnlessUp] at hfin
  refine lv_aload_n hx hb dX9_throwUnlessUp_0 rfl (lv_at hl0 0 rfl) ?_
  refine va_get (D := G) (ci := 9) (v := .ref aD) (C := RX9) (T := TX9) (N := 11) hx hb htc iX9 hown hK hw0.1 0 rfl rfl 3 (by decide) (htc _ mw_306) (fun _ h9 => h9) rfl dX9_throwUnlessUp_1 ?_
  replace hfin := ob1_some hfin
  obtain ⟨r_2, hE_1, hfin⟩ := hfin
  refine ctV (a := aD) (As := []) (rest := []) (st1 := [.int r_2]) (wc := [oX2 aD aDc D_writesDone D_writesLeft D_down]) (w1 := [oX2 aD aDc D_writesDone D_writesLeft D_down]) (wr := [oX9 aP P_seriesCount P_most P_ratio aD aI aG aU aT aQ aC P_recoveries]) (wb := [oX9 aP P_seriesCount P_most P_ratio aD aI aG aU aT aQ aC P_recoveries, oX2 aD aDc D_writesDone D_writesLeft D_down]) (v := (some (.int r_2))) hx hb hml hown htc hN (c_X2_isDown l G cI cZ cJ aD aDc D_writesDone D_writesLeft D_down  hE_1) mw_345 mw_346 mw_347 mw_3 mw_348 hd_X2_isDown ⟨rfl, rfl⟩ ⟨Nat.le_of_ble_eq_true rfl, Nat.le_of_ble_eq_true rfl⟩ hK hw0 hA [1] [0] [0, 1] rfl rfl rfl rfl rfl (by decide) rfl rfl rfl 0 rfl rfl rfl rfl hl0.1 rfl rfl (Nat.le_of_ble_eq_true rfl) dX9_throwUnlessUp_4 ⟨Nat.zero_le _, Nat.zero_le _⟩ (fun H3 locs3 hw3 => ?_)
  clear hw0
  refine lv_if_eq (tgt := 21) hx hb dX9_throwUnlessUp_7 (by decide) (fun c_4 => ?_) (fun c_4 => ?_)
  · replace hfin := it_t c_4 hfin
    exact absurd (Option.some.inj hfin).symm hk
  · replace hfin := it_f c_4 hfin
    cases hfin
    rw [hQQ]
    exact xt_throwW (text := "power has gone") hx hb hml hST hown htc hT hlocks hX exN_1 (by decide) (by decide +kernel) xb_264 xn_264 xg_264 (by decide) hw3 hl0.1 dX9_throwUnlessUp_10 dX9_throwUnlessUp_13 dX9_throwUnlessUp_14 dX9_throwUnlessUp_17 dX9_throwUnlessUp_20 (Nat.le_of_ble_eq_true rfl) (Nat.le_of_ble_eq_true rfl) (Nat.le_of_ble_eq_true rfl) (Nat.le_of_ble_eq_true rfl)
abbrev rm_X9_throwUnlessSeries : Room := { frames := 6, cells := 0, slots := 0, locals := 82 }
abbrev rx_X9_throwUnlessSeries : Room := { frames := 6, cells := 1, slots := 6, locals := 82 }
theorem hd_X9_throwUnlessSeries : yX9_throwUnlessSeries.cls = RX9 ∧ yX9_throwUnlessSeries.cls ≠ "java/lang/invoke/MethodHandle" ∧ yX9_throwUnlessSeries.cls ≠ "java/lang/invoke/VarHandle" ∧ (parseMethodDescriptor yX9_throwUnlessSeries.desc).map (fun d => d.parameters.length) = some 1 := by decide +kernel
set_option maxHeartbeats 4000000 in
set_option maxRecDepth 100000 in
theorem c_X9_throwUnlessSeries (l : Launch) (G : va_G) (cI cZ cJ : ClassId) (aP aD aI aG aU aT aQ aC : Nat) (P_seriesCount : Int32) (P_most : Int32) (P_ratio : Int32) (P_recoveries : Int32) (p0 : Int32)  (hfin : m_X9_throwUnlessSeries P_seriesCount p0 = some ((0 : Int32))) : CT l yX9_throwUnlessSeries cX9_throwUnlessSeries 2 none rm_X9_throwUnlessSeries G (tyC cI cZ cJ) [.ref aP, .int p0] [oX9 aP P_seriesCount P_most P_ratio aD aI aG aU aT aQ aC P_recoveries] none [oX9 aP P_seriesCount P_most P_ratio aD aI aG aU aT aQ aC P_recoveries] := by
  refine CT.ofW (lvl := [(0, .ref aP), (1, .int p0)]) (by decide) (Nat.le_of_ble_eq_true rfl) rfl ?_
  intro p e s m args below meth c A ls0 QQ hQQ hx hb hml hr hlocks htc hN hown hK hA hw0 hl0
  rw [m_X9_throwUnlessSeries] at hfin
  refine lv_aload_n hx hb dX9_throwUnlessSeries_0 rfl (lv_at hl0 0 rfl) ?_
  refine lv_iload_n hx hb dX9_throwUnlessSeries_1 rfl (lv_at hl0 1 rfl) ?_
  replace hfin := ob1_some hfin
  obtain ⟨r_2, hE_1, hfin⟩ := hfin
  refine ctV (a := aP) (As := [.int p0]) (rest := []) (st1 := [.int r_2]) (wc := [oX9 aP P_seriesCount P_most P_ratio aD aI aG aU aT aQ aC P_recoveries]) (w1 := [oX9 aP P_seriesCount P_most P_ratio aD aI aG aU aT aQ aC P_recoveries]) (wr := []) (wb := [oX9 aP P_seriesCount P_most P_ratio aD aI aG aU aT aQ aC P_recoveries]) (v := (some (.int r_2))) hx hb hml hown htc hN (c_X9_isSeries l G cI cZ cJ aP aD aI aG aU aT aQ aC P_seriesCount P_most P_ratio P_recoveries p0 hE_1) mw_349 mw_351 mp_0 mw_1 mw_352 hd_X9_isSeries ⟨rfl, rfl⟩ ⟨Nat.le_of_ble_eq_true rfl, Nat.le_of_ble_eq_true rfl⟩ hK hw0 hA [0] [] [0] rfl rfl rfl rfl rfl (by decide) rfl rfl rfl 0 rfl rfl rfl rfl hl0.1 rfl rfl (Nat.le_of_ble_eq_true rfl) dX9_throwUnlessSeries_2 ⟨Nat.zero_le _, Nat.zero_le _⟩ (fun H3 locs3 hw3 => ?_)
  clear hw0
  refine lv_if_ne (tgt := 19) hx hb dX9_throwUnlessSeries_5 (by decide) (fun c_4 => ?_) (fun c_4 => ?_)
  · replace hfin := it_f c_4 hfin
    cases hfin
    rw [hQQ]
    exact ct_vret hx hb hr hlocks hw3.1 hw3.2.1 hw3.2.2 dX9_throwUnlessSeries_19
  · replace hfin := it_t c_4 hfin
    exact absurd (Option.some.inj hfin) (show ¬ (2 : Int32) = 0 by decide)
set_option maxHeartbeats 4000000 in
set_option maxRecDepth 100000 in
theorem x_X9_throwUnlessSeries (l : Launch) (hST : l.stackTraces = false) (G : va_G) (cI cZ cJ : ClassId) (aP aD aI aG aU aT aQ aC : Nat) (P_seriesCount : Int32) (P_most : Int32) (P_ratio : Int32) (P_recoveries : Int32) (p0 : Int32) {k : Int32}  (hfin : m_X9_throwUnlessSeries P_seriesCount p0 = some (k)) (hk : ¬ k = 0) : XT l yX9_throwUnlessSeries cX9_throwUnlessSeries 2 none rx_X9_throwUnlessSeries G (tyC cI cZ cJ) [.ref aP, .int p0] [oX9 aP P_seriesCount P_most P_ratio aD aI aG aU aT aQ aC P_recoveries] k [oX9 aP P_seriesCount P_most P_ratio aD aI aG aU aT aQ aC P_recoveries] := by
  refine XT.ofW (lvl := [(0, .ref aP), (1, .int p0)]) (by decide) (Nat.le_of_ble_eq_true rfl) rfl ?_
  intro p e s m args below meth c A ls0 QQ hQQ hT hX hx hb hml hr hlocks htc hN hown hK hA hw0 hl0
  rw [m_X9_throwUnlessSeries] at hfin
  refine lv_aload_n hx hb dX9_throwUnlessSeries_0 rfl (lv_at hl0 0 rfl) ?_
  refine lv_iload_n hx hb dX9_throwUnlessSeries_1 rfl (lv_at hl0 1 rfl) ?_
  replace hfin := ob1_some hfin
  obtain ⟨r_2, hE_1, hfin⟩ := hfin
  refine ctV (a := aP) (As := [.int p0]) (rest := []) (st1 := [.int r_2]) (wc := [oX9 aP P_seriesCount P_most P_ratio aD aI aG aU aT aQ aC P_recoveries]) (w1 := [oX9 aP P_seriesCount P_most P_ratio aD aI aG aU aT aQ aC P_recoveries]) (wr := []) (wb := [oX9 aP P_seriesCount P_most P_ratio aD aI aG aU aT aQ aC P_recoveries]) (v := (some (.int r_2))) hx hb hml hown htc hN (c_X9_isSeries l G cI cZ cJ aP aD aI aG aU aT aQ aC P_seriesCount P_most P_ratio P_recoveries p0 hE_1) mw_349 mw_351 mp_0 mw_1 mw_352 hd_X9_isSeries ⟨rfl, rfl⟩ ⟨Nat.le_of_ble_eq_true rfl, Nat.le_of_ble_eq_true rfl⟩ hK hw0 hA [0] [] [0] rfl rfl rfl rfl rfl (by decide) rfl rfl rfl 0 rfl rfl rfl rfl hl0.1 rfl rfl (Nat.le_of_ble_eq_true rfl) dX9_throwUnlessSeries_2 ⟨Nat.zero_le _, Nat.zero_le _⟩ (fun H3 locs3 hw3 => ?_)
  clear hw0
  refine lv_if_ne (tgt := 19) hx hb dX9_throwUnlessSeries_5 (by decide) (fun c_4 => ?_) (fun c_4 => ?_)
  · replace hfin := it_f c_4 hfin
    exact absurd (Option.some.inj hfin).symm hk
  · replace hfin := it_t c_4 hfin
    cases hfin
    rw [hQQ]
    exact xt_throwW (text := "no such series") hx hb hml hST hown htc hT hlocks hX exN_2 (by decide) (by decide +kernel) xb_269 xn_269 xg_269 (by decide) hw3 hl0.1 dX9_throwUnlessSeries_8 dX9_throwUnlessSeries_11 dX9_throwUnlessSeries_12 dX9_throwUnlessSeries_15 dX9_throwUnlessSeries_18 (Nat.le_of_ble_eq_true rfl) (Nat.le_of_ble_eq_true rfl) (Nat.le_of_ble_eq_true rfl) (Nat.le_of_ble_eq_true rfl)
abbrev rm_X9_aggMin : Room := { frames := 7, cells := 0, slots := 0, locals := 153 }
abbrev rx_X9_aggMin : Room := { frames := 7, cells := 1, slots := 6, locals := 153 }
theorem hd_X9_aggMin : yX9_aggMin.cls = RX9 ∧ yX9_aggMin.cls ≠ "java/lang/invoke/MethodHandle" ∧ yX9_aggMin.cls ≠ "java/lang/invoke/VarHandle" ∧ (parseMethodDescriptor yX9_aggMin.desc).map (fun d => d.parameters.length) = some 3 := by decide +kernel
set_option maxHeartbeats 4000000 in
set_option maxRecDepth 100000 in
theorem c_X9_aggMin (l : Launch) (G : va_G) (cI cZ cJ : ClassId) (aP aD aI aG aU aT aQ aC aDc aF aZ : Nat) (P_seriesCount : Int32) (P_most : Int32) (P_ratio : Int32) (P_recoveries : Int32) (D_writesDone : Int32) (D_writesLeft : Int32) (D_down : Int32) (D_cells : Nat → Int32) (G_logged : Int32) (U_place : Int32) (U_bitsRead : Int32) (U_started : Int32) (U_time : Int32) (U_value : Int32) (U_rise : Int64) (Q_ratio : Int32) (Q_looks : Int32) (Q_unpacked : Int32) (F_first : Int32) (F_last : Int32) (F_points : Int32) (F_least : Int32) (F_greatest : Int32) (F_sum : Int64) (Z_first : Int32) (Z_last : Int32) (Z_points : Int32) (Z_least : Int32) (Z_greatest : Int32) (Z_sum : Int64) (p0 : Int32) (p1 : Int32) (p2 : Int32) {r : Int32} {o_U_place : Int32} {o_U_bitsRead : Int32} {o_U_started : Int32} {o_U_time : Int32} {o_U_value : Int32} {o_U_rise : Int64} {o_Q_looks : Int32} {o_Q_unpacked : Int32} {o_F_first : Int32} {o_F_last : Int32} {o_F_points : Int32} {o_F_least : Int32} {o_F_greatest : Int32} {o_F_sum : Int64} {o_Z_first : Int32} {o_Z_last : Int32} {o_Z_points : Int32} {o_Z_least : Int32} {o_Z_greatest : Int32} {o_Z_sum : Int64} (hfin : m_X9_aggMin P_seriesCount D_down D_cells G_logged U_place U_bitsRead U_started U_time U_value U_rise Q_ratio Q_looks Q_unpacked F_first F_last F_points F_least F_greatest F_sum Z_first Z_last Z_points Z_least Z_greatest Z_sum p0 p1 p2 = some ((0 : Int32), r, o_U_place, o_U_bitsRead, o_U_started, o_U_time, o_U_value, o_U_rise, o_Q_looks, o_Q_unpacked, o_F_first, o_F_last, o_F_points, o_F_least, o_F_greatest, o_F_sum, o_Z_first, o_Z_last, o_Z_points, o_Z_least, o_Z_greatest, o_Z_sum)) : CT l yX9_aggMin cX9_aggMin 4 (some .int) rm_X9_aggMin G (tyC cI cZ cJ) [.ref aP, .int p0, .int p1, .int p2] [oX9 aP P_seriesCount P_most P_ratio aD aI aG aU aT aQ aC P_recoveries, oX2 aD aDc D_writesDone D_writesLeft D_down, rI aDc cI 4096 D_cells, oX3 aI aD, oX4 aG aD G_logged, oX8 aU aD U_place U_bitsRead U_started U_time U_value U_rise, oX0 aQ aI aG aU Q_ratio aF aZ Q_looks Q_unpacked, oX6 aF F_first F_last F_points F_least F_greatest F_sum, oX6 aZ Z_first Z_last Z_points Z_least Z_greatest Z_sum] (some (.int r)) [oX9 aP P_seriesCount P_most P_ratio aD aI aG aU aT aQ aC P_recoveries, oX2 aD aDc D_writesDone D_writesLeft D_down, rI aDc cI 4096 D_cells, oX3 aI aD, oX4 aG aD G_logged, oX8 aU aD o_U_place o_U_bitsRead o_U_started o_U_time o_U_value o_U_rise, oX0 aQ aI aG aU Q_ratio aF aZ o_Q_looks o_Q_unpacked, oX6 aF o_F_first o_F_last o_F_points o_F_least o_F_greatest o_F_sum, oX6 aZ o_Z_first o_Z_last o_Z_points o_Z_least o_Z_greatest o_Z_sum] := by
  refine CT.ofW (lvl := [(0, .ref aP), (1, .int p0), (2, .int p1), (3, .int p2)]) (by decide) (Nat.le_of_ble_eq_true rfl) rfl ?_
  intro p e s m args below meth c A ls0 QQ hQQ hx hb hml hr hlocks htc hN hown hK hA hw0 hl0
  rw [m_X9_aggMin] at hfin
  refine lv_aload_n hx hb dX9_aggMin_0 rfl (lv_at hl0 0 rfl) ?_
  replace hfin := ob1_some hfin
  obtain ⟨k_2, hE_1, hfin⟩ := hfin
  by_cases c_3 : k_2 = 0
  · replace hfin := it_t c_3 hfin
    subst c_3
    refine ctV (a := aP) (As := []) (rest := []) (st1 := []) (wc := [oX9 aP P_seriesCount P_most P_ratio aD aI aG aU aT aQ aC P_recoveries, oX2 aD aDc D_writesDone D_writesLeft D_down]) (w1 := [oX9 aP P_seriesCount P_most P_ratio aD aI aG aU aT aQ aC P_recoveries, oX2 aD aDc D_writesDone D_writesLeft D_down]) (wr := [rI aDc cI 4096 D_cells, oX3 aI aD, oX4 aG aD G_logged, oX8 aU aD U_place U_bitsRead U_started U_time U_value U_rise, oX0 aQ aI aG aU Q_ratio aF aZ Q_looks Q_unpacked, oX6 aF F_first F_last F_points F_least F_greatest F_sum, oX6 aZ Z_first Z_last Z_points Z_least Z_greatest Z_sum]) (wb := [oX9 aP P_seriesCount P_most P_ratio aD aI aG aU aT aQ aC P_recoveries, oX2 aD aDc D_writesDone D_writesLeft D_down, rI aDc cI 4096 D_cells, oX3 aI aD, oX4 aG aD G_logged, oX8 aU aD U_place U_bitsRead U_started U_time U_value U_rise, oX0 aQ aI aG aU Q_ratio aF aZ Q_looks Q_unpacked, oX6 aF F_first F_last F_points F_least F_greatest F_sum, oX6 aZ Z_first Z_last Z_points Z_least Z_greatest Z_sum]) (v := none) hx hb hml hown htc hN (c_X9_throwUnlessUp l G cI cZ cJ aP aD aI aG aU aT aQ aC aDc P_seriesCount P_most P_ratio P_recoveries D_writesDone D_writesLeft D_down  hE_1) mw_777 mw_779 mp_29 mw_1 mw_780 hd_X9_throwUnlessUp ⟨rfl, rfl⟩ ⟨Nat.le_of_ble_eq_true rfl, Nat.le_of_ble_eq_true rfl⟩ hK hw0 hA [0, 1] [2, 3, 4, 5, 6, 7, 8] [7, 8, 0, 1, 2, 3, 4, 5, 6] rfl rfl rfl rfl rfl (by decide) rfl rfl rfl 0 rfl rfl rfl rfl hl0.1 rfl rfl (Nat.le_of_ble_eq_true rfl) dX9_aggMin_1 ⟨Nat.zero_le _, Nat.zero_le _⟩ (fun H4 locs4 hw4 => ?_)
    clear hw0
    refine lv_aload_n hx hb dX9_aggMin_4 rfl (lv_at hl0 0 rfl) ?_
    refine lv_iload_n hx hb dX9_aggMin_5 rfl (lv_at hl0 1 rfl) ?_
    replace hfin := ob1_some hfin
    obtain ⟨k_6, hE_5, hfin⟩ := hfin
    by_cases c_7 : k_6 = 0
    · replace hfin := it_t c_7 hfin
      subst c_7
      refine ctV (a := aP) (As := [.int p0]) (rest := []) (st1 := []) (wc := [oX9 aP P_seriesCount P_most P_ratio aD aI aG aU aT aQ aC P_recoveries]) (w1 := [oX9 aP P_seriesCount P_most P_ratio aD aI aG aU aT aQ aC P_recoveries]) (wr := [oX2 aD aDc D_writesDone D_writesLeft D_down, rI aDc cI 4096 D_cells, oX3 aI aD, oX4 aG aD G_logged, oX8 aU aD U_place U_bitsRead U_started U_time U_value U_rise, oX0 aQ aI aG aU Q_ratio aF aZ Q_looks Q_unpacked, oX6 aF F_first F_last F_points F_least F_greatest F_sum, oX6 aZ Z_first Z_last Z_points Z_least Z_greatest Z_sum]) (wb := [oX9 aP P_seriesCount P_most P_ratio aD aI aG aU aT aQ aC P_recoveries, oX2 aD aDc D_writesDone D_writesLeft D_down, rI aDc cI 4096 D_cells, oX3 aI aD, oX4 aG aD G_logged, oX8 aU aD U_place U_bitsRead U_started U_time U_value U_rise, oX0 aQ aI aG aU Q_ratio aF aZ Q_looks Q_unpacked, oX6 aF F_first F_last F_points F_least F_greatest F_sum, oX6 aZ Z_first Z_last Z_points Z_least Z_greatest Z_sum]) (v := none) hx hb hml hown htc hN (c_X9_throwUnlessSeries l G cI cZ cJ aP aD aI aG aU aT aQ aC P_seriesCount P_most P_ratio P_recoveries p0 hE_5) mw_849 mw_851 mp_31 mw_1 mw_852 hd_X9_throwUnlessSeries ⟨rfl, rfl⟩ ⟨Nat.le_of_ble_eq_true rfl, Nat.le_of_ble_eq_true rfl⟩ hK hw4 hA [0] [1, 2, 3, 4, 5, 6, 7, 8] [8, 0, 1, 2, 3, 4, 5, 6, 7] rfl rfl rfl rfl rfl (by decide) rfl rfl rfl 0 rfl rfl rfl rfl hl0.1 rfl rfl (Nat.le_of_ble_eq_true rfl) dX9_aggMin_6 ⟨Nat.zero_le _, Nat.zero_le _⟩ (fun H8 locs8 hw8 => ?_)
      clear hw4 H4 locs4
      refine lv_aload_n hx hb dX9_aggMin_9 rfl (lv_at hl0 0 rfl) ?_
      refine va_get (D := G) (ci := 9) (v := .ref aQ) (C := RX9) (T := TX9) (N := 11) hx hb htc iX9 hown hK hw8.1 0 rfl rfl 8 (by decide) (htc _ mw_311) (fun _ h9 => h9) rfl dX9_aggMin_10 ?_
      refine lv_iload_n hx hb dX9_aggMin_13 rfl (lv_at hl0 1 rfl) ?_
      refine lv_iload_n hx hb dX9_aggMin_14 rfl (lv_at hl0 2 rfl) ?_
      refine lv_iload_n hx hb dX9_aggMin_15 rfl (lv_at hl0 3 rfl) ?_
      replace hfin := ob20_some hfin
      obtain ⟨U_place_10, U_bitsRead_11, U_started_12, U_time_13, U_value_14, U_rise_15, Q_looks_16, Q_unpacked_17, F_first_18, F_last_19, F_points_20, F_least_21, F_greatest_22, F_sum_23, Z_first_24, Z_last_25, Z_points_26, Z_least_27, Z_greatest_28, Z_sum_29, hE_9, hfin⟩ := hfin
      refine ctV (a := aQ) (As := [.int p0, .int p1, .int p2]) (rest := []) (st1 := [.ref aF]) (wc := [oX2 aD aDc D_writesDone D_writesLeft D_down, rI aDc cI 4096 D_cells, oX3 aI aD, oX4 aG aD G_logged, oX8 aU aD U_place U_bitsRead U_started U_time U_value U_rise, oX0 aQ aI aG aU Q_ratio aF aZ Q_looks Q_unpacked, oX6 aF F_first F_last F_points F_least F_greatest F_sum, oX6 aZ Z_first Z_last Z_points Z_least Z_greatest Z_sum]) (w1 := [oX2 aD aDc D_writesDone D_writesLeft D_down, rI aDc cI 4096 D_cells, oX3 aI aD, oX4 aG aD G_logged, oX8 aU aD U_place_10 U_bitsRead_11 U_started_12 U_time_13 U_value_14 U_rise_15, oX0 aQ aI aG aU Q_ratio aF aZ Q_looks_16 Q_unpacked_17, oX6 aF F_first_18 F_last_19 F_points_20 F_least_21 F_greatest_22 F_sum_23, oX6 aZ Z_first_24 Z_last_25 Z_points_26 Z_least_27 Z_greatest_28 Z_sum_29]) (wr := [oX9 aP P_seriesCount P_most P_ratio aD aI aG aU aT aQ aC P_recoveries]) (wb := [oX9 aP P_seriesCount P_most P_ratio aD aI aG aU aT aQ aC P_recoveries, oX2 aD aDc D_writesDone D_writesLeft D_down, rI aDc cI 4096 D_cells, oX3 aI aD, oX4 aG aD G_logged, oX8 aU aD U_place_10 U_bitsRead_11 U_started_12 U_time_13 U_value_14 U_rise_15, oX0 aQ aI aG aU Q_ratio aF aZ Q_looks_16 Q_unpacked_17, oX6 aF F_first_18 F_last_19 F_points_20 F_least_21 F_greatest_22 F_sum_23, oX6 aZ Z_first_24 Z_last_25 Z_points_26 Z_least_27 Z_greatest_28 Z_sum_29]) (v := (some (.ref aF))) hx hb hml hown htc hN (c_X0_ask l G cI cZ cJ aD aDc aI aG aU aQ aF aZ D_writesDone D_writesLeft D_down D_cells G_logged U_place U_bitsRead U_started U_time U_value U_rise Q_ratio Q_looks Q_unpacked F_first F_last F_points F_least F_greatest F_sum Z_first Z_last Z_points Z_least Z_greatest Z_sum p0 p1 p2 hE_9) mw_620 mw_621 mw_622 mw_10 mw_623 hd_X0_ask ⟨rfl, rfl⟩ ⟨Nat.le_of_ble_eq_true rfl, Nat.le_of_ble_eq_true rfl⟩ hK hw8 hA [1, 2, 3, 4, 5, 6, 7, 8] [0] [0, 1, 2, 3, 4, 5, 6, 7, 8] rfl rfl rfl rfl rfl (by decide) rfl rfl rfl 5 rfl rfl rfl rfl hl0.1 rfl rfl (Nat.le_of_ble_eq_true rfl) dX9_aggMin_16 ⟨Nat.zero_le _, Nat.zero_le _⟩ (fun H30 locs30 hw30 => ?_)
      clear hw8 H8 locs8
      refine va_getN (D := G) (ci := 6) (v := .int F_least_21) (C := RX6) (T := TX6) (N := 6) hx hb htc iX6 hown hK hw30.1 7 rfl rfl 3 (by decide) (va_Nw.use rfl (hN _ mn_16)) (fun _ h9 => h9) rfl dX9_aggMin_19 ?_
      cases hfin
      rw [hQQ]
      exact ct_iret hx hb hr hlocks hw30.1 hw30.2.1 hw30.2.2 dX9_aggMin_22
    · replace hfin := it_f c_7 hfin
      exact absurd (congrArg Prod.fst (Option.some.inj hfin)) c_7
  · replace hfin := it_f c_3 hfin
    exact absurd (congrArg Prod.fst (Option.some.inj hfin)) c_3
set_option maxHeartbeats 4000000 in
set_option maxRecDepth 100000 in
theorem x_X9_aggMin (l : Launch) (hST : l.stackTraces = false) (G : va_G) (cI cZ cJ : ClassId) (aP aD aI aG aU aT aQ aC aDc aF aZ : Nat) (P_seriesCount : Int32) (P_most : Int32) (P_ratio : Int32) (P_recoveries : Int32) (D_writesDone : Int32) (D_writesLeft : Int32) (D_down : Int32) (D_cells : Nat → Int32) (G_logged : Int32) (U_place : Int32) (U_bitsRead : Int32) (U_started : Int32) (U_time : Int32) (U_value : Int32) (U_rise : Int64) (Q_ratio : Int32) (Q_looks : Int32) (Q_unpacked : Int32) (F_first : Int32) (F_last : Int32) (F_points : Int32) (F_least : Int32) (F_greatest : Int32) (F_sum : Int64) (Z_first : Int32) (Z_last : Int32) (Z_points : Int32) (Z_least : Int32) (Z_greatest : Int32) (Z_sum : Int64) (p0 : Int32) (p1 : Int32) (p2 : Int32) {k : Int32} {r : Int32} {o_U_place : Int32} {o_U_bitsRead : Int32} {o_U_started : Int32} {o_U_time : Int32} {o_U_value : Int32} {o_U_rise : Int64} {o_Q_looks : Int32} {o_Q_unpacked : Int32} {o_F_first : Int32} {o_F_last : Int32} {o_F_points : Int32} {o_F_least : Int32} {o_F_greatest : Int32} {o_F_sum : Int64} {o_Z_first : Int32} {o_Z_last : Int32} {o_Z_points : Int32} {o_Z_least : Int32} {o_Z_greatest : Int32} {o_Z_sum : Int64} (hfin : m_X9_aggMin P_seriesCount D_down D_cells G_logged U_place U_bitsRead U_started U_time U_value U_rise Q_ratio Q_looks Q_unpacked F_first F_last F_points F_least F_greatest F_sum Z_first Z_last Z_points Z_least Z_greatest Z_sum p0 p1 p2 = some (k, r, o_U_place, o_U_bitsRead, o_U_started, o_U_time, o_U_value, o_U_rise, o_Q_looks, o_Q_unpacked, o_F_first, o_F_last, o_F_points, o_F_least, o_F_greatest, o_F_sum, o_Z_first, o_Z_last, o_Z_points, o_Z_least, o_Z_greatest, o_Z_sum)) (hk : ¬ k = 0) : XT l yX9_aggMin cX9_aggMin 4 (some .int) rx_X9_aggMin G (tyC cI cZ cJ) [.ref aP, .int p0, .int p1, .int p2] [oX9 aP P_seriesCount P_most P_ratio aD aI aG aU aT aQ aC P_recoveries, oX2 aD aDc D_writesDone D_writesLeft D_down, rI aDc cI 4096 D_cells, oX3 aI aD, oX4 aG aD G_logged, oX8 aU aD U_place U_bitsRead U_started U_time U_value U_rise, oX0 aQ aI aG aU Q_ratio aF aZ Q_looks Q_unpacked, oX6 aF F_first F_last F_points F_least F_greatest F_sum, oX6 aZ Z_first Z_last Z_points Z_least Z_greatest Z_sum] k [oX9 aP P_seriesCount P_most P_ratio aD aI aG aU aT aQ aC P_recoveries, oX2 aD aDc D_writesDone D_writesLeft D_down, rI aDc cI 4096 D_cells, oX3 aI aD, oX4 aG aD G_logged, oX8 aU aD o_U_place o_U_bitsRead o_U_started o_U_time o_U_value o_U_rise, oX0 aQ aI aG aU Q_ratio aF aZ o_Q_looks o_Q_unpacked, oX6 aF o_F_first o_F_last o_F_points o_F_least o_F_greatest o_F_sum, oX6 aZ o_Z_first o_Z_last o_Z_points o_Z_least o_Z_greatest o_Z_sum] := by
  refine XT.ofW (lvl := [(0, .ref aP), (1, .int p0), (2, .int p1), (3, .int p2)]) (by decide) (Nat.le_of_ble_eq_true rfl) rfl ?_
  intro p e s m args below meth c A ls0 QQ hQQ hT hX hx hb hml hr hlocks htc hN hown hK hA hw0 hl0
  rw [m_X9_aggMin] at hfin
  refine lv_aload_n hx hb dX9_aggMin_0 rfl (lv_at hl0 0 rfl) ?_
  replace hfin := ob1_some hfin
  obtain ⟨k_2, hE_1, hfin⟩ := hfin
  by_cases c_3 : k_2 = 0
  · replace hfin := it_t c_3 hfin
    subst c_3
    refine ctV (a := aP) (As := []) (rest := []) (st1 := []) (wc := [oX9 aP P_seriesCount P_most P_ratio aD aI aG aU aT aQ aC P_recoveries, oX2 aD aDc D_writesDone D_writesLeft D_down]) (w1 := [oX9 aP P_seriesCount P_most P_ratio aD aI aG aU aT aQ aC P_recoveries, oX2 aD aDc D_writesDone D_writesLeft D_down]) (wr := [rI aDc cI 4096 D_cells, oX3 aI aD, oX4 aG aD G_logged, oX8 aU aD U_place U_bitsRead U_started U_time U_value U_rise, oX0 aQ aI aG aU Q_ratio aF aZ Q_looks Q_unpacked, oX6 aF F_first F_last F_points F_least F_greatest F_sum, oX6 aZ Z_first Z_last Z_points Z_least Z_greatest Z_sum]) (wb := [oX9 aP P_seriesCount P_most P_ratio aD aI aG aU aT aQ aC P_recoveries, oX2 aD aDc D_writesDone D_writesLeft D_down, rI aDc cI 4096 D_cells, oX3 aI aD, oX4 aG aD G_logged, oX8 aU aD U_place U_bitsRead U_started U_time U_value U_rise, oX0 aQ aI aG aU Q_ratio aF aZ Q_looks Q_unpacked, oX6 aF F_first F_last F_points F_least F_greatest F_sum, oX6 aZ Z_first Z_last Z_points Z_least Z_greatest Z_sum]) (v := none) hx hb hml hown htc hN (c_X9_throwUnlessUp l G cI cZ cJ aP aD aI aG aU aT aQ aC aDc P_seriesCount P_most P_ratio P_recoveries D_writesDone D_writesLeft D_down  hE_1) mw_777 mw_779 mp_29 mw_1 mw_780 hd_X9_throwUnlessUp ⟨rfl, rfl⟩ ⟨Nat.le_of_ble_eq_true rfl, Nat.le_of_ble_eq_true rfl⟩ hK hw0 hA [0, 1] [2, 3, 4, 5, 6, 7, 8] [7, 8, 0, 1, 2, 3, 4, 5, 6] rfl rfl rfl rfl rfl (by decide) rfl rfl rfl 0 rfl rfl rfl rfl hl0.1 rfl rfl (Nat.le_of_ble_eq_true rfl) dX9_aggMin_1 ⟨Nat.zero_le _, Nat.zero_le _⟩ (fun H4 locs4 hw4 => ?_)
    clear hw0
    refine lv_aload_n hx hb dX9_aggMin_4 rfl (lv_at hl0 0 rfl) ?_
    refine lv_iload_n hx hb dX9_aggMin_5 rfl (lv_at hl0 1 rfl) ?_
    replace hfin := ob1_some hfin
    obtain ⟨k_6, hE_5, hfin⟩ := hfin
    by_cases c_7 : k_6 = 0
    · replace hfin := it_t c_7 hfin
      subst c_7
      refine ctV (a := aP) (As := [.int p0]) (rest := []) (st1 := []) (wc := [oX9 aP P_seriesCount P_most P_ratio aD aI aG aU aT aQ aC P_recoveries]) (w1 := [oX9 aP P_seriesCount P_most P_ratio aD aI aG aU aT aQ aC P_recoveries]) (wr := [oX2 aD aDc D_writesDone D_writesLeft D_down, rI aDc cI 4096 D_cells, oX3 aI aD, oX4 aG aD G_logged, oX8 aU aD U_place U_bitsRead U_started U_time U_value U_rise, oX0 aQ aI aG aU Q_ratio aF aZ Q_looks Q_unpacked, oX6 aF F_first F_last F_points F_least F_greatest F_sum, oX6 aZ Z_first Z_last Z_points Z_least Z_greatest Z_sum]) (wb := [oX9 aP P_seriesCount P_most P_ratio aD aI aG aU aT aQ aC P_recoveries, oX2 aD aDc D_writesDone D_writesLeft D_down, rI aDc cI 4096 D_cells, oX3 aI aD, oX4 aG aD G_logged, oX8 aU aD U_place U_bitsRead U_started U_time U_value U_rise, oX0 aQ aI aG aU Q_ratio aF aZ Q_looks Q_unpacked, oX6 aF F_first F_last F_points F_least F_greatest F_sum, oX6 aZ Z_first Z_last Z_points Z_least Z_greatest Z_sum]) (v := none) hx hb hml hown htc hN (c_X9_throwUnlessSeries l G cI cZ cJ aP aD aI aG aU aT aQ aC P_seriesCount P_most P_ratio P_recoveries p0 hE_5) mw_849 mw_851 mp_31 mw_1 mw_852 hd_X9_throwUnlessSeries ⟨rfl, rfl⟩ ⟨Nat.le_of_ble_eq_true rfl, Nat.le_of_ble_eq_true rfl⟩ hK hw4 hA [0] [1, 2, 3, 4, 5, 6, 7, 8] [8, 0, 1, 2, 3, 4, 5, 6, 7] rfl rfl rfl rfl rfl (by decide) rfl rfl rfl 0 rfl rfl rfl rfl hl0.1 rfl rfl (Nat.le_of_ble_eq_true rfl) dX9_aggMin_6 ⟨Nat.zero_le _, Nat.zero_le _⟩ (fun H8 locs8 hw8 => ?_)
      clear hw4 H4 locs4
      refine lv_aload_n hx hb dX9_aggMin_9 rfl (lv_at hl0 0 rfl) ?_
      refine va_get (D := G) (ci := 9) (v := .ref aQ) (C := RX9) (T := TX9) (N := 11) hx hb htc iX9 hown hK hw8.1 0 rfl rfl 8 (by decide) (htc _ mw_311) (fun _ h9 => h9) rfl dX9_aggMin_10 ?_
      refine lv_iload_n hx hb dX9_aggMin_13 rfl (lv_at hl0 1 rfl) ?_
      refine lv_iload_n hx hb dX9_aggMin_14 rfl (lv_at hl0 2 rfl) ?_
      refine lv_iload_n hx hb dX9_aggMin_15 rfl (lv_at hl0 3 rfl) ?_
      replace hfin := ob20_some hfin
      obtain ⟨U_place_10, U_bitsRead_11, U_started_12, U_time_13, U_value_14, U_rise_15, Q_looks_16, Q_unpacked_17, F_first_18, F_last_19, F_points_20, F_least_21, F_greatest_22, F_sum_23, Z_first_24, Z_last_25, Z_points_26, Z_least_27, Z_greatest_28, Z_sum_29, hE_9, hfin⟩ := hfin
      refine ctV (a := aQ) (As := [.int p0, .int p1, .int p2]) (rest := []) (st1 := [.ref aF]) (wc := [oX2 aD aDc D_writesDone D_writesLeft D_down, rI aDc cI 4096 D_cells, oX3 aI aD, oX4 aG aD G_logged, oX8 aU aD U_place U_bitsRead U_started U_time U_value U_rise, oX0 aQ aI aG aU Q_ratio aF aZ Q_looks Q_unpacked, oX6 aF F_first F_last F_points F_least F_greatest F_sum, oX6 aZ Z_first Z_last Z_points Z_least Z_greatest Z_sum]) (w1 := [oX2 aD aDc D_writesDone D_writesLeft D_down, rI aDc cI 4096 D_cells, oX3 aI aD, oX4 aG aD G_logged, oX8 aU aD U_place_10 U_bitsRead_11 U_started_12 U_time_13 U_value_14 U_rise_15, oX0 aQ aI aG aU Q_ratio aF aZ Q_looks_16 Q_unpacked_17, oX6 aF F_first_18 F_last_19 F_points_20 F_least_21 F_greatest_22 F_sum_23, oX6 aZ Z_first_24 Z_last_25 Z_points_26 Z_least_27 Z_greatest_28 Z_sum_29]) (wr := [oX9 aP P_seriesCount P_most P_ratio aD aI aG aU aT aQ aC P_recoveries]) (wb := [oX9 aP P_seriesCount P_most P_ratio aD aI aG aU aT aQ aC P_recoveries, oX2 aD aDc D_writesDone D_writesLeft D_down, rI aDc cI 4096 D_cells, oX3 aI aD, oX4 aG aD G_logged, oX8 aU aD U_place_10 U_bitsRead_11 U_started_12 U_time_13 U_value_14 U_rise_15, oX0 aQ aI aG aU Q_ratio aF aZ Q_looks_16 Q_unpacked_17, oX6 aF F_first_18 F_last_19 F_points_20 F_least_21 F_greatest_22 F_sum_23, oX6 aZ Z_first_24 Z_last_25 Z_points_26 Z_least_27 Z_greatest_28 Z_sum_29]) (v := (some (.ref aF))) hx hb hml hown htc hN (c_X0_ask l G cI cZ cJ aD aDc aI aG aU aQ aF aZ D_writesDone D_writesLeft D_down D_cells G_logged U_place U_bitsRead U_started U_time U_value U_rise Q_ratio Q_looks Q_unpacked F_first F_last F_points F_least F_greatest F_sum Z_first Z_last Z_points Z_least Z_greatest Z_sum p0 p1 p2 hE_9) mw_620 mw_621 mw_622 mw_10 mw_623 hd_X0_ask ⟨rfl, rfl⟩ ⟨Nat.le_of_ble_eq_true rfl, Nat.le_of_ble_eq_true rfl⟩ hK hw8 hA [1, 2, 3, 4, 5, 6, 7, 8] [0] [0, 1, 2, 3, 4, 5, 6, 7, 8] rfl rfl rfl rfl rfl (by decide) rfl rfl rfl 5 rfl rfl rfl rfl hl0.1 rfl rfl (Nat.le_of_ble_eq_true rfl) dX9_aggMin_16 ⟨Nat.zero_le _, Nat.zero_le _⟩ (fun H30 locs30 hw30 => ?_)
      clear hw8 H8 locs8
      refine va_getN (D := G) (ci := 6) (v := .int F_least_21) (C := RX6) (T := TX6) (N := 6) hx hb htc iX6 hown hK hw30.1 7 rfl rfl 3 (by decide) (va_Nw.use rfl (hN _ mn_16)) (fun _ h9 => h9) rfl dX9_aggMin_19 ?_
      exact absurd (congrArg Prod.fst (Option.some.inj hfin)).symm hk
    · replace hfin := it_f c_7 hfin
      refine xtV (a := aP) (As := [.int p0]) (rest := []) (wc := [oX9 aP P_seriesCount P_most P_ratio aD aI aG aU aT aQ aC P_recoveries]) (w1 := [oX9 aP P_seriesCount P_most P_ratio aD aI aG aU aT aQ aC P_recoveries]) (wr := [oX2 aD aDc D_writesDone D_writesLeft D_down, rI aDc cI 4096 D_cells, oX3 aI aD, oX4 aG aD G_logged, oX8 aU aD U_place U_bitsRead U_started U_time U_value U_rise, oX0 aQ aI aG aU Q_ratio aF aZ Q_looks Q_unpacked, oX6 aF F_first F_last F_points F_least F_greatest F_sum, oX6 aZ Z_first Z_last Z_points Z_least Z_greatest Z_sum]) (wb := [oX9 aP P_seriesCount P_most P_ratio aD aI aG aU aT aQ aC P_recoveries, oX2 aD aDc D_writesDone D_writesLeft D_down, rI aDc cI 4096 D_cells, oX3 aI aD, oX4 aG aD G_logged, oX8 aU aD U_place U_bitsRead U_started U_time U_value U_rise, oX0 aQ aI aG aU Q_ratio aF aZ Q_looks Q_unpacked, oX6 aF F_first F_last F_points F_least F_greatest F_sum, oX6 aZ Z_first Z_last Z_points Z_least Z_greatest Z_sum]) hx hb hml hown htc hN hX (x_X9_throwUnlessSeries l hST G cI cZ cJ aP aD aI aG aU aT aQ aC P_seriesCount P_most P_ratio P_recoveries p0 hE_5 c_7) mw_849 mw_851 mp_31 mw_1 mw_852 hd_X9_throwUnlessSeries ⟨rfl, rfl⟩ ⟨Nat.le_of_ble_eq_true rfl, Nat.le_of_ble_eq_true rfl⟩ hK hw4 hA [0] [1, 2, 3, 4, 5, 6, 7, 8] [8, 0, 1, 2, 3, 4, 5, 6, 7] rfl rfl rfl rfl rfl (by decide) rfl rfl rfl 0 rfl rfl rfl rfl hl0.1 rfl (Nat.le_of_ble_eq_true rfl) dX9_aggMin_6 ⟨Nat.le_of_ble_eq_true rfl, Nat.le_of_ble_eq_true rfl⟩ (fun H9 locs9 q9 ce9 hw9 h91 h92 h93 => ?_)
      cases hfin
      rw [hQQ]
      exact xt_out hT hlocks hw9 h91 h92 h93
  · replace hfin := it_f c_3 hfin
    refine xtV (a := aP) (As := []) (rest := []) (wc := [oX9 aP P_seriesCount P_most P_ratio aD aI aG aU aT aQ aC P_recoveries, oX2 aD aDc D_writesDone D_writesLeft D_down]) (w1 := [oX9 aP P_seriesCount P_most P_ratio aD aI aG aU aT aQ aC P_recoveries, oX2 aD aDc D_writesDone D_writesLeft D_down]) (wr := [rI aDc cI 4096 D_cells, oX3 aI aD, oX4 aG aD G_logged, oX8 aU aD U_place U_bitsRead U_started U_time U_value U_rise, oX0 aQ aI aG aU Q_ratio aF aZ Q_looks Q_unpacked, oX6 aF F_first F_last F_points F_least F_greatest F_sum, oX6 aZ Z_first Z_last Z_points Z_least Z_greatest Z_sum]) (wb := [oX9 aP P_seriesCount P_most P_ratio aD aI aG aU aT aQ aC P_recoveries, oX2 aD aDc D_writesDone D_writesLeft D_down, rI aDc cI 4096 D_cells, oX3 aI aD, oX4 aG aD G_logged, oX8 aU aD U_place U_bitsRead U_started U_time U_value U_rise, oX0 aQ aI aG aU Q_ratio aF aZ Q_looks Q_unpacked, oX6 aF F_first F_last F_points F_least F_greatest F_sum, oX6 aZ Z_first Z_last Z_points Z_least Z_greatest Z_sum]) hx hb hml hown htc hN hX (x_X9_throwUnlessUp l hST G cI cZ cJ aP aD aI aG aU aT aQ aC aDc P_seriesCount P_most P_ratio P_recoveries D_writesDone D_writesLeft D_down  hE_1 c_3) mw_777 mw_779 mp_29 mw_1 mw_780 hd_X9_throwUnlessUp ⟨rfl, rfl⟩ ⟨Nat.le_of_ble_eq_true rfl, Nat.le_of_ble_eq_true rfl⟩ hK hw0 hA [0, 1] [2, 3, 4, 5, 6, 7, 8] [7, 8, 0, 1, 2, 3, 4, 5, 6] rfl rfl rfl rfl rfl (by decide) rfl rfl rfl 0 rfl rfl rfl rfl hl0.1 rfl (Nat.le_of_ble_eq_true rfl) dX9_aggMin_1 ⟨Nat.le_of_ble_eq_true rfl, Nat.le_of_ble_eq_true rfl⟩ (fun H9 locs9 q9 ce9 hw9 h91 h92 h93 => ?_)
    cases hfin
    rw [hQQ]
    exact xt_out hT hlocks hw9 h91 h92 h93
abbrev rm_X9_aggMax : Room := { frames := 7, cells := 0, slots := 0, locals := 153 }
abbrev rx_X9_aggMax : Room := { frames := 7, cells := 1, slots := 6, locals := 153 }
theorem hd_X9_aggMax : yX9_aggMax.cls = RX9 ∧ yX9_aggMax.cls ≠ "java/lang/invoke/MethodHandle" ∧ yX9_aggMax.cls ≠ "java/lang/invoke/VarHandle" ∧ (parseMethodDescriptor yX9_aggMax.desc).map (fun d => d.parameters.length) = some 3 := by decide +kernel
set_option maxHeartbeats 4000000 in
set_option maxRecDepth 100000 in
theorem c_X9_aggMax (l : Launch) (G : va_G) (cI cZ cJ : ClassId) (aP aD aI aG aU aT aQ aC aDc aF aZ : Nat) (P_seriesCount : Int32) (P_most : Int32) (P_ratio : Int32) (P_recoveries : Int32) (D_writesDone : Int32) (D_writesLeft : Int32) (D_down : Int32) (D_cells : Nat → Int32) (G_logged : Int32) (U_place : Int32) (U_bitsRead : Int32) (U_started : Int32) (U_time : Int32) (U_value : Int32) (U_rise : Int64) (Q_ratio : Int32) (Q_looks : Int32) (Q_unpacked : Int32) (F_first : Int32) (F_last : Int32) (F_points : Int32) (F_least : Int32) (F_greatest : Int32) (F_sum : Int64) (Z_first : Int32) (Z_last : Int32) (Z_points : Int32) (Z_least : Int32) (Z_greatest : Int32) (Z_sum : Int64) (p0 : Int32) (p1 : Int32) (p2 : Int32) {r : Int32} {o_U_place : Int32} {o_U_bitsRead : Int32} {o_U_started : Int32} {o_U_time : Int32} {o_U_value : Int32} {o_U_rise : Int64} {o_Q_looks : Int32} {o_Q_unpacked : Int32} {o_F_first : Int32} {o_F_last : Int32} {o_F_points : Int32} {o_F_least : Int32} {o_F_greatest : Int32} {o_F_sum : Int64} {o_Z_first : Int32} {o_Z_last : Int32} {o_Z_points : Int32} {o_Z_least : Int32} {o_Z_greatest : Int32} {o_Z_sum : Int64} (hfin : m_X9_aggMax P_seriesCount D_down D_cells G_logged U_place U_bitsRead U_started U_time U_value U_rise Q_ratio Q_looks Q_unpacked F_first F_last F_points F_least F_greatest F_sum Z_first Z_last Z_points Z_least Z_greatest Z_sum p0 p1 p2 = some ((0 : Int32), r, o_U_place, o_U_bitsRead, o_U_started, o_U_time, o_U_value, o_U_rise, o_Q_looks, o_Q_unpacked, o_F_first, o_F_last, o_F_points, o_F_least, o_F_greatest, o_F_sum, o_Z_first, o_Z_last, o_Z_points, o_Z_least, o_Z_greatest, o_Z_sum)) : CT l yX9_aggMax cX9_aggMax 4 (some .int) rm_X9_aggMax G (tyC cI cZ cJ) [.ref aP, .int p0, .int p1, .int p2] [oX9 aP P_seriesCount P_most P_ratio aD aI aG aU aT aQ aC P_recoveries, oX2 aD aDc D_writesDone D_writesLeft D_down, rI aDc cI 4096 D_cells, oX3 aI aD, oX4 aG aD G_logged, oX8 aU aD U_place U_bitsRead U_started U_time U_value U_rise, oX0 aQ aI aG aU Q_ratio aF aZ Q_looks Q_unpacked, oX6 aF F_first F_last F_points F_least F_greatest F_sum, oX6 aZ Z_first Z_last Z_points Z_least Z_greatest Z_sum] (some (.int r)) [oX9 aP P_seriesCount P_most P_ratio aD aI aG aU aT aQ aC P_recoveries, oX2 aD aDc D_writesDone D_writesLeft D_down, rI aDc cI 4096 D_cells, oX3 aI aD, oX4 aG aD G_logged, oX8 aU aD o_U_place o_U_bitsRead o_U_started o_U_time o_U_value o_U_rise, oX0 aQ aI aG aU Q_ratio aF aZ o_Q_looks o_Q_unpacked, oX6 aF o_F_first o_F_last o_F_points o_F_least o_F_greatest o_F_sum, oX6 aZ o_Z_first o_Z_last o_Z_points o_Z_least o_Z_greatest o_Z_sum] := by
  refine CT.ofW (lvl := [(0, .ref aP), (1, .int p0), (2, .int p1), (3, .int p2)]) (by decide) (Nat.le_of_ble_eq_true rfl) rfl ?_
  intro p e s m args below meth c A ls0 QQ hQQ hx hb hml hr hlocks htc hN hown hK hA hw0 hl0
  rw [m_X9_aggMax] at hfin
  refine lv_aload_n hx hb dX9_aggMax_0 rfl (lv_at hl0 0 rfl) ?_
  replace hfin := ob1_some hfin
  obtain ⟨k_2, hE_1, hfin⟩ := hfin
  by_cases c_3 : k_2 = 0
  · replace hfin := it_t c_3 hfin
    subst c_3
    refine ctV (a := aP) (As := []) (rest := []) (st1 := []) (wc := [oX9 aP P_seriesCount P_most P_ratio aD aI aG aU aT aQ aC P_recoveries, oX2 aD aDc D_writesDone D_writesLeft D_down]) (w1 := [oX9 aP P_seriesCount P_most P_ratio aD aI aG aU aT aQ aC P_recoveries, oX2 aD aDc D_writesDone D_writesLeft D_down]) (wr := [rI aDc cI 4096 D_cells, oX3 aI aD, oX4 aG aD G_logged, oX8 aU aD U_place U_bitsRead U_started U_time U_value U_rise, oX0 aQ aI aG aU Q_ratio aF aZ Q_looks Q_unpacked, oX6 aF F_first F_last F_points F_least F_greatest F_sum, oX6 aZ Z_first Z_last Z_points Z_least Z_greatest Z_sum]) (wb := [oX9 aP P_seriesCount P_most P_ratio aD aI aG aU aT aQ aC P_recoveries, oX2 aD aDc D_writesDone D_writesLeft D_down, rI aDc cI 4096 D_cells, oX3 aI aD, oX4 aG aD G_logged, oX8 aU aD U_place U_bitsRead U_started U_time U_value U_rise, oX0 aQ aI aG aU Q_ratio aF aZ Q_looks Q_unpacked, oX6 aF F_first F_last F_points F_least F_greatest F_sum, oX6 aZ Z_first Z_last Z_points Z_least Z_greatest Z_sum]) (v := none) hx hb hml hown htc hN (c_X9_throwUnlessUp l G cI cZ cJ aP aD aI aG aU aT aQ aC aDc P_seriesCount P_most P_ratio P_recoveries D_writesDone D_writesLeft D_down  hE_1) mw_777 mw_779 mp_29 mw_1 mw_780 hd_X9_throwUnlessUp ⟨rfl, rfl⟩ ⟨Nat.le_of_ble_eq_true rfl, Nat.le_of_ble_eq_true rfl⟩ hK hw0 hA [0, 1] [2, 3, 4, 5, 6, 7, 8] [7, 8, 0, 1, 2, 3, 4, 5, 6] rfl rfl rfl rfl rfl (by decide) rfl rfl rfl 0 rfl rfl rfl rfl hl0.1 rfl rfl (Nat.le_of_ble_eq_true rfl) dX9_aggMax_1 ⟨Nat.zero_le _, Nat.zero_le _⟩ (fun H4 locs4 hw4 => ?_)
    clear hw0
    refine lv_aload_n hx hb dX9_aggMax_4 rfl (lv_at hl0 0 rfl) ?_
    refine lv_iload_n hx hb dX9_aggMax_5 rfl (lv_at hl0 1 rfl) ?_
    replace hfin := ob1_some hfin
    obtain ⟨k_6, hE_5, hfin⟩ := hfin
    by_cases c_7 : k_6 = 0
    · replace hfin := it_t c_7 hfin
      subst c_7
      refine ctV (a := aP) (As := [.int p0]) (rest := []) (st1 := []) (wc := [oX9 aP P_seriesCount P_most P_ratio aD aI aG aU aT aQ aC P_recoveries]) (w1 := [oX9 aP P_seriesCount P_most P_ratio aD aI aG aU aT aQ aC P_recoveries]) (wr := [oX2 aD aDc D_writesDone D_writesLeft D_down, rI aDc cI 4096 D_cells, oX3 aI aD, oX4 aG aD G_logged, oX8 aU aD U_place U_bitsRead U_started U_time U_value U_rise, oX0 aQ aI aG aU Q_ratio aF aZ Q_looks Q_unpacked, oX6 aF F_first F_last F_points F_least F_greatest F_sum, oX6 aZ Z_first Z_last Z_points Z_least Z_greatest Z_sum]) (wb := [oX9 aP P_seriesCount P_most P_ratio aD aI aG aU aT aQ aC P_recoveries, oX2 aD aDc D_writesDone D_writesLeft D_down, rI aDc cI 4096 D_cells, oX3 aI aD, oX4 aG aD G_logged, oX8 aU aD U_place U_bitsRead U_started U_time U_value U_rise, oX0 aQ aI aG aU Q_ratio aF aZ Q_looks Q_unpacked, oX6 aF F_first F_last F_points F_least F_greatest F_sum, oX6 aZ Z_first Z_last Z_points Z_least Z_greatest Z_sum]) (v := none) hx hb hml hown htc hN (c_X9_throwUnlessSeries l G cI cZ cJ aP aD aI aG aU aT aQ aC P_seriesCount P_most P_ratio P_recoveries p0 hE_5) mw_849 mw_851 mp_31 mw_1 mw_852 hd_X9_throwUnlessSeries ⟨rfl, rfl⟩ ⟨Nat.le_of_ble_eq_true rfl, Nat.le_of_ble_eq_true rfl⟩ hK hw4 hA [0] [1, 2, 3, 4, 5, 6, 7, 8] [8, 0, 1, 2, 3, 4, 5, 6, 7] rfl rfl rfl rfl rfl (by decide) rfl rfl rfl 0 rfl rfl rfl rfl hl0.1 rfl rfl (Nat.le_of_ble_eq_true rfl) dX9_aggMax_6 ⟨Nat.zero_le _, Nat.zero_le _⟩ (fun H8 locs8 hw8 => ?_)
      clear hw4 H4 locs4
      refine lv_aload_n hx hb dX9_aggMax_9 rfl (lv_at hl0 0 rfl) ?_
      refine va_get (D := G) (ci := 9) (v := .ref aQ) (C := RX9) (T := TX9) (N := 11) hx hb htc iX9 hown hK hw8.1 0 rfl rfl 8 (by decide) (htc _ mw_311) (fun _ h9 => h9) rfl dX9_aggMax_10 ?_
      refine lv_iload_n hx hb dX9_aggMax_13 rfl (lv_at hl0 1 rfl) ?_
      refine lv_iload_n hx hb dX9_aggMax_14 rfl (lv_at hl0 2 rfl) ?_
      refine lv_iload_n hx hb dX9_aggMax_15 rfl (lv_at hl0 3 rfl) ?_
      replace hfin := ob20_some hfin
      obtain ⟨U_place_10, U_bitsRead_11, U_started_12, U_time_13, U_value_14, U_rise_15, Q_looks_16, Q_unpacked_17, F_first_18, F_last_19, F_points_20, F_least_21, F_greatest_22, F_sum_23, Z_first_24, Z_last_25, Z_points_26, Z_least_27, Z_greatest_28, Z_sum_29, hE_9, hfin⟩ := hfin
      refine ctV (a := aQ) (As := [.int p0, .int p1, .int p2]) (rest := []) (st1 := [.ref aF]) (wc := [oX2 aD aDc D_writesDone D_writesLeft D_down, rI aDc cI 4096 D_cells, oX3 aI aD, oX4 aG aD G_logged, oX8 aU aD U_place U_bitsRead U_started U_time U_value U_rise, oX0 aQ aI aG aU Q_ratio aF aZ Q_looks Q_unpacked, oX6 aF F_first F_last F_points F_least F_greatest F_sum, oX6 aZ Z_first Z_last Z_points Z_least Z_greatest Z_sum]) (w1 := [oX2 aD aDc D_writesDone D_writesLeft D_down, rI aDc cI 4096 D_cells, oX3 aI aD, oX4 aG aD G_logged, oX8 aU aD U_place_10 U_bitsRead_11 U_started_12 U_time_13 U_value_14 U_rise_15, oX0 aQ aI aG aU Q_ratio aF aZ Q_looks_16 Q_unpacked_17, oX6 aF F_first_18 F_last_19 F_points_20 F_least_21 F_greatest_22 F_sum_23, oX6 aZ Z_first_24 Z_last_25 Z_points_26 Z_least_27 Z_greatest_28 Z_sum_29]) (wr := [oX9 aP P_seriesCount P_most P_ratio aD aI aG aU aT aQ aC P_recoveries]) (wb := [oX9 aP P_seriesCount P_most P_ratio aD aI aG aU aT aQ aC P_recoveries, oX2 aD aDc D_writesDone D_writesLeft D_down, rI aDc cI 4096 D_cells, oX3 aI aD, oX4 aG aD G_logged, oX8 aU aD U_place_10 U_bitsRead_11 U_started_12 U_time_13 U_value_14 U_rise_15, oX0 aQ aI aG aU Q_ratio aF aZ Q_looks_16 Q_unpacked_17, oX6 aF F_first_18 F_last_19 F_points_20 F_least_21 F_greatest_22 F_sum_23, oX6 aZ Z_first_24 Z_last_25 Z_points_26 Z_least_27 Z_greatest_28 Z_sum_29]) (v := (some (.ref aF))) hx hb hml hown htc hN (c_X0_ask l G cI cZ cJ aD aDc aI aG aU aQ aF aZ D_writesDone D_writesLeft D_down D_cells G_logged U_place U_bitsRead U_started U_time U_value U_rise Q_ratio Q_looks Q_unpacked F_first F_last F_points F_least F_greatest F_sum Z_first Z_last Z_points Z_least Z_greatest Z_sum p0 p1 p2 hE_9) mw_620 mw_621 mw_622 mw_10 mw_623 hd_X0_ask ⟨rfl, rfl⟩ ⟨Nat.le_of_ble_eq_true rfl, Nat.le_of_ble_eq_true rfl⟩ hK hw8 hA [1, 2, 3, 4, 5, 6, 7, 8] [0] [0, 1, 2, 3, 4, 5, 6, 7, 8] rfl rfl rfl rfl rfl (by decide) rfl rfl rfl 5 rfl rfl rfl rfl hl0.1 rfl rfl (Nat.le_of_ble_eq_true rfl) dX9_aggMax_16 ⟨Nat.zero_le _, Nat.zero_le _⟩ (fun H30 locs30 hw30 => ?_)
      clear hw8 H8 locs8
      refine va_getN (D := G) (ci := 6) (v := .int F_greatest_22) (C := RX6) (T := TX6) (N := 6) hx hb htc iX6 hown hK hw30.1 7 rfl rfl 4 (by decide) (va_Nw.use rfl (hN _ mn_19)) (fun _ h9 => h9) rfl dX9_aggMax_19 ?_
      cases hfin
      rw [hQQ]
      exact ct_iret hx hb hr hlocks hw30.1 hw30.2.1 hw30.2.2 dX9_aggMax_22
    · replace hfin := it_f c_7 hfin
      exact absurd (congrArg Prod.fst (Option.some.inj hfin)) c_7
  · replace hfin := it_f c_3 hfin
    exact absurd (congrArg Prod.fst (Option.some.inj hfin)) c_3
set_option maxHeartbeats 4000000 in
set_option maxRecDepth 100000 in
theorem x_X9_aggMax (l : Launch) (hST : l.stackTraces = false) (G : va_G) (cI cZ cJ : ClassId) (aP aD aI aG aU aT aQ aC aDc aF aZ : Nat) (P_seriesCount : Int32) (P_most : Int32) (P_ratio : Int32) (P_recoveries : Int32) (D_writesDone : Int32) (D_writesLeft : Int32) (D_down : Int32) (D_cells : Nat → Int32) (G_logged : Int32) (U_place : Int32) (U_bitsRead : Int32) (U_started : Int32) (U_time : Int32) (U_value : Int32) (U_rise : Int64) (Q_ratio : Int32) (Q_looks : Int32) (Q_unpacked : Int32) (F_first : Int32) (F_last : Int32) (F_points : Int32) (F_least : Int32) (F_greatest : Int32) (F_sum : Int64) (Z_first : Int32) (Z_last : Int32) (Z_points : Int32) (Z_least : Int32) (Z_greatest : Int32) (Z_sum : Int64) (p0 : Int32) (p1 : Int32) (p2 : Int32) {k : Int32} {r : Int32} {o_U_place : Int32} {o_U_bitsRead : Int32} {o_U_started : Int32} {o_U_time : Int32} {o_U_value : Int32} {o_U_rise : Int64} {o_Q_looks : Int32} {o_Q_unpacked : Int32} {o_F_first : Int32} {o_F_last : Int32} {o_F_points : Int32} {o_F_least : Int32} {o_F_greatest : Int32} {o_F_sum : Int64} {o_Z_first : Int32} {o_Z_last : Int32} {o_Z_points : Int32} {o_Z_least : Int32} {o_Z_greatest : Int32} {o_Z_sum : Int64} (hfin : m_X9_aggMax P_seriesCount D_down D_cells G_logged U_place U_bitsRead U_started U_time U_value U_rise Q_ratio Q_looks Q_unpacked F_first F_last F_points F_least F_greatest F_sum Z_first Z_last Z_points Z_least Z_greatest Z_sum p0 p1 p2 = some (k, r, o_U_place, o_U_bitsRead, o_U_started, o_U_time, o_U_value, o_U_rise, o_Q_looks, o_Q_unpacked, o_F_first, o_F_last, o_F_points, o_F_least, o_F_greatest, o_F_sum, o_Z_first, o_Z_last, o_Z_points, o_Z_least, o_Z_greatest, o_Z_sum)) (hk : ¬ k = 0) : XT l yX9_aggMax cX9_aggMax 4 (some .int) rx_X9_aggMax G (tyC cI cZ cJ) [.ref aP, .int p0, .int p1, .int p2] [oX9 aP P_seriesCount P_most P_ratio aD aI aG aU aT aQ aC P_recoveries, oX2 aD aDc D_writesDone D_writesLeft D_down, rI aDc cI 4096 D_cells, oX3 aI aD, oX4 aG aD G_logged, oX8 aU aD U_place U_bitsRead U_started U_time U_value U_rise, oX0 aQ aI aG aU Q_ratio aF aZ Q_looks Q_unpacked, oX6 aF F_first F_last F_points F_least F_greatest F_sum, oX6 aZ Z_first Z_last Z_points Z_least Z_greatest Z_sum] k [oX9 aP P_seriesCount P_most P_ratio aD aI aG aU aT aQ aC P_recoveries, oX2 aD aDc D_writesDone D_writesLeft D_down, rI aDc cI 4096 D_cells, oX3 aI aD, oX4 aG aD G_logged, oX8 aU aD o_U_place o_U_bitsRead o_U_started o_U_time o_U_value o_U_rise, oX0 aQ aI aG aU Q_ratio aF aZ o_Q_looks o_Q_unpacked, oX6 aF o_F_first o_F_last o_F_points o_F_least o_F_greatest o_F_sum, oX6 aZ o_Z_first o_Z_last o_Z_points o_Z_least o_Z_greatest o_Z_sum] := by
  refine XT.ofW (lvl := [(0, .ref aP), (1, .int p0), (2, .int p1), (3, .int p2)]) (by decide) (Nat.le_of_ble_eq_true rfl) rfl ?_
  intro p e s m args below meth c A ls0 QQ hQQ hT hX hx hb hml hr hlocks htc hN hown hK hA hw0 hl0
  rw [m_X9_aggMax] at hfin
  refine lv_aload_n hx hb dX9_aggMax_0 rfl (lv_at hl0 0 rfl) ?_
  replace hfin := ob1_some hfin
  obtain ⟨k_2, hE_1, hfin⟩ := hfin
  by_cases c_3 : k_2 = 0
  · replace hfin := it_t c_3 hfin
    subst c_3
    refine ctV (a := aP) (As := []) (rest := []) (st1 := []) (wc := [oX9 aP P_seriesCount P_most P_ratio aD aI aG aU aT aQ aC P_recoveries, oX2 aD aDc D_writesDone D_writesLeft D_down]) (w1 := [oX9 aP P_seriesCount P_most P_ratio aD aI aG aU aT aQ aC P_recoveries, oX2 aD aDc D_writesDone D_writesLeft D_down]) (wr := [rI aDc cI 4096 D_cells, oX3 aI aD, oX4 aG aD G_logged, oX8 aU aD U_place U_bitsRead U_started U_time U_value U_rise, oX0 aQ aI aG aU Q_ratio aF aZ Q_looks Q_unpacked, oX6 aF F_first F_last F_points F_least F_greatest F_sum, oX6 aZ Z_first Z_last Z_points Z_least Z_greatest Z_sum]) (wb := [oX9 aP P_seriesCount P_most P_ratio aD aI aG aU aT aQ aC P_recoveries, oX2 aD aDc D_writesDone D_writesLeft D_down, rI aDc cI 4096 D_cells, oX3 aI aD, oX4 aG aD G_logged, oX8 aU aD U_place U_bitsRead U_started U_time U_value U_rise, oX0 aQ aI aG aU Q_ratio aF aZ Q_looks Q_unpacked, oX6 aF F_first F_last F_points F_least F_greatest F_sum, oX6 aZ Z_first Z_last Z_points Z_least Z_greatest Z_sum]) (v := none) hx hb hml hown htc hN (c_X9_throwUnlessUp l G cI cZ cJ aP aD aI aG aU aT aQ aC aDc P_seriesCount P_most P_ratio P_recoveries D_writesDone D_writesLeft D_down  hE_1) mw_777 mw_779 mp_29 mw_1 mw_780 hd_X9_throwUnlessUp ⟨rfl, rfl⟩ ⟨Nat.le_of_ble_eq_true rfl, Nat.le_of_ble_eq_true rfl⟩ hK hw0 hA [0, 1] [2, 3, 4, 5, 6, 7, 8] [7, 8, 0, 1, 2, 3, 4, 5, 6] rfl rfl rfl rfl rfl (by decide) rfl rfl rfl 0 rfl rfl rfl rfl hl0.1 rfl rfl (Nat.le_of_ble_eq_true rfl) dX9_aggMax_1 ⟨Nat.zero_le _, Nat.zero_le _⟩ (fun H4 locs4 hw4 => ?_)
    clear hw0
    refine lv_aload_n hx hb dX9_aggMax_4 rfl (lv_at hl0 0 rfl) ?_
    refine lv_iload_n hx hb dX9_aggMax_5 rfl (lv_at hl0 1 rfl) ?_
    replace hfin := ob1_some hfin
    obtain ⟨k_6, hE_5, hfin⟩ := hfin
    by_cases c_7 : k_6 = 0
    · replace hfin := it_t c_7 hfin
      subst c_7
      refine ctV (a := aP) (As := [.int p0]) (rest := []) (st1 := []) (wc := [oX9 aP P_seriesCount P_most P_ratio aD aI aG aU aT aQ aC P_recoveries]) (w1 := [oX9 aP P_seriesCount P_most P_ratio aD aI aG aU aT aQ aC P_recoveries]) (wr := [oX2 aD aDc D_writesDone D_writesLeft D_down, rI aDc cI 4096 D_cells, oX3 aI aD, oX4 aG aD G_logged, oX8 aU aD U_place U_bitsRead U_started U_time U_value U_rise, oX0 aQ aI aG aU Q_ratio aF aZ Q_looks Q_unpacked, oX6 aF F_first F_last F_points F_least F_greatest F_sum, oX6 aZ Z_first Z_last Z_points Z_least Z_greatest Z_sum]) (wb := [oX9 aP P_seriesCount P_most P_ratio aD aI aG aU aT aQ aC P_recoveries, oX2 aD aDc D_writesDone D_writesLeft D_down, rI aDc cI 4096 D_cells, oX3 aI aD, oX4 aG aD G_logged, oX8 aU aD U_place U_bitsRead U_started U_time U_value U_rise, oX0 aQ aI aG aU Q_ratio aF aZ Q_looks Q_unpacked, oX6 aF F_first F_last F_points F_least F_greatest F_sum, oX6 aZ Z_first Z_last Z_points Z_least Z_greatest Z_sum]) (v := none) hx hb hml hown htc hN (c_X9_throwUnlessSeries l G cI cZ cJ aP aD aI aG aU aT aQ aC P_seriesCount P_most P_ratio P_recoveries p0 hE_5) mw_849 mw_851 mp_31 mw_1 mw_852 hd_X9_throwUnlessSeries ⟨rfl, rfl⟩ ⟨Nat.le_of_ble_eq_true rfl, Nat.le_of_ble_eq_true rfl⟩ hK hw4 hA [0] [1, 2, 3, 4, 5, 6, 7, 8] [8, 0, 1, 2, 3, 4, 5, 6, 7] rfl rfl rfl rfl rfl (by decide) rfl rfl rfl 0 rfl rfl rfl rfl hl0.1 rfl rfl (Nat.le_of_ble_eq_true rfl) dX9_aggMax_6 ⟨Nat.zero_le _, Nat.zero_le _⟩ (fun H8 locs8 hw8 => ?_)
      clear hw4 H4 locs4
      refine lv_aload_n hx hb dX9_aggMax_9 rfl (lv_at hl0 0 rfl) ?_
      refine va_get (D := G) (ci := 9) (v := .ref aQ) (C := RX9) (T := TX9) (N := 11) hx hb htc iX9 hown hK hw8.1 0 rfl rfl 8 (by decide) (htc _ mw_311) (fun _ h9 => h9) rfl dX9_aggMax_10 ?_
      refine lv_iload_n hx hb dX9_aggMax_13 rfl (lv_at hl0 1 rfl) ?_
      refine lv_iload_n hx hb dX9_aggMax_14 rfl (lv_at hl0 2 rfl) ?_
      refine lv_iload_n hx hb dX9_aggMax_15 rfl (lv_at hl0 3 rfl) ?_
      replace hfin := ob20_some hfin
      obtain ⟨U_place_10, U_bitsRead_11, U_started_12, U_time_13, U_value_14, U_rise_15, Q_looks_16, Q_unpacked_17, F_first_18, F_last_19, F_points_20, F_least_21, F_greatest_22, F_sum_23, Z_first_24, Z_last_25, Z_points_26, Z_least_27, Z_greatest_28, Z_sum_29, hE_9, hfin⟩ := hfin
      refine ctV (a := aQ) (As := [.int p0, .int p1, .int p2]) (rest := []) (st1 := [.ref aF]) (wc := [oX2 aD aDc D_writesDone D_writesLeft D_down, rI aDc cI 4096 D_cells, oX3 aI aD, oX4 aG aD G_logged, oX8 aU aD U_place U_bitsRead U_started U_time U_value U_rise, oX0 aQ aI aG aU Q_ratio aF aZ Q_looks Q_unpacked, oX6 aF F_first F_last F_points F_least F_greatest F_sum, oX6 aZ Z_first Z_last Z_points Z_least Z_greatest Z_sum]) (w1 := [oX2 aD aDc D_writesDone D_writesLeft D_down, rI aDc cI 4096 D_cells, oX3 aI aD, oX4 aG aD G_logged, oX8 aU aD U_place_10 U_bitsRead_11 U_started_12 U_time_13 U_value_14 U_rise_15, oX0 aQ aI aG aU Q_ratio aF aZ Q_looks_16 Q_unpacked_17, oX6 aF F_first_18 F_last_19 F_points_20 F_least_21 F_greatest_22 F_sum_23, oX6 aZ Z_first_24 Z_last_25 Z_points_26 Z_least_27 Z_greatest_28 Z_sum_29]) (wr := [oX9 aP P_seriesCount P_most P_ratio aD aI aG aU aT aQ aC P_recoveries]) (wb := [oX9 aP P_seriesCount P_most P_ratio aD aI aG aU aT aQ aC P_recoveries, oX2 aD aDc D_writesDone D_writesLeft D_down, rI aDc cI 4096 D_cells, oX3 aI aD, oX4 aG aD G_logged, oX8 aU aD U_place_10 U_bitsRead_11 U_started_12 U_time_13 U_value_14 U_rise_15, oX0 aQ aI aG aU Q_ratio aF aZ Q_looks_16 Q_unpacked_17, oX6 aF F_first_18 F_last_19 F_points_20 F_least_21 F_greatest_22 F_sum_23, oX6 aZ Z_first_24 Z_last_25 Z_points_26 Z_least_27 Z_greatest_28 Z_sum_29]) (v := (some (.ref aF))) hx hb hml hown htc hN (c_X0_ask l G cI cZ cJ aD aDc aI aG aU aQ aF aZ D_writesDone D_writesLeft D_down D_cells G_logged U_place U_bitsRead U_started U_time U_value U_rise Q_ratio Q_looks Q_unpacked F_first F_last F_points F_least F_greatest F_sum Z_first Z_last Z_points Z_least Z_greatest Z_sum p0 p1 p2 hE_9) mw_620 mw_621 mw_622 mw_10 mw_623 hd_X0_ask ⟨rfl, rfl⟩ ⟨Nat.le_of_ble_eq_true rfl, Nat.le_of_ble_eq_true rfl⟩ hK hw8 hA [1, 2, 3, 4, 5, 6, 7, 8] [0] [0, 1, 2, 3, 4, 5, 6, 7, 8] rfl rfl rfl rfl rfl (by decide) rfl rfl rfl 5 rfl rfl rfl rfl hl0.1 rfl rfl (Nat.le_of_ble_eq_true rfl) dX9_aggMax_16 ⟨Nat.zero_le _, Nat.zero_le _⟩ (fun H30 locs30 hw30 => ?_)
      clear hw8 H8 locs8
      refine va_getN (D := G) (ci := 6) (v := .int F_greatest_22) (C := RX6) (T := TX6) (N := 6) hx hb htc iX6 hown hK hw30.1 7 rfl rfl 4 (by decide) (va_Nw.use rfl (hN _ mn_19)) (fun _ h9 => h9) rfl dX9_aggMax_19 ?_
      exact absurd (congrArg Prod.fst (Option.some.inj hfin)).symm hk
    · replace hfin := it_f c_7 hfin
      refine xtV (a := aP) (As := [.int p0]) (rest := []) (wc := [oX9 aP P_seriesCount P_most P_ratio aD aI aG aU aT aQ aC P_recoveries]) (w1 := [oX9 aP P_seriesCount P_most P_ratio aD aI aG aU aT aQ aC P_recoveries]) (wr := [oX2 aD aDc D_writesDone D_writesLeft D_down, rI aDc cI 4096 D_cells, oX3 aI aD, oX4 aG aD G_logged, oX8 aU aD U_place U_bitsRead U_started U_time U_value U_rise, oX0 aQ aI aG aU Q_ratio aF aZ Q_looks Q_unpacked, oX6 aF F_first F_last F_points F_least F_greatest F_sum, oX6 aZ Z_first Z_last Z_points Z_least Z_greatest Z_sum]) (wb := [oX9 aP P_seriesCount P_most P_ratio aD aI aG aU aT aQ aC P_recoveries, oX2 aD aDc D_writesDone D_writesLeft D_down, rI aDc cI 4096 D_cells, oX3 aI aD, oX4 aG aD G_logged, oX8 aU aD U_place U_bitsRead U_started U_time U_value U_rise, oX0 aQ aI aG aU Q_ratio aF aZ Q_looks Q_unpacked, oX6 aF F_first F_last F_points F_least F_greatest F_sum, oX6 aZ Z_first Z_last Z_points Z_least Z_greatest Z_sum]) hx hb hml hown htc hN hX (x_X9_throwUnlessSeries l hST G cI cZ cJ aP aD aI aG aU aT aQ aC P_seriesCount P_most P_ratio P_recoveries p0 hE_5 c_7) mw_849 mw_851 mp_31 mw_1 mw_852 hd_X9_throwUnlessSeries ⟨rfl, rfl⟩ ⟨Nat.le_of_ble_eq_true rfl, Nat.le_of_ble_eq_true rfl⟩ hK hw4 hA [0] [1, 2, 3, 4, 5, 6, 7, 8] [8, 0, 1, 2, 3, 4, 5, 6, 7] rfl rfl rfl rfl rfl (by decide) rfl rfl rfl 0 rfl rfl rfl rfl hl0.1 rfl (Nat.le_of_ble_eq_true rfl) dX9_aggMax_6 ⟨Nat.le_of_ble_eq_true rfl, Nat.le_of_ble_eq_true rfl⟩ (fun H9 locs9 q9 ce9 hw9 h91 h92 h93 => ?_)
      cases hfin
      rw [hQQ]
      exact xt_out hT hlocks hw9 h91 h92 h93
  · replace hfin := it_f c_3 hfin
    refine xtV (a := aP) (As := []) (rest := []) (wc := [oX9 aP P_seriesCount P_most P_ratio aD aI aG aU aT aQ aC P_recoveries, oX2 aD aDc D_writesDone D_writesLeft D_down]) (w1 := [oX9 aP P_seriesCount P_most P_ratio aD aI aG aU aT aQ aC P_recoveries, oX2 aD aDc D_writesDone D_writesLeft D_down]) (wr := [rI aDc cI 4096 D_cells, oX3 aI aD, oX4 aG aD G_logged, oX8 aU aD U_place U_bitsRead U_started U_time U_value U_rise, oX0 aQ aI aG aU Q_ratio aF aZ Q_looks Q_unpacked, oX6 aF F_first F_last F_points F_least F_greatest F_sum, oX6 aZ Z_first Z_last Z_points Z_least Z_greatest Z_sum]) (wb := [oX9 aP P_seriesCount P_most P_ratio aD aI aG aU aT aQ aC P_recoveries, oX2 aD aDc D_writesDone D_writesLeft D_down, rI aDc cI 4096 D_cells, oX3 aI aD, oX4 aG aD G_logged, oX8 aU aD U_place U_bitsRead U_started U_time U_value U_rise, oX0 aQ aI aG aU Q_ratio aF aZ Q_looks Q_unpacked, oX6 aF F_first F_last F_points F_least F_greatest F_sum, oX6 aZ Z_first Z_last Z_points Z_least Z_greatest Z_sum]) hx hb hml hown htc hN hX (x_X9_throwUnlessUp l hST G cI cZ cJ aP aD aI aG aU aT aQ aC aDc P_seriesCount P_most P_ratio P_recoveries D_writesDone D_writesLeft D_down  hE_1 c_3) mw_777 mw_779 mp_29 mw_1 mw_780 hd_X9_throwUnlessUp ⟨rfl, rfl⟩ ⟨Nat.le_of_ble_eq_true rfl, Nat.le_of_ble_eq_true rfl⟩ hK hw0 hA [0, 1] [2, 3, 4, 5, 6, 7, 8] [7, 8, 0, 1, 2, 3, 4, 5, 6] rfl rfl rfl rfl rfl (by decide) rfl rfl rfl 0 rfl rfl rfl rfl hl0.1 rfl (Nat.le_of_ble_eq_true rfl) dX9_aggMax_1 ⟨Nat.le_of_ble_eq_true rfl, Nat.le_of_ble_eq_true rfl⟩ (fun H9 locs9 q9 ce9 hw9 h91 h92 h93 => ?_)
    cases hfin
    rw [hQQ]
    exact xt_out hT hlocks hw9 h91 h92 h93
abbrev rm_X9_aggSum : Room := { frames := 7, cells := 0, slots := 0, locals := 153 }
abbrev rx_X9_aggSum : Room := { frames := 7, cells := 1, slots := 6, locals := 153 }
theorem hd_X9_aggSum : yX9_aggSum.cls = RX9 ∧ yX9_aggSum.cls ≠ "java/lang/invoke/MethodHandle" ∧ yX9_aggSum.cls ≠ "java/lang/invoke/VarHandle" ∧ (parseMethodDescriptor yX9_aggSum.desc).map (fun d => d.parameters.length) = some 3 := by decide +kernel
set_option maxHeartbeats 4000000 in
set_option maxRecDepth 100000 in
theorem c_X9_aggSum (l : Launch) (G : va_G) (cI cZ cJ : ClassId) (aP aD aI aG aU aT aQ aC aDc aF aZ : Nat) (P_seriesCount : Int32) (P_most : Int32) (P_ratio : Int32) (P_recoveries : Int32) (D_writesDone : Int32) (D_writesLeft : Int32) (D_down : Int32) (D_cells : Nat → Int32) (G_logged : Int32) (U_place : Int32) (U_bitsRead : Int32) (U_started : Int32) (U_time : Int32) (U_value : Int32) (U_rise : Int64) (Q_ratio : Int32) (Q_looks : Int32) (Q_unpacked : Int32) (F_first : Int32) (F_last : Int32) (F_points : Int32) (F_least : Int32) (F_greatest : Int32) (F_sum : Int64) (Z_first : Int32) (Z_last : Int32) (Z_points : Int32) (Z_least : Int32) (Z_greatest : Int32) (Z_sum : Int64) (p0 : Int32) (p1 : Int32) (p2 : Int32) {r : Int64} {o_U_place : Int32} {o_U_bitsRead : Int32} {o_U_started : Int32} {o_U_time : Int32} {o_U_value : Int32} {o_U_rise : Int64} {o_Q_looks : Int32} {o_Q_unpacked : Int32} {o_F_first : Int32} {o_F_last : Int32} {o_F_points : Int32} {o_F_least : Int32} {o_F_greatest : Int32} {o_F_sum : Int64} {o_Z_first : Int32} {o_Z_last : Int32} {o_Z_points : Int32} {o_Z_least : Int32} {o_Z_greatest : Int32} {o_Z_sum : Int64} (hfin : m_X9_aggSum P_seriesCount D_down D_cells G_logged U_place U_bitsRead U_started U_time U_value U_rise Q_ratio Q_looks Q_unpacked F_first F_last F_points F_least F_greatest F_sum Z_first Z_last Z_points Z_least Z_greatest Z_sum p0 p1 p2 = some ((0 : Int32), r, o_U_place, o_U_bitsRead, o_U_started, o_U_time, o_U_value, o_U_rise, o_Q_looks, o_Q_unpacked, o_F_first, o_F_last, o_F_points, o_F_least, o_F_greatest, o_F_sum, o_Z_first, o_Z_last, o_Z_points, o_Z_least, o_Z_greatest, o_Z_sum)) : CT l yX9_aggSum cX9_aggSum 4 (some .long) rm_X9_aggSum G (tyC cI cZ cJ) [.ref aP, .int p0, .int p1, .int p2] [oX9 aP P_seriesCount P_most P_ratio aD aI aG aU aT aQ aC P_recoveries, oX2 aD aDc D_writesDone D_writesLeft D_down, rI aDc cI 4096 D_cells, oX3 aI aD, oX4 aG aD G_logged, oX8 aU aD U_place U_bitsRead U_started U_time U_value U_rise, oX0 aQ aI aG aU Q_ratio aF aZ Q_looks Q_unpacked, oX6 aF F_first F_last F_points F_least F_greatest F_sum, oX6 aZ Z_first Z_last Z_points Z_least Z_greatest Z_sum] (some (.long r)) [oX9 aP P_seriesCount P_most P_ratio aD aI aG aU aT aQ aC P_recoveries, oX2 aD aDc D_writesDone D_writesLeft D_down, rI aDc cI 4096 D_cells, oX3 aI aD, oX4 aG aD G_logged, oX8 aU aD o_U_place o_U_bitsRead o_U_started o_U_time o_U_value o_U_rise, oX0 aQ aI aG aU Q_ratio aF aZ o_Q_looks o_Q_unpacked, oX6 aF o_F_first o_F_last o_F_points o_F_least o_F_greatest o_F_sum, oX6 aZ o_Z_first o_Z_last o_Z_points o_Z_least o_Z_greatest o_Z_sum] := by
  refine CT.ofW (lvl := [(0, .ref aP), (1, .int p0), (2, .int p1), (3, .int p2)]) (by decide) (Nat.le_of_ble_eq_true rfl) rfl ?_
  intro p e s m args below meth c A ls0 QQ hQQ hx hb hml hr hlocks htc hN hown hK hA hw0 hl0
  rw [m_X9_aggSum] at hfin
  refine lv_aload_n hx hb dX9_aggSum_0 rfl (lv_at hl0 0 rfl) ?_
  replace hfin := ob1_some hfin
  obtain ⟨k_2, hE_1, hfin⟩ := hfin
  by_cases c_3 : k_2 = 0
  · replace hfin := it_t c_3 hfin
    subst c_3
    refine ctV (a := aP) (As := []) (rest := []) (st1 := []) (wc := [oX9 aP P_seriesCount P_most P_ratio aD aI aG aU aT aQ aC P_recoveries, oX2 aD aDc D_writesDone D_writesLeft D_down]) (w1 := [oX9 aP P_seriesCount P_most P_ratio aD aI aG aU aT aQ aC P_recoveries, oX2 aD aDc D_writesDone D_writesLeft D_down]) (wr := [rI aDc cI 4096 D_cells, oX3 aI aD, oX4 aG aD G_logged, oX8 aU aD U_place U_bitsRead U_started U_time U_value U_rise, oX0 aQ aI aG aU Q_ratio aF aZ Q_looks Q_unpacked, oX6 aF F_first F_last F_points F_least F_greatest F_sum, oX6 aZ Z_first Z_last Z_points Z_least Z_greatest Z_sum]) (wb := [oX9 aP P_seriesCount P_most P_ratio aD aI aG aU aT aQ aC P_recoveries, oX2 aD aDc D_writesDone D_writesLeft D_down, rI aDc cI 4096 D_cells, oX3 aI aD, oX4 aG aD G_logged, oX8 aU aD U_place U_bitsRead U_started U_time U_value U_rise, oX0 aQ aI aG aU Q_ratio aF aZ Q_looks Q_unpacked, oX6 aF F_first F_last F_points F_least F_greatest F_sum, oX6 aZ Z_first Z_last Z_points Z_least Z_greatest Z_sum]) (v := none) hx hb hml hown htc hN (c_X9_throwUnlessUp l G cI cZ cJ aP aD aI aG aU aT aQ aC aDc P_seriesCount P_most P_ratio P_recoveries D_writesDone D_writesLeft D_down  hE_1) mw_777 mw_779 mp_29 mw_1 mw_780 hd_X9_throwUnlessUp ⟨rfl, rfl⟩ ⟨Nat.le_of_ble_eq_true rfl, Nat.le_of_ble_eq_true rfl⟩ hK hw0 hA [0, 1] [2, 3, 4, 5, 6, 7, 8] [7, 8, 0, 1, 2, 3, 4, 5, 6] rfl rfl rfl rfl rfl (by decide) rfl rfl rfl 0 rfl rfl rfl rfl hl0.1 rfl rfl (Nat.le_of_ble_eq_true rfl) dX9_aggSum_1 ⟨Nat.zero_le _, Nat.zero_le _⟩ (fun H4 locs4 hw4 => ?_)
    clear hw0
    refine lv_aload_n hx hb dX9_aggSum_4 rfl (lv_at hl0 0 rfl) ?_
    refine lv_iload_n hx hb dX9_aggSum_5 rfl (lv_at hl0 1 rfl) ?_
    replace hfin := ob1_some hfin
    obtain ⟨k_6, hE_5, hfin⟩ := hfin
    by_cases c_7 : k_6 = 0
    · replace hfin := it_t c_7 hfin
      subst c_7
      refine ctV (a := aP) (As := [.int p0]) (rest := []) (st1 := []) (wc := [oX9 aP P_seriesCount P_most P_ratio aD aI aG aU aT aQ aC P_recoveries]) (w1 := [oX9 aP P_seriesCount P_most P_ratio aD aI aG aU aT aQ aC P_recoveries]) (wr := [oX2 aD aDc D_writesDone D_writesLeft D_down, rI aDc cI 4096 D_cells, oX3 aI aD, oX4 aG aD G_logged, oX8 aU aD U_place U_bitsRead U_started U_time U_value U_rise, oX0 aQ aI aG aU Q_ratio aF aZ Q_looks Q_unpacked, oX6 aF F_first F_last F_points F_least F_greatest F_sum, oX6 aZ Z_first Z_last Z_points Z_least Z_greatest Z_sum]) (wb := [oX9 aP P_seriesCount P_most P_ratio aD aI aG aU aT aQ aC P_recoveries, oX2 aD aDc D_writesDone D_writesLeft D_down, rI aDc cI 4096 D_cells, oX3 aI aD, oX4 aG aD G_logged, oX8 aU aD U_place U_bitsRead U_started U_time U_value U_rise, oX0 aQ aI aG aU Q_ratio aF aZ Q_looks Q_unpacked, oX6 aF F_first F_last F_points F_least F_greatest F_sum, oX6 aZ Z_first Z_last Z_points Z_least Z_greatest Z_sum]) (v := none) hx hb hml hown htc hN (c_X9_throwUnlessSeries l G cI cZ cJ aP aD aI aG aU aT aQ aC P_seriesCount P_most P_ratio P_recoveries p0 hE_5) mw_849 mw_851 mp_31 mw_1 mw_852 hd_X9_throwUnlessSeries ⟨rfl, rfl⟩ ⟨Nat.le_of_ble_eq_true rfl, Nat.le_of_ble_eq_true rfl⟩ hK hw4 hA [0] [1, 2, 3, 4, 5, 6, 7, 8] [8, 0, 1, 2, 3, 4, 5, 6, 7] rfl rfl rfl rfl rfl (by decide) rfl rfl rfl 0 rfl rfl rfl rfl hl0.1 rfl rfl (Nat.le_of_ble_eq_true rfl) dX9_aggSum_6 ⟨Nat.zero_le _, Nat.zero_le _⟩ (fun H8 locs8 hw8 => ?_)
      clear hw4 H4 locs4
      refine lv_aload_n hx hb dX9_aggSum_9 rfl (lv_at hl0 0 rfl) ?_
      refine va_get (D := G) (ci := 9) (v := .ref aQ) (C := RX9) (T := TX9) (N := 11) hx hb htc iX9 hown hK hw8.1 0 rfl rfl 8 (by decide) (htc _ mw_311) (fun _ h9 => h9) rfl dX9_aggSum_10 ?_
      refine lv_iload_n hx hb dX9_aggSum_13 rfl (lv_at hl0 1 rfl) ?_
      refine lv_iload_n hx hb dX9_aggSum_14 rfl (lv_at hl0 2 rfl) ?_
      refine lv_iload_n hx hb dX9_aggSum_15 rfl (lv_at hl0 3 rfl) ?_
      replace hfin := ob20_some hfin
      obtain ⟨U_place_10, U_bitsRead_11, U_started_12, U_time_13, U_value_14, U_rise_15, Q_looks_16, Q_unpacked_17, F_first_18, F_last_19, F_points_20, F_least_21, F_greatest_22, F_sum_23, Z_first_24, Z_last_25, Z_points_26, Z_least_27, Z_greatest_28, Z_sum_29, hE_9, hfin⟩ := hfin
      refine ctV (a := aQ) (As := [.int p0, .int p1, .int p2]) (rest := []) (st1 := [.ref aF]) (wc := [oX2 aD aDc D_writesDone D_writesLeft D_down, rI aDc cI 4096 D_cells, oX3 aI aD, oX4 aG aD G_logged, oX8 aU aD U_place U_bitsRead U_started U_time U_value U_rise, oX0 aQ aI aG aU Q_ratio aF aZ Q_looks Q_unpacked, oX6 aF F_first F_last F_points F_least F_greatest F_sum, oX6 aZ Z_first Z_last Z_points Z_least Z_greatest Z_sum]) (w1 := [oX2 aD aDc D_writesDone D_writesLeft D_down, rI aDc cI 4096 D_cells, oX3 aI aD, oX4 aG aD G_logged, oX8 aU aD U_place_10 U_bitsRead_11 U_started_12 U_time_13 U_value_14 U_rise_15, oX0 aQ aI aG aU Q_ratio aF aZ Q_looks_16 Q_unpacked_17, oX6 aF F_first_18 F_last_19 F_points_20 F_least_21 F_greatest_22 F_sum_23, oX6 aZ Z_first_24 Z_last_25 Z_points_26 Z_least_27 Z_greatest_28 Z_sum_29]) (wr := [oX9 aP P_seriesCount P_most P_ratio aD aI aG aU aT aQ aC P_recoveries]) (wb := [oX9 aP P_seriesCount P_most P_ratio aD aI aG aU aT aQ aC P_recoveries, oX2 aD aDc D_writesDone D_writesLeft D_down, rI aDc cI 4096 D_cells, oX3 aI aD, oX4 aG aD G_logged, oX8 aU aD U_place_10 U_bitsRead_11 U_started_12 U_time_13 U_value_14 U_rise_15, oX0 aQ aI aG aU Q_ratio aF aZ Q_looks_16 Q_unpacked_17, oX6 aF F_first_18 F_last_19 F_points_20 F_least_21 F_greatest_22 F_sum_23, oX6 aZ Z_first_24 Z_last_25 Z_points_26 Z_least_27 Z_greatest_28 Z_sum_29]) (v := (some (.ref aF))) hx hb hml hown htc hN (c_X0_ask l G cI cZ cJ aD aDc aI aG aU aQ aF aZ D_writesDone D_writesLeft D_down D_cells G_logged U_place U_bitsRead U_started U_time U_value U_rise Q_ratio Q_looks Q_unpacked F_first F_last F_points F_least F_greatest F_sum Z_first Z_last Z_points Z_least Z_greatest Z_sum p0 p1 p2 hE_9) mw_620 mw_621 mw_622 mw_10 mw_623 hd_X0_ask ⟨rfl, rfl⟩ ⟨Nat.le_of_ble_eq_true rfl, Nat.le_of_ble_eq_true rfl⟩ hK hw8 hA [1, 2, 3, 4, 5, 6, 7, 8] [0] [0, 1, 2, 3, 4, 5, 6, 7, 8] rfl rfl rfl rfl rfl (by decide) rfl rfl rfl 5 rfl rfl rfl rfl hl0.1 rfl rfl (Nat.le_of_ble_eq_true rfl) dX9_aggSum_16 ⟨Nat.zero_le _, Nat.zero_le _⟩ (fun H30 locs30 hw30 => ?_)
      clear hw8 H8 locs8
      refine va_getN (D := G) (ci := 6) (v := .long F_sum_23) (C := RX6) (T := TX6) (N := 6) hx hb htc iX6 hown hK hw30.1 7 rfl rfl 5 (by decide) (va_Nw.use rfl (hN _ mn_21)) (fun _ h9 => h9) rfl dX9_aggSum_19 ?_
      cases hfin
      rw [hQQ]
      exact ct_lret hx hb hr hlocks hw30.1 hw30.2.1 hw30.2.2 dX9_aggSum_22
    · replace hfin := it_f c_7 hfin
      exact absurd (congrArg Prod.fst (Option.some.inj hfin)) c_7
  · replace hfin := it_f c_3 hfin
    exact absurd (congrArg Prod.fst (Option.some.inj hfin)) c_3
set_option maxHeartbeats 4000000 in
set_option maxRecDepth 100000 in
theorem x_X9_aggSum (l : Launch) (hST : l.stackTraces = false) (G : va_G) (cI cZ cJ : ClassId) (aP aD aI aG aU aT aQ aC aDc aF aZ : Nat) (P_seriesCount : Int32) (P_most : Int32) (P_ratio : Int32) (P_recoveries : Int32) (D_writesDone : Int32) (D_writesLeft : Int32) (D_down : Int32) (D_cells : Nat → Int32) (G_logged : Int32) (U_place : Int32) (U_bitsRead : Int32) (U_started : Int32) (U_time : Int32) (U_value : Int32) (U_rise : Int64) (Q_ratio : Int32) (Q_looks : Int32) (Q_unpacked : Int32) (F_first : Int32) (F_last : Int32) (F_points : Int32) (F_least : Int32) (F_greatest : Int32) (F_sum : Int64) (Z_first : Int32) (Z_last : Int32) (Z_points : Int32) (Z_least : Int32) (Z_greatest : Int32) (Z_sum : Int64) (p0 : Int32) (p1 : Int32) (p2 : Int32) {k : Int32} {r : Int64} {o_U_place : Int32} {o_U_bitsRead : Int32} {o_U_started : Int32} {o_U_time : Int32} {o_U_value : Int32} {o_U_rise : Int64} {o_Q_looks : Int32} {o_Q_unpacked : Int32} {o_F_first : Int32} {o_F_last : Int32} {o_F_points : Int32} {o_F_least : Int32} {o_F_greatest : Int32} {o_F_sum : Int64} {o_Z_first : Int32} {o_Z_last : Int32} {o_Z_points : Int32} {o_Z_least : Int32} {o_Z_greatest : Int32} {o_Z_sum : Int64} (hfin : m_X9_aggSum P_seriesCount D_down D_cells G_logged U_place U_bitsRead U_started U_time U_value U_rise Q_ratio Q_looks Q_unpacked F_first F_last F_points F_least F_greatest F_sum Z_first Z_last Z_points Z_least Z_greatest Z_sum p0 p1 p2 = some (k, r, o_U_place, o_U_bitsRead, o_U_started, o_U_time, o_U_value, o_U_rise, o_Q_looks, o_Q_unpacked, o_F_first, o_F_last, o_F_points, o_F_least, o_F_greatest, o_F_sum, o_Z_first, o_Z_last, o_Z_points, o_Z_least, o_Z_greatest, o_Z_sum)) (hk : ¬ k = 0) : XT l yX9_aggSum cX9_aggSum 4 (some .long) rx_X9_aggSum G (tyC cI cZ cJ) [.ref aP, .int p0, .int p1, .int p2] [oX9 aP P_seriesCount P_most P_ratio aD aI aG aU aT aQ aC P_recoveries, oX2 aD aDc D_writesDone D_writesLeft D_down, rI aDc cI 4096 D_cells, oX3 aI aD, oX4 aG aD G_logged, oX8 aU aD U_place U_bitsRead U_started U_time U_value U_rise, oX0 aQ aI aG aU Q_ratio aF aZ Q_looks Q_unpacked, oX6 aF F_first F_last F_points F_least F_greatest F_sum, oX6 aZ Z_first Z_last Z_points Z_least Z_greatest Z_sum] k [oX9 aP P_seriesCount P_most P_ratio aD aI aG aU aT aQ aC P_recoveries, oX2 aD aDc D_writesDone D_writesLeft D_down, rI aDc cI 4096 D_cells, oX3 aI aD, oX4 aG aD G_logged, oX8 aU aD o_U_place o_U_bitsRead o_U_started o_U_time o_U_value o_U_rise, oX0 aQ aI aG aU Q_ratio aF aZ o_Q_looks o_Q_unpacked, oX6 aF o_F_first o_F_last o_F_points o_F_least o_F_greatest o_F_sum, oX6 aZ o_Z_first o_Z_last o_Z_points o_Z_least o_Z_greatest o_Z_sum] := by
  refine XT.ofW (lvl := [(0, .ref aP), (1, .int p0), (2, .int p1), (3, .int p2)]) (by decide) (Nat.le_of_ble_eq_true rfl) rfl ?_
  intro p e s m args below meth c A ls0 QQ hQQ hT hX hx hb hml hr hlocks htc hN hown hK hA hw0 hl0
  rw [m_X9_aggSum] at hfin
  refine lv_aload_n hx hb dX9_aggSum_0 rfl (lv_at hl0 0 rfl) ?_
  replace hfin := ob1_some hfin
  obtain ⟨k_2, hE_1, hfin⟩ := hfin
  by_cases c_3 : k_2 = 0
  · replace hfin := it_t c_3 hfin
    subst c_3
    refine ctV (a := aP) (As := []) (rest := []) (st1 := []) (wc := [oX9 aP P_seriesCount P_most P_ratio aD aI aG aU aT aQ aC P_recoveries, oX2 aD aDc D_writesDone D_writesLeft D_down]) (w1 := [oX9 aP P_seriesCount P_most P_ratio aD aI aG aU aT aQ aC P_recoveries, oX2 aD aDc D_writesDone D_writesLeft D_down]) (wr := [rI aDc cI 4096 D_cells, oX3 aI aD, oX4 aG aD G_logged, oX8 aU aD U_place U_bitsRead U_started U_time U_value U_rise, oX0 aQ aI aG aU Q_ratio aF aZ Q_looks Q_unpacked, oX6 aF F_first F_last F_points F_least F_greatest F_sum, oX6 aZ Z_first Z_last Z_points Z_least Z_greatest Z_sum]) (wb := [oX9 aP P_seriesCount P_most P_ratio aD aI aG aU aT aQ aC P_recoveries, oX2 aD aDc D_writesDone D_writesLeft D_down, rI aDc cI 4096 D_cells, oX3 aI aD, oX4 aG aD G_logged, oX8 aU aD U_place U_bitsRead U_started U_time U_value U_rise, oX0 aQ aI aG aU Q_ratio aF aZ Q_looks Q_unpacked, oX6 aF F_first F_last F_points F_least F_greatest F_sum, oX6 aZ Z_first Z_last Z_points Z_least Z_greatest Z_sum]) (v := none) hx hb hml hown htc hN (c_X9_throwUnlessUp l G cI cZ cJ aP aD aI aG aU aT aQ aC aDc P_seriesCount P_most P_ratio P_recoveries D_writesDone D_writesLeft D_down  hE_1) mw_777 mw_779 mp_29 mw_1 mw_780 hd_X9_throwUnlessUp ⟨rfl, rfl⟩ ⟨Nat.le_of_ble_eq_true rfl, Nat.le_of_ble_eq_true rfl⟩ hK hw0 hA [0, 1] [2, 3, 4, 5, 6, 7, 8] [7, 8, 0, 1, 2, 3, 4, 5, 6] rfl rfl rfl rfl rfl (by decide) rfl rfl rfl 0 rfl rfl rfl rfl hl0.1 rfl rfl (Nat.le_of_ble_eq_true rfl) dX9_aggSum_1 ⟨Nat.zero_le _, Nat.zero_le _⟩ (fun H4 locs4 hw4 => ?_)
    clear hw0
    refine lv_aload_n hx hb dX9_aggSum_4 rfl (lv_at hl0 0 rfl) ?_
    refine lv_iload_n hx hb dX9_aggSum_5 rfl (lv_at hl0 1 rfl) ?_
    replace hfin := ob1_some hfin
    obtain ⟨k_6, hE_5, hfin⟩ := hfin
    by_cases c_7 : k_6 = 0
    · replace hfin := it_t c_7 hfin
      subst c_7
      refine ctV (a := aP) (As := [.int p0]) (rest := []) (st1 := []) (wc := [oX9 aP P_seriesCount P_most P_ratio aD aI aG aU aT aQ aC P_recoveries]) (w1 := [oX9 aP P_seriesCount P_most P_ratio aD aI aG aU aT aQ aC P_recoveries]) (wr := [oX2 aD aDc D_writesDone D_writesLeft D_down, rI aDc cI 4096 D_cells, oX3 aI aD, oX4 aG aD G_logged, oX8 aU aD U_place U_bitsRead U_started U_time U_value U_rise, oX0 aQ aI aG aU Q_ratio aF aZ Q_looks Q_unpacked, oX6 aF F_first F_last F_points F_least F_greatest F_sum, oX6 aZ Z_first Z_last Z_points Z_least Z_greatest Z_sum]) (wb := [oX9 aP P_seriesCount P_most P_ratio aD aI aG aU aT aQ aC P_recoveries, oX2 aD aDc D_writesDone D_writesLeft D_down, rI aDc cI 4096 D_cells, oX3 aI aD, oX4 aG aD G_logged, oX8 aU aD U_place U_bitsRead U_started U_time U_value U_rise, oX0 aQ aI aG aU Q_ratio aF aZ Q_looks Q_unpacked, oX6 aF F_first F_last F_points F_least F_greatest F_sum, oX6 aZ Z_first Z_last Z_points Z_least Z_greatest Z_sum]) (v := none) hx hb hml hown htc hN (c_X9_throwUnlessSeries l G cI cZ cJ aP aD aI aG aU aT aQ aC P_seriesCount P_most P_ratio P_recoveries p0 hE_5) mw_849 mw_851 mp_31 mw_1 mw_852 hd_X9_throwUnlessSeries ⟨rfl, rfl⟩ ⟨Nat.le_of_ble_eq_true rfl, Nat.le_of_ble_eq_true rfl⟩ hK hw4 hA [0] [1, 2, 3, 4, 5, 6, 7, 8] [8, 0, 1, 2, 3, 4, 5, 6, 7] rfl rfl rfl rfl rfl (by decide) rfl rfl rfl 0 rfl rfl rfl rfl hl0.1 rfl rfl (Nat.le_of_ble_eq_true rfl) dX9_aggSum_6 ⟨Nat.zero_le _, Nat.zero_le _⟩ (fun H8 locs8 hw8 => ?_)
      clear hw4 H4 locs4
      refine lv_aload_n hx hb dX9_aggSum_9 rfl (lv_at hl0 0 rfl) ?_
      refine va_get (D := G) (ci := 9) (v := .ref aQ) (C := RX9) (T := TX9) (N := 11) hx hb htc iX9 hown hK hw8.1 0 rfl rfl 8 (by decide) (htc _ mw_311) (fun _ h9 => h9) rfl dX9_aggSum_10 ?_
      refine lv_iload_n hx hb dX9_aggSum_13 rfl (lv_at hl0 1 rfl) ?_
      refine lv_iload_n hx hb dX9_aggSum_14 rfl (lv_at hl0 2 rfl) ?_
      refine lv_iload_n hx hb dX9_aggSum_15 rfl (lv_at hl0 3 rfl) ?_
      replace hfin := ob20_some hfin
      obtain ⟨U_place_10, U_bitsRead_11, U_started_12, U_time_13, U_value_14, U_rise_15, Q_looks_16, Q_unpacked_17, F_first_18, F_last_19, F_points_20, F_least_21, F_greatest_22, F_sum_23, Z_first_24, Z_last_25, Z_points_26, Z_least_27, Z_greatest_28, Z_sum_29, hE_9, hfin⟩ := hfin
      refine ctV (a := aQ) (As := [.int p0, .int p1, .int p2]) (rest := []) (st1 := [.ref aF]) (wc := [oX2 aD aDc D_writesDone D_writesLeft D_down, rI aDc cI 4096 D_cells, oX3 aI aD, oX4 aG aD G_logged, oX8 aU aD U_place U_bitsRead U_started U_time U_value U_rise, oX0 aQ aI aG aU Q_ratio aF aZ Q_looks Q_unpacked, oX6 aF F_first F_last F_points F_least F_greatest F_sum, oX6 aZ Z_first Z_last Z_points Z_least Z_greatest Z_sum]) (w1 := [oX2 aD aDc D_writesDone D_writesLeft D_down, rI aDc cI 4096 D_cells, oX3 aI aD, oX4 aG aD G_logged, oX8 aU aD U_place_10 U_bitsRead_11 U_started_12 U_time_13 U_value_14 U_rise_15, oX0 aQ aI aG aU Q_ratio aF aZ Q_looks_16 Q_unpacked_17, oX6 aF F_first_18 F_last_19 F_points_20 F_least_21 F_greatest_22 F_sum_23, oX6 aZ Z_first_24 Z_last_25 Z_points_26 Z_least_27 Z_greatest_28 Z_sum_29]) (wr := [oX9 aP P_seriesCount P_most P_ratio aD aI aG aU aT aQ aC P_recoveries]) (wb := [oX9 aP P_seriesCount P_most P_ratio aD aI aG aU aT aQ aC P_recoveries, oX2 aD aDc D_writesDone D_writesLeft D_down, rI aDc cI 4096 D_cells, oX3 aI aD, oX4 aG aD G_logged, oX8 aU aD U_place_10 U_bitsRead_11 U_started_12 U_time_13 U_value_14 U_rise_15, oX0 aQ aI aG aU Q_ratio aF aZ Q_looks_16 Q_unpacked_17, oX6 aF F_first_18 F_last_19 F_points_20 F_least_21 F_greatest_22 F_sum_23, oX6 aZ Z_first_24 Z_last_25 Z_points_26 Z_least_27 Z_greatest_28 Z_sum_29]) (v := (some (.ref aF))) hx hb hml hown htc hN (c_X0_ask l G cI cZ cJ aD aDc aI aG aU aQ aF aZ D_writesDone D_writesLeft D_down D_cells G_logged U_place U_bitsRead U_started U_time U_value U_rise Q_ratio Q_looks Q_unpacked F_first F_last F_points F_least F_greatest F_sum Z_first Z_last Z_points Z_least Z_greatest Z_sum p0 p1 p2 hE_9) mw_620 mw_621 mw_622 mw_10 mw_623 hd_X0_ask ⟨rfl, rfl⟩ ⟨Nat.le_of_ble_eq_true rfl, Nat.le_of_ble_eq_true rfl⟩ hK hw8 hA [1, 2, 3, 4, 5, 6, 7, 8] [0] [0, 1, 2, 3, 4, 5, 6, 7, 8] rfl rfl rfl rfl rfl (by decide) rfl rfl rfl 5 rfl rfl rfl rfl hl0.1 rfl rfl (Nat.le_of_ble_eq_true rfl) dX9_aggSum_16 ⟨Nat.zero_le _, Nat.zero_le _⟩ (fun H30 locs30 hw30 => ?_)
      clear hw8 H8 locs8
      refine va_getN (D := G) (ci := 6) (v := .long F_sum_23) (C := RX6) (T := TX6) (N := 6) hx hb htc iX6 hown hK hw30.1 7 rfl rfl 5 (by decide) (va_Nw.use rfl (hN _ mn_21)) (fun _ h9 => h9) rfl dX9_aggSum_19 ?_
      exact absurd (congrArg Prod.fst (Option.some.inj hfin)).symm hk
    · replace hfin := it_f c_7 hfin
      refine xtV (a := aP) (As := [.int p0]) (rest := []) (wc := [oX9 aP P_seriesCount P_most P_ratio aD aI aG aU aT aQ aC P_recoveries]) (w1 := [oX9 aP P_seriesCount P_most P_ratio aD aI aG aU aT aQ aC P_recoveries]) (wr := [oX2 aD aDc D_writesDone D_writesLeft D_down, rI aDc cI 4096 D_cells, oX3 aI aD, oX4 aG aD G_logged, oX8 aU aD U_place U_bitsRead U_started U_time U_value U_rise, oX0 aQ aI aG aU Q_ratio aF aZ Q_looks Q_unpacked, oX6 aF F_first F_last F_points F_least F_greatest F_sum, oX6 aZ Z_first Z_last Z_points Z_least Z_greatest Z_sum]) (wb := [oX9 aP P_seriesCount P_most P_ratio aD aI aG aU aT aQ aC P_recoveries, oX2 aD aDc D_writesDone D_writesLeft D_down, rI aDc cI 4096 D_cells, oX3 aI aD, oX4 aG aD G_logged, oX8 aU aD U_place U_bitsRead U_started U_time U_value U_rise, oX0 aQ aI aG aU Q_ratio aF aZ Q_looks Q_unpacked, oX6 aF F_first F_last F_points F_least F_greatest F_sum, oX6 aZ Z_first Z_last Z_points Z_least Z_greatest Z_sum]) hx hb hml hown htc hN hX (x_X9_throwUnlessSeries l hST G cI cZ cJ aP aD aI aG aU aT aQ aC P_seriesCount P_most P_ratio P_recoveries p0 hE_5 c_7) mw_849 mw_851 mp_31 mw_1 mw_852 hd_X9_throwUnlessSeries ⟨rfl, rfl⟩ ⟨Nat.le_of_ble_eq_true rfl, Nat.le_of_ble_eq_true rfl⟩ hK hw4 hA [0] [1, 2, 3, 4, 5, 6, 7, 8] [8, 0, 1, 2, 3, 4, 5, 6, 7] rfl rfl rfl rfl rfl (by decide) rfl rfl rfl 0 rfl rfl rfl rfl hl0.1 rfl (Nat.le_of_ble_eq_true rfl) dX9_aggSum_6 ⟨Nat.le_of_ble_eq_true rfl, Nat.le_of_ble_eq_true rfl⟩ (fun H9 locs9 q9 ce9 hw9 h91 h92 h93 => ?_)
      cases hfin
      rw [hQQ]
      exact xt_out hT hlocks hw9 h91 h92 h93
  · replace hfin := it_f c_3 hfin
    refine xtV (a := aP) (As := []) (rest := []) (wc := [oX9 aP P_seriesCount P_most P_ratio aD aI aG aU aT aQ aC P_recoveries, oX2 aD aDc D_writesDone D_writesLeft D_down]) (w1 := [oX9 aP P_seriesCount P_most P_ratio aD aI aG aU aT aQ aC P_recoveries, oX2 aD aDc D_writesDone D_writesLeft D_down]) (wr := [rI aDc cI 4096 D_cells, oX3 aI aD, oX4 aG aD G_logged, oX8 aU aD U_place U_bitsRead U_started U_time U_value U_rise, oX0 aQ aI aG aU Q_ratio aF aZ Q_looks Q_unpacked, oX6 aF F_first F_last F_points F_least F_greatest F_sum, oX6 aZ Z_first Z_last Z_points Z_least Z_greatest Z_sum]) (wb := [oX9 aP P_seriesCount P_most P_ratio aD aI aG aU aT aQ aC P_recoveries, oX2 aD aDc D_writesDone D_writesLeft D_down, rI aDc cI 4096 D_cells, oX3 aI aD, oX4 aG aD G_logged, oX8 aU aD U_place U_bitsRead U_started U_time U_value U_rise, oX0 aQ aI aG aU Q_ratio aF aZ Q_looks Q_unpacked, oX6 aF F_first F_last F_points F_least F_greatest F_sum, oX6 aZ Z_first Z_last Z_points Z_least Z_greatest Z_sum]) hx hb hml hown htc hN hX (x_X9_throwUnlessUp l hST G cI cZ cJ aP aD aI aG aU aT aQ aC aDc P_seriesCount P_most P_ratio P_recoveries D_writesDone D_writesLeft D_down  hE_1 c_3) mw_777 mw_779 mp_29 mw_1 mw_780 hd_X9_throwUnlessUp ⟨rfl, rfl⟩ ⟨Nat.le_of_ble_eq_true rfl, Nat.le_of_ble_eq_true rfl⟩ hK hw0 hA [0, 1] [2, 3, 4, 5, 6, 7, 8] [7, 8, 0, 1, 2, 3, 4, 5, 6] rfl rfl rfl rfl rfl (by decide) rfl rfl rfl 0 rfl rfl rfl rfl hl0.1 rfl (Nat.le_of_ble_eq_true rfl) dX9_aggSum_1 ⟨Nat.le_of_ble_eq_true rfl, Nat.le_of_ble_eq_true rfl⟩ (fun H9 locs9 q9 ce9 hw9 h91 h92 h93 => ?_)
    cases hfin
    rw [hQQ]
    exact xt_out hT hlocks hw9 h91 h92 h93
abbrev rm_X9_sizes : Room := { frames := 7, cells := 0, slots := 0, locals := 129 }
abbrev rx_X9_sizes : Room := { frames := 7, cells := 1, slots := 6, locals := 129 }
theorem hd_X9_sizes : yX9_sizes.cls = RX9 ∧ yX9_sizes.cls ≠ "java/lang/invoke/MethodHandle" ∧ yX9_sizes.cls ≠ "java/lang/invoke/VarHandle" ∧ (parseMethodDescriptor yX9_sizes.desc).map (fun d => d.parameters.length) = some 2 := by decide +kernel
set_option maxHeartbeats 4000000 in
set_option maxRecDepth 100000 in
theorem c_X9_sizes (l : Launch) (G : va_G) (cI cZ cJ : ClassId) (aP aD aI aG aU aT aQ aC aDc : Nat) (P_seriesCount : Int32) (P_most : Int32) (P_ratio : Int32) (P_recoveries : Int32) (D_writesDone : Int32) (D_writesLeft : Int32) (D_down : Int32) (D_cells : Nat → Int32) (G_logged : Int32) (p0 : Int32) (p1 : Int32) {r : Int32} (hfin : m_X9_sizes P_seriesCount P_ratio D_down D_cells G_logged p0 p1 = some ((0 : Int32), r)) : CT l yX9_sizes cX9_sizes 3 (some .int) rm_X9_sizes G (tyC cI cZ cJ) [.ref aP, .int p0, .int p1] [oX9 aP P_seriesCount P_most P_ratio aD aI aG aU aT aQ aC P_recoveries, oX2 aD aDc D_writesDone D_writesLeft D_down, rI aDc cI 4096 D_cells, oX3 aI aD, oX4 aG aD G_logged] (some (.int r)) [oX9 aP P_seriesCount P_most P_ratio aD aI aG aU aT aQ aC P_recoveries, oX2 aD aDc D_writesDone D_writesLeft D_down, rI aDc cI 4096 D_cells, oX3 aI aD, oX4 aG aD G_logged] := by
  refine CT.ofW (lvl := [(0, .ref aP), (1, .int p0), (2, .int p1)]) (by decide) (Nat.le_of_ble_eq_true rfl) rfl ?_
  intro p e s m args below meth c A ls0 QQ hQQ hx hb hml hr hlocks htc hN hown hK hA hw0 hl0
  rw [m_X9_sizes] at hfin
  refine lv_aload_n hx hb dX9_sizes_0 rfl (lv_at hl0 0 rfl) ?_
  replace hfin := ob1_some hfin
  obtain ⟨k_2, hE_1, hfin⟩ := hfin
  by_cases c_3 : k_2 = 0
  · replace hfin := it_t c_3 hfin
    subst c_3
    refine ctV (a := aP) (As := []) (rest := []) (st1 := []) (wc := [oX9 aP P_seriesCount P_most P_ratio aD aI aG aU aT aQ aC P_recoveries, oX2 aD aDc D_writesDone D_writesLeft D_down]) (w1 := [oX9 aP P_seriesCount P_most P_ratio aD aI aG aU aT aQ aC P_recoveries, oX2 aD aDc D_writesDone D_writesLeft D_down]) (wr := [rI aDc cI 4096 D_cells, oX3 aI aD, oX4 aG aD G_logged]) (wb := [oX9 aP P_seriesCount P_most P_ratio aD aI aG aU aT aQ aC P_recoveries, oX2 aD aDc D_writesDone D_writesLeft D_down, rI aDc cI 4096 D_cells, oX3 aI aD, oX4 aG aD G_logged]) (v := none) hx hb hml hown htc hN (c_X9_throwUnlessUp l G cI cZ cJ aP aD aI aG aU aT aQ aC aDc P_seriesCount P_most P_ratio P_recoveries D_writesDone D_writesLeft D_down  hE_1) mw_777 mw_779 mp_29 mw_1 mw_780 hd_X9_throwUnlessUp ⟨rfl, rfl⟩ ⟨Nat.le_of_ble_eq_true rfl, Nat.le_of_ble_eq_true rfl⟩ hK hw0 hA [0, 1] [2, 3, 4] [3, 4, 0, 1, 2] rfl rfl rfl rfl rfl (by decide) rfl rfl rfl 0 rfl rfl rfl rfl hl0.1 rfl rfl (Nat.le_of_ble_eq_true rfl) dX9_sizes_1 ⟨Nat.zero_le _, Nat.zero_le _⟩ (fun H4 locs4 hw4 => ?_)
    clear hw0
    refine lv_aload_n hx hb dX9_sizes_4 rfl (lv_at hl0 0 rfl) ?_
    refine lv_iload_n hx hb dX9_sizes_5 rfl (lv_at hl0 1 rfl) ?_
    replace hfin := ob1_some hfin
    obtain ⟨k_6, hE_5, hfin⟩ := hfin
    by_cases c_7 : k_6 = 0
    · replace hfin := it_t c_7 hfin
      subst c_7
      refine ctV (a := aP) (As := [.int p0]) (rest := []) (st1 := []) (wc := [oX9 aP P_seriesCount P_most P_ratio aD aI aG aU aT aQ aC P_recoveries]) (w1 := [oX9 aP P_seriesCount P_most P_ratio aD aI aG aU aT aQ aC P_recoveries]) (wr := [oX2 aD aDc D_writesDone D_writesLeft D_down, rI aDc cI 4096 D_cells, oX3 aI aD, oX4 aG aD G_logged]) (wb := [oX9 aP P_seriesCount P_most P_ratio aD aI aG aU aT aQ aC P_recoveries, oX2 aD aDc D_writesDone D_writesLeft D_down, rI aDc cI 4096 D_cells, oX3 aI aD, oX4 aG aD G_logged]) (v := none) hx hb hml hown htc hN (c_X9_throwUnlessSeries l G cI cZ cJ aP aD aI aG aU aT aQ aC P_seriesCount P_most P_ratio P_recoveries p0 hE_5) mw_849 mw_851 mp_31 mw_1 mw_852 hd_X9_throwUnlessSeries ⟨rfl, rfl⟩ ⟨Nat.le_of_ble_eq_true rfl, Nat.le_of_ble_eq_true rfl⟩ hK hw4 hA [0] [1, 2, 3, 4] [4, 0, 1, 2, 3] rfl rfl rfl rfl rfl (by decide) rfl rfl rfl 0 rfl rfl rfl rfl hl0.1 rfl rfl (Nat.le_of_ble_eq_true rfl) dX9_sizes_6 ⟨Nat.zero_le _, Nat.zero_le _⟩ (fun H8 locs8 hw8 => ?_)
      clear hw4 H4 locs4
      refine lv_iload_n hx hb dX9_sizes_9 rfl (lv_at hl0 2 rfl) ?_
      by_cases c_9 : p1 = (0 : Int32)
      · replace hfin := it_t c_9 hfin
        refine lv_tableIn (tgt := 36) hx hb dX9_sizes_10 (by rw [c_9]; decide) (by rw [c_9]; decide) (by rw [c_9]; rfl) (by decide) ?_
        refine lv_aload_n hx hb dX9_sizes_36 rfl (lv_at hl0 0 rfl) ?_
        refine lv_iload_n hx hb dX9_sizes_37 rfl (lv_at hl0 1 rfl) ?_
        replace hfin := ob1_some hfin
        obtain ⟨r_11, hE_10, hfin⟩ := hfin
        refine ctV (a := aP) (As := [.int p0]) (rest := []) (st1 := [.int r_11]) (wc := [oX9 aP P_seriesCount P_most P_ratio aD aI aG aU aT aQ aC P_recoveries, oX2 aD aDc D_writesDone D_writesLeft D_down, rI aDc cI 4096 D_cells, oX3 aI aD]) (w1 := [oX9 aP P_seriesCount P_most P_ratio aD aI aG aU aT aQ aC P_recoveries, oX2 aD aDc D_writesDone D_writesLeft D_down, rI aDc cI 4096 D_cells, oX3 aI aD]) (wr := [oX4 aG aD G_logged]) (wb := [oX9 aP P_seriesCount P_most P_ratio aD aI aG aU aT aQ aC P_recoveries, oX2 aD aDc D_writesDone D_writesLeft D_down, rI aDc cI 4096 D_cells, oX3 aI aD, oX4 aG aD G_logged]) (v := (some (.int r_11))) hx hb hml hown htc hN (c_X9_chunksOf l G cI cZ cJ aP aD aI aG aU aT aQ aC aDc P_seriesCount P_most P_ratio P_recoveries D_writesDone D_writesLeft D_down D_cells p0 hE_10) mw_891 mw_893 mp_32 mw_1 mw_894 hd_X9_chunksOf ⟨rfl, rfl⟩ ⟨Nat.le_of_ble_eq_true rfl, Nat.le_of_ble_eq_true rfl⟩ hK hw8 hA [0, 1, 2, 3] [4] [1, 2, 3, 4, 0] rfl rfl rfl rfl rfl (by decide) rfl rfl rfl 0 rfl rfl rfl rfl hl0.1 rfl rfl (Nat.le_of_ble_eq_true rfl) dX9_sizes_38 ⟨Nat.zero_le _, Nat.zero_le _⟩ (fun H12 locs12 hw12 => ?_)
        clear hw8 H8 locs8
        cases hfin
        rw [hQQ]
        exact ct_iret hx hb hr hlocks hw12.1 hw12.2.1 hw12.2.2 dX9_sizes_41
      · replace hfin := it_f c_9 hfin
        by_cases c_13 : p1 = (1 : Int32)
        · replace hfin := it_t c_13 hfin
          refine lv_tableIn (tgt := 42) hx hb dX9_sizes_10 (by rw [c_13]; decide) (by rw [c_13]; decide) (by rw [c_13]; rfl) (by decide) ?_
          refine lv_aload_n hx hb dX9_sizes_42 rfl (lv_at hl0 0 rfl) ?_
          refine va_get (D := G) (ci := 9) (v := .ref aG) (C := RX9) (T := TX9) (N := 11) hx hb htc iX9 hown hK hw8.1 0 rfl rfl 5 (by decide) (htc _ mw_308) (fun _ h9 => h9) rfl dX9_sizes_43 ?_
          refine lv_iload_n hx hb dX9_sizes_46 rfl (lv_at hl0 1 rfl) ?_
          replace hfin := ob1_some hfin
          obtain ⟨r_15, hE_14, hfin⟩ := hfin
          refine ctV (a := aG) (As := [.int p0]) (rest := []) (st1 := [.int r_15]) (wc := [oX2 aD aDc D_writesDone D_writesLeft D_down, rI aDc cI 4096 D_cells, oX4 aG aD G_logged]) (w1 := [oX2 aD aDc D_writesDone D_writesLeft D_down, rI aDc cI 4096 D_cells, oX4 aG aD G_logged]) (wr := [oX9 aP P_seriesCount P_most P_ratio aD aI aG aU aT aQ aC P_recoveries, oX3 aI aD]) (wb := [oX9 aP P_seriesCount P_most P_ratio aD aI aG aU aT aQ aC P_recoveries, oX2 aD aDc D_writesDone D_writesLeft D_down, rI aDc cI 4096 D_cells, oX3 aI aD, oX4 aG aD G_logged]) (v := (some (.int r_15))) hx hb hml hown htc hN (c_X4_pointsOf l G cI cZ cJ aD aDc aG D_writesDone D_writesLeft D_down D_cells G_logged p0 hE_14) mw_895 mw_896 mw_897 mw_5 mw_898 hd_X4_pointsOf ⟨rfl, rfl⟩ ⟨Nat.le_of_ble_eq_true rfl, Nat.le_of_ble_eq_true rfl⟩ hK hw8 hA [1, 2, 4] [0, 3] [0, 2, 3, 1, 4] rfl rfl rfl rfl rfl (by decide) rfl rfl rfl 2 rfl rfl rfl rfl hl0.1 rfl rfl (Nat.le_of_ble_eq_true rfl) dX9_sizes_47 ⟨Nat.zero_le _, Nat.zero_le _⟩ (fun H16 locs16 hw16 => ?_)
          clear hw8 H8 locs8
          cases hfin
          rw [hQQ]
          exact ct_iret hx hb hr hlocks hw16.1 hw16.2.1 hw16.2.2 dX9_sizes_50
        · replace hfin := it_f c_13 hfin
          by_cases c_17 : p1 = (2 : Int32)
          · replace hfin := it_t c_17 hfin
            refine lv_tableIn (tgt := 51) hx hb dX9_sizes_10 (by rw [c_17]; decide) (by rw [c_17]; decide) (by rw [c_17]; rfl) (by decide) ?_
            refine lv_aload_n hx hb dX9_sizes_51 rfl (lv_at hl0 0 rfl) ?_
            refine lv_iload_n hx hb dX9_sizes_52 rfl (lv_at hl0 1 rfl) ?_
            replace hfin := ob1_some hfin
            obtain ⟨r_19, hE_18, hfin⟩ := hfin
            refine ctV (a := aP) (As := [.int p0]) (rest := []) (st1 := [.int r_19]) (wc := [oX9 aP P_seriesCount P_most P_ratio aD aI aG aU aT aQ aC P_recoveries, oX2 aD aDc D_writesDone D_writesLeft D_down, rI aDc cI 4096 D_cells, oX3 aI aD]) (w1 := [oX9 aP P_seriesCount P_most P_ratio aD aI aG aU aT aQ aC P_recoveries, oX2 aD aDc D_writesDone D_writesLeft D_down, rI aDc cI 4096 D_cells, oX3 aI aD]) (wr := [oX4 aG aD G_logged]) (wb := [oX9 aP P_seriesCount P_most P_ratio aD aI aG aU aT aQ aC P_recoveries, oX2 aD aDc D_writesDone D_writesLeft D_down, rI aDc cI 4096 D_cells, oX3 aI aD, oX4 aG aD G_logged]) (v := (some (.int r_19))) hx hb hml hown htc hN (c_X9_groupsOf l G cI cZ cJ aP aD aI aG aU aT aQ aC aDc P_seriesCount P_most P_ratio P_recoveries D_writesDone D_writesLeft D_down D_cells p0 hE_18) mw_899 mw_901 mp_33 mw_1 mw_902 hd_X9_groupsOf ⟨rfl, rfl⟩ ⟨Nat.le_of_ble_eq_true rfl, Nat.le_of_ble_eq_true rfl⟩ hK hw8 hA [0, 1, 2, 3] [4] [1, 2, 3, 4, 0] rfl rfl rfl rfl rfl (by decide) rfl rfl rfl 0 rfl rfl rfl rfl hl0.1 rfl rfl (Nat.le_of_ble_eq_true rfl) dX9_sizes_53 ⟨Nat.zero_le _, Nat.zero_le _⟩ (fun H20 locs20 hw20 => ?_)
            clear hw8 H8 locs8
            cases hfin
            rw [hQQ]
            exact ct_iret hx hb hr hlocks hw20.1 hw20.2.1 hw20.2.2 dX9_sizes_56
          · replace hfin := it_f c_17 hfin
            refine lv_tableOut (tgt := 57) hx hb dX9_sizes_10 (sw_out2 c_9 c_13 c_17) (by decide) ?_
            exact absurd (congrArg Prod.fst (Option.some.inj hfin)) (show ¬ (3 : Int32) = 0 by decide)
    · replace hfin := it_f c_7 hfin
      exact absurd (congrArg Prod.fst (Option.some.inj hfin)) c_7
  · replace hfin := it_f c_3 hfin
    exact absurd (congrArg Prod.fst (Option.some.inj hfin)) c_3
set_option maxHeartbeats 4000000 in
set_option maxRecDepth 100000 in
theorem x_X9_sizes (l : Launch) (hST : l.stackTraces = false) (G : va_G) (cI cZ cJ : ClassId) (aP aD aI aG aU aT aQ aC aDc : Nat) (P_seriesCount : Int32) (P_most : Int32) (P_ratio : Int32) (P_recoveries : Int32) (D_writesDone : Int32) (D_writesLeft : Int32) (D_down : Int32) (D_cells : Nat → Int32) (G_logged : Int32) (p0 : Int32) (p1 : Int32) {k : Int32} {r : Int32} (hfin : m_X9_sizes P_seriesCount P_ratio D_down D_cells G_logged p0 p1 = some (k, r)) (hk : ¬ k = 0) : XT l yX9_sizes cX9_sizes 3 (some .int) rx_X9_sizes G (tyC cI cZ cJ) [.ref aP, .int p0, .int p1] [oX9 aP P_seriesCount P_most P_ratio aD aI aG aU aT aQ aC P_recoveries, oX2 aD aDc D_writesDone D_writesLeft D_down, rI aDc cI 4096 D_cells, oX3 aI aD, oX4 aG aD G_logged] k [oX9 aP P_seriesCount P_most P_ratio aD aI aG aU aT aQ aC P_recoveries, oX2 aD aDc D_writesDone D_writesLeft D_down, rI aDc cI 4096 D_cells, oX3 aI aD, oX4 aG aD G_logged] := by
  refine XT.ofW (lvl := [(0, .ref aP), (1, .int p0), (2, .int p1)]) (by decide) (Nat.le_of_ble_eq_true rfl) rfl ?_
  intro p e s m args below meth c A ls0 QQ hQQ hT hX hx hb hml hr hlocks htc hN hown hK hA hw0 hl0
  rw [m_X9_sizes] at hfin
  refine lv_aload_n hx hb dX9_sizes_0 rfl (lv_at hl0 0 rfl) ?_
  replace hfin := ob1_some hfin
  obtain ⟨k_2, hE_1, hfin⟩ := hfin
  by_cases c_3 : k_2 = 0
  · replace hfin := it_t c_3 hfin
    subst c_3
    refine ctV (a := aP) (As := []) (rest := []) (st1 := []) (wc := [oX9 aP P_seriesCount P_most P_ratio aD aI aG aU aT aQ aC P_recoveries, oX2 aD aDc D_writesDone D_writesLeft D_down]) (w1 := [oX9 aP P_seriesCount P_most P_ratio aD aI aG aU aT aQ aC P_recoveries, oX2 aD aDc D_writesDone D_writesLeft D_down]) (wr := [rI aDc cI 4096 D_cells, oX3 aI aD, oX4 aG aD G_logged]) (wb := [oX9 aP P_seriesCount P_most P_ratio aD aI aG aU aT aQ aC P_recoveries, oX2 aD aDc D_writesDone D_writesLeft D_down, rI aDc cI 4096 D_cells, oX3 aI aD, oX4 aG aD G_logged]) (v := none) hx hb hml hown htc hN (c_X9_throwUnlessUp l G cI cZ cJ aP aD aI aG aU aT aQ aC aDc P_seriesCount P_most P_ratio P_recoveries D_writesDone D_writesLeft D_down  hE_1) mw_777 mw_779 mp_29 mw_1 mw_780 hd_X9_throwUnlessUp ⟨rfl, rfl⟩ ⟨Nat.le_of_ble_eq_true rfl, Nat.le_of_ble_eq_true rfl⟩ hK hw0 hA [0, 1] [2, 3, 4] [3, 4, 0, 1, 2] rfl rfl rfl rfl rfl (by decide) rfl rfl rfl 0 rfl rfl rfl rfl hl0.1 rfl rfl (Nat.le_of_ble_eq_true rfl) dX9_sizes_1 ⟨Nat.zero_le _, Nat.zero_le _⟩ (fun H4 locs4 hw4 => ?_)
    clear hw0
    refine lv_aload_n hx hb dX9_sizes_4 rfl (lv_at hl0 0 rfl) ?_
    refine lv_iload_n hx hb dX9_sizes_5 rfl (lv_at hl0 1 rfl) ?_
    replace hfin := ob1_some hfin
    obtain ⟨k_6, hE_5, hfin⟩ := hfin
    by_cases c_7 : k_6 = 0
    · replace hfin := it_t c_7 hfin
      subst c_7
      refine ctV (a := aP) (As := [.int p0]) (rest := []) (st1 := []) (wc := [oX9 aP P_seriesCount P_most P_ratio aD aI aG aU aT aQ aC P_recoveries]) (w1 := [oX9 aP P_seriesCount P_most P_ratio aD aI aG aU aT aQ aC P_recoveries]) (wr := [oX2 aD aDc D_writesDone D_writesLeft D_down, rI aDc cI 4096 D_cells, oX3 aI aD, oX4 aG aD G_logged]) (wb := [oX9 aP P_seriesCount P_most P_ratio aD aI aG aU aT aQ aC P_recoveries, oX2 aD aDc D_writesDone D_writesLeft D_down, rI aDc cI 4096 D_cells, oX3 aI aD, oX4 aG aD G_logged]) (v := none) hx hb hml hown htc hN (c_X9_throwUnlessSeries l G cI cZ cJ aP aD aI aG aU aT aQ aC P_seriesCount P_most P_ratio P_recoveries p0 hE_5) mw_849 mw_851 mp_31 mw_1 mw_852 hd_X9_throwUnlessSeries ⟨rfl, rfl⟩ ⟨Nat.le_of_ble_eq_true rfl, Nat.le_of_ble_eq_true rfl⟩ hK hw4 hA [0] [1, 2, 3, 4] [4, 0, 1, 2, 3] rfl rfl rfl rfl rfl (by decide) rfl rfl rfl 0 rfl rfl rfl rfl hl0.1 rfl rfl (Nat.le_of_ble_eq_true rfl) dX9_sizes_6 ⟨Nat.zero_le _, Nat.zero_le _⟩ (fun H8 locs8 hw8 => ?_)
      clear hw4 H4 locs4
      refine lv_iload_n hx hb dX9_sizes_9 rfl (lv_at hl0 2 rfl) ?_
      by_cases c_9 : p1 = (0 : Int32)
      · replace hfin := it_t c_9 hfin
        refine lv_tableIn (tgt := 36) hx hb dX9_sizes_10 (by rw [c_9]; decide) (by rw [c_9]; decide) (by rw [c_9]; rfl) (by decide) ?_
        refine lv_aload_n hx hb dX9_sizes_36 rfl (lv_at hl0 0 rfl) ?_
        refine lv_iload_n hx hb dX9_sizes_37 rfl (lv_at hl0 1 rfl) ?_
        replace hfin := ob1_some hfin
        obtain ⟨r_11, hE_10, hfin⟩ := hfin
        refine ctV (a := aP) (As := [.int p0]) (rest := []) (st1 := [.int r_11]) (wc := [oX9 aP P_seriesCount P_most P_ratio aD aI aG aU aT aQ aC P_recoveries, oX2 aD aDc D_writesDone D_writesLeft D_down, rI aDc cI 4096 D_cells, oX3 aI aD]) (w1 := [oX9 aP P_seriesCount P_most P_ratio aD aI aG aU aT aQ aC P_recoveries, oX2 aD aDc D_writesDone D_writesLeft D_down, rI aDc cI 4096 D_cells, oX3 aI aD]) (wr := [oX4 aG aD G_logged]) (wb := [oX9 aP P_seriesCount P_most P_ratio aD aI aG aU aT aQ aC P_recoveries, oX2 aD aDc D_writesDone D_writesLeft D_down, rI aDc cI 4096 D_cells, oX3 aI aD, oX4 aG aD G_logged]) (v := (some (.int r_11))) hx hb hml hown htc hN (c_X9_chunksOf l G cI cZ cJ aP aD aI aG aU aT aQ aC aDc P_seriesCount P_most P_ratio P_recoveries D_writesDone D_writesLeft D_down D_cells p0 hE_10) mw_891 mw_893 mp_32 mw_1 mw_894 hd_X9_chunksOf ⟨rfl, rfl⟩ ⟨Nat.le_of_ble_eq_true rfl, Nat.le_of_ble_eq_true rfl⟩ hK hw8 hA [0, 1, 2, 3] [4] [1, 2, 3, 4, 0] rfl rfl rfl rfl rfl (by decide) rfl rfl rfl 0 rfl rfl rfl rfl hl0.1 rfl rfl (Nat.le_of_ble_eq_true rfl) dX9_sizes_38 ⟨Nat.zero_le _, Nat.zero_le _⟩ (fun H12 locs12 hw12 => ?_)
        clear hw8 H8 locs8
        exact absurd (congrArg Prod.fst (Option.some.inj hfin)).symm hk
      · replace hfin := it_f c_9 hfin
        by_cases c_13 : p1 = (1 : Int32)
        · replace hfin := it_t c_13 hfin
          refine lv_tableIn (tgt := 42) hx hb dX9_sizes_10 (by rw [c_13]; decide) (by rw [c_13]; decide) (by rw [c_13]; rfl) (by decide) ?_
          refine lv_aload_n hx hb dX9_sizes_42 rfl (lv_at hl0 0 rfl) ?_
          refine va_get (D := G) (ci := 9) (v := .ref aG) (C := RX9) (T := TX9) (N := 11) hx hb htc iX9 hown hK hw8.1 0 rfl rfl 5 (by decide) (htc _ mw_308) (fun _ h9 => h9) rfl dX9_sizes_43 ?_
          refine lv_iload_n hx hb dX9_sizes_46 rfl (lv_at hl0 1 rfl) ?_
          replace hfin := ob1_some hfin
          obtain ⟨r_15, hE_14, hfin⟩ := hfin
          refine ctV (a := aG) (As := [.int p0]) (rest := []) (st1 := [.int r_15]) (wc := [oX2 aD aDc D_writesDone D_writesLeft D_down, rI aDc cI 4096 D_cells, oX4 aG aD G_logged]) (w1 := [oX2 aD aDc D_writesDone D_writesLeft D_down, rI aDc cI 4096 D_cells, oX4 aG aD G_logged]) (wr := [oX9 aP P_seriesCount P_most P_ratio aD aI aG aU aT aQ aC P_recoveries, oX3 aI aD]) (wb := [oX9 aP P_seriesCount P_most P_ratio aD aI aG aU aT aQ aC P_recoveries, oX2 aD aDc D_writesDone D_writesLeft D_down, rI aDc cI 4096 D_cells, oX3 aI aD, oX4 aG aD G_logged]) (v := (some (.int r_15))) hx hb hml hown htc hN (c_X4_pointsOf l G cI cZ cJ aD aDc aG D_writesDone D_writesLeft D_down D_cells G_logged p0 hE_14) mw_895 mw_896 mw_897 mw_5 mw_898 hd_X4_pointsOf ⟨rfl, rfl⟩ ⟨Nat.le_of_ble_eq_true rfl, Nat.le_of_ble_eq_true rfl⟩ hK hw8 hA [1, 2, 4] [0, 3] [0, 2, 3, 1, 4] rfl rfl rfl rfl rfl (by decide) rfl rfl rfl 2 rfl rfl rfl rfl hl0.1 rfl rfl (Nat.le_of_ble_eq_true rfl) dX9_sizes_47 ⟨Nat.zero_le _, Nat.zero_le _⟩ (fun H16 locs16 hw16 => ?_)
          clear hw8 H8 locs8
          exact absurd (congrArg Prod.fst (Option.some.inj hfin)).symm hk
        · replace hfin := it_f c_13 hfin
          by_cases c_17 : p1 = (2 : Int32)
          · replace hfin := it_t c_17 hfin
            refine lv_tableIn (tgt := 51) hx hb dX9_sizes_10 (by rw [c_17]; decide) (by rw [c_17]; decide) (by rw [c_17]; rfl) (by decide) ?_
            refine lv_aload_n hx hb dX9_sizes_51 rfl (lv_at hl0 0 rfl) ?_
            refine lv_iload_n hx hb dX9_sizes_52 rfl (lv_at hl0 1 rfl) ?_
            replace hfin := ob1_some hfin
            obtain ⟨r_19, hE_18, hfin⟩ := hfin
            refine ctV (a := aP) (As := [.int p0]) (rest := []) (st1 := [.int r_19]) (wc := [oX9 aP P_seriesCount P_most P_ratio aD aI aG aU aT aQ aC P_recoveries, oX2 aD aDc D_writesDone D_writesLeft D_down, rI aDc cI 4096 D_cells, oX3 aI aD]) (w1 := [oX9 aP P_seriesCount P_most P_ratio aD aI aG aU aT aQ aC P_recoveries, oX2 aD aDc D_writesDone D_writesLeft D_down, rI aDc cI 4096 D_cells, oX3 aI aD]) (wr := [oX4 aG aD G_logged]) (wb := [oX9 aP P_seriesCount P_most P_ratio aD aI aG aU aT aQ aC P_recoveries, oX2 aD aDc D_writesDone D_writesLeft D_down, rI aDc cI 4096 D_cells, oX3 aI aD, oX4 aG aD G_logged]) (v := (some (.int r_19))) hx hb hml hown htc hN (c_X9_groupsOf l G cI cZ cJ aP aD aI aG aU aT aQ aC aDc P_seriesCount P_most P_ratio P_recoveries D_writesDone D_writesLeft D_down D_cells p0 hE_18) mw_899 mw_901 mp_33 mw_1 mw_902 hd_X9_groupsOf ⟨rfl, rfl⟩ ⟨Nat.le_of_ble_eq_true rfl, Nat.le_of_ble_eq_true rfl⟩ hK hw8 hA [0, 1, 2, 3] [4] [1, 2, 3, 4, 0] rfl rfl rfl rfl rfl (by decide) rfl rfl rfl 0 rfl rfl rfl rfl hl0.1 rfl rfl (Nat.le_of_ble_eq_true rfl) dX9_sizes_53 ⟨Nat.zero_le _, Nat.zero_le _⟩ (fun H20 locs20 hw20 => ?_)
            clear hw8 H8 locs8
            exact absurd (congrArg Prod.fst (Option.some.inj hfin)).symm hk
          · replace hfin := it_f c_17 hfin
            refine lv_tableOut (tgt := 57) hx hb dX9_sizes_10 (sw_out2 c_9 c_13 c_17) (by decide) ?_
            cases hfin
            rw [hQQ]
            exact xt_throw (text := "no such size") hx hb hml hST hown htc hT hlocks hX exN_3 (by decide) hw8 hl0.1 dX9_sizes_57 dX9_sizes_60 dX9_sizes_61 dX9_sizes_63 dX9_sizes_66 (Nat.le_of_ble_eq_true rfl) (Nat.le_of_ble_eq_true rfl) (Nat.le_of_ble_eq_true rfl) (Nat.le_of_ble_eq_true rfl)
    · replace hfin := it_f c_7 hfin
      refine xtV (a := aP) (As := [.int p0]) (rest := []) (wc := [oX9 aP P_seriesCount P_most P_ratio aD aI aG aU aT aQ aC P_recoveries]) (w1 := [oX9 aP P_seriesCount P_most P_ratio aD aI aG aU aT aQ aC P_recoveries]) (wr := [oX2 aD aDc D_writesDone D_writesLeft D_down, rI aDc cI 4096 D_cells, oX3 aI aD, oX4 aG aD G_logged]) (wb := [oX9 aP P_seriesCount P_most P_ratio aD aI aG aU aT aQ aC P_recoveries, oX2 aD aDc D_writesDone D_writesLeft D_down, rI aDc cI 4096 D_cells, oX3 aI aD, oX4 aG aD G_logged]) hx hb hml hown htc hN hX (x_X9_throwUnlessSeries l hST G cI cZ cJ aP aD aI aG aU aT aQ aC P_seriesCount P_most P_ratio P_recoveries p0 hE_5 c_7) mw_849 mw_851 mp_31 mw_1 mw_852 hd_X9_throwUnlessSeries ⟨rfl, rfl⟩ ⟨Nat.le_of_ble_eq_true rfl, Nat.le_of_ble_eq_true rfl⟩ hK hw4 hA [0] [1, 2, 3, 4] [4, 0, 1, 2, 3] rfl rfl rfl rfl rfl (by decide) rfl rfl rfl 0 rfl rfl rfl rfl hl0.1 rfl (Nat.le_of_ble_eq_true rfl) dX9_sizes_6 ⟨Nat.le_of_ble_eq_true rfl, Nat.le_of_ble_eq_true rfl⟩ (fun H9 locs9 q9 ce9 hw9 h91 h92 h93 => ?_)
      cases hfin
      rw [hQQ]
      exact xt_out hT hlocks hw9 h91 h92 h93
  · replace hfin := it_f c_3 hfin
    refine xtV (a := aP) (As := []) (rest := []) (wc := [oX9 aP P_seriesCount P_most P_ratio aD aI aG aU aT aQ aC P_recoveries, oX2 aD aDc D_writesDone D_writesLeft D_down]) (w1 := [oX9 aP P_seriesCount P_most P_ratio aD aI aG aU aT aQ aC P_recoveries, oX2 aD aDc D_writesDone D_writesLeft D_down]) (wr := [rI aDc cI 4096 D_cells, oX3 aI aD, oX4 aG aD G_logged]) (wb := [oX9 aP P_seriesCount P_most P_ratio aD aI aG aU aT aQ aC P_recoveries, oX2 aD aDc D_writesDone D_writesLeft D_down, rI aDc cI 4096 D_cells, oX3 aI aD, oX4 aG aD G_logged]) hx hb hml hown htc hN hX (x_X9_throwUnlessUp l hST G cI cZ cJ aP aD aI aG aU aT aQ aC aDc P_seriesCount P_most P_ratio P_recoveries D_writesDone D_writesLeft D_down  hE_1 c_3) mw_777 mw_779 mp_29 mw_1 mw_780 hd_X9_throwUnlessUp ⟨rfl, rfl⟩ ⟨Nat.le_of_ble_eq_true rfl, Nat.le_of_ble_eq_true rfl⟩ hK hw0 hA [0, 1] [2, 3, 4] [3, 4, 0, 1, 2] rfl rfl rfl rfl rfl (by decide) rfl rfl rfl 0 rfl rfl rfl rfl hl0.1 rfl (Nat.le_of_ble_eq_true rfl) dX9_sizes_1 ⟨Nat.le_of_ble_eq_true rfl, Nat.le_of_ble_eq_true rfl⟩ (fun H9 locs9 q9 ce9 hw9 h91 h92 h93 => ?_)
    cases hfin
    rw [hQQ]
    exact xt_out hT hlocks hw9 h91 h92 h93
abbrev rm_X9_chunk : Room := { frames := 7, cells := 0, slots := 0, locals := 108 }
abbrev rx_X9_chunk : Room := { frames := 7, cells := 1, slots := 6, locals := 108 }
theorem hd_X9_chunk : yX9_chunk.cls = RX9 ∧ yX9_chunk.cls ≠ "java/lang/invoke/MethodHandle" ∧ yX9_chunk.cls ≠ "java/lang/invoke/VarHandle" ∧ (parseMethodDescriptor yX9_chunk.desc).map (fun d => d.parameters.length) = some 3 := by decide +kernel
set_option maxHeartbeats 4000000 in
set_option maxRecDepth 100000 in
theorem c_X9_chunk (l : Launch) (G : va_G) (cI cZ cJ : ClassId) (aP aD aI aG aU aT aQ aC aDc : Nat) (P_seriesCount : Int32) (P_most : Int32) (P_ratio : Int32) (P_recoveries : Int32) (D_writesDone : Int32) (D_writesLeft : Int32) (D_down : Int32) (D_cells : Nat → Int32) (p0 : Int32) (p1 : Int32) (p2 : Int32) {r : Int32} (hfin : m_X9_chunk P_seriesCount D_down D_cells p0 p1 p2 = some ((0 : Int32), r)) : CT l yX9_chunk cX9_chunk 5 (some .int) rm_X9_chunk G (tyC cI cZ cJ) [.ref aP, .int p0, .int p1, .int p2] [oX9 aP P_seriesCount P_most P_ratio aD aI aG aU aT aQ aC P_recoveries, oX2 aD aDc D_writesDone D_writesLeft D_down, rI aDc cI 4096 D_cells, oX3 aI aD] (some (.int r)) [oX9 aP P_seriesCount P_most P_ratio aD aI aG aU aT aQ aC P_recoveries, oX2 aD aDc D_writesDone D_writesLeft D_down, rI aDc cI 4096 D_cells, oX3 aI aD] := by
  refine CT.ofW (lvl := [(0, .ref aP), (1, .int p0), (2, .int p1), (3, .int p2)]) (by decide) (Nat.le_of_ble_eq_true rfl) rfl ?_
  intro p e s m args below meth c A ls0 QQ hQQ hx hb hml hr hlocks htc hN hown hK hA hw0 hl0
  rw [m_X9_chunk] at hfin
  refine lv_aload_n hx hb dX9_chunk_0 rfl (lv_at hl0 0 rfl) ?_
  replace hfin := ob1_some hfin
  obtain ⟨k_2, hE_1, hfin⟩ := hfin
  by_cases c_3 : k_2 = 0
  · replace hfin := it_t c_3 hfin
    subst c_3
    refine ctV (a := aP) (As := []) (rest := []) (st1 := []) (wc := [oX9 aP P_seriesCount P_most P_ratio aD aI aG aU aT aQ aC P_recoveries, oX2 aD aDc D_writesDone D_writesLeft D_down]) (w1 := [oX9 aP P_seriesCount P_most P_ratio aD aI aG aU aT aQ aC P_recoveries, oX2 aD aDc D_writesDone D_writesLeft D_down]) (wr := [rI aDc cI 4096 D_cells, oX3 aI aD]) (wb := [oX9 aP P_seriesCount P_most P_ratio aD aI aG aU aT aQ aC P_recoveries, oX2 aD aDc D_writesDone D_writesLeft D_down, rI aDc cI 4096 D_cells, oX3 aI aD]) (v := none) hx hb hml hown htc hN (c_X9_throwUnlessUp l G cI cZ cJ aP aD aI aG aU aT aQ aC aDc P_seriesCount P_most P_ratio P_recoveries D_writesDone D_writesLeft D_down  hE_1) mw_777 mw_779 mp_29 mw_1 mw_780 hd_X9_throwUnlessUp ⟨rfl, rfl⟩ ⟨Nat.le_of_ble_eq_true rfl, Nat.le_of_ble_eq_true rfl⟩ hK hw0 hA [0, 1] [2, 3] [2, 3, 0, 1] rfl rfl rfl rfl rfl (by decide) rfl rfl rfl 0 rfl rfl rfl rfl hl0.1 rfl rfl (Nat.le_of_ble_eq_true rfl) dX9_chunk_1 ⟨Nat.zero_le _, Nat.zero_le _⟩ (fun H4 locs4 hw4 => ?_)
    clear hw0
    refine lv_aload_n hx hb dX9_chunk_4 rfl (lv_at hl0 0 rfl) ?_
    refine lv_iload_n hx hb dX9_chunk_5 rfl (lv_at hl0 1 rfl) ?_
    replace hfin := ob1_some hfin
    obtain ⟨k_6, hE_5, hfin⟩ := hfin
    by_cases c_7 : k_6 = 0
    · replace hfin := it_t c_7 hfin
      subst c_7
      refine ctV (a := aP) (As := [.int p0]) (rest := []) (st1 := []) (wc := [oX9 aP P_seriesCount P_most P_ratio aD aI aG aU aT aQ aC P_recoveries]) (w1 := [oX9 aP P_seriesCount P_most P_ratio aD aI aG aU aT aQ aC P_recoveries]) (wr := [oX2 aD aDc D_writesDone D_writesLeft D_down, rI aDc cI 4096 D_cells, oX3 aI aD]) (wb := [oX9 aP P_seriesCount P_most P_ratio aD aI aG aU aT aQ aC P_recoveries, oX2 aD aDc D_writesDone D_writesLeft D_down, rI aDc cI 4096 D_cells, oX3 aI aD]) (v := none) hx hb hml hown htc hN (c_X9_throwUnlessSeries l G cI cZ cJ aP aD aI aG aU aT aQ aC P_seriesCount P_most P_ratio P_recoveries p0 hE_5) mw_849 mw_851 mp_31 mw_1 mw_852 hd_X9_throwUnlessSeries ⟨rfl, rfl⟩ ⟨Nat.le_of_ble_eq_true rfl, Nat.le_of_ble_eq_true rfl⟩ hK hw4 hA [0] [1, 2, 3] [3, 0, 1, 2] rfl rfl rfl rfl rfl (by decide) rfl rfl rfl 0 rfl rfl rfl rfl hl0.1 rfl rfl (Nat.le_of_ble_eq_true rfl) dX9_chunk_6 ⟨Nat.zero_le _, Nat.zero_le _⟩ (fun H8 locs8 hw8 => ?_)
      clear hw4 H4 locs4
      refine lv_iload_n hx hb dX9_chunk_9 rfl (lv_at hl0 2 rfl) ?_
      refine lv_if_lt (tgt := 22) hx hb dX9_chunk_10 (by decide) (fun c_9 => ?_) (fun c_9 => ?_)
      · replace hfin := it_t c_9 hfin
        exact absurd (congrArg Prod.fst (Option.some.inj hfin)) (show ¬ (3 : Int32) = 0 by decide)
      · replace hfin := it_f c_9 hfin
        refine lv_iload_n hx hb dX9_chunk_13 rfl (lv_at hl0 2 rfl) ?_
        refine lv_aload_n hx hb dX9_chunk_14 rfl (lv_at hl0 0 rfl) ?_
        refine lv_iload_n hx hb dX9_chunk_15 rfl (lv_at hl0 1 rfl) ?_
        replace hfin := ob1_some hfin
        obtain ⟨r_11, hE_10, hfin⟩ := hfin
        refine ctV (a := aP) (As := [.int p0]) (rest := [.int p1]) (st1 := [.int r_11, .int p1]) (wc := [oX9 aP P_seriesCount P_most P_ratio aD aI aG aU aT aQ aC P_recoveries, oX2 aD aDc D_writesDone D_writesLeft D_down, rI aDc cI 4096 D_cells, oX3 aI aD]) (w1 := [oX9 aP P_seriesCount P_most P_ratio aD aI aG aU aT aQ aC P_recoveries, oX2 aD aDc D_writesDone D_writesLeft D_down, rI aDc cI 4096 D_cells, oX3 aI aD]) (wr := []) (wb := [oX9 aP P_seriesCount P_most P_ratio aD aI aG aU aT aQ aC P_recoveries, oX2 aD aDc D_writesDone D_writesLeft D_down, rI aDc cI 4096 D_cells, oX3 aI aD]) (v := (some (.int r_11))) hx hb hml hown htc hN (c_X9_chunksOf l G cI cZ cJ aP aD aI aG aU aT aQ aC aDc P_seriesCount P_most P_ratio P_recoveries D_writesDone D_writesLeft D_down D_cells p0 hE_10) mw_891 mw_893 mp_32 mw_1 mw_894 hd_X9_chunksOf ⟨rfl, rfl⟩ ⟨Nat.le_of_ble_eq_true rfl, Nat.le_of_ble_eq_true rfl⟩ hK hw8 hA [0, 1, 2, 3] [] [0, 1, 2, 3] rfl rfl rfl rfl rfl (by decide) rfl rfl rfl 0 rfl rfl rfl rfl hl0.1 rfl rfl (Nat.le_of_ble_eq_true rfl) dX9_chunk_16 ⟨Nat.zero_le _, Nat.zero_le _⟩ (fun H12 locs12 hw12 => ?_)
        clear hw8 H8 locs8
        refine lv_icmp_lt (tgt := 32) hx hb dX9_chunk_19 (by decide) (fun c_13 => ?_) (fun c_13 => ?_)
        · replace hfin := it_t c_13 hfin
          refine lv_aload_n hx hb dX9_chunk_32 rfl (lv_at hl0 0 rfl) ?_
          refine va_get (D := G) (ci := 9) (v := .ref aI) (C := RX9) (T := TX9) (N := 11) hx hb htc iX9 hown hK hw12.1 0 rfl rfl 4 (by decide) (htc _ mw_307) (fun _ h9 => h9) rfl dX9_chunk_33 ?_
          refine lv_iload_n hx hb dX9_chunk_36 rfl (lv_at hl0 1 rfl) ?_
          replace hfin := ob1_some hfin
          obtain ⟨r_15, hE_14, hfin⟩ := hfin
          refine ctV (a := aI) (As := [.int p0]) (rest := []) (st1 := [.int r_15]) (wc := [oX2 aD aDc D_writesDone D_writesLeft D_down, rI aDc cI 4096 D_cells, oX3 aI aD]) (w1 := [oX2 aD aDc D_writesDone D_writesLeft D_down, rI aDc cI 4096 D_cells, oX3 aI aD]) (wr := [oX9 aP P_seriesCount P_most P_ratio aD aI aG aU aT aQ aC P_recoveries]) (wb := [oX9 aP P_seriesCount P_most P_ratio aD aI aG aU aT aQ aC P_recoveries, oX2 aD aDc D_writesDone D_writesLeft D_down, rI aDc cI 4096 D_cells, oX3 aI aD]) (v := (some (.int r_15))) hx hb hml hown htc hN (c_X3_firstOf l G cI cZ cJ aD aDc aI D_writesDone D_writesLeft D_down D_cells p0 hE_14) mw_394 mw_375 mw_376 mw_4 mw_377 hd_X3_firstOf ⟨rfl, rfl⟩ ⟨Nat.le_of_ble_eq_true rfl, Nat.le_of_ble_eq_true rfl⟩ hK hw12 hA [1, 2, 3] [0] [0, 1, 2, 3] rfl rfl rfl rfl rfl (by decide) rfl rfl rfl 2 rfl rfl rfl rfl hl0.1 rfl rfl (Nat.le_of_ble_eq_true rfl) dX9_chunk_37 ⟨Nat.zero_le _, Nat.zero_le _⟩ (fun H16 locs16 hw16 => ?_)
          clear hw12 H12 locs12
          refine lv_iload_n hx hb dX9_chunk_40 rfl (lv_at hl0 2 rfl) ?_
          refine lv_iadd hx hb dX9_chunk_41 ?_
          refine lv_istore (lv' := [(4, .int (r_15 + p1)), (0, .ref aP), (1, .int p0), (2, .int p1), (3, .int p2)]) hx hb dX9_chunk_42 hl0 (by decide) rfl (fun ls17 hl17 => ?_)
          clear hl0 ls0
          refine lv_iload_n hx hb dX9_chunk_44 rfl (lv_at hl17 4 rfl) ?_
          by_cases c_18 : p2 = (0 : Int32)
          · replace hfin := it_t c_18 hfin
            refine lv_tableIn (tgt := 88) hx hb dX9_chunk_45 (by rw [c_18]; decide) (by rw [c_18]; decide) (by rw [c_18]; rfl) (by decide) ?_
            refine lv_aload_n hx hb dX9_chunk_88 rfl (lv_at hl17 1 rfl) ?_
            refine va_get (D := G) (ci := 9) (v := .ref aI) (C := RX9) (T := TX9) (N := 11) hx hb htc iX9 hown hK hw16.1 0 rfl rfl 4 (by decide) (htc _ mw_307) (fun _ h9 => h9) rfl dX9_chunk_89 ?_
            refine lv_iload hx hb dX9_chunk_92 (lv_at hl17 0 rfl) ?_
            refine lv_iconst (v := (1 : Int32)) hx hb dX9_chunk_94 (by decide) ?_
            replace hfin := ob1_some hfin
            obtain ⟨r_20, hE_19, hfin⟩ := hfin
            refine ctV (a := aI) (As := [.int (r_15 + p1), .int (1 : Int32)]) (rest := []) (st1 := [.int r_20]) (wc := [oX2 aD aDc D_writesDone D_writesLeft D_down, rI aDc cI 4096 D_cells, oX3 aI aD]) (w1 := [oX2 aD aDc D_writesDone D_writesLeft D_down, rI aDc cI 4096 D_cells, oX3 aI aD]) (wr := [oX9 aP P_seriesCount P_most P_ratio aD aI aG aU aT aQ aC P_recoveries]) (wb := [oX9 aP P_seriesCount P_most P_ratio aD aI aG aU aT aQ aC P_recoveries, oX2 aD aDc D_writesDone D_writesLeft D_down, rI aDc cI 4096 D_cells, oX3 aI aD]) (v := (some (.int r_20))) hx hb hml hown htc hN (c_X3_at l G cI cZ cJ aD aDc aI D_writesDone D_writesLeft D_down D_cells (r_15 + p1) (1 : Int32) hE_19) mw_395 mw_391 mw_392 mw_4 mw_393 hd_X3_at ⟨rfl, rfl⟩ ⟨Nat.le_of_ble_eq_true rfl, Nat.le_of_ble_eq_true rfl⟩ hK hw16 hA [1, 2, 3] [0] [0, 1, 2, 3] rfl rfl rfl rfl rfl (by decide) rfl rfl rfl 2 rfl rfl rfl rfl hl17.1 rfl rfl (Nat.le_of_ble_eq_true rfl) dX9_chunk_95 ⟨Nat.zero_le _, Nat.zero_le _⟩ (fun H21 locs21 hw21 => ?_)
            clear hw16 H16 locs16
            cases hfin
            rw [hQQ]
            exact ct_iret hx hb hr hlocks hw21.1 hw21.2.1 hw21.2.2 dX9_chunk_98
          · replace hfin := it_f c_18 hfin
            by_cases c_22 : p2 = (1 : Int32)
            · replace hfin := it_t c_22 hfin
              refine lv_tableIn (tgt := 99) hx hb dX9_chunk_45 (by rw [c_22]; decide) (by rw [c_22]; decide) (by rw [c_22]; rfl) (by decide) ?_
              refine lv_aload_n hx hb dX9_chunk_99 rfl (lv_at hl17 1 rfl) ?_
              refine va_get (D := G) (ci := 9) (v := .ref aI) (C := RX9) (T := TX9) (N := 11) hx hb htc iX9 hown hK hw16.1 0 rfl rfl 4 (by decide) (htc _ mw_307) (fun _ h9 => h9) rfl dX9_chunk_100 ?_
              refine lv_iload hx hb dX9_chunk_103 (lv_at hl17 0 rfl) ?_
              refine lv_iconst (v := (2 : Int32)) hx hb dX9_chunk_105 (by decide) ?_
              replace hfin := ob1_some hfin
              obtain ⟨r_24, hE_23, hfin⟩ := hfin
              refine ctV (a := aI) (As := [.int (r_15 + p1), .int (2 : Int32)]) (rest := []) (st1 := [.int r_24]) (wc := [oX2 aD aDc D_writesDone D_writesLeft D_down, rI aDc cI 4096 D_cells, oX3 aI aD]) (w1 := [oX2 aD aDc D_writesDone D_writesLeft D_down, rI aDc cI 4096 D_cells, oX3 aI aD]) (wr := [oX9 aP P_seriesCount P_most P_ratio aD aI aG aU aT aQ aC P_recoveries]) (wb := [oX9 aP P_seriesCount P_most P_ratio aD aI aG aU aT aQ aC P_recoveries, oX2 aD aDc D_writesDone D_writesLeft D_down, rI aDc cI 4096 D_cells, oX3 aI aD]) (v := (some (.int r_24))) hx hb hml hown htc hN (c_X3_at l G cI cZ cJ aD aDc aI D_writesDone D_writesLeft D_down D_cells (r_15 + p1) (2 : Int32) hE_23) mw_395 mw_391 mw_392 mw_4 mw_393 hd_X3_at ⟨rfl, rfl⟩ ⟨Nat.le_of_ble_eq_true rfl, Nat.le_of_ble_eq_true rfl⟩ hK hw16 hA [1, 2, 3] [0] [0, 1, 2, 3] rfl rfl rfl rfl rfl (by decide) rfl rfl rfl 2 rfl rfl rfl rfl hl17.1 rfl rfl (Nat.le_of_ble_eq_true rfl) dX9_chunk_106 ⟨Nat.zero_le _, Nat.zero_le _⟩ (fun H25 locs25 hw25 => ?_)
              clear hw16 H16 locs16
              cases hfin
              rw [hQQ]
              exact ct_iret hx hb hr hlocks hw25.1 hw25.2.1 hw25.2.2 dX9_chunk_109
            · replace hfin := it_f c_22 hfin
              by_cases c_26 : p2 = (2 : Int32)
              · replace hfin := it_t c_26 hfin
                refine lv_tableIn (tgt := 110) hx hb dX9_chunk_45 (by rw [c_26]; decide) (by rw [c_26]; decide) (by rw [c_26]; rfl) (by decide) ?_
                refine lv_aload_n hx hb dX9_chunk_110 rfl (lv_at hl17 1 rfl) ?_
                refine va_get (D := G) (ci := 9) (v := .ref aI) (C := RX9) (T := TX9) (N := 11) hx hb htc iX9 hown hK hw16.1 0 rfl rfl 4 (by decide) (htc _ mw_307) (fun _ h9 => h9) rfl dX9_chunk_111 ?_
                refine lv_iload hx hb dX9_chunk_114 (lv_at hl17 0 rfl) ?_
                refine lv_iconst (v := (3 : Int32)) hx hb dX9_chunk_116 (by decide) ?_
                replace hfin := ob1_some hfin
                obtain ⟨r_28, hE_27, hfin⟩ := hfin
                refine ctV (a := aI) (As := [.int (r_15 + p1), .int (3 : Int32)]) (rest := []) (st1 := [.int r_28]) (wc := [oX2 aD aDc D_writesDone D_writesLeft D_down, rI aDc cI 4096 D_cells, oX3 aI aD]) (w1 := [oX2 aD aDc D_writesDone D_writesLeft D_down, rI aDc cI 4096 D_cells, oX3 aI aD]) (wr := [oX9 aP P_seriesCount P_most P_ratio aD aI aG aU aT aQ aC P_recoveries]) (wb := [oX9 aP P_seriesCount P_most P_ratio aD aI aG aU aT aQ aC P_recoveries, oX2 aD aDc D_writesDone D_writesLeft D_down, rI aDc cI 4096 D_cells, oX3 aI aD]) (v := (some (.int r_28))) hx hb hml hown htc hN (c_X3_at l G cI cZ cJ aD aDc aI D_writesDone D_writesLeft D_down D_cells (r_15 + p1) (3 : Int32) hE_27) mw_395 mw_391 mw_392 mw_4 mw_393 hd_X3_at ⟨rfl, rfl⟩ ⟨Nat.le_of_ble_eq_true rfl, Nat.le_of_ble_eq_true rfl⟩ hK hw16 hA [1, 2, 3] [0] [0, 1, 2, 3] rfl rfl rfl rfl rfl (by decide) rfl rfl rfl 2 rfl rfl rfl rfl hl17.1 rfl rfl (Nat.le_of_ble_eq_true rfl) dX9_chunk_117 ⟨Nat.zero_le _, Nat.zero_le _⟩ (fun H29 locs29 hw29 => ?_)
                clear hw16 H16 locs16
                cases hfin
                rw [hQQ]
                exact ct_iret hx hb hr hlocks hw29.1 hw29.2.1 hw29.2.2 dX9_chunk_120
              · replace hfin := it_f c_26 hfin
                by_cases c_30 : p2 = (3 : Int32)
                · replace hfin := it_t c_30 hfin
                  refine lv_tableIn (tgt := 121) hx hb dX9_chunk_45 (by rw [c_30]; decide) (by rw [c_30]; decide) (by rw [c_30]; rfl) (by decide) ?_
                  refine lv_aload_n hx hb dX9_chunk_121 rfl (lv_at hl17 1 rfl) ?_
                  refine va_get (D := G) (ci := 9) (v := .ref aI) (C := RX9) (T := TX9) (N := 11) hx hb htc iX9 hown hK hw16.1 0 rfl rfl 4 (by decide) (htc _ mw_307) (fun _ h9 => h9) rfl dX9_chunk_122 ?_
                  refine lv_iload hx hb dX9_chunk_125 (lv_at hl17 0 rfl) ?_
                  refine lv_iconst (v := (4 : Int32)) hx hb dX9_chunk_127 (by decide) ?_
                  replace hfin := ob1_some hfin
                  obtain ⟨r_32, hE_31, hfin⟩ := hfin
                  refine ctV (a := aI) (As := [.int (r_15 + p1), .int (4 : Int32)]) (rest := []) (st1 := [.int r_32]) (wc := [oX2 aD aDc D_writesDone D_writesLeft D_down, rI aDc cI 4096 D_cells, oX3 aI aD]) (w1 := [oX2 aD aDc D_writesDone D_writesLeft D_down, rI aDc cI 4096 D_cells, oX3 aI aD]) (wr := [oX9 aP P_seriesCount P_most P_ratio aD aI aG aU aT aQ aC P_recoveries]) (wb := [oX9 aP P_seriesCount P_most P_ratio aD aI aG aU aT aQ aC P_recoveries, oX2 aD aDc D_writesDone D_writesLeft D_down, rI aDc cI 4096 D_cells, oX3 aI aD]) (v := (some (.int r_32))) hx hb hml hown htc hN (c_X3_at l G cI cZ cJ aD aDc aI D_writesDone D_writesLeft D_down D_cells (r_15 + p1) (4 : Int32) hE_31) mw_395 mw_391 mw_392 mw_4 mw_393 hd_X3_at ⟨rfl, rfl⟩ ⟨Nat.le_of_ble_eq_true rfl, Nat.le_of_ble_eq_true rfl⟩ hK hw16 hA [1, 2, 3] [0] [0, 1, 2, 3] rfl rfl rfl rfl rfl (by decide) rfl rfl rfl 2 rfl rfl rfl rfl hl17.1 rfl rfl (Nat.le_of_ble_eq_true rfl) dX9_chunk_128 ⟨Nat.zero_le _, Nat.zero_le _⟩ (fun H33 locs33 hw33 => ?_)
                  clear hw16 H16 locs16
                  cases hfin
                  rw [hQQ]
                  exact ct_iret hx hb hr hlocks hw33.1 hw33.2.1 hw33.2.2 dX9_chunk_131
                · replace hfin := it_f c_30 hfin
                  by_cases c_34 : p2 = (4 : Int32)
                  · replace hfin := it_t c_34 hfin
                    refine lv_tableIn (tgt := 132) hx hb dX9_chunk_45 (by rw [c_34]; decide) (by rw [c_34]; decide) (by rw [c_34]; rfl) (by decide) ?_
                    refine lv_aload_n hx hb dX9_chunk_132 rfl (lv_at hl17 1 rfl) ?_
                    refine va_get (D := G) (ci := 9) (v := .ref aI) (C := RX9) (T := TX9) (N := 11) hx hb htc iX9 hown hK hw16.1 0 rfl rfl 4 (by decide) (htc _ mw_307) (fun _ h9 => h9) rfl dX9_chunk_133 ?_
                    refine lv_iload hx hb dX9_chunk_136 (lv_at hl17 0 rfl) ?_
                    refine lv_iconst (v := (5 : Int32)) hx hb dX9_chunk_138 (by decide) ?_
                    replace hfin := ob1_some hfin
                    obtain ⟨r_36, hE_35, hfin⟩ := hfin
                    refine ctV (a := aI) (As := [.int (r_15 + p1), .int (5 : Int32)]) (rest := []) (st1 := [.int r_36]) (wc := [oX2 aD aDc D_writesDone D_writesLeft D_down, rI aDc cI 4096 D_cells, oX3 aI aD]) (w1 := [oX2 aD aDc D_writesDone D_writesLeft D_down, rI aDc cI 4096 D_cells, oX3 aI aD]) (wr := [oX9 aP P_seriesCount P_most P_ratio aD aI aG aU aT aQ aC P_recoveries]) (wb := [oX9 aP P_seriesCount P_most P_ratio aD aI aG aU aT aQ aC P_recoveries, oX2 aD aDc D_writesDone D_writesLeft D_down, rI aDc cI 4096 D_cells, oX3 aI aD]) (v := (some (.int r_36))) hx hb hml hown htc hN (c_X3_at l G cI cZ cJ aD aDc aI D_writesDone D_writesLeft D_down D_cells (r_15 + p1) (5 : Int32) hE_35) mw_395 mw_391 mw_392 mw_4 mw_393 hd_X3_at ⟨rfl, rfl⟩ ⟨Nat.le_of_ble_eq_true rfl, Nat.le_of_ble_eq_true rfl⟩ hK hw16 hA [1, 2, 3] [0] [0, 1, 2, 3] rfl rfl rfl rfl rfl (by decide) rfl rfl rfl 2 rfl rfl rfl rfl hl17.1 rfl rfl (Nat.le_of_ble_eq_true rfl) dX9_chunk_139 ⟨Nat.zero_le _, Nat.zero_le _⟩ (fun H37 locs37 hw37 => ?_)
                    clear hw16 H16 locs16
                    cases hfin
                    rw [hQQ]
                    exact ct_iret hx hb hr hlocks hw37.1 hw37.2.1 hw37.2.2 dX9_chunk_142
                  · replace hfin := it_f c_34 hfin
                    by_cases c_38 : p2 = (5 : Int32)
                    · replace hfin := it_t c_38 hfin
                      refine lv_tableIn (tgt := 143) hx hb dX9_chunk_45 (by rw [c_38]; decide) (by rw [c_38]; decide) (by rw [c_38]; rfl) (by decide) ?_
                      refine lv_aload_n hx hb dX9_chunk_143 rfl (lv_at hl17 1 rfl) ?_
                      refine va_get (D := G) (ci := 9) (v := .ref aI) (C := RX9) (T := TX9) (N := 11) hx hb htc iX9 hown hK hw16.1 0 rfl rfl 4 (by decide) (htc _ mw_307) (fun _ h9 => h9) rfl dX9_chunk_144 ?_
                      refine lv_iload hx hb dX9_chunk_147 (lv_at hl17 0 rfl) ?_
                      refine lv_bipush (v := (8 : Int32)) hx hb dX9_chunk_149 (by decide) ?_
                      replace hfin := ob1_some hfin
                      obtain ⟨r_40, hE_39, hfin⟩ := hfin
                      refine ctV (a := aI) (As := [.int (r_15 + p1), .int (8 : Int32)]) (rest := []) (st1 := [.int r_40]) (wc := [oX2 aD aDc D_writesDone D_writesLeft D_down, rI aDc cI 4096 D_cells, oX3 aI aD]) (w1 := [oX2 aD aDc D_writesDone D_writesLeft D_down, rI aDc cI 4096 D_cells, oX3 aI aD]) (wr := [oX9 aP P_seriesCount P_most P_ratio aD aI aG aU aT aQ aC P_recoveries]) (wb := [oX9 aP P_seriesCount P_most P_ratio aD aI aG aU aT aQ aC P_recoveries, oX2 aD aDc D_writesDone D_writesLeft D_down, rI aDc cI 4096 D_cells, oX3 aI aD]) (v := (some (.int r_40))) hx hb hml hown htc hN (c_X3_at l G cI cZ cJ aD aDc aI D_writesDone D_writesLeft D_down D_cells (r_15 + p1) (8 : Int32) hE_39) mw_395 mw_391 mw_392 mw_4 mw_393 hd_X3_at ⟨rfl, rfl⟩ ⟨Nat.le_of_ble_eq_true rfl, Nat.le_of_ble_eq_true rfl⟩ hK hw16 hA [1, 2, 3] [0] [0, 1, 2, 3] rfl rfl rfl rfl rfl (by decide) rfl rfl rfl 2 rfl rfl rfl rfl hl17.1 rfl rfl (Nat.le_of_ble_eq_true rfl) dX9_chunk_151 ⟨Nat.zero_le _, Nat.zero_le _⟩ (fun H41 locs41 hw41 => ?_)
                      clear hw16 H16 locs16
                      cases hfin
                      rw [hQQ]
                      exact ct_iret hx hb hr hlocks hw41.1 hw41.2.1 hw41.2.2 dX9_chunk_154
                    · replace hfin := it_f c_38 hfin
                      by_cases c_42 : p2 = (6 : Int32)
                      · replace hfin := it_t c_42 hfin
                        refine lv_tableIn (tgt := 155) hx hb dX9_chunk_45 (by rw [c_42]; decide) (by rw [c_42]; decide) (by rw [c_42]; rfl) (by decide) ?_
                        refine lv_aload_n hx hb dX9_chunk_155 rfl (lv_at hl17 1 rfl) ?_
                        refine va_get (D := G) (ci := 9) (v := .ref aI) (C := RX9) (T := TX9) (N := 11) hx hb htc iX9 hown hK hw16.1 0 rfl rfl 4 (by decide) (htc _ mw_307) (fun _ h9 => h9) rfl dX9_chunk_156 ?_
                        refine lv_iload hx hb dX9_chunk_159 (lv_at hl17 0 rfl) ?_
                        refine lv_bipush (v := (9 : Int32)) hx hb dX9_chunk_161 (by decide) ?_
                        replace hfin := ob1_some hfin
                        obtain ⟨r_44, hE_43, hfin⟩ := hfin
                        refine ctV (a := aI) (As := [.int (r_15 + p1), .int (9 : Int32)]) (rest := []) (st1 := [.int r_44]) (wc := [oX2 aD aDc D_writesDone D_writesLeft D_down, rI aDc cI 4096 D_cells, oX3 aI aD]) (w1 := [oX2 aD aDc D_writesDone D_writesLeft D_down, rI aDc cI 4096 D_cells, oX3 aI aD]) (wr := [oX9 aP P_seriesCount P_most P_ratio aD aI aG aU aT aQ aC P_recoveries]) (wb := [oX9 aP P_seriesCount P_most P_ratio aD aI aG aU aT aQ aC P_recoveries, oX2 aD aDc D_writesDone D_writesLeft D_down, rI aDc cI 4096 D_cells, oX3 aI aD]) (v := (some (.int r_44))) hx hb hml hown htc hN (c_X3_at l G cI cZ cJ aD aDc aI D_writesDone D_writesLeft D_down D_cells (r_15 + p1) (9 : Int32) hE_43) mw_395 mw_391 mw_392 mw_4 mw_393 hd_X3_at ⟨rfl, rfl⟩ ⟨Nat.le_of_ble_eq_true rfl, Nat.le_of_ble_eq_true rfl⟩ hK hw16 hA [1, 2, 3] [0] [0, 1, 2, 3] rfl rfl rfl rfl rfl (by decide) rfl rfl rfl 2 rfl rfl rfl rfl hl17.1 rfl rfl (Nat.le_of_ble_eq_true rfl) dX9_chunk_163 ⟨Nat.zero_le _, Nat.zero_le _⟩ (fun H45 locs45 hw45 => ?_)
                        clear hw16 H16 locs16
                        cases hfin
                        rw [hQQ]
                        exact ct_iret hx hb hr hlocks hw45.1 hw45.2.1 hw45.2.2 dX9_chunk_166
                      · replace hfin := it_f c_42 hfin
                        refine lv_tableOut (tgt := 167) hx hb dX9_chunk_45 (sw_out6 c_18 c_22 c_26 c_30 c_34 c_38 c_42) (by decide) ?_
                        exact absurd (congrArg Prod.fst (Option.some.inj hfin)) (show ¬ (3 : Int32) = 0 by decide)
        · replace hfin := it_f c_13 hfin
          exact absurd (congrArg Prod.fst (Option.some.inj hfin)) (show ¬ (3 : Int32) = 0 by decide)
    · replace hfin := it_f c_7 hfin
      exact absurd (congrArg Prod.fst (Option.some.inj hfin)) c_7
  · replace hfin := it_f c_3 hfin
    exact absurd (congrArg Prod.fst (Option.some.inj hfin)) c_3
set_option maxHeartbeats 4000000 in
set_option maxRecDepth 100000 in
theorem x_X9_chunk (l : Launch) (hST : l.stackTraces = false) (G : va_G) (cI cZ cJ : ClassId) (aP aD aI aG aU aT aQ aC aDc : Nat) (P_seriesCount : Int32) (P_most : Int32) (P_ratio : Int32) (P_recoveries : Int32) (D_writesDone : Int32) (D_writesLeft : Int32) (D_down : Int32) (D_cells : Nat → Int32) (p0 : Int32) (p1 : Int32) (p2 : Int32) {k : Int32} {r : Int32} (hfin : m_X9_chunk P_seriesCount D_down D_cells p0 p1 p2 = some (k, r)) (hk : ¬ k = 0) : XT l yX9_chunk cX9_chunk 5 (some .int) rx_X9_chunk G (tyC cI cZ cJ) [.ref aP, .int p0, .int p1, .int p2] [oX9 aP P_seriesCount P_most P_ratio aD aI aG aU aT aQ aC P_recoveries, oX2 aD aDc D_writesDone D_writesLeft D_down, rI aDc cI 4096 D_cells, oX3 aI aD] k [oX9 aP P_seriesCount P_most P_ratio aD aI aG aU aT aQ aC P_recoveries, oX2 aD aDc D_writesDone D_writesLeft D_down, rI aDc cI 4096 D_cells, oX3 aI aD] := by
  refine XT.ofW (lvl := [(0, .ref aP), (1, .int p0), (2, .int p1), (3, .int p2)]) (by decide) (Nat.le_of_ble_eq_true rfl) rfl ?_
  intro p e s m args below meth c A ls0 QQ hQQ hT hX hx hb hml hr hlocks htc hN hown hK hA hw0 hl0
  rw [m_X9_chunk] at hfin
  refine lv_aload_n hx hb dX9_chunk_0 rfl (lv_at hl0 0 rfl) ?_
  replace hfin := ob1_some hfin
  obtain ⟨k_2, hE_1, hfin⟩ := hfin
  by_cases c_3 : k_2 = 0
  · replace hfin := it_t c_3 hfin
    subst c_3
    refine ctV (a := aP) (As := []) (rest := []) (st1 := []) (wc := [oX9 aP P_seriesCount P_most P_ratio aD aI aG aU aT aQ aC P_recoveries, oX2 aD aDc D_writesDone D_writesLeft D_down]) (w1 := [oX9 aP P_seriesCount P_most P_ratio aD aI aG aU aT aQ aC P_recoveries, oX2 aD aDc D_writesDone D_writesLeft D_down]) (wr := [rI aDc cI 4096 D_cells, oX3 aI aD]) (wb := [oX9 aP P_seriesCount P_most P_ratio aD aI aG aU aT aQ aC P_recoveries, oX2 aD aDc D_writesDone D_writesLeft D_down, rI aDc cI 4096 D_cells, oX3 aI aD]) (v := none) hx hb hml hown htc hN (c_X9_throwUnlessUp l G cI cZ cJ aP aD aI aG aU aT aQ aC aDc P_seriesCount P_most P_ratio P_recoveries D_writesDone D_writesLeft D_down  hE_1) mw_777 mw_779 mp_29 mw_1 mw_780 hd_X9_throwUnlessUp ⟨rfl, rfl⟩ ⟨Nat.le_of_ble_eq_true rfl, Nat.le_of_ble_eq_true rfl⟩ hK hw0 hA [0, 1] [2, 3] [2, 3, 0, 1] rfl rfl rfl rfl rfl (by decide) rfl rfl rfl 0 rfl rfl rfl rfl hl0.1 rfl rfl (Nat.le_of_ble_eq_true rfl) dX9_chunk_1 ⟨Nat.zero_le _, Nat.zero_le _⟩ (fun H4 locs4 hw4 => ?_)
    clear hw0
    refine lv_aload_n hx hb dX9_chunk_4 rfl (lv_at hl0 0 rfl) ?_
    refine lv_iload_n hx hb dX9_chunk_5 rfl (lv_at hl0 1 rfl) ?_
    replace hfin := ob1_some hfin
    obtain ⟨k_6, hE_5, hfin⟩ := hfin
    by_cases c_7 : k_6 = 0
    · replace hfin := it_t c_7 hfin
      subst c_7
      refine ctV (a := aP) (As := [.int p0]) (rest := []) (st1 := []) (wc := [oX9 aP P_seriesCount P_most P_ratio aD aI aG aU aT aQ aC P_recoveries]) (w1 := [oX9 aP P_seriesCount P_most P_ratio aD aI aG aU aT aQ aC P_recoveries]) (wr := [oX2 aD aDc D_writesDone D_writesLeft D_down, rI aDc cI 4096 D_cells, oX3 aI aD]) (wb := [oX9 aP P_seriesCount P_most P_ratio aD aI aG aU aT aQ aC P_recoveries, oX2 aD aDc D_writesDone D_writesLeft D_down, rI aDc cI 4096 D_cells, oX3 aI aD]) (v := none) hx hb hml hown htc hN (c_X9_throwUnlessSeries l G cI cZ cJ aP aD aI aG aU aT aQ aC P_seriesCount P_most P_ratio P_recoveries p0 hE_5) mw_849 mw_851 mp_31 mw_1 mw_852 hd_X9_throwUnlessSeries ⟨rfl, rfl⟩ ⟨Nat.le_of_ble_eq_true rfl, Nat.le_of_ble_eq_true rfl⟩ hK hw4 hA [0] [1, 2, 3] [3, 0, 1, 2] rfl rfl rfl rfl rfl (by decide) rfl rfl rfl 0 rfl rfl rfl rfl hl0.1 rfl rfl (Nat.le_of_ble_eq_true rfl) dX9_chunk_6 ⟨Nat.zero_le _, Nat.zero_le _⟩ (fun H8 locs8 hw8 => ?_)
      clear hw4 H4 locs4
      refine lv_iload_n hx hb dX9_chunk_9 rfl (lv_at hl0 2 rfl) ?_
      refine lv_if_lt (tgt := 22) hx hb dX9_chunk_10 (by decide) (fun c_9 => ?_) (fun c_9 => ?_)
      · replace hfin := it_t c_9 hfin
        cases hfin
        rw [hQQ]
        exact xt_throw (text := "no such chunk") hx hb hml hST hown htc hT hlocks hX exN_3 (by decide) hw8 hl0.1 dX9_chunk_22 dX9_chunk_25 dX9_chunk_26 dX9_chunk_28 dX9_chunk_31 (Nat.le_of_ble_eq_true rfl) (Nat.le_of_ble_eq_true rfl) (Nat.le_of_ble_eq_true rfl) (Nat.le_of_ble_eq_true rfl)
      · replace hfin := it_f c_9 hfin
        refine lv_iload_n hx hb dX9_chunk_13 rfl (lv_at hl0 2 rfl) ?_
        refine lv_aload_n hx hb dX9_chunk_14 rfl (lv_at hl0 0 rfl) ?_
        refine lv_iload_n hx hb dX9_chunk_15 rfl (lv_at hl0 1 rfl) ?_
        replace hfin := ob1_some hfin
        obtain ⟨r_11, hE_10, hfin⟩ := hfin
        refine ctV (a := aP) (As := [.int p0]) (rest := [.int p1]) (st1 := [.int r_11, .int p1]) (wc := [oX9 aP P_seriesCount P_most P_ratio aD aI aG aU aT aQ aC P_recoveries, oX2 aD aDc D_writesDone D_writesLeft D_down, rI aDc cI 4096 D_cells, oX3 aI aD]) (w1 := [oX9 aP P_seriesCount P_most P_ratio aD aI aG aU aT aQ aC P_recoveries, oX2 aD aDc D_writesDone D_writesLeft D_down, rI aDc cI 4096 D_cells, oX3 aI aD]) (wr := []) (wb := [oX9 aP P_seriesCount P_most P_ratio aD aI aG aU aT aQ aC P_recoveries, oX2 aD aDc D_writesDone D_writesLeft D_down, rI aDc cI 4096 D_cells, oX3 aI aD]) (v := (some (.int r_11))) hx hb hml hown htc hN (c_X9_chunksOf l G cI cZ cJ aP aD aI aG aU aT aQ aC aDc P_seriesCount P_most P_ratio P_recoveries D_writesDone D_writesLeft D_down D_cells p0 hE_10) mw_891 mw_893 mp_32 mw_1 mw_894 hd_X9_chunksOf ⟨rfl, rfl⟩ ⟨Nat.le_of_ble_eq_true rfl, Nat.le_of_ble_eq_true rfl⟩ hK hw8 hA [0, 1, 2, 3] [] [0, 1, 2, 3] rfl rfl rfl rfl rfl (by decide) rfl rfl rfl 0 rfl rfl rfl rfl hl0.1 rfl rfl (Nat.le_of_ble_eq_true rfl) dX9_chunk_16 ⟨Nat.zero_le _, Nat.zero_le _⟩ (fun H12 locs12 hw12 => ?_)
        clear hw8 H8 locs8
        refine lv_icmp_lt (tgt := 32) hx hb dX9_chunk_19 (by decide) (fun c_13 => ?_) (fun c_13 => ?_)
        · replace hfin := it_t c_13 hfin
          refine lv_aload_n hx hb dX9_chunk_32 rfl (lv_at hl0 0 rfl) ?_
          refine va_get (D := G) (ci := 9) (v := .ref aI) (C := RX9) (T := TX9) (N := 11) hx hb htc iX9 hown hK hw12.1 0 rfl rfl 4 (by decide) (htc _ mw_307) (fun _ h9 => h9) rfl dX9_chunk_33 ?_
          refine lv_iload_n hx hb dX9_chunk_36 rfl (lv_at hl0 1 rfl) ?_
          replace hfin := ob1_some hfin
          obtain ⟨r_15, hE_14, hfin⟩ := hfin
          refine ctV (a := aI) (As := [.int p0]) (rest := []) (st1 := [.int r_15]) (wc := [oX2 aD aDc D_writesDone D_writesLeft D_down, rI aDc cI 4096 D_cells, oX3 aI aD]) (w1 := [oX2 aD aDc D_writesDone D_writesLeft D_down, rI aDc cI 4096 D_cells, oX3 aI aD]) (wr := [oX9 aP P_seriesCount P_most P_ratio aD aI aG aU aT aQ aC P_recoveries]) (wb := [oX9 aP P_seriesCount P_most P_ratio aD aI aG aU aT aQ aC P_recoveries, oX2 aD aDc D_writesDone D_writesLeft D_down, rI aDc cI 4096 D_cells, oX3 aI aD]) (v := (some (.int r_15))) hx hb hml hown htc hN (c_X3_firstOf l G cI cZ cJ aD aDc aI D_writesDone D_writesLeft D_down D_cells p0 hE_14) mw_394 mw_375 mw_376 mw_4 mw_377 hd_X3_firstOf ⟨rfl, rfl⟩ ⟨Nat.le_of_ble_eq_true rfl, Nat.le_of_ble_eq_true rfl⟩ hK hw12 hA [1, 2, 3] [0] [0, 1, 2, 3] rfl rfl rfl rfl rfl (by decide) rfl rfl rfl 2 rfl rfl rfl rfl hl0.1 rfl rfl (Nat.le_of_ble_eq_true rfl) dX9_chunk_37 ⟨Nat.zero_le _, Nat.zero_le _⟩ (fun H16 locs16 hw16 => ?_)
          clear hw12 H12 locs12
          refine lv_iload_n hx hb dX9_chunk_40 rfl (lv_at hl0 2 rfl) ?_
          refine lv_iadd hx hb dX9_chunk_41 ?_
          refine lv_istore (lv' := [(4, .int (r_15 + p1)), (0, .ref aP), (1, .int p0), (2, .int p1), (3, .int p2)]) hx hb dX9_chunk_42 hl0 (by decide) rfl (fun ls17 hl17 => ?_)
          clear hl0 ls0
          refine lv_iload_n hx hb dX9_chunk_44 rfl (lv_at hl17 4 rfl) ?_
          by_cases c_18 : p2 = (0 : Int32)
          · replace hfin := it_t c_18 hfin
            refine lv_tableIn (tgt := 88) hx hb dX9_chunk_45 (by rw [c_18]; decide) (by rw [c_18]; decide) (by rw [c_18]; rfl) (by decide) ?_
            refine lv_aload_n hx hb dX9_chunk_88 rfl (lv_at hl17 1 rfl) ?_
            refine va_get (D := G) (ci := 9) (v := .ref aI) (C := RX9) (T := TX9) (N := 11) hx hb htc iX9 hown hK hw16.1 0 rfl rfl 4 (by decide) (htc _ mw_307) (fun _ h9 => h9) rfl dX9_chunk_89 ?_
            refine lv_iload hx hb dX9_chunk_92 (lv_at hl17 0 rfl) ?_
            refine lv_iconst (v := (1 : Int32)) hx hb dX9_chunk_94 (by decide) ?_
            replace hfin := ob1_some hfin
            obtain ⟨r_20, hE_19, hfin⟩ := hfin
            refine ctV (a := aI) (As := [.int (r_15 + p1), .int (1 : Int32)]) (rest := []) (st1 := [.int r_20]) (wc := [oX2 aD aDc D_writesDone D_writesLeft D_down, rI aDc cI 4096 D_cells, oX3 aI aD]) (w1 := [oX2 aD aDc D_writesDone D_writesLeft D_down, rI aDc cI 4096 D_cells, oX3 aI aD]) (wr := [oX9 aP P_seriesCount P_most P_ratio aD aI aG aU aT aQ aC P_recoveries]) (wb := [oX9 aP P_seriesCount P_most P_ratio aD aI aG aU aT aQ aC P_recoveries, oX2 aD aDc D_writesDone D_writesLeft D_down, rI aDc cI 4096 D_cells, oX3 aI aD]) (v := (some (.int r_20))) hx hb hml hown htc hN (c_X3_at l G cI cZ cJ aD aDc aI D_writesDone D_writesLeft D_down D_cells (r_15 + p1) (1 : Int32) hE_19) mw_395 mw_391 mw_392 mw_4 mw_393 hd_X3_at ⟨rfl, rfl⟩ ⟨Nat.le_of_ble_eq_true rfl, Nat.le_of_ble_eq_true rfl⟩ hK hw16 hA [1, 2, 3] [0] [0, 1, 2, 3] rfl rfl rfl rfl rfl (by decide) rfl rfl rfl 2 rfl rfl rfl rfl hl17.1 rfl rfl (Nat.le_of_ble_eq_true rfl) dX9_chunk_95 ⟨Nat.zero_le _, Nat.zero_le _⟩ (fun H21 locs21 hw21 => ?_)
            clear hw16 H16 locs16
            exact absurd (congrArg Prod.fst (Option.some.inj hfin)).symm hk
          · replace hfin := it_f c_18 hfin
            by_cases c_22 : p2 = (1 : Int32)
            · replace hfin := it_t c_22 hfin
              refine lv_tableIn (tgt := 99) hx hb dX9_chunk_45 (by rw [c_22]; decide) (by rw [c_22]; decide) (by rw [c_22]; rfl) (by decide) ?_
              refine lv_aload_n hx hb dX9_chunk_99 rfl (lv_at hl17 1 rfl) ?_
              refine va_get (D := G) (ci := 9) (v := .ref aI) (C := RX9) (T := TX9) (N := 11) hx hb htc iX9 hown hK hw16.1 0 rfl rfl 4 (by decide) (htc _ mw_307) (fun _ h9 => h9) rfl dX9_chunk_100 ?_
              refine lv_iload hx hb dX9_chunk_103 (lv_at hl17 0 rfl) ?_
              refine lv_iconst (v := (2 : Int32)) hx hb dX9_chunk_105 (by decide) ?_
              replace hfin := ob1_some hfin
              obtain ⟨r_24, hE_23, hfin⟩ := hfin
              refine ctV (a := aI) (As := [.int (r_15 + p1), .int (2 : Int32)]) (rest := []) (st1 := [.int r_24]) (wc := [oX2 aD aDc D_writesDone D_writesLeft D_down, rI aDc cI 4096 D_cells, oX3 aI aD]) (w1 := [oX2 aD aDc D_writesDone D_writesLeft D_down, rI aDc cI 4096 D_cells, oX3 aI aD]) (wr := [oX9 aP P_seriesCount P_most P_ratio aD aI aG aU aT aQ aC P_recoveries]) (wb := [oX9 aP P_seriesCount P_most P_ratio aD aI aG aU aT aQ aC P_recoveries, oX2 aD aDc D_writesDone D_writesLeft D_down, rI aDc cI 4096 D_cells, oX3 aI aD]) (v := (some (.int r_24))) hx hb hml hown htc hN (c_X3_at l G cI cZ cJ aD aDc aI D_writesDone D_writesLeft D_down D_cells (r_15 + p1) (2 : Int32) hE_23) mw_395 mw_391 mw_392 mw_4 mw_393 hd_X3_at ⟨rfl, rfl⟩ ⟨Nat.le_of_ble_eq_true rfl, Nat.le_of_ble_eq_true rfl⟩ hK hw16 hA [1, 2, 3] [0] [0, 1, 2, 3] rfl rfl rfl rfl rfl (by decide) rfl rfl rfl 2 rfl rfl rfl rfl hl17.1 rfl rfl (Nat.le_of_ble_eq_true rfl) dX9_chunk_106 ⟨Nat.zero_le _, Nat.zero_le _⟩ (fun H25 locs25 hw25 => ?_)
              clear hw16 H16 locs16
              exact absurd (congrArg Prod.fst (Option.some.inj hfin)).symm hk
            · replace hfin := it_f c_22 hfin
              by_cases c_26 : p2 = (2 : Int32)
              · replace hfin := it_t c_26 hfin
                refine lv_tableIn (tgt := 110) hx hb dX9_chunk_45 (by rw [c_26]; decide) (by rw [c_26]; decide) (by rw [c_26]; rfl) (by decide) ?_
                refine lv_aload_n hx hb dX9_chunk_110 rfl (lv_at hl17 1 rfl) ?_
                refine va_get (D := G) (ci := 9) (v := .ref aI) (C := RX9) (T := TX9) (N := 11) hx hb htc iX9 hown hK hw16.1 0 rfl rfl 4 (by decide) (htc _ mw_307) (fun _ h9 => h9) rfl dX9_chunk_111 ?_
                refine lv_iload hx hb dX9_chunk_114 (lv_at hl17 0 rfl) ?_
                refine lv_iconst (v := (3 : Int32)) hx hb dX9_chunk_116 (by decide) ?_
                replace hfin := ob1_some hfin
                obtain ⟨r_28, hE_27, hfin⟩ := hfin
                refine ctV (a := aI) (As := [.int (r_15 + p1), .int (3 : Int32)]) (rest := []) (st1 := [.int r_28]) (wc := [oX2 aD aDc D_writesDone D_writesLeft D_down, rI aDc cI 4096 D_cells, oX3 aI aD]) (w1 := [oX2 aD aDc D_writesDone D_writesLeft D_down, rI aDc cI 4096 D_cells, oX3 aI aD]) (wr := [oX9 aP P_seriesCount P_most P_ratio aD aI aG aU aT aQ aC P_recoveries]) (wb := [oX9 aP P_seriesCount P_most P_ratio aD aI aG aU aT aQ aC P_recoveries, oX2 aD aDc D_writesDone D_writesLeft D_down, rI aDc cI 4096 D_cells, oX3 aI aD]) (v := (some (.int r_28))) hx hb hml hown htc hN (c_X3_at l G cI cZ cJ aD aDc aI D_writesDone D_writesLeft D_down D_cells (r_15 + p1) (3 : Int32) hE_27) mw_395 mw_391 mw_392 mw_4 mw_393 hd_X3_at ⟨rfl, rfl⟩ ⟨Nat.le_of_ble_eq_true rfl, Nat.le_of_ble_eq_true rfl⟩ hK hw16 hA [1, 2, 3] [0] [0, 1, 2, 3] rfl rfl rfl rfl rfl (by decide) rfl rfl rfl 2 rfl rfl rfl rfl hl17.1 rfl rfl (Nat.le_of_ble_eq_true rfl) dX9_chunk_117 ⟨Nat.zero_le _, Nat.zero_le _⟩ (fun H29 locs29 hw29 => ?_)
                clear hw16 H16 locs16
                exact absurd (congrArg Prod.fst (Option.some.inj hfin)).symm hk
              · replace hfin := it_f c_26 hfin
                by_cases c_30 : p2 = (3 : Int32)
                · replace hfin := it_t c_30 hfin
                  refine lv_tableIn (tgt := 121) hx hb dX9_chunk_45 (by rw [c_30]; decide) (by rw [c_30]; decide) (by rw [c_30]; rfl) (by decide) ?_
                  refine lv_aload_n hx hb dX9_chunk_121 rfl (lv_at hl17 1 rfl) ?_
                  refine va_get (D := G) (ci := 9) (v := .ref aI) (C := RX9) (T := TX9) (N := 11) hx hb htc iX9 hown hK hw16.1 0 rfl rfl 4 (by decide) (htc _ mw_307) (fun _ h9 => h9) rfl dX9_chunk_122 ?_
                  refine lv_iload hx hb dX9_chunk_125 (lv_at hl17 0 rfl) ?_
                  refine lv_iconst (v := (4 : Int32)) hx hb dX9_chunk_127 (by decide) ?_
                  replace hfin := ob1_some hfin
                  obtain ⟨r_32, hE_31, hfin⟩ := hfin
                  refine ctV (a := aI) (As := [.int (r_15 + p1), .int (4 : Int32)]) (rest := []) (st1 := [.int r_32]) (wc := [oX2 aD aDc D_writesDone D_writesLeft D_down, rI aDc cI 4096 D_cells, oX3 aI aD]) (w1 := [oX2 aD aDc D_writesDone D_writesLeft D_down, rI aDc cI 4096 D_cells, oX3 aI aD]) (wr := [oX9 aP P_seriesCount P_most P_ratio aD aI aG aU aT aQ aC P_recoveries]) (wb := [oX9 aP P_seriesCount P_most P_ratio aD aI aG aU aT aQ aC P_recoveries, oX2 aD aDc D_writesDone D_writesLeft D_down, rI aDc cI 4096 D_cells, oX3 aI aD]) (v := (some (.int r_32))) hx hb hml hown htc hN (c_X3_at l G cI cZ cJ aD aDc aI D_writesDone D_writesLeft D_down D_cells (r_15 + p1) (4 : Int32) hE_31) mw_395 mw_391 mw_392 mw_4 mw_393 hd_X3_at ⟨rfl, rfl⟩ ⟨Nat.le_of_ble_eq_true rfl, Nat.le_of_ble_eq_true rfl⟩ hK hw16 hA [1, 2, 3] [0] [0, 1, 2, 3] rfl rfl rfl rfl rfl (by decide) rfl rfl rfl 2 rfl rfl rfl rfl hl17.1 rfl rfl (Nat.le_of_ble_eq_true rfl) dX9_chunk_128 ⟨Nat.zero_le _, Nat.zero_le _⟩ (fun H33 locs33 hw33 => ?_)
                  clear hw16 H16 locs16
                  exact absurd (congrArg Prod.fst (Option.some.inj hfin)).symm hk
                · replace hfin := it_f c_30 hfin
                  by_cases c_34 : p2 = (4 : Int32)
                  · replace hfin := it_t c_34 hfin
                    refine lv_tableIn (tgt := 132) hx hb dX9_chunk_45 (by rw [c_34]; decide) (by rw [c_34]; decide) (by rw [c_34]; rfl) (by decide) ?_
                    refine lv_aload_n hx hb dX9_chunk_132 rfl (lv_at hl17 1 rfl) ?_
                    refine va_get (D := G) (ci := 9) (v := .ref aI) (C := RX9) (T := TX9) (N := 11) hx hb htc iX9 hown hK hw16.1 0 rfl rfl 4 (by decide) (htc _ mw_307) (fun _ h9 => h9) rfl dX9_chunk_133 ?_
                    refine lv_iload hx hb dX9_chunk_136 (lv_at hl17 0 rfl) ?_
                    refine lv_iconst (v := (5 : Int32)) hx hb dX9_chunk_138 (by decide) ?_
                    replace hfin := ob1_some hfin
                    obtain ⟨r_36, hE_35, hfin⟩ := hfin
                    refine ctV (a := aI) (As := [.int (r_15 + p1), .int (5 : Int32)]) (rest := []) (st1 := [.int r_36]) (wc := [oX2 aD aDc D_writesDone D_writesLeft D_down, rI aDc cI 4096 D_cells, oX3 aI aD]) (w1 := [oX2 aD aDc D_writesDone D_writesLeft D_down, rI aDc cI 4096 D_cells, oX3 aI aD]) (wr := [oX9 aP P_seriesCount P_most P_ratio aD aI aG aU aT aQ aC P_recoveries]) (wb := [oX9 aP P_seriesCount P_most P_ratio aD aI aG aU aT aQ aC P_recoveries, oX2 aD aDc D_writesDone D_writesLeft D_down, rI aDc cI 4096 D_cells, oX3 aI aD]) (v := (some (.int r_36))) hx hb hml hown htc hN (c_X3_at l G cI cZ cJ aD aDc aI D_writesDone D_writesLeft D_down D_cells (r_15 + p1) (5 : Int32) hE_35) mw_395 mw_391 mw_392 mw_4 mw_393 hd_X3_at ⟨rfl, rfl⟩ ⟨Nat.le_of_ble_eq_true rfl, Nat.le_of_ble_eq_true rfl⟩ hK hw16 hA [1, 2, 3] [0] [0, 1, 2, 3] rfl rfl rfl rfl rfl (by decide) rfl rfl rfl 2 rfl rfl rfl rfl hl17.1 rfl rfl (Nat.le_of_ble_eq_true rfl) dX9_chunk_139 ⟨Nat.zero_le _, Nat.zero_le _⟩ (fun H37 locs37 hw37 => ?_)
                    clear hw16 H16 locs16
                    exact absurd (congrArg Prod.fst (Option.some.inj hfin)).symm hk
                  · replace hfin := it_f c_34 hfin
                    by_cases c_38 : p2 = (5 : Int32)
                    · replace hfin := it_t c_38 hfin
                      refine lv_tableIn (tgt := 143) hx hb dX9_chunk_45 (by rw [c_38]; decide) (by rw [c_38]; decide) (by rw [c_38]; rfl) (by decide) ?_
                      refine lv_aload_n hx hb dX9_chunk_143 rfl (lv_at hl17 1 rfl) ?_
                      refine va_get (D := G) (ci := 9) (v := .ref aI) (C := RX9) (T := TX9) (N := 11) hx hb htc iX9 hown hK hw16.1 0 rfl rfl 4 (by decide) (htc _ mw_307) (fun _ h9 => h9) rfl dX9_chunk_144 ?_
                      refine lv_iload hx hb dX9_chunk_147 (lv_at hl17 0 rfl) ?_
                      refine lv_bipush (v := (8 : Int32)) hx hb dX9_chunk_149 (by decide) ?_
                      replace hfin := ob1_some hfin
                      obtain ⟨r_40, hE_39, hfin⟩ := hfin
                      refine ctV (a := aI) (As := [.int (r_15 + p1), .int (8 : Int32)]) (rest := []) (st1 := [.int r_40]) (wc := [oX2 aD aDc D_writesDone D_writesLeft D_down, rI aDc cI 4096 D_cells, oX3 aI aD]) (w1 := [oX2 aD aDc D_writesDone D_writesLeft D_down, rI aDc cI 4096 D_cells, oX3 aI aD]) (wr := [oX9 aP P_seriesCount P_most P_ratio aD aI aG aU aT aQ aC P_recoveries]) (wb := [oX9 aP P_seriesCount P_most P_ratio aD aI aG aU aT aQ aC P_recoveries, oX2 aD aDc D_writesDone D_writesLeft D_down, rI aDc cI 4096 D_cells, oX3 aI aD]) (v := (some (.int r_40))) hx hb hml hown htc hN (c_X3_at l G cI cZ cJ aD aDc aI D_writesDone D_writesLeft D_down D_cells (r_15 + p1) (8 : Int32) hE_39) mw_395 mw_391 mw_392 mw_4 mw_393 hd_X3_at ⟨rfl, rfl⟩ ⟨Nat.le_of_ble_eq_true rfl, Nat.le_of_ble_eq_true rfl⟩ hK hw16 hA [1, 2, 3] [0] [0, 1, 2, 3] rfl rfl rfl rfl rfl (by decide) rfl rfl rfl 2 rfl rfl rfl rfl hl17.1 rfl rfl (Nat.le_of_ble_eq_true rfl) dX9_chunk_151 ⟨Nat.zero_le _, Nat.zero_le _⟩ (fun H41 locs41 hw41 => ?_)
                      clear hw16 H16 locs16
                      exact absurd (congrArg Prod.fst (Option.some.inj hfin)).symm hk
                    · replace hfin := it_f c_38 hfin
                      by_cases c_42 : p2 = (6 : Int32)
                      · replace hfin := it_t c_42 hfin
                        refine lv_tableIn (tgt := 155) hx hb dX9_chunk_45 (by rw [c_42]; decide) (by rw [c_42]; decide) (by rw [c_42]; rfl) (by decide) ?_
                        refine lv_aload_n hx hb dX9_chunk_155 rfl (lv_at hl17 1 rfl) ?_
                        refine va_get (D := G) (ci := 9) (v := .ref aI) (C := RX9) (T := TX9) (N := 11) hx hb htc iX9 hown hK hw16.1 0 rfl rfl 4 (by decide) (htc _ mw_307) (fun _ h9 => h9) rfl dX9_chunk_156 ?_
                        refine lv_iload hx hb dX9_chunk_159 (lv_at hl17 0 rfl) ?_
                        refine lv_bipush (v := (9 : Int32)) hx hb dX9_chunk_161 (by decide) ?_
                        replace hfin := ob1_some hfin
                        obtain ⟨r_44, hE_43, hfin⟩ := hfin
                        refine ctV (a := aI) (As := [.int (r_15 + p1), .int (9 : Int32)]) (rest := []) (st1 := [.int r_44]) (wc := [oX2 aD aDc D_writesDone D_writesLeft D_down, rI aDc cI 4096 D_cells, oX3 aI aD]) (w1 := [oX2 aD aDc D_writesDone D_writesLeft D_down, rI aDc cI 4096 D_cells, oX3 aI aD]) (wr := [oX9 aP P_seriesCount P_most P_ratio aD aI aG aU aT aQ aC P_recoveries]) (wb := [oX9 aP P_seriesCount P_most P_ratio aD aI aG aU aT aQ aC P_recoveries, oX2 aD aDc D_writesDone D_writesLeft D_down, rI aDc cI 4096 D_cells, oX3 aI aD]) (v := (some (.int r_44))) hx hb hml hown htc hN (c_X3_at l G cI cZ cJ aD aDc aI D_writesDone D_writesLeft D_down D_cells (r_15 + p1) (9 : Int32) hE_43) mw_395 mw_391 mw_392 mw_4 mw_393 hd_X3_at ⟨rfl, rfl⟩ ⟨Nat.le_of_ble_eq_true rfl, Nat.le_of_ble_eq_true rfl⟩ hK hw16 hA [1, 2, 3] [0] [0, 1, 2, 3] rfl rfl rfl rfl rfl (by decide) rfl rfl rfl 2 rfl rfl rfl rfl hl17.1 rfl rfl (Nat.le_of_ble_eq_true rfl) dX9_chunk_163 ⟨Nat.zero_le _, Nat.zero_le _⟩ (fun H45 locs45 hw45 => ?_)
                        clear hw16 H16 locs16
                        exact absurd (congrArg Prod.fst (Option.some.inj hfin)).symm hk
                      · replace hfin := it_f c_42 hfin
                        refine lv_tableOut (tgt := 167) hx hb dX9_chunk_45 (sw_out6 c_18 c_22 c_26 c_30 c_34 c_38 c_42) (by decide) ?_
                        cases hfin
                        rw [hQQ]
                        exact xt_throw (text := "a chunk has no such number") hx hb hml hST hown htc hT hlocks hX exN_3 (by decide) hw16 hl17.1 dX9_chunk_167 dX9_chunk_170 dX9_chunk_171 dX9_chunk_173 dX9_chunk_176 (Nat.le_of_ble_eq_true rfl) (Nat.le_of_ble_eq_true rfl) (Nat.le_of_ble_eq_true rfl) (Nat.le_of_ble_eq_true rfl)
        · replace hfin := it_f c_13 hfin
          cases hfin
          rw [hQQ]
          exact xt_throw (text := "no such chunk") hx hb hml hST hown htc hT hlocks hX exN_3 (by decide) hw12 hl0.1 dX9_chunk_22 dX9_chunk_25 dX9_chunk_26 dX9_chunk_28 dX9_chunk_31 (Nat.le_of_ble_eq_true rfl) (Nat.le_of_ble_eq_true rfl) (Nat.le_of_ble_eq_true rfl) (Nat.le_of_ble_eq_true rfl)
    · replace hfin := it_f c_7 hfin
      refine xtV (a := aP) (As := [.int p0]) (rest := []) (wc := [oX9 aP P_seriesCount P_most P_ratio aD aI aG aU aT aQ aC P_recoveries]) (w1 := [oX9 aP P_seriesCount P_most P_ratio aD aI aG aU aT aQ aC P_recoveries]) (wr := [oX2 aD aDc D_writesDone D_writesLeft D_down, rI aDc cI 4096 D_cells, oX3 aI aD]) (wb := [oX9 aP P_seriesCount P_most P_ratio aD aI aG aU aT aQ aC P_recoveries, oX2 aD aDc D_writesDone D_writesLeft D_down, rI aDc cI 4096 D_cells, oX3 aI aD]) hx hb hml hown htc hN hX (x_X9_throwUnlessSeries l hST G cI cZ cJ aP aD aI aG aU aT aQ aC P_seriesCount P_most P_ratio P_recoveries p0 hE_5 c_7) mw_849 mw_851 mp_31 mw_1 mw_852 hd_X9_throwUnlessSeries ⟨rfl, rfl⟩ ⟨Nat.le_of_ble_eq_true rfl, Nat.le_of_ble_eq_true rfl⟩ hK hw4 hA [0] [1, 2, 3] [3, 0, 1, 2] rfl rfl rfl rfl rfl (by decide) rfl rfl rfl 0 rfl rfl rfl rfl hl0.1 rfl (Nat.le_of_ble_eq_true rfl) dX9_chunk_6 ⟨Nat.le_of_ble_eq_true rfl, Nat.le_of_ble_eq_true rfl⟩ (fun H9 locs9 q9 ce9 hw9 h91 h92 h93 => ?_)
      cases hfin
      rw [hQQ]
      exact xt_out hT hlocks hw9 h91 h92 h93
  · replace hfin := it_f c_3 hfin
    refine xtV (a := aP) (As := []) (rest := []) (wc := [oX9 aP P_seriesCount P_most P_ratio aD aI aG aU aT aQ aC P_recoveries, oX2 aD aDc D_writesDone D_writesLeft D_down]) (w1 := [oX9 aP P_seriesCount P_most P_ratio aD aI aG aU aT aQ aC P_recoveries, oX2 aD aDc D_writesDone D_writesLeft D_down]) (wr := [rI aDc cI 4096 D_cells, oX3 aI aD]) (wb := [oX9 aP P_seriesCount P_most P_ratio aD aI aG aU aT aQ aC P_recoveries, oX2 aD aDc D_writesDone D_writesLeft D_down, rI aDc cI 4096 D_cells, oX3 aI aD]) hx hb hml hown htc hN hX (x_X9_throwUnlessUp l hST G cI cZ cJ aP aD aI aG aU aT aQ aC aDc P_seriesCount P_most P_ratio P_recoveries D_writesDone D_writesLeft D_down  hE_1 c_3) mw_777 mw_779 mp_29 mw_1 mw_780 hd_X9_throwUnlessUp ⟨rfl, rfl⟩ ⟨Nat.le_of_ble_eq_true rfl, Nat.le_of_ble_eq_true rfl⟩ hK hw0 hA [0, 1] [2, 3] [2, 3, 0, 1] rfl rfl rfl rfl rfl (by decide) rfl rfl rfl 0 rfl rfl rfl rfl hl0.1 rfl (Nat.le_of_ble_eq_true rfl) dX9_chunk_1 ⟨Nat.le_of_ble_eq_true rfl, Nat.le_of_ble_eq_true rfl⟩ (fun H9 locs9 q9 ce9 hw9 h91 h92 h93 => ?_)
    cases hfin
    rw [hQQ]
    exact xt_out hT hlocks hw9 h91 h92 h93
abbrev rm_X9_group : Room := { frames := 7, cells := 0, slots := 0, locals := 129 }
abbrev rx_X9_group : Room := { frames := 7, cells := 1, slots := 6, locals := 129 }
theorem hd_X9_group : yX9_group.cls = RX9 ∧ yX9_group.cls ≠ "java/lang/invoke/MethodHandle" ∧ yX9_group.cls ≠ "java/lang/invoke/VarHandle" ∧ (parseMethodDescriptor yX9_group.desc).map (fun d => d.parameters.length) = some 3 := by decide +kernel
set_option maxHeartbeats 4000000 in
set_option maxRecDepth 100000 in
theorem c_X9_group (l : Launch) (G : va_G) (cI cZ cJ : ClassId) (aP aD aI aG aU aT aQ aC aDc aF aZ : Nat) (P_seriesCount : Int32) (P_most : Int32) (P_ratio : Int32) (P_recoveries : Int32) (D_writesDone : Int32) (D_writesLeft : Int32) (D_down : Int32) (D_cells : Nat → Int32) (Q_ratio : Int32) (Q_looks : Int32) (Q_unpacked : Int32) (Z_first : Int32) (Z_last : Int32) (Z_points : Int32) (Z_least : Int32) (Z_greatest : Int32) (Z_sum : Int64) (p0 : Int32) (p1 : Int32) (p2 : Int32) {r : Int32} {o_Z_first : Int32} {o_Z_last : Int32} {o_Z_points : Int32} {o_Z_least : Int32} {o_Z_greatest : Int32} {o_Z_sum : Int64} (hfin : m_X9_group P_seriesCount P_ratio D_down D_cells Z_first Z_last Z_points Z_least Z_greatest Z_sum p0 p1 p2 = some ((0 : Int32), r, o_Z_first, o_Z_last, o_Z_points, o_Z_least, o_Z_greatest, o_Z_sum)) : CT l yX9_group cX9_group 7 (some .int) rm_X9_group G (tyC cI cZ cJ) [.ref aP, .int p0, .int p1, .int p2] [oX9 aP P_seriesCount P_most P_ratio aD aI aG aU aT aQ aC P_recoveries, oX2 aD aDc D_writesDone D_writesLeft D_down, rI aDc cI 4096 D_cells, oX3 aI aD, oX0 aQ aI aG aU Q_ratio aF aZ Q_looks Q_unpacked, oX6 aZ Z_first Z_last Z_points Z_least Z_greatest Z_sum] (some (.int r)) [oX9 aP P_seriesCount P_most P_ratio aD aI aG aU aT aQ aC P_recoveries, oX2 aD aDc D_writesDone D_writesLeft D_down, rI aDc cI 4096 D_cells, oX3 aI aD, oX0 aQ aI aG aU Q_ratio aF aZ Q_looks Q_unpacked, oX6 aZ o_Z_first o_Z_last o_Z_points o_Z_least o_Z_greatest o_Z_sum] := by
  refine CT.ofW (lvl := [(0, .ref aP), (1, .int p0), (2, .int p1), (3, .int p2)]) (by decide) (Nat.le_of_ble_eq_true rfl) rfl ?_
  intro p e s m args below meth c A ls0 QQ hQQ hx hb hml hr hlocks htc hN hown hK hA hw0 hl0
  rw [m_X9_group] at hfin
  refine lv_aload_n hx hb dX9_group_0 rfl (lv_at hl0 0 rfl) ?_
  replace hfin := ob1_some hfin
  obtain ⟨k_2, hE_1, hfin⟩ := hfin
  by_cases c_3 : k_2 = 0
  · replace hfin := it_t c_3 hfin
    subst c_3
    refine ctV (a := aP) (As := []) (rest := []) (st1 := []) (wc := [oX9 aP P_seriesCount P_most P_ratio aD aI aG aU aT aQ aC P_recoveries, oX2 aD aDc D_writesDone D_writesLeft D_down]) (w1 := [oX9 aP P_seriesCount P_most P_ratio aD aI aG aU aT aQ aC P_recoveries, oX2 aD aDc D_writesDone D_writesLeft D_down]) (wr := [rI aDc cI 4096 D_cells, oX3 aI aD, oX0 aQ aI aG aU Q_ratio aF aZ Q_looks Q_unpacked, oX6 aZ Z_first Z_last Z_points Z_least Z_greatest Z_sum]) (wb := [oX9 aP P_seriesCount P_most P_ratio aD aI aG aU aT aQ aC P_recoveries, oX2 aD aDc D_writesDone D_writesLeft D_down, rI aDc cI 4096 D_cells, oX3 aI aD, oX0 aQ aI aG aU Q_ratio aF aZ Q_looks Q_unpacked, oX6 aZ Z_first Z_last Z_points Z_least Z_greatest Z_sum]) (v := none) hx hb hml hown htc hN (c_X9_throwUnlessUp l G cI cZ cJ aP aD aI aG aU aT aQ aC aDc P_seriesCount P_most P_ratio P_recoveries D_writesDone D_writesLeft D_down  hE_1) mw_777 mw_779 mp_29 mw_1 mw_780 hd_X9_throwUnlessUp ⟨rfl, rfl⟩ ⟨Nat.le_of_ble_eq_true rfl, Nat.le_of_ble_eq_true rfl⟩ hK hw0 hA [0, 1] [2, 3, 4, 5] [4, 5, 0, 1, 2, 3] rfl rfl rfl rfl rfl (by decide) rfl rfl rfl 0 rfl rfl rfl rfl hl0.1 rfl rfl (Nat.le_of_ble_eq_true rfl) dX9_group_1 ⟨Nat.zero_le _, Nat.zero_le _⟩ (fun H4 locs4 hw4 => ?_)
    clear hw0
    refine lv_aload_n hx hb dX9_group_4 rfl (lv_at hl0 0 rfl) ?_
    refine lv_iload_n hx hb dX9_group_5 rfl (lv_at hl0 1 rfl) ?_
    replace hfin := ob1_some hfin
    obtain ⟨k_6, hE_5, hfin⟩ := hfin
    by_cases c_7 : k_6 = 0
    · replace hfin := it_t c_7 hfin
      subst c_7
      refine ctV (a := aP) (As := [.int p0]) (rest := []) (st1 := []) (wc := [oX9 aP P_seriesCount P_most P_ratio aD aI aG aU aT aQ aC P_recoveries]) (w1 := [oX9 aP P_seriesCount P_most P_ratio aD aI aG aU aT aQ aC P_recoveries]) (wr := [oX2 aD aDc D_writesDone D_writesLeft D_down, rI aDc cI 4096 D_cells, oX3 aI aD, oX0 aQ aI aG aU Q_ratio aF aZ Q_looks Q_unpacked, oX6 aZ Z_first Z_last Z_points Z_least Z_greatest Z_sum]) (wb := [oX9 aP P_seriesCount P_most P_ratio aD aI aG aU aT aQ aC P_recoveries, oX2 aD aDc D_writesDone D_writesLeft D_down, rI aDc cI 4096 D_cells, oX3 aI aD, oX0 aQ aI aG aU Q_ratio aF aZ Q_looks Q_unpacked, oX6 aZ Z_first Z_last Z_points Z_least Z_greatest Z_sum]) (v := none) hx hb hml hown htc hN (c_X9_throwUnlessSeries l G cI cZ cJ aP aD aI aG aU aT aQ aC P_seriesCount P_most P_ratio P_recoveries p0 hE_5) mw_849 mw_851 mp_31 mw_1 mw_852 hd_X9_throwUnlessSeries ⟨rfl, rfl⟩ ⟨Nat.le_of_ble_eq_true rfl, Nat.le_of_ble_eq_true rfl⟩ hK hw4 hA [0] [1, 2, 3, 4, 5] [5, 0, 1, 2, 3, 4] rfl rfl rfl rfl rfl (by decide) rfl rfl rfl 0 rfl rfl rfl rfl hl0.1 rfl rfl (Nat.le_of_ble_eq_true rfl) dX9_group_6 ⟨Nat.zero_le _, Nat.zero_le _⟩ (fun H8 locs8 hw8 => ?_)
      clear hw4 H4 locs4
      refine lv_iload_n hx hb dX9_group_9 rfl (lv_at hl0 2 rfl) ?_
      refine lv_if_lt (tgt := 22) hx hb dX9_group_10 (by decide) (fun c_9 => ?_) (fun c_9 => ?_)
      · replace hfin := it_t c_9 hfin
        exact absurd (congrArg Prod.fst (Option.some.inj hfin)) (show ¬ (3 : Int32) = 0 by decide)
      · replace hfin := it_f c_9 hfin
        refine lv_iload_n hx hb dX9_group_13 rfl (lv_at hl0 2 rfl) ?_
        refine lv_aload_n hx hb dX9_group_14 rfl (lv_at hl0 0 rfl) ?_
        refine lv_iload_n hx hb dX9_group_15 rfl (lv_at hl0 1 rfl) ?_
        replace hfin := ob1_some hfin
        obtain ⟨r_11, hE_10, hfin⟩ := hfin
        refine ctV (a := aP) (As := [.int p0]) (rest := [.int p1]) (st1 := [.int r_11, .int p1]) (wc := [oX9 aP P_seriesCount P_most P_ratio aD aI aG aU aT aQ aC P_recoveries, oX2 aD aDc D_writesDone D_writesLeft D_down, rI aDc cI 4096 D_cells, oX3 aI aD]) (w1 := [oX9 aP P_seriesCount P_most P_ratio aD aI aG aU aT aQ aC P_recoveries, oX2 aD aDc D_writesDone D_writesLeft D_down, rI aDc cI 4096 D_cells, oX3 aI aD]) (wr := [oX0 aQ aI aG aU Q_ratio aF aZ Q_looks Q_unpacked, oX6 aZ Z_first Z_last Z_points Z_least Z_greatest Z_sum]) (wb := [oX9 aP P_seriesCount P_most P_ratio aD aI aG aU aT aQ aC P_recoveries, oX2 aD aDc D_writesDone D_writesLeft D_down, rI aDc cI 4096 D_cells, oX3 aI aD, oX0 aQ aI aG aU Q_ratio aF aZ Q_looks Q_unpacked, oX6 aZ Z_first Z_last Z_points Z_least Z_greatest Z_sum]) (v := (some (.int r_11))) hx hb hml hown htc hN (c_X9_groupsOf l G cI cZ cJ aP aD aI aG aU aT aQ aC aDc P_seriesCount P_most P_ratio P_recoveries D_writesDone D_writesLeft D_down D_cells p0 hE_10) mw_899 mw_901 mp_33 mw_1 mw_902 hd_X9_groupsOf ⟨rfl, rfl⟩ ⟨Nat.le_of_ble_eq_true rfl, Nat.le_of_ble_eq_true rfl⟩ hK hw8 hA [0, 1, 2, 3] [4, 5] [2, 3, 4, 5, 0, 1] rfl rfl rfl rfl rfl (by decide) rfl rfl rfl 0 rfl rfl rfl rfl hl0.1 rfl rfl (Nat.le_of_ble_eq_true rfl) dX9_group_16 ⟨Nat.zero_le _, Nat.zero_le _⟩ (fun H12 locs12 hw12 => ?_)
        clear hw8 H8 locs8
        refine lv_icmp_lt (tgt := 32) hx hb dX9_group_19 (by decide) (fun c_13 => ?_) (fun c_13 => ?_)
        · replace hfin := it_t c_13 hfin
          refine lv_aload_n hx hb dX9_group_32 rfl (lv_at hl0 0 rfl) ?_
          refine va_get (D := G) (ci := 9) (v := .ref aI) (C := RX9) (T := TX9) (N := 11) hx hb htc iX9 hown hK hw12.1 0 rfl rfl 4 (by decide) (htc _ mw_307) (fun _ h9 => h9) rfl dX9_group_33 ?_
          refine lv_iload_n hx hb dX9_group_36 rfl (lv_at hl0 1 rfl) ?_
          replace hfin := ob1_some hfin
          obtain ⟨r_15, hE_14, hfin⟩ := hfin
          refine ctV (a := aI) (As := [.int p0]) (rest := []) (st1 := [.int r_15]) (wc := [oX2 aD aDc D_writesDone D_writesLeft D_down, rI aDc cI 4096 D_cells, oX3 aI aD]) (w1 := [oX2 aD aDc D_writesDone D_writesLeft D_down, rI aDc cI 4096 D_cells, oX3 aI aD]) (wr := [oX9 aP P_seriesCount P_most P_ratio aD aI aG aU aT aQ aC P_recoveries, oX0 aQ aI aG aU Q_ratio aF aZ Q_looks Q_unpacked, oX6 aZ Z_first Z_last Z_points Z_least Z_greatest Z_sum]) (wb := [oX9 aP P_seriesCount P_most P_ratio aD aI aG aU aT aQ aC P_recoveries, oX2 aD aDc D_writesDone D_writesLeft D_down, rI aDc cI 4096 D_cells, oX3 aI aD, oX0 aQ aI aG aU Q_ratio aF aZ Q_looks Q_unpacked, oX6 aZ Z_first Z_last Z_points Z_least Z_greatest Z_sum]) (v := (some (.int r_15))) hx hb hml hown htc hN (c_X3_firstOf l G cI cZ cJ aD aDc aI D_writesDone D_writesLeft D_down D_cells p0 hE_14) mw_394 mw_375 mw_376 mw_4 mw_377 hd_X3_firstOf ⟨rfl, rfl⟩ ⟨Nat.le_of_ble_eq_true rfl, Nat.le_of_ble_eq_true rfl⟩ hK hw12 hA [1, 2, 3] [0, 4, 5] [0, 3, 4, 5, 1, 2] rfl rfl rfl rfl rfl (by decide) rfl rfl rfl 2 rfl rfl rfl rfl hl0.1 rfl rfl (Nat.le_of_ble_eq_true rfl) dX9_group_37 ⟨Nat.zero_le _, Nat.zero_le _⟩ (fun H16 locs16 hw16 => ?_)
          clear hw12 H12 locs12
          refine lv_iload_n hx hb dX9_group_40 rfl (lv_at hl0 2 rfl) ?_
          refine lv_aload_n hx hb dX9_group_41 rfl (lv_at hl0 0 rfl) ?_
          refine va_get (D := G) (ci := 9) (v := .int P_ratio) (C := RX9) (T := TX9) (N := 11) hx hb htc iX9 hown hK hw16.1 0 rfl rfl 2 (by decide) (htc _ mw_305) (fun _ h9 => h9) rfl dX9_group_42 ?_
          refine lv_imul hx hb dX9_group_45 ?_
          refine lv_iadd hx hb dX9_group_46 ?_
          refine lv_istore (lv' := [(4, .int (r_15 + (p1 * P_ratio))), (0, .ref aP), (1, .int p0), (2, .int p1), (3, .int p2)]) hx hb dX9_group_47 hl0 (by decide) rfl (fun ls17 hl17 => ?_)
          clear hl0 ls0
          refine lv_iload hx hb dX9_group_49 (lv_at hl17 0 rfl) ?_
          refine lv_aload_n hx hb dX9_group_51 rfl (lv_at hl17 1 rfl) ?_
          refine va_get (D := G) (ci := 9) (v := .int P_ratio) (C := RX9) (T := TX9) (N := 11) hx hb htc iX9 hown hK hw16.1 0 rfl rfl 2 (by decide) (htc _ mw_305) (fun _ h9 => h9) rfl dX9_group_52 ?_
          refine lv_iadd hx hb dX9_group_55 ?_
          refine lv_aload_n hx hb dX9_group_56 rfl (lv_at hl17 1 rfl) ?_
          refine va_get (D := G) (ci := 9) (v := .ref aI) (C := RX9) (T := TX9) (N := 11) hx hb htc iX9 hown hK hw16.1 0 rfl rfl 4 (by decide) (htc _ mw_307) (fun _ h9 => h9) rfl dX9_group_57 ?_
          refine lv_iload_n hx hb dX9_group_60 rfl (lv_at hl17 2 rfl) ?_
          replace hfin := ob1_some hfin
          obtain ⟨r_19, hE_18, hfin⟩ := hfin
          refine ctV (a := aI) (As := [.int p0]) (rest := [.int ((r_15 + (p1 * P_ratio)) + P_ratio)]) (st1 := [.int r_19, .int ((r_15 + (p1 * P_ratio)) + P_ratio)]) (wc := [oX2 aD aDc D_writesDone D_writesLeft D_down, rI aDc cI 4096 D_cells, oX3 aI aD]) (w1 := [oX2 aD aDc D_writesDone D_writesLeft D_down, rI aDc cI 4096 D_cells, oX3 aI aD]) (wr := [oX9 aP P_seriesCount P_most P_ratio aD aI aG aU aT aQ aC P_recoveries, oX0 aQ aI aG aU Q_ratio aF aZ Q_looks Q_unpacked, oX6 aZ Z_first Z_last Z_points Z_least Z_greatest Z_sum]) (wb := [oX9 aP P_seriesCount P_most P_ratio aD aI aG aU aT aQ aC P_recoveries, oX2 aD aDc D_writesDone D_writesLeft D_down, rI aDc cI 4096 D_cells, oX3 aI aD, oX0 aQ aI aG aU Q_ratio aF aZ Q_looks Q_unpacked, oX6 aZ Z_first Z_last Z_points Z_least Z_greatest Z_sum]) (v := (some (.int r_19))) hx hb hml hown htc hN (c_X3_endOf l G cI cZ cJ aD aDc aI D_writesDone D_writesLeft D_down D_cells p0 hE_18) mw_370 mw_371 mw_372 mw_4 mw_373 hd_X3_endOf ⟨rfl, rfl⟩ ⟨Nat.le_of_ble_eq_true rfl, Nat.le_of_ble_eq_true rfl⟩ hK hw16 hA [1, 2, 3] [0, 4, 5] [0, 3, 4, 5, 1, 2] rfl rfl rfl rfl rfl (by decide) rfl rfl rfl 2 rfl rfl rfl rfl hl17.1 rfl rfl (Nat.le_of_ble_eq_true rfl) dX9_group_61 ⟨Nat.zero_le _, Nat.zero_le _⟩ (fun H20 locs20 hw20 => ?_)
          clear hw16 H16 locs16
          refine va_mmin hx hb (hml.trans hl17.1.symm) hown (htc _ mw_30) (htc _ mw_31) (htc _ mw_2) (htc _ mw_32) (Nat.le_of_ble_eq_true rfl) (Nat.le_of_ble_eq_true rfl) (Nat.zero_le _) (Nat.zero_le _) dX9_group_64 ?_
          refine lv_istore (lv' := [(5, .int (if r_19 < ((r_15 + (p1 * P_ratio)) + P_ratio) then r_19 else ((r_15 + (p1 * P_ratio)) + P_ratio))), (4, .int (r_15 + (p1 * P_ratio))), (0, .ref aP), (1, .int p0), (2, .int p1), (3, .int p2)]) hx hb dX9_group_67 hl17 (by decide) rfl (fun ls21 hl21 => ?_)
          clear hl17 ls17
          refine lv_aload_n hx hb dX9_group_69 rfl (lv_at hl21 2 rfl) ?_
          refine va_get (D := G) (ci := 9) (v := .ref aQ) (C := RX9) (T := TX9) (N := 11) hx hb htc iX9 hown hK hw20.1 0 rfl rfl 8 (by decide) (htc _ mw_311) (fun _ h9 => h9) rfl dX9_group_70 ?_
          refine lv_iload hx hb dX9_group_73 (lv_at hl21 1 rfl) ?_
          refine lv_iload hx hb dX9_group_75 (lv_at hl21 0 rfl) ?_
          replace hfin := ob6_some hfin
          obtain ⟨Z_first_23, Z_last_24, Z_points_25, Z_least_26, Z_greatest_27, Z_sum_28, hE_22, hfin⟩ := hfin
          refine ctV (a := aQ) (As := [.int (r_15 + (p1 * P_ratio)), .int (if r_19 < ((r_15 + (p1 * P_ratio)) + P_ratio) then r_19 else ((r_15 + (p1 * P_ratio)) + P_ratio))]) (rest := []) (st1 := [.ref aZ]) (wc := [oX2 aD aDc D_writesDone D_writesLeft D_down, rI aDc cI 4096 D_cells, oX3 aI aD, oX0 aQ aI aG aU Q_ratio aF aZ Q_looks Q_unpacked, oX6 aZ Z_first Z_last Z_points Z_least Z_greatest Z_sum]) (w1 := [oX2 aD aDc D_writesDone D_writesLeft D_down, rI aDc cI 4096 D_cells, oX3 aI aD, oX0 aQ aI aG aU Q_ratio aF aZ Q_looks Q_unpacked, oX6 aZ Z_first_23 Z_last_24 Z_points_25 Z_least_26 Z_greatest_27 Z_sum_28]) (wr := [oX9 aP P_seriesCount P_most P_ratio aD aI aG aU aT aQ aC P_recoveries]) (wb := [oX9 aP P_seriesCount P_most P_ratio aD aI aG aU aT aQ aC P_recoveries, oX2 aD aDc D_writesDone D_writesLeft D_down, rI aDc cI 4096 D_cells, oX3 aI aD, oX0 aQ aI aG aU Q_ratio aF aZ Q_looks Q_unpacked, oX6 aZ Z_first_23 Z_last_24 Z_points_25 Z_least_26 Z_greatest_27 Z_sum_28]) (v := (some (.ref aZ))) hx hb hml hown htc hN (c_X0_summaryOf l G cI cZ cJ aD aDc aI aQ aG aU aF aZ D_writesDone D_writesLeft D_down D_cells Q_ratio Q_looks Q_unpacked Z_first Z_last Z_points Z_least Z_greatest Z_sum (r_15 + (p1 * P_ratio)) (if r_19 < ((r_15 + (p1 * P_ratio)) + P_ratio) then r_19 else ((r_15 + (p1 * P_ratio)) + P_ratio)) hE_22) mw_936 mw_630 mw_631 mw_10 mw_632 hd_X0_summaryOf ⟨rfl, rfl⟩ ⟨Nat.le_of_ble_eq_true rfl, Nat.le_of_ble_eq_true rfl⟩ hK hw20 hA [1, 2, 3, 4, 5] [0] [0, 1, 2, 3, 4, 5] rfl rfl rfl rfl rfl (by decide) rfl rfl rfl 3 rfl rfl rfl rfl hl21.1 rfl rfl (Nat.le_of_ble_eq_true rfl) dX9_group_77 ⟨Nat.zero_le _, Nat.zero_le _⟩ (fun H29 locs29 hw29 => ?_)
          clear hw20 H20 locs20
          refine lv_astore (lv' := [(6, .ref aZ), (5, .int (if r_19 < ((r_15 + (p1 * P_ratio)) + P_ratio) then r_19 else ((r_15 + (p1 * P_ratio)) + P_ratio))), (4, .int (r_15 + (p1 * P_ratio))), (0, .ref aP), (1, .int p0), (2, .int p1), (3, .int p2)]) hx hb dX9_group_80 hl21 (by decide) rfl (fun ls30 hl30 => ?_)
          clear hl21 ls21
          refine lv_iload_n hx hb dX9_group_82 rfl (lv_at hl30 6 rfl) ?_
          by_cases c_31 : p2 = (0 : Int32)
          · replace hfin := it_t c_31 hfin
            refine lv_tableIn (tgt := 120) hx hb dX9_group_83 (by rw [c_31]; decide) (by rw [c_31]; decide) (by rw [c_31]; rfl) (by decide) ?_
            refine lv_aload hx hb dX9_group_120 (lv_at hl30 0 rfl) ?_
            refine va_getN (D := G) (ci := 6) (v := .int Z_first_23) (C := RX6) (T := TX6) (N := 6) hx hb htc iX6 hown hK hw29.1 5 rfl rfl 0 (by decide) (va_Nw.use rfl (hN _ mn_10)) (fun _ h9 => h9) rfl dX9_group_122 ?_
            cases hfin
            rw [hQQ]
            exact ct_iret hx hb hr hlocks hw29.1 hw29.2.1 hw29.2.2 dX9_group_125
          · replace hfin := it_f c_31 hfin
            by_cases c_32 : p2 = (1 : Int32)
            · replace hfin := it_t c_32 hfin
              refine lv_tableIn (tgt := 126) hx hb dX9_group_83 (by rw [c_32]; decide) (by rw [c_32]; decide) (by rw [c_32]; rfl) (by decide) ?_
              refine lv_aload hx hb dX9_group_126 (lv_at hl30 0 rfl) ?_
              refine va_getN (D := G) (ci := 6) (v := .int Z_last_24) (C := RX6) (T := TX6) (N := 6) hx hb htc iX6 hown hK hw29.1 5 rfl rfl 1 (by decide) (va_Nw.use rfl (hN _ mn_12)) (fun _ h9 => h9) rfl dX9_group_128 ?_
              cases hfin
              rw [hQQ]
              exact ct_iret hx hb hr hlocks hw29.1 hw29.2.1 hw29.2.2 dX9_group_131
            · replace hfin := it_f c_32 hfin
              by_cases c_33 : p2 = (2 : Int32)
              · replace hfin := it_t c_33 hfin
                refine lv_tableIn (tgt := 132) hx hb dX9_group_83 (by rw [c_33]; decide) (by rw [c_33]; decide) (by rw [c_33]; rfl) (by decide) ?_
                refine lv_aload hx hb dX9_group_132 (lv_at hl30 0 rfl) ?_
                refine va_getN (D := G) (ci := 6) (v := .int Z_points_25) (C := RX6) (T := TX6) (N := 6) hx hb htc iX6 hown hK hw29.1 5 rfl rfl 2 (by decide) (va_Nw.use rfl (hN _ mn_14)) (fun _ h9 => h9) rfl dX9_group_134 ?_
                cases hfin
                rw [hQQ]
                exact ct_iret hx hb hr hlocks hw29.1 hw29.2.1 hw29.2.2 dX9_group_137
              · replace hfin := it_f c_33 hfin
                by_cases c_34 : p2 = (3 : Int32)
                · replace hfin := it_t c_34 hfin
                  refine lv_tableIn (tgt := 138) hx hb dX9_group_83 (by rw [c_34]; decide) (by rw [c_34]; decide) (by rw [c_34]; rfl) (by decide) ?_
                  refine lv_aload hx hb dX9_group_138 (lv_at hl30 0 rfl) ?_
                  refine va_getN (D := G) (ci := 6) (v := .int Z_least_26) (C := RX6) (T := TX6) (N := 6) hx hb htc iX6 hown hK hw29.1 5 rfl rfl 3 (by decide) (va_Nw.use rfl (hN _ mn_16)) (fun _ h9 => h9) rfl dX9_group_140 ?_
                  cases hfin
                  rw [hQQ]
                  exact ct_iret hx hb hr hlocks hw29.1 hw29.2.1 hw29.2.2 dX9_group_143
                · replace hfin := it_f c_34 hfin
                  by_cases c_35 : p2 = (4 : Int32)
                  · replace hfin := it_t c_35 hfin
                    refine lv_tableIn (tgt := 144) hx hb dX9_group_83 (by rw [c_35]; decide) (by rw [c_35]; decide) (by rw [c_35]; rfl) (by decide) ?_
                    refine lv_aload hx hb dX9_group_144 (lv_at hl30 0 rfl) ?_
                    refine va_getN (D := G) (ci := 6) (v := .int Z_greatest_27) (C := RX6) (T := TX6) (N := 6) hx hb htc iX6 hown hK hw29.1 5 rfl rfl 4 (by decide) (va_Nw.use rfl (hN _ mn_19)) (fun _ h9 => h9) rfl dX9_group_146 ?_
                    cases hfin
                    rw [hQQ]
                    exact ct_iret hx hb hr hlocks hw29.1 hw29.2.1 hw29.2.2 dX9_group_149
                  · replace hfin := it_f c_35 hfin
                    by_cases c_36 : p2 = (5 : Int32)
                    · replace hfin := it_t c_36 hfin
                      refine lv_tableIn (tgt := 150) hx hb dX9_group_83 (by rw [c_36]; decide) (by rw [c_36]; decide) (by rw [c_36]; rfl) (by decide) ?_
                      refine lv_iload hx hb dX9_group_150 (lv_at hl30 1 rfl) ?_
                      refine lv_iload hx hb dX9_group_152 (lv_at hl30 2 rfl) ?_
                      refine lv_isub hx hb dX9_group_154 ?_
                      cases hfin
                      rw [hQQ]
                      exact ct_iret hx hb hr hlocks hw29.1 hw29.2.1 hw29.2.2 dX9_group_155
                    · replace hfin := it_f c_36 hfin
                      refine lv_tableOut (tgt := 156) hx hb dX9_group_83 (sw_out5 c_31 c_32 c_33 c_34 c_35 c_36) (by decide) ?_
                      exact absurd (congrArg Prod.fst (Option.some.inj hfin)) (show ¬ (3 : Int32) = 0 by decide)
        · replace hfin := it_f c_13 hfin
          exact absurd (congrArg Prod.fst (Option.some.inj hfin)) (show ¬ (3 : Int32) = 0 by decide)
    · replace hfin := it_f c_7 hfin
      exact absurd (congrArg Prod.fst (Option.some.inj hfin)) c_7
  · replace hfin := it_f c_3 hfin
    exact absurd (congrArg Prod.fst (Option.some.inj hfin)) c_3
set_option maxHeartbeats 4000000 in
set_option maxRecDepth 100000 in
theorem x_X9_group (l : Launch) (hST : l.stackTraces = false) (G : va_G) (cI cZ cJ : ClassId) (aP aD aI aG aU aT aQ aC aDc aF aZ : Nat) (P_seriesCount : Int32) (P_most : Int32) (P_ratio : Int32) (P_recoveries : Int32) (D_writesDone : Int32) (D_writesLeft : Int32) (D_down : Int32) (D_cells : Nat → Int32) (Q_ratio : Int32) (Q_looks : Int32) (Q_unpacked : Int32) (Z_first : Int32) (Z_last : Int32) (Z_points : Int32) (Z_least : Int32) (Z_greatest : Int32) (Z_sum : Int64) (p0 : Int32) (p1 : Int32) (p2 : Int32) {k : Int32} {r : Int32} {o_Z_first : Int32} {o_Z_last : Int32} {o_Z_points : Int32} {o_Z_least : Int32} {o_Z_greatest : Int32} {o_Z_sum : Int64} (hfin : m_X9_group P_seriesCount P_ratio D_down D_cells Z_first Z_last Z_points Z_least Z_greatest Z_sum p0 p1 p2 = some (k, r, o_Z_first, o_Z_last, o_Z_points, o_Z_least, o_Z_greatest, o_Z_sum)) (hk : ¬ k = 0) : XT l yX9_group cX9_group 7 (some .int) rx_X9_group G (tyC cI cZ cJ) [.ref aP, .int p0, .int p1, .int p2] [oX9 aP P_seriesCount P_most P_ratio aD aI aG aU aT aQ aC P_recoveries, oX2 aD aDc D_writesDone D_writesLeft D_down, rI aDc cI 4096 D_cells, oX3 aI aD, oX0 aQ aI aG aU Q_ratio aF aZ Q_looks Q_unpacked, oX6 aZ Z_first Z_last Z_points Z_least Z_greatest Z_sum] k [oX9 aP P_seriesCount P_most P_ratio aD aI aG aU aT aQ aC P_recoveries, oX2 aD aDc D_writesDone D_writesLeft D_down, rI aDc cI 4096 D_cells, oX3 aI aD, oX0 aQ aI aG aU Q_ratio aF aZ Q_looks Q_unpacked, oX6 aZ o_Z_first o_Z_last o_Z_points o_Z_least o_Z_greatest o_Z_sum] := by
  refine XT.ofW (lvl := [(0, .ref aP), (1, .int p0), (2, .int p1), (3, .int p2)]) (by decide) (Nat.le_of_ble_eq_true rfl) rfl ?_
  intro p e s m args below meth c A ls0 QQ hQQ hT hX hx hb hml hr hlocks htc hN hown hK hA hw0 hl0
  rw [m_X9_group] at hfin
  refine lv_aload_n hx hb dX9_group_0 rfl (lv_at hl0 0 rfl) ?_
  replace hfin := ob1_some hfin
  obtain ⟨k_2, hE_1, hfin⟩ := hfin
  by_cases c_3 : k_2 = 0
  · replace hfin := it_t c_3 hfin
    subst c_3
    refine ctV (a := aP) (As := []) (rest := []) (st1 := []) (wc := [oX9 aP P_seriesCount P_most P_ratio aD aI aG aU aT aQ aC P_recoveries, oX2 aD aDc D_writesDone D_writesLeft D_down]) (w1 := [oX9 aP P_seriesCount P_most P_ratio aD aI aG aU aT aQ aC P_recoveries, oX2 aD aDc D_writesDone D_writesLeft D_down]) (wr := [rI aDc cI 4096 D_cells, oX3 aI aD, oX0 aQ aI aG aU Q_ratio aF aZ Q_looks Q_unpacked, oX6 aZ Z_first Z_last Z_points Z_least Z_greatest Z_sum]) (wb := [oX9 aP P_seriesCount P_most P_ratio aD aI aG aU aT aQ aC P_recoveries, oX2 aD aDc D_writesDone D_writesLeft D_down, rI aDc cI 4096 D_cells, oX3 aI aD, oX0 aQ aI aG aU Q_ratio aF aZ Q_looks Q_unpacked, oX6 aZ Z_first Z_last Z_points Z_least Z_greatest Z_sum]) (v := none) hx hb hml hown htc hN (c_X9_throwUnlessUp l G cI cZ cJ aP aD aI aG aU aT aQ aC aDc P_seriesCount P_most P_ratio P_recoveries D_writesDone D_writesLeft D_down  hE_1) mw_777 mw_779 mp_29 mw_1 mw_780 hd_X9_throwUnlessUp ⟨rfl, rfl⟩ ⟨Nat.le_of_ble_eq_true rfl, Nat.le_of_ble_eq_true rfl⟩ hK hw0 hA [0, 1] [2, 3, 4, 5] [4, 5, 0, 1, 2, 3] rfl rfl rfl rfl rfl (by decide) rfl rfl rfl 0 rfl rfl rfl rfl hl0.1 rfl rfl (Nat.le_of_ble_eq_true rfl) dX9_group_1 ⟨Nat.zero_le _, Nat.zero_le _⟩ (fun H4 locs4 hw4 => ?_)
    clear hw0
    refine lv_aload_n hx hb dX9_group_4 rfl (lv_at hl0 0 rfl) ?_
    refine lv_iload_n hx hb dX9_group_5 rfl (lv_at hl0 1 rfl) ?_
    replace hfin := ob1_some hfin
    obtain ⟨k_6, hE_5, hfin⟩ := hfin
    by_cases c_7 : k_6 = 0
    · replace hfin := it_t c_7 hfin
      subst c_7
      refine ctV (a := aP) (As := [.int p0]) (rest := []) (st1 := []) (wc := [oX9 aP P_seriesCount P_most P_ratio aD aI aG aU aT aQ aC P_recoveries]) (w1 := [oX9 aP P_seriesCount P_most P_ratio aD aI aG aU aT aQ aC P_recoveries]) (wr := [oX2 aD aDc D_writesDone D_writesLeft D_down, rI aDc cI 4096 D_cells, oX3 aI aD, oX0 aQ aI aG aU Q_ratio aF aZ Q_looks Q_unpacked, oX6 aZ Z_first Z_last Z_points Z_least Z_greatest Z_sum]) (wb := [oX9 aP P_seriesCount P_most P_ratio aD aI aG aU aT aQ aC P_recoveries, oX2 aD aDc D_writesDone D_writesLeft D_down, rI aDc cI 4096 D_cells, oX3 aI aD, oX0 aQ aI aG aU Q_ratio aF aZ Q_looks Q_unpacked, oX6 aZ Z_first Z_last Z_points Z_least Z_greatest Z_sum]) (v := none) hx hb hml hown htc hN (c_X9_throwUnlessSeries l G cI cZ cJ aP aD aI aG aU aT aQ aC P_seriesCount P_most P_ratio P_recoveries p0 hE_5) mw_849 mw_851 mp_31 mw_1 mw_852 hd_X9_throwUnlessSeries ⟨rfl, rfl⟩ ⟨Nat.le_of_ble_eq_true rfl, Nat.le_of_ble_eq_true rfl⟩ hK hw4 hA [0] [1, 2, 3, 4, 5] [5, 0, 1, 2, 3, 4] rfl rfl rfl rfl rfl (by decide) rfl rfl rfl 0 rfl rfl rfl rfl hl0.1 rfl rfl (Nat.le_of_ble_eq_true rfl) dX9_group_6 ⟨Nat.zero_le _, Nat.zero_le _⟩ (fun H8 locs8 hw8 => ?_)
      clear hw4 H4 locs4
      refine lv_iload_n hx hb dX9_group_9 rfl (lv_at hl0 2 rfl) ?_
      refine lv_if_lt (tgt := 22) hx hb dX9_group_10 (by decide) (fun c_9 => ?_) (fun c_9 => ?_)
      · replace hfin := it_t c_9 hfin
        cases hfin
        rw [hQQ]
        exact xt_throw (text := "no such group") hx hb hml hST hown htc hT hlocks hX exN_3 (by decide) hw8 hl0.1 dX9_group_22 dX9_group_25 dX9_group_26 dX9_group_28 dX9_group_31 (Nat.le_of_ble_eq_true rfl) (Nat.le_of_ble_eq_true rfl) (Nat.le_of_ble_eq_true rfl) (Nat.le_of_ble_eq_true rfl)
      · replace hfin := it_f c_9 hfin
        refine lv_iload_n hx hb dX9_group_13 rfl (lv_at hl0 2 rfl) ?_
        refine lv_aload_n hx hb dX9_group_14 rfl (lv_at hl0 0 rfl) ?_
        refine lv_iload_n hx hb dX9_group_15 rfl (lv_at hl0 1 rfl) ?_
        replace hfin := ob1_some hfin
        obtain ⟨r_11, hE_10, hfin⟩ := hfin
        refine ctV (a := aP) (As := [.int p0]) (rest := [.int p1]) (st1 := [.int r_11, .int p1]) (wc := [oX9 aP P_seriesCount P_most P_ratio aD aI aG aU aT aQ aC P_recoveries, oX2 aD aDc D_writesDone D_writesLeft D_down, rI aDc cI 4096 D_cells, oX3 aI aD]) (w1 := [oX9 aP P_seriesCount P_most P_ratio aD aI aG aU aT aQ aC P_recoveries, oX2 aD aDc D_writesDone D_writesLeft D_down, rI aDc cI 4096 D_cells, oX3 aI aD]) (wr := [oX0 aQ aI aG aU Q_ratio aF aZ Q_looks Q_unpacked, oX6 aZ Z_first Z_last Z_points Z_least Z_greatest Z_sum]) (wb := [oX9 aP P_seriesCount P_most P_ratio aD aI aG aU aT aQ aC P_recoveries, oX2 aD aDc D_writesDone D_writesLeft D_down, rI aDc cI 4096 D_cells, oX3 aI aD, oX0 aQ aI aG aU Q_ratio aF aZ Q_looks Q_unpacked, oX6 aZ Z_first Z_last Z_points Z_least Z_greatest Z_sum]) (v := (some (.int r_11))) hx hb hml hown htc hN (c_X9_groupsOf l G cI cZ cJ aP aD aI aG aU aT aQ aC aDc P_seriesCount P_most P_ratio P_recoveries D_writesDone D_writesLeft D_down D_cells p0 hE_10) mw_899 mw_901 mp_33 mw_1 mw_902 hd_X9_groupsOf ⟨rfl, rfl⟩ ⟨Nat.le_of_ble_eq_true rfl, Nat.le_of_ble_eq_true rfl⟩ hK hw8 hA [0, 1, 2, 3] [4, 5] [2, 3, 4, 5, 0, 1] rfl rfl rfl rfl rfl (by decide) rfl rfl rfl 0 rfl rfl rfl rfl hl0.1 rfl rfl (Nat.le_of_ble_eq_true rfl) dX9_group_16 ⟨Nat.zero_le _, Nat.zero_le _⟩ (fun H12 locs12 hw12 => ?_)
        clear hw8 H8 locs8
        refine lv_icmp_lt (tgt := 32) hx hb dX9_group_19 (by decide) (fun c_13 => ?_) (fun c_13 => ?_)
        · replace hfin := it_t c_13 hfin
          refine lv_aload_n hx hb dX9_group_32 rfl (lv_at hl0 0 rfl) ?_
          refine va_get (D := G) (ci := 9) (v := .ref aI) (C := RX9) (T := TX9) (N := 11) hx hb htc iX9 hown hK hw12.1 0 rfl rfl 4 (by decide) (htc _ mw_307) (fun _ h9 => h9) rfl dX9_group_33 ?_
          refine lv_iload_n hx hb dX9_group_36 rfl (lv_at hl0 1 rfl) ?_
          replace hfin := ob1_some hfin
          obtain ⟨r_15, hE_14, hfin⟩ := hfin
          refine ctV (a := aI) (As := [.int p0]) (rest := []) (st1 := [.int r_15]) (wc := [oX2 aD aDc D_writesDone D_writesLeft D_down, rI aDc cI 4096 D_cells, oX3 aI aD]) (w1 := [oX2 aD aDc D_writesDone D_writesLeft D_down, rI aDc cI 4096 D_cells, oX3 aI aD]) (wr := [oX9 aP P_seriesCount P_most P_ratio aD aI aG aU aT aQ aC P_recoveries, oX0 aQ aI aG aU Q_ratio aF aZ Q_looks Q_unpacked, oX6 aZ Z_first Z_last Z_points Z_least Z_greatest Z_sum]) (wb := [oX9 aP P_seriesCount P_most P_ratio aD aI aG aU aT aQ aC P_recoveries, oX2 aD aDc D_writesDone D_writesLeft D_down, rI aDc cI 4096 D_cells, oX3 aI aD, oX0 aQ aI aG aU Q_ratio aF aZ Q_looks Q_unpacked, oX6 aZ Z_first Z_last Z_points Z_least Z_greatest Z_sum]) (v := (some (.int r_15))) hx hb hml hown htc hN (c_X3_firstOf l G cI cZ cJ aD aDc aI D_writesDone D_writesLeft D_down D_cells p0 hE_14) mw_394 mw_375 mw_376 mw_4 mw_377 hd_X3_firstOf ⟨rfl, rfl⟩ ⟨Nat.le_of_ble_eq_true rfl, Nat.le_of_ble_eq_true rfl⟩ hK hw12 hA [1, 2, 3] [0, 4, 5] [0, 3, 4, 5, 1, 2] rfl rfl rfl rfl rfl (by decide) rfl rfl rfl 2 rfl rfl rfl rfl hl0.1 rfl rfl (Nat.le_of_ble_eq_true rfl) dX9_group_37 ⟨Nat.zero_le _, Nat.zero_le _⟩ (fun H16 locs16 hw16 => ?_)
          clear hw12 H12 locs12
          refine lv_iload_n hx hb dX9_group_40 rfl (lv_at hl0 2 rfl) ?_
          refine lv_aload_n hx hb dX9_group_41 rfl (lv_at hl0 0 rfl) ?_
          refine va_get (D := G) (ci := 9) (v := .int P_ratio) (C := RX9) (T := TX9) (N := 11) hx hb htc iX9 hown hK hw16.1 0 rfl rfl 2 (by decide) (htc _ mw_305) (fun _ h9 => h9) rfl dX9_group_42 ?_
          refine lv_imul hx hb dX9_group_45 ?_
          refine lv_iadd hx hb dX9_group_46 ?_
          refine lv_istore (lv' := [(4, .int (r_15 + (p1 * P_ratio))), (0, .ref aP), (1, .int p0), (2, .int p1), (3, .int p2)]) hx hb dX9_group_47 hl0 (by decide) rfl (fun ls17 hl17 => ?_)
          clear hl0 ls0
          refine lv_iload hx hb dX9_group_49 (lv_at hl17 0 rfl) ?_
          refine lv_aload_n hx hb dX9_group_51 rfl (lv_at hl17 1 rfl) ?_
          refine va_get (D := G) (ci := 9) (v := .int P_ratio) (C := RX9) (T := TX9) (N := 11) hx hb htc iX9 hown hK hw16.1 0 rfl rfl 2 (by decide) (htc _ mw_305) (fun _ h9 => h9) rfl dX9_group_52 ?_
          refine lv_iadd hx hb dX9_group_55 ?_
          refine lv_aload_n hx hb dX9_group_56 rfl (lv_at hl17 1 rfl) ?_
          refine va_get (D := G) (ci := 9) (v := .ref aI) (C := RX9) (T := TX9) (N := 11) hx hb htc iX9 hown hK hw16.1 0 rfl rfl 4 (by decide) (htc _ mw_307) (fun _ h9 => h9) rfl dX9_group_57 ?_
          refine lv_iload_n hx hb dX9_group_60 rfl (lv_at hl17 2 rfl) ?_
          replace hfin := ob1_some hfin
          obtain ⟨r_19, hE_18, hfin⟩ := hfin
          refine ctV (a := aI) (As := [.int p0]) (rest := [.int ((r_15 + (p1 * P_ratio)) + P_ratio)]) (st1 := [.int r_19, .int ((r_15 + (p1 * P_ratio)) + P_ratio)]) (wc := [oX2 aD aDc D_writesDone D_writesLeft D_down, rI aDc cI 4096 D_cells, oX3 aI aD]) (w1 := [oX2 aD aDc D_writesDone D_writesLeft D_down, rI aDc cI 4096 D_cells, oX3 aI aD]) (wr := [oX9 aP P_seriesCount P_most P_ratio aD aI aG aU aT aQ aC P_recoveries, oX0 aQ aI aG aU Q_ratio aF aZ Q_looks Q_unpacked, oX6 aZ Z_first Z_last Z_points Z_least Z_greatest Z_sum]) (wb := [oX9 aP P_seriesCount P_most P_ratio aD aI aG aU aT aQ aC P_recoveries, oX2 aD aDc D_writesDone D_writesLeft D_down, rI aDc cI 4096 D_cells, oX3 aI aD, oX0 aQ aI aG aU Q_ratio aF aZ Q_looks Q_unpacked, oX6 aZ Z_first Z_last Z_points Z_least Z_greatest Z_sum]) (v := (some (.int r_19))) hx hb hml hown htc hN (c_X3_endOf l G cI cZ cJ aD aDc aI D_writesDone D_writesLeft D_down D_cells p0 hE_18) mw_370 mw_371 mw_372 mw_4 mw_373 hd_X3_endOf ⟨rfl, rfl⟩ ⟨Nat.le_of_ble_eq_true rfl, Nat.le_of_ble_eq_true rfl⟩ hK hw16 hA [1, 2, 3] [0, 4, 5] [0, 3, 4, 5, 1, 2] rfl rfl rfl rfl rfl (by decide) rfl rfl rfl 2 rfl rfl rfl rfl hl17.1 rfl rfl (Nat.le_of_ble_eq_true rfl) dX9_group_61 ⟨Nat.zero_le _, Nat.zero_le _⟩ (fun H20 locs20 hw20 => ?_)
          clear hw16 H16 locs16
          refine va_mmin hx hb (hml.trans hl17.1.symm) hown (htc _ mw_30) (htc _ mw_31) (htc _ mw_2) (htc _ mw_32) (Nat.le_of_ble_eq_true rfl) (Nat.le_of_ble_eq_true rfl) (Nat.zero_le _) (Nat.zero_le _) dX9_group_64 ?_
          refine lv_istore (lv' := [(5, .int (if r_19 < ((r_15 + (p1 * P_ratio)) + P_ratio) then r_19 else ((r_15 + (p1 * P_ratio)) + P_ratio))), (4, .int (r_15 + (p1 * P_ratio))), (0, .ref aP), (1, .int p0), (2, .int p1), (3, .int p2)]) hx hb dX9_group_67 hl17 (by decide) rfl (fun ls21 hl21 => ?_)
          clear hl17 ls17
          refine lv_aload_n hx hb dX9_group_69 rfl (lv_at hl21 2 rfl) ?_
          refine va_get (D := G) (ci := 9) (v := .ref aQ) (C := RX9) (T := TX9) (N := 11) hx hb htc iX9 hown hK hw20.1 0 rfl rfl 8 (by decide) (htc _ mw_311) (fun _ h9 => h9) rfl dX9_group_70 ?_
          refine lv_iload hx hb dX9_group_73 (lv_at hl21 1 rfl) ?_
          refine lv_iload hx hb dX9_group_75 (lv_at hl21 0 rfl) ?_
          replace hfin := ob6_some hfin
          obtain ⟨Z_first_23, Z_last_24, Z_points_25, Z_least_26, Z_greatest_27, Z_sum_28, hE_22, hfin⟩ := hfin
          refine ctV (a := aQ) (As := [.int (r_15 + (p1 * P_ratio)), .int (if r_19 < ((r_15 + (p1 * P_ratio)) + P_ratio) then r_19 else ((r_15 + (p1 * P_ratio)) + P_ratio))]) (rest := []) (st1 := [.ref aZ]) (wc := [oX2 aD aDc D_writesDone D_writesLeft D_down, rI aDc cI 4096 D_cells, oX3 aI aD, oX0 aQ aI aG aU Q_ratio aF aZ Q_looks Q_unpacked, oX6 aZ Z_first Z_last Z_points Z_least Z_greatest Z_sum]) (w1 := [oX2 aD aDc D_writesDone D_writesLeft D_down, rI aDc cI 4096 D_cells, oX3 aI aD, oX0 aQ aI aG aU Q_ratio aF aZ Q_looks Q_unpacked, oX6 aZ Z_first_23 Z_last_24 Z_points_25 Z_least_26 Z_greatest_27 Z_sum_28]) (wr := [oX9 aP P_seriesCount P_most P_ratio aD aI aG aU aT aQ aC P_recoveries]) (wb := [oX9 aP P_seriesCount P_most P_ratio aD aI aG aU aT aQ aC P_recoveries, oX2 aD aDc D_writesDone D_writesLeft D_down, rI aDc cI 4096 D_cells, oX3 aI aD, oX0 aQ aI aG aU Q_ratio aF aZ Q_looks Q_unpacked, oX6 aZ Z_first_23 Z_last_24 Z_points_25 Z_least_26 Z_greatest_27 Z_sum_28]) (v := (some (.ref aZ))) hx hb hml hown htc hN (c_X0_summaryOf l G cI cZ cJ aD aDc aI aQ aG aU aF aZ D_writesDone D_writesLeft D_down D_cells Q_ratio Q_looks Q_unpacked Z_first Z_last Z_points Z_least Z_greatest Z_sum (r_15 + (p1 * P_ratio)) (if r_19 < ((r_15 + (p1 * P_ratio)) + P_ratio) then r_19 else ((r_15 + (p1 * P_ratio)) + P_ratio)) hE_22) mw_936 mw_630 mw_631 mw_10 mw_632 hd_X0_summaryOf ⟨rfl, rfl⟩ ⟨Nat.le_of_ble_eq_true rfl, Nat.le_of_ble_eq_true rfl⟩ hK hw20 hA [1, 2, 3, 4, 5] [0] [0, 1, 2, 3, 4, 5] rfl rfl rfl rfl rfl (by decide) rfl rfl rfl 3 rfl rfl rfl rfl hl21.1 rfl rfl (Nat.le_of_ble_eq_true rfl) dX9_group_77 ⟨Nat.zero_le _, Nat.zero_le _⟩ (fun H29 locs29 hw29 => ?_)
          clear hw20 H20 locs20
          refine lv_astore (lv' := [(6, .ref aZ), (5, .int (if r_19 < ((r_15 + (p1 * P_ratio)) + P_ratio) then r_19 else ((r_15 + (p1 * P_ratio)) + P_ratio))), (4, .int (r_15 + (p1 * P_ratio))), (0, .ref aP), (1, .int p0), (2, .int p1), (3, .int p2)]) hx hb dX9_group_80 hl21 (by decide) rfl (fun ls30 hl30 => ?_)
          clear hl21 ls21
          refine lv_iload_n hx hb dX9_group_82 rfl (lv_at hl30 6 rfl) ?_
          by_cases c_31 : p2 = (0 : Int32)
          · replace hfin := it_t c_31 hfin
            refine lv_tableIn (tgt := 120) hx hb dX9_group_83 (by rw [c_31]; decide) (by rw [c_31]; decide) (by rw [c_31]; rfl) (by decide) ?_
            refine lv_aload hx hb dX9_group_120 (lv_at hl30 0 rfl) ?_
            refine va_getN (D := G) (ci := 6) (v := .int Z_first_23) (C := RX6) (T := TX6) (N := 6) hx hb htc iX6 hown hK hw29.1 5 rfl rfl 0 (by decide) (va_Nw.use rfl (hN _ mn_10)) (fun _ h9 => h9) rfl dX9_group_122 ?_
            exact absurd (congrArg Prod.fst (Option.some.inj hfin)).symm hk
          · replace hfin := it_f c_31 hfin
            by_cases c_32 : p2 = (1 : Int32)
            · replace hfin := it_t c_32 hfin
              refine lv_tableIn (tgt := 126) hx hb dX9_group_83 (by rw [c_32]; decide) (by rw [c_32]; decide) (by rw [c_32]; rfl) (by decide) ?_
              refine lv_aload hx hb dX9_group_126 (lv_at hl30 0 rfl) ?_
              refine va_getN (D := G) (ci := 6) (v := .int Z_last_24) (C := RX6) (T := TX6) (N := 6) hx hb htc iX6 hown hK hw29.1 5 rfl rfl 1 (by decide) (va_Nw.use rfl (hN _ mn_12)) (fun _ h9 => h9) rfl dX9_group_128 ?_
              exact absurd (congrArg Prod.fst (Option.some.inj hfin)).symm hk
            · replace hfin := it_f c_32 hfin
              by_cases c_33 : p2 = (2 : Int32)
              · replace hfin := it_t c_33 hfin
                refine lv_tableIn (tgt := 132) hx hb dX9_group_83 (by rw [c_33]; decide) (by rw [c_33]; decide) (by rw [c_33]; rfl) (by decide) ?_
                refine lv_aload hx hb dX9_group_132 (lv_at hl30 0 rfl) ?_
                refine va_getN (D := G) (ci := 6) (v := .int Z_points_25) (C := RX6) (T := TX6) (N := 6) hx hb htc iX6 hown hK hw29.1 5 rfl rfl 2 (by decide) (va_Nw.use rfl (hN _ mn_14)) (fun _ h9 => h9) rfl dX9_group_134 ?_
                exact absurd (congrArg Prod.fst (Option.some.inj hfin)).symm hk
              · replace hfin := it_f c_33 hfin
                by_cases c_34 : p2 = (3 : Int32)
                · replace hfin := it_t c_34 hfin
                  refine lv_tableIn (tgt := 138) hx hb dX9_group_83 (by rw [c_34]; decide) (by rw [c_34]; decide) (by rw [c_34]; rfl) (by decide) ?_
                  refine lv_aload hx hb dX9_group_138 (lv_at hl30 0 rfl) ?_
                  refine va_getN (D := G) (ci := 6) (v := .int Z_least_26) (C := RX6) (T := TX6) (N := 6) hx hb htc iX6 hown hK hw29.1 5 rfl rfl 3 (by decide) (va_Nw.use rfl (hN _ mn_16)) (fun _ h9 => h9) rfl dX9_group_140 ?_
                  exact absurd (congrArg Prod.fst (Option.some.inj hfin)).symm hk
                · replace hfin := it_f c_34 hfin
                  by_cases c_35 : p2 = (4 : Int32)
                  · replace hfin := it_t c_35 hfin
                    refine lv_tableIn (tgt := 144) hx hb dX9_group_83 (by rw [c_35]; decide) (by rw [c_35]; decide) (by rw [c_35]; rfl) (by decide) ?_
                    refine lv_aload hx hb dX9_group_144 (lv_at hl30 0 rfl) ?_
                    refine va_getN (D := G) (ci := 6) (v := .int Z_greatest_27) (C := RX6) (T := TX6) (N := 6) hx hb htc iX6 hown hK hw29.1 5 rfl rfl 4 (by decide) (va_Nw.use rfl (hN _ mn_19)) (fun _ h9 => h9) rfl dX9_group_146 ?_
                    exact absurd (congrArg Prod.fst (Option.some.inj hfin)).symm hk
                  · replace hfin := it_f c_35 hfin
                    by_cases c_36 : p2 = (5 : Int32)
                    · replace hfin := it_t c_36 hfin
                      refine lv_tableIn (tgt := 150) hx hb dX9_group_83 (by rw [c_36]; decide) (by rw [c_36]; decide) (by rw [c_36]; rfl) (by decide) ?_
                      refine lv_iload hx hb dX9_group_150 (lv_at hl30 1 rfl) ?_
                      refine lv_iload hx hb dX9_group_152 (lv_at hl30 2 rfl) ?_
                      refine lv_isub hx hb dX9_group_154 ?_
                      exact absurd (congrArg Prod.fst (Option.some.inj hfin)).symm hk
                    · replace hfin := it_f c_36 hfin
                      refine lv_tableOut (tgt := 156) hx hb dX9_group_83 (sw_out5 c_31 c_32 c_33 c_34 c_35 c_36) (by decide) ?_
                      cases hfin
                      rw [hQQ]
                      exact xt_throw (text := "a group has no such number") hx hb hml hST hown htc hT hlocks hX exN_3 (by decide) hw29 hl30.1 dX9_group_156 dX9_group_159 dX9_group_160 dX9_group_162 dX9_group_165 (Nat.le_of_ble_eq_true rfl) (Nat.le_of_ble_eq_true rfl) (Nat.le_of_ble_eq_true rfl) (Nat.le_of_ble_eq_true rfl)
        · replace hfin := it_f c_13 hfin
          cases hfin
          rw [hQQ]
          exact xt_throw (text := "no such group") hx hb hml hST hown htc hT hlocks hX exN_3 (by decide) hw12 hl0.1 dX9_group_22 dX9_group_25 dX9_group_26 dX9_group_28 dX9_group_31 (Nat.le_of_ble_eq_true rfl) (Nat.le_of_ble_eq_true rfl) (Nat.le_of_ble_eq_true rfl) (Nat.le_of_ble_eq_true rfl)
    · replace hfin := it_f c_7 hfin
      refine xtV (a := aP) (As := [.int p0]) (rest := []) (wc := [oX9 aP P_seriesCount P_most P_ratio aD aI aG aU aT aQ aC P_recoveries]) (w1 := [oX9 aP P_seriesCount P_most P_ratio aD aI aG aU aT aQ aC P_recoveries]) (wr := [oX2 aD aDc D_writesDone D_writesLeft D_down, rI aDc cI 4096 D_cells, oX3 aI aD, oX0 aQ aI aG aU Q_ratio aF aZ Q_looks Q_unpacked, oX6 aZ Z_first Z_last Z_points Z_least Z_greatest Z_sum]) (wb := [oX9 aP P_seriesCount P_most P_ratio aD aI aG aU aT aQ aC P_recoveries, oX2 aD aDc D_writesDone D_writesLeft D_down, rI aDc cI 4096 D_cells, oX3 aI aD, oX0 aQ aI aG aU Q_ratio aF aZ Q_looks Q_unpacked, oX6 aZ Z_first Z_last Z_points Z_least Z_greatest Z_sum]) hx hb hml hown htc hN hX (x_X9_throwUnlessSeries l hST G cI cZ cJ aP aD aI aG aU aT aQ aC P_seriesCount P_most P_ratio P_recoveries p0 hE_5 c_7) mw_849 mw_851 mp_31 mw_1 mw_852 hd_X9_throwUnlessSeries ⟨rfl, rfl⟩ ⟨Nat.le_of_ble_eq_true rfl, Nat.le_of_ble_eq_true rfl⟩ hK hw4 hA [0] [1, 2, 3, 4, 5] [5, 0, 1, 2, 3, 4] rfl rfl rfl rfl rfl (by decide) rfl rfl rfl 0 rfl rfl rfl rfl hl0.1 rfl (Nat.le_of_ble_eq_true rfl) dX9_group_6 ⟨Nat.le_of_ble_eq_true rfl, Nat.le_of_ble_eq_true rfl⟩ (fun H9 locs9 q9 ce9 hw9 h91 h92 h93 => ?_)
      cases hfin
      rw [hQQ]
      exact xt_out hT hlocks hw9 h91 h92 h93
  · replace hfin := it_f c_3 hfin
    refine xtV (a := aP) (As := []) (rest := []) (wc := [oX9 aP P_seriesCount P_most P_ratio aD aI aG aU aT aQ aC P_recoveries, oX2 aD aDc D_writesDone D_writesLeft D_down]) (w1 := [oX9 aP P_seriesCount P_most P_ratio aD aI aG aU aT aQ aC P_recoveries, oX2 aD aDc D_writesDone D_writesLeft D_down]) (wr := [rI aDc cI 4096 D_cells, oX3 aI aD, oX0 aQ aI aG aU Q_ratio aF aZ Q_looks Q_unpacked, oX6 aZ Z_first Z_last Z_points Z_least Z_greatest Z_sum]) (wb := [oX9 aP P_seriesCount P_most P_ratio aD aI aG aU aT aQ aC P_recoveries, oX2 aD aDc D_writesDone D_writesLeft D_down, rI aDc cI 4096 D_cells, oX3 aI aD, oX0 aQ aI aG aU Q_ratio aF aZ Q_looks Q_unpacked, oX6 aZ Z_first Z_last Z_points Z_least Z_greatest Z_sum]) hx hb hml hown htc hN hX (x_X9_throwUnlessUp l hST G cI cZ cJ aP aD aI aG aU aT aQ aC aDc P_seriesCount P_most P_ratio P_recoveries D_writesDone D_writesLeft D_down  hE_1 c_3) mw_777 mw_779 mp_29 mw_1 mw_780 hd_X9_throwUnlessUp ⟨rfl, rfl⟩ ⟨Nat.le_of_ble_eq_true rfl, Nat.le_of_ble_eq_true rfl⟩ hK hw0 hA [0, 1] [2, 3, 4, 5] [4, 5, 0, 1, 2, 3] rfl rfl rfl rfl rfl (by decide) rfl rfl rfl 0 rfl rfl rfl rfl hl0.1 rfl (Nat.le_of_ble_eq_true rfl) dX9_group_1 ⟨Nat.le_of_ble_eq_true rfl, Nat.le_of_ble_eq_true rfl⟩ (fun H9 locs9 q9 ce9 hw9 h91 h92 h93 => ?_)
    cases hfin
    rw [hQQ]
    exact xt_out hT hlocks hw9 h91 h92 h93
