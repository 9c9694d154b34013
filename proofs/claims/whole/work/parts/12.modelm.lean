def m_X10_between (p0 : Int32) (p1 : Int32) (p2 : Int32) : Option (Int32) :=
  ob1 (
    if p1 ≤ p0 then (
      if p0 ≤ p2 then (
        some (p0)) else (
        some (p2))) else (
      some (p1))) fun s_1 =>
  some (s_1)
def m_X10_thrown (M_thrown : Int32) : Option (Int32) :=
  some (M_thrown)
def m_X10_isSeries (M_series : Int32) (p0 : Int32) : Option (Int32) :=
  ob1 (
    if p0 < 0 then (
      some ((0 : Int32))) else (
      if M_series ≤ p0 then (
        some ((0 : Int32))) else (
        some ((1 : Int32))))) fun s_1 =>
  ckz s_1 <|
  some (s_1)
def m_X10_write (M_writes : Int32) (M_fuse : Int32) (M_down : Int32) (M_disk : Nat → Int32) (p0 : Int32) (p1 : Int32) : Option (Int32 × Int32 × Int32 × Int32 × (Nat → Int32)) :=
  if M_fuse = 0 then (
    some ((0 : Int32), M_writes, M_fuse, (1 : Int32), M_disk)) else (
    ob1 (
      if M_fuse ≤ 0 then (
        some (M_fuse)) else (
        some ((M_fuse - (1 : Int32))))) fun M_fuse_2 =>
    ckb p0 4096 <|
    some ((1 : Int32), (M_writes + (1 : Int32)), M_fuse_2, M_down, (upd M_disk (Int32.toNatClampNeg p0) p1)))
def m_X10_dropCursor (M_hasCursor : Int32) (M_cursorMany : Int32) (M_cursorAt : Int32) : Option (Int32 × Int32 × Int32) :=
  some ((0 : Int32), (0 : Int32), (-1 : Int32))
def lp_X10_isRising_26 (M_its : Nat → Int32) (M_many : Nat → Int32) (M_times : Nat → Int32) (M_order : Nat → Int32) (p0 : Int32) (p1 : Int32) (v4_4 : Int32) : Nat → Int32 → Int32 → Option (Int32)
  | 0, _, _ => none
  | n + 1, v3_15, v6_16 =>
    ckb (M_order (Int32.toNatClampNeg v4_4)) 240 <|
    if (M_many (Int32.toNatClampNeg (M_order (Int32.toNatClampNeg v4_4)))) ≤ v6_16 then (
      some (v3_15)) else (
      ckb (M_order (Int32.toNatClampNeg v4_4)) 240 <|
      if (M_its (Int32.toNatClampNeg (M_order (Int32.toNatClampNeg v4_4)))) = p0 then (
        ob1 (
          if v3_15 = 0 then (
            some ((0 : Int32))) else (
            ckb (((64 : Int32) * (M_order (Int32.toNatClampNeg v4_4))) + v6_16) 15360 <|
            if p1 ≤ (M_times (Int32.toNatClampNeg (((64 : Int32) * (M_order (Int32.toNatClampNeg v4_4))) + v6_16))) then (
              some ((0 : Int32))) else (
              some ((1 : Int32))))) fun s_27 =>
        lp_X10_isRising_26 M_its M_many M_times M_order p0 p1 v4_4 n s_27 (v6_16 + (1 : Int32))) else (
        some (v3_15)))
def lp_X10_isRising_5 (M_chunks : Int32) (M_its : Nat → Int32) (M_many : Nat → Int32) (M_times : Nat → Int32) (M_order : Nat → Int32) (p0 : Int32) (p1 : Int32) : Nat → Int32 → Int32 → Option (Int32)
  | 0, _, _ => none
  | n + 1, v3_3, v4_4 =>
    if M_chunks ≤ v4_4 then (
      some (v3_3)) else (
      ckb v4_4 96 <|
      ob1 (lp_X10_isRising_26 M_its M_many M_times M_order p0 p1 v4_4 NN v3_3 (0 : Int32)) fun v3_21 =>
      lp_X10_isRising_5 M_chunks M_its M_many M_times M_order p0 p1 n v3_21 (v4_4 + (1 : Int32)))
def lp_X10_isRising_91 (M_logged : Int32) (M_headOf : Nat → Int32) (M_headTime : Nat → Int32) (p0 : Int32) (p1 : Int32) : Nat → Int32 → Int32 → Option (Int32)
  | 0, _, _ => none
  | n + 1, v3_40, v4_41 =>
    if M_logged ≤ v4_41 then (
      some (v3_40)) else (
      ob1 (
        if v3_40 = 0 then (
          some ((0 : Int32))) else (
          ckb v4_41 128 <|
          if (M_headOf (Int32.toNatClampNeg v4_41)) = p0 then (
            ckb v4_41 128 <|
            if p1 ≤ (M_headTime (Int32.toNatClampNeg v4_41)) then (
              some ((0 : Int32))) else (
              some ((1 : Int32)))) else (
            some ((1 : Int32))))) fun s_49 =>
      lp_X10_isRising_91 M_logged M_headOf M_headTime p0 p1 n s_49 (v4_41 + (1 : Int32)))
def m_X10_isRising (M_chunks : Int32) (M_logged : Int32) (M_its : Nat → Int32) (M_many : Nat → Int32) (M_times : Nat → Int32) (M_order : Nat → Int32) (M_headOf : Nat → Int32) (M_headTime : Nat → Int32) (p0 : Int32) (p1 : Int32) : Option (Int32) :=
  ob1 (lp_X10_isRising_5 M_chunks M_its M_many M_times M_order p0 p1 NN (1 : Int32) (0 : Int32)) fun v3_9 =>
  ob1 (lp_X10_isRising_91 M_logged M_headOf M_headTime p0 p1 NN v3_9 (0 : Int32)) fun v3_46 =>
  ckz v3_46 <|
  some (v3_46)
def m_X10_append (M_thrown : Int32) (M_series : Int32) (M_writes : Int32) (M_fuse : Int32) (M_down : Int32) (M_chunks : Int32) (M_epoch : Int32) (M_logged : Int32) (M_hasCursor : Int32) (M_cursorMany : Int32) (M_cursorAt : Int32) (M_disk : Nat → Int32) (M_its : Nat → Int32) (M_many : Nat → Int32) (M_times : Nat → Int32) (M_order : Nat → Int32) (M_headOf : Nat → Int32) (M_headTime : Nat → Int32) (M_headValue : Nat → Int32) (p0 : Int32) (p1 : Int32) (p2 : Int32) : Option (Int32 × Int32 × Int32 × Int32 × Int32 × Int32 × Int32 × Int32 × Int32 × (Nat → Int32) × (Nat → Int32) × (Nat → Int32) × (Nat → Int32)) :=
  ob3 (m_X10_dropCursor M_hasCursor M_cursorMany M_cursorAt) fun M_hasCursor_3 M_cursorMany_4 M_cursorAt_5 =>
  if M_down = 0 then (
    ob1 (m_X10_isSeries M_series p0) fun r_9 =>
    if r_9 = 0 then (
      some ((-2 : Int32), (0 : Int32), M_writes, M_fuse, M_down, M_logged, M_hasCursor_3, M_cursorMany_4, M_cursorAt_5, M_disk, M_headOf, M_headTime, M_headValue)) else (
      ob1 (m_X10_isRising M_chunks M_logged M_its M_many M_times M_order M_headOf M_headTime p0 p1) fun r_13 =>
      if r_13 = 0 then (
        some ((-1 : Int32), (0 : Int32), M_writes, M_fuse, M_down, M_logged, M_hasCursor_3, M_cursorMany_4, M_cursorAt_5, M_disk, M_headOf, M_headTime, M_headValue)) else (
        if M_logged = (128 : Int32) then (
          some ((-3 : Int32), (0 : Int32), M_writes, M_fuse, M_down, M_logged, M_hasCursor_3, M_cursorMany_4, M_cursorAt_5, M_disk, M_headOf, M_headTime, M_headValue)) else (
          ob5 (m_X10_write M_writes M_fuse M_down M_disk ((1923 : Int32) + ((4 : Int32) * M_logged)) p0) fun r_19 M_writes_20 M_fuse_21 M_down_22 M_disk_23 =>
          if r_19 = 0 then (
            some ((-9 : Int32), (0 : Int32), M_writes_20, M_fuse_21, M_down_22, M_logged, M_hasCursor_3, M_cursorMany_4, M_cursorAt_5, M_disk_23, M_headOf, M_headTime, M_headValue)) else (
            ob5 (m_X10_write M_writes_20 M_fuse_21 M_down_22 M_disk_23 (((1923 : Int32) + ((4 : Int32) * M_logged)) + (1 : Int32)) p1) fun r_27 M_writes_28 M_fuse_29 M_down_30 M_disk_31 =>
            if r_27 = 0 then (
              some ((-9 : Int32), (0 : Int32), M_writes_28, M_fuse_29, M_down_30, M_logged, M_hasCursor_3, M_cursorMany_4, M_cursorAt_5, M_disk_31, M_headOf, M_headTime, M_headValue)) else (
              ob5 (m_X10_write M_writes_28 M_fuse_29 M_down_30 M_disk_31 (((1923 : Int32) + ((4 : Int32) * M_logged)) + (2 : Int32)) p2) fun r_35 M_writes_36 M_fuse_37 M_down_38 M_disk_39 =>
              if r_35 = 0 then (
                some ((-9 : Int32), (0 : Int32), M_writes_36, M_fuse_37, M_down_38, M_logged, M_hasCursor_3, M_cursorMany_4, M_cursorAt_5, M_disk_39, M_headOf, M_headTime, M_headValue)) else (
                ob5 (m_X10_write M_writes_36 M_fuse_37 M_down_38 M_disk_39 (((1923 : Int32) + ((4 : Int32) * M_logged)) + (3 : Int32)) (M_epoch + (1 : Int32))) fun r_43 M_writes_44 M_fuse_45 M_down_46 M_disk_47 =>
                if r_43 = 0 then (
                  some ((-9 : Int32), (0 : Int32), M_writes_44, M_fuse_45, M_down_46, M_logged, M_hasCursor_3, M_cursorMany_4, M_cursorAt_5, M_disk_47, M_headOf, M_headTime, M_headValue)) else (
                  ckb M_logged 128 <|
                  ckb M_logged 128 <|
                  ckb M_logged 128 <|
                  some ((0 : Int32), (0 : Int32), M_writes_44, M_fuse_45, M_down_46, (M_logged + (1 : Int32)), M_hasCursor_3, M_cursorMany_4, M_cursorAt_5, M_disk_47, (upd M_headOf (Int32.toNatClampNeg M_logged) p0), (upd M_headTime (Int32.toNatClampNeg M_logged) p1), (upd M_headValue (Int32.toNatClampNeg M_logged) p2)))))))))) else (
    some ((-9 : Int32), (0 : Int32), M_writes, M_fuse, M_down, M_logged, M_hasCursor_3, M_cursorMany_4, M_cursorAt_5, M_disk, M_headOf, M_headTime, M_headValue))
def lp_X10_put_5 (p0 : Int64) : Nat → Int32 → Int32 → (Nat → Int32) → Option (Int32 × (Nat → Int32))
  | 0, _, _, _ => none
  | n + 1, v4_2, M_bits_3, M_made_4 =>
    if v4_2 < 0 then (
      some (M_bits_3, M_made_4)) else (
      ob1 (
        if (M_bits_3 - M_bits_3 / (32 : Int32) * (32 : Int32)) = 0 then (
          ckb ((2 : Int32) + (M_bits_3 / (32 : Int32))) 200 <|
          some ((upd M_made_4 (Int32.toNatClampNeg ((2 : Int32) + (M_bits_3 / (32 : Int32)))) (0 : Int32)))) else (
          some (M_made_4))) fun M_made_13 =>
      ob1 (
        if (lg_cmp ((p0 >>> (Int32.toInt64 v4_2 &&& 63)) &&& (1 : Int64)) (1 : Int64)) = 0 then (
          ckb ((2 : Int32) + (M_bits_3 / (32 : Int32))) 200 <|
          ckb ((2 : Int32) + (M_bits_3 / (32 : Int32))) 200 <|
          some ((upd M_made_13 (Int32.toNatClampNeg ((2 : Int32) + (M_bits_3 / (32 : Int32)))) ((M_made_13 (Int32.toNatClampNeg ((2 : Int32) + (M_bits_3 / (32 : Int32))))) ||| ((1 : Int32) <<< (((31 : Int32) - (M_bits_3 - M_bits_3 / (32 : Int32) * (32 : Int32))) &&& 31)))))) else (
          some (M_made_13))) fun M_made_20 =>
      lp_X10_put_5 p0 n (v4_2 + (-1 : Int32)) (M_bits_3 + (1 : Int32)) M_made_20)
def m_X10_put (M_bits : Int32) (M_made : Nat → Int32) (p0 : Int64) (p1 : Int32) : Option (Int32 × (Nat → Int32)) :=
  ob2 (lp_X10_put_5 p0 NN (p1 - (1 : Int32)) M_bits M_made) fun M_bits_9 M_made_10 =>
  some (M_bits_9, M_made_10)
def m_X10_putStep (M_bits : Int32) (M_made : Nat → Int32) (p0 : Int64) : Option (Int32 × (Nat → Int32)) :=
  ob2 (
    if (lg_cmp p0 (0 : Int64)) = 0 then (
      ob2 (m_X10_put M_bits M_made (0 : Int64) (1 : Int32)) fun M_bits_141 M_made_142 =>
      some (M_bits_141, M_made_142)) else (
      if (lg_cmp (p0 + (64 : Int64)) (0 : Int64)) < 0 then (
        if (lg_cmp (p0 + (256 : Int64)) (0 : Int64)) < 0 then (
          if (lg_cmp (p0 + (2048 : Int64)) (0 : Int64)) < 0 then (
            ob2 (m_X10_put M_bits M_made (15 : Int64) (4 : Int32)) fun M_bits_10 M_made_11 =>
            ob2 (m_X10_put M_bits_10 M_made_11 (p0 + (8589934592 : Int64)) (34 : Int32)) fun M_bits_14 M_made_15 =>
            some (M_bits_14, M_made_15)) else (
            if 0 < (lg_cmp (p0 + (2048 : Int64)) (4095 : Int64)) then (
              ob2 (m_X10_put M_bits M_made (15 : Int64) (4 : Int32)) fun M_bits_19 M_made_20 =>
              ob2 (m_X10_put M_bits_19 M_made_20 (p0 + (8589934592 : Int64)) (34 : Int32)) fun M_bits_23 M_made_24 =>
              some (M_bits_23, M_made_24)) else (
              ob2 (m_X10_put M_bits M_made (14 : Int64) (4 : Int32)) fun M_bits_27 M_made_28 =>
              ob2 (m_X10_put M_bits_27 M_made_28 (p0 + (2048 : Int64)) (12 : Int32)) fun M_bits_31 M_made_32 =>
              some (M_bits_31, M_made_32)))) else (
          if 0 < (lg_cmp (p0 + (256 : Int64)) (511 : Int64)) then (
            if (lg_cmp (p0 + (2048 : Int64)) (0 : Int64)) < 0 then (
              ob2 (m_X10_put M_bits M_made (15 : Int64) (4 : Int32)) fun M_bits_37 M_made_38 =>
              ob2 (m_X10_put M_bits_37 M_made_38 (p0 + (8589934592 : Int64)) (34 : Int32)) fun M_bits_41 M_made_42 =>
              some (M_bits_41, M_made_42)) else (
              if 0 < (lg_cmp (p0 + (2048 : Int64)) (4095 : Int64)) then (
                ob2 (m_X10_put M_bits M_made (15 : Int64) (4 : Int32)) fun M_bits_46 M_made_47 =>
                ob2 (m_X10_put M_bits_46 M_made_47 (p0 + (8589934592 : Int64)) (34 : Int32)) fun M_bits_50 M_made_51 =>
                some (M_bits_50, M_made_51)) else (
                ob2 (m_X10_put M_bits M_made (14 : Int64) (4 : Int32)) fun M_bits_54 M_made_55 =>
                ob2 (m_X10_put M_bits_54 M_made_55 (p0 + (2048 : Int64)) (12 : Int32)) fun M_bits_58 M_made_59 =>
                some (M_bits_58, M_made_59)))) else (
            ob2 (m_X10_put M_bits M_made (6 : Int64) (3 : Int32)) fun M_bits_62 M_made_63 =>
            ob2 (m_X10_put M_bits_62 M_made_63 (p0 + (256 : Int64)) (9 : Int32)) fun M_bits_66 M_made_67 =>
            some (M_bits_66, M_made_67)))) else (
        if 0 < (lg_cmp (p0 + (64 : Int64)) (127 : Int64)) then (
          if (lg_cmp (p0 + (256 : Int64)) (0 : Int64)) < 0 then (
            if (lg_cmp (p0 + (2048 : Int64)) (0 : Int64)) < 0 then (
              ob2 (m_X10_put M_bits M_made (15 : Int64) (4 : Int32)) fun M_bits_73 M_made_74 =>
              ob2 (m_X10_put M_bits_73 M_made_74 (p0 + (8589934592 : Int64)) (34 : Int32)) fun M_bits_77 M_made_78 =>
              some (M_bits_77, M_made_78)) else (
              if 0 < (lg_cmp (p0 + (2048 : Int64)) (4095 : Int64)) then (
                ob2 (m_X10_put M_bits M_made (15 : Int64) (4 : Int32)) fun M_bits_82 M_made_83 =>
                ob2 (m_X10_put M_bits_82 M_made_83 (p0 + (8589934592 : Int64)) (34 : Int32)) fun M_bits_86 M_made_87 =>
                some (M_bits_86, M_made_87)) else (
                ob2 (m_X10_put M_bits M_made (14 : Int64) (4 : Int32)) fun M_bits_90 M_made_91 =>
                ob2 (m_X10_put M_bits_90 M_made_91 (p0 + (2048 : Int64)) (12 : Int32)) fun M_bits_94 M_made_95 =>
                some (M_bits_94, M_made_95)))) else (
            if 0 < (lg_cmp (p0 + (256 : Int64)) (511 : Int64)) then (
              if (lg_cmp (p0 + (2048 : Int64)) (0 : Int64)) < 0 then (
                ob2 (m_X10_put M_bits M_made (15 : Int64) (4 : Int32)) fun M_bits_100 M_made_101 =>
                ob2 (m_X10_put M_bits_100 M_made_101 (p0 + (8589934592 : Int64)) (34 : Int32)) fun M_bits_104 M_made_105 =>
                some (M_bits_104, M_made_105)) else (
                if 0 < (lg_cmp (p0 + (2048 : Int64)) (4095 : Int64)) then (
                  ob2 (m_X10_put M_bits M_made (15 : Int64) (4 : Int32)) fun M_bits_109 M_made_110 =>
                  ob2 (m_X10_put M_bits_109 M_made_110 (p0 + (8589934592 : Int64)) (34 : Int32)) fun M_bits_113 M_made_114 =>
                  some (M_bits_113, M_made_114)) else (
                  ob2 (m_X10_put M_bits M_made (14 : Int64) (4 : Int32)) fun M_bits_117 M_made_118 =>
                  ob2 (m_X10_put M_bits_117 M_made_118 (p0 + (2048 : Int64)) (12 : Int32)) fun M_bits_121 M_made_122 =>
                  some (M_bits_121, M_made_122)))) else (
              ob2 (m_X10_put M_bits M_made (6 : Int64) (3 : Int32)) fun M_bits_125 M_made_126 =>
              ob2 (m_X10_put M_bits_125 M_made_126 (p0 + (256 : Int64)) (9 : Int32)) fun M_bits_129 M_made_130 =>
              some (M_bits_129, M_made_130)))) else (
          ob2 (m_X10_put M_bits M_made (2 : Int64) (2 : Int32)) fun M_bits_133 M_made_134 =>
          ob2 (m_X10_put M_bits_133 M_made_134 (p0 + (64 : Int64)) (7 : Int32)) fun M_bits_137 M_made_138 =>
          some (M_bits_137, M_made_138))))) fun M_bits_1 M_made_2 =>
  some (M_bits_1, M_made_2)
def lp_X10_putValue_26 : Nat → Int64 → Int32 → (Nat → Int32) → Option (Int32 × (Nat → Int32))
  | 0, _, _, _ => none
  | n + 1, v2_7, M_bits_8, M_made_9 =>
    if (lg_cmp v2_7 (0 : Int64)) = 0 then (
      some (M_bits_8, M_made_9)) else (
      ob2 (m_X10_put M_bits_8 M_made_9 (1 : Int64) (1 : Int32)) fun M_bits_19 M_made_20 =>
      ob2 (m_X10_put M_bits_19 M_made_20 (v2_7 &&& (15 : Int64)) (4 : Int32)) fun M_bits_23 M_made_24 =>
      lp_X10_putValue_26 n (v2_7 >>> (Int32.toInt64 (4 : Int32) &&& 63)) M_bits_23 M_made_24)
def m_X10_putValue (M_bits : Int32) (M_made : Nat → Int32) (p0 : Int32) : Option (Int32 × (Nat → Int32)) :=
  ob1 (
    if 0 ≤ p0 then (
      some (((2 : Int64) * (Int32.toInt64 p0)))) else (
      some ((((-2 : Int64) * (Int32.toInt64 p0)) - (1 : Int64))))) fun s_1 =>
  ob2 (lp_X10_putValue_26 NN (s_1 &&& (4294967295 : Int64)) M_bits M_made) fun M_bits_14 M_made_15 =>
  ob2 (m_X10_put M_bits_14 M_made_15 (0 : Int64) (1 : Int32)) fun M_bits_29 M_made_30 =>
  some (M_bits_29, M_made_30)
def lp_X10_make_39 (M_many : Nat → Int32) (M_times : Nat → Int32) (M_values : Nat → Int32) (p0 : Int32) : Nat → Int64 → Int32 → Int32 → (Nat → Int32) → Option (Int32 × (Nat → Int32))
  | 0, _, _, _, _ => none
  | n + 1, v3_11, v5_12, M_bits_13, M_made_14 =>
    ckb p0 240 <|
    if (M_many (Int32.toNatClampNeg p0)) ≤ v5_12 then (
      some (M_bits_13, M_made_14)) else (
      ckb (((64 : Int32) * p0) + v5_12) 15360 <|
      ckb ((((64 : Int32) * p0) + v5_12) - (1 : Int32)) 15360 <|
      ob2 (m_X10_putStep M_bits_13 M_made_14 (((Int32.toInt64 (M_times (Int32.toNatClampNeg (((64 : Int32) * p0) + v5_12)))) - (Int32.toInt64 (M_times (Int32.toNatClampNeg ((((64 : Int32) * p0) + v5_12) - (1 : Int32)))))) - v3_11)) fun M_bits_28 M_made_29 =>
      ckb (((64 : Int32) * p0) + v5_12) 15360 <|
      ckb ((((64 : Int32) * p0) + v5_12) - (1 : Int32)) 15360 <|
      ob2 (m_X10_putValue M_bits_28 M_made_29 ((M_values (Int32.toNatClampNeg (((64 : Int32) * p0) + v5_12))) - (M_values (Int32.toNatClampNeg ((((64 : Int32) * p0) + v5_12) - (1 : Int32)))))) fun M_bits_35 M_made_36 =>
      lp_X10_make_39 M_many M_times M_values p0 n ((Int32.toInt64 (M_times (Int32.toNatClampNeg (((64 : Int32) * p0) + v5_12)))) - (Int32.toInt64 (M_times (Int32.toNatClampNeg ((((64 : Int32) * p0) + v5_12) - (1 : Int32)))))) (v5_12 + (1 : Int32)) M_bits_35 M_made_36)
def m_X10_make (M_bits : Int32) (M_many : Nat → Int32) (M_times : Nat → Int32) (M_values : Nat → Int32) (M_made : Nat → Int32) (p0 : Int32) : Option (Int32 × Int32 × (Nat → Int32)) :=
  ckb ((64 : Int32) * p0) 15360 <|
  ckb (0 : Int32) 200 <|
  ckb ((64 : Int32) * p0) 15360 <|
  ckb (1 : Int32) 200 <|
  ob2 (lp_X10_make_39 M_many M_times M_values p0 NN (0 : Int64) (1 : Int32) (0 : Int32) (upd (upd M_made (Int32.toNatClampNeg (0 : Int32)) (M_times (Int32.toNatClampNeg ((64 : Int32) * p0)))) (Int32.toNatClampNeg (1 : Int32)) (M_values (Int32.toNatClampNeg ((64 : Int32) * p0))))) fun M_bits_19 M_made_20 =>
  some (((2 : Int32) + ((M_bits_19 + (31 : Int32)) / (32 : Int32))), M_bits_19, M_made_20)
def lp_X10_take_5 (M_from : Int32) (M_disk : Nat → Int32) (p0 : Int32) : Nat → Int64 → Int32 → Int32 → Option (Int64 × Int32)
  | 0, _, _, _ => none
  | n + 1, v2_3, v4_4, M_bits_5 =>
    if p0 ≤ v4_4 then (
      some (v2_3, M_bits_5)) else (
      ckb (M_from + (M_bits_5 / (32 : Int32))) 4096 <|
      lp_X10_take_5 M_from M_disk p0 n (((2 : Int64) * v2_3) + (Int32.toInt64 (((M_disk (Int32.toNatClampNeg (M_from + (M_bits_5 / (32 : Int32))))) >>> (((31 : Int32) - (M_bits_5 - M_bits_5 / (32 : Int32) * (32 : Int32))) &&& 31)) &&& (1 : Int32)))) (v4_4 + (1 : Int32)) (M_bits_5 + (1 : Int32)))
def m_X10_take (M_bits : Int32) (M_from : Int32) (M_disk : Nat → Int32) (p0 : Int32) : Option (Int64 × Int32) :=
  ob2 (lp_X10_take_5 M_from M_disk p0 NN (0 : Int64) (0 : Int32) M_bits) fun v2_10 M_bits_11 =>
  some (v2_10, M_bits_11)
def m_X10_takeStep (M_bits : Int32) (M_from : Int32) (M_disk : Nat → Int32) : Option (Int64 × Int32) :=
  ob2 (m_X10_take M_bits M_from M_disk (1 : Int32)) fun r_2 M_bits_3 =>
  if (lg_cmp r_2 (0 : Int64)) = 0 then (
    some ((0 : Int64), M_bits_3)) else (
    ob2 (m_X10_take M_bits_3 M_from M_disk (1 : Int32)) fun r_7 M_bits_8 =>
    if (lg_cmp r_7 (0 : Int64)) = 0 then (
      ob2 (m_X10_take M_bits_8 M_from M_disk (7 : Int32)) fun r_39 M_bits_40 =>
      some ((r_39 - (64 : Int64)), M_bits_40)) else (
      ob2 (m_X10_take M_bits_8 M_from M_disk (1 : Int32)) fun r_12 M_bits_13 =>
      if (lg_cmp r_12 (0 : Int64)) = 0 then (
        ob2 (m_X10_take M_bits_13 M_from M_disk (9 : Int32)) fun r_35 M_bits_36 =>
        some ((r_35 - (256 : Int64)), M_bits_36)) else (
        ob2 (m_X10_take M_bits_13 M_from M_disk (1 : Int32)) fun r_17 M_bits_18 =>
        ob2 (
          if (lg_cmp r_17 (0 : Int64)) = 0 then (
            ob2 (m_X10_take M_bits_18 M_from M_disk (12 : Int32)) fun r_30 M_bits_31 =>
            some ((r_30 - (2048 : Int64)), M_bits_31)) else (
            ob2 (m_X10_take M_bits_18 M_from M_disk (34 : Int32)) fun r_26 M_bits_27 =>
            some ((r_26 - (8589934592 : Int64)), M_bits_27))) fun s_20 M_bits_21 =>
        some (s_20, M_bits_21))))
def lp_X10_takeValue_4 (M_from : Int32) (M_disk : Nat → Int32) : Nat → Int64 → Int32 → Int32 → Option (Int64 × Int32)
  | 0, _, _, _ => none
  | n + 1, v1_3, v3_4, M_bits_5 =>
    ob2 (m_X10_take M_bits_5 M_from M_disk (1 : Int32)) fun r_14 M_bits_15 =>
    if (lg_cmp r_14 (1 : Int64)) = 0 then (
      ob2 (m_X10_take M_bits_15 M_from M_disk (4 : Int32)) fun r_19 M_bits_20 =>
      lp_X10_takeValue_4 M_from M_disk n (v1_3 ||| (r_19 <<< (Int32.toInt64 v3_4 &&& 63))) (v3_4 + (4 : Int32)) M_bits_20) else (
      some (v1_3, M_bits_15))
def m_X10_takeValue (M_bits : Int32) (M_from : Int32) (M_disk : Nat → Int32) : Option (Int32 × Int32) :=
  ob2 (lp_X10_takeValue_4 M_from M_disk NN (0 : Int64) (0 : Int32) M_bits) fun v1_10 M_bits_11 =>
  ob1 (
    if (lg_cmp (v1_10 - v1_10 / (2 : Int64) * (2 : Int64)) (0 : Int64)) = 0 then (
      some ((v1_10 / (2 : Int64)))) else (
      some (((-(v1_10 / (2 : Int64))) - (1 : Int64))))) fun s_25 =>
  some ((Int64.toInt32 s_25), M_bits_11)
def lp_X10_read_63 (M_disk : Nat → Int32) (M_many : Nat → Int32) (M_place : Nat → Int32) (p0 : Int32) : Nat → Int64 → Int32 → Int32 → (Nat → Int32) → (Nat → Int32) → Option (Int32 × (Nat → Int32) × (Nat → Int32))
  | 0, _, _, _, _, _ => none
  | n + 1, v3_15, v5_16, M_bits_17, M_times_18, M_values_19 =>
    ckb p0 240 <|
    if (M_many (Int32.toNatClampNeg p0)) ≤ v5_16 then (
      some (M_bits_17, M_times_18, M_values_19)) else (
      ob2 (m_X10_takeStep M_bits_17 ((M_place (Int32.toNatClampNeg p0)) + (2 : Int32)) M_disk) fun r_31 M_bits_32 =>
      ckb ((((64 : Int32) * p0) + v5_16) - (1 : Int32)) 15360 <|
      ckb (((64 : Int32) * p0) + v5_16) 15360 <|
      ckb ((((64 : Int32) * p0) + v5_16) - (1 : Int32)) 15360 <|
      ob2 (m_X10_takeValue M_bits_32 ((M_place (Int32.toNatClampNeg p0)) + (2 : Int32)) M_disk) fun r_40 M_bits_41 =>
      ckb (((64 : Int32) * p0) + v5_16) 15360 <|
      lp_X10_read_63 M_disk M_many M_place p0 n (v3_15 + r_31) (v5_16 + (1 : Int32)) M_bits_41 (upd M_times_18 (Int32.toNatClampNeg (((64 : Int32) * p0) + v5_16)) (Int64.toInt32 ((Int32.toInt64 (M_times_18 (Int32.toNatClampNeg ((((64 : Int32) * p0) + v5_16) - (1 : Int32))))) + (v3_15 + r_31)))) (upd M_values_19 (Int32.toNatClampNeg (((64 : Int32) * p0) + v5_16)) ((M_values_19 (Int32.toNatClampNeg ((((64 : Int32) * p0) + v5_16) - (1 : Int32)))) + r_40)))
def m_X10_read (M_bits : Int32) (M_from : Int32) (M_disk : Nat → Int32) (M_many : Nat → Int32) (M_place : Nat → Int32) (M_times : Nat → Int32) (M_values : Nat → Int32) (p0 : Int32) : Option (Int32 × Int32 × (Nat → Int32) × (Nat → Int32)) :=
  ckb p0 240 <|
  ckb (M_place (Int32.toNatClampNeg p0)) 4096 <|
  ckb ((64 : Int32) * p0) 15360 <|
  ckb p0 240 <|
  ckb ((M_place (Int32.toNatClampNeg p0)) + (1 : Int32)) 4096 <|
  ckb ((64 : Int32) * p0) 15360 <|
  ckb p0 240 <|
  ob3 (lp_X10_read_63 M_disk M_many M_place p0 NN (0 : Int64) (1 : Int32) (0 : Int32) (upd M_times (Int32.toNatClampNeg ((64 : Int32) * p0)) (M_disk (Int32.toNatClampNeg (M_place (Int32.toNatClampNeg p0))))) (upd M_values (Int32.toNatClampNeg ((64 : Int32) * p0)) (M_disk (Int32.toNatClampNeg ((M_place (Int32.toNatClampNeg p0)) + (1 : Int32)))))) fun M_bits_24 M_times_25 M_values_26 =>
  some (M_bits_24, ((M_place (Int32.toNatClampNeg p0)) + (2 : Int32)), M_times_25, M_values_26)
def m_X10_beginNext (M_nexts : Int32) : Option (Int32) :=
  some ((0 : Int32))
def m_X10_comes (M_nexts : Int32) (M_next : Nat → Int32) (M_isNew : Nat → Int32) (p0 : Int32) (p1 : Int32) : Option (Int32 × (Nat → Int32) × (Nat → Int32)) :=
  ckb M_nexts 240 <|
  ckb M_nexts 240 <|
  some ((M_nexts + (1 : Int32)), (upd M_next (Int32.toNatClampNeg M_nexts) p0), (upd M_isNew (Int32.toNatClampNeg M_nexts) (vp_nar .boolean p1)))
def lp_X10_isUsed_4 (M_chunks : Int32) (M_order : Nat → Int32) (p0 : Int32) : Nat → Int32 → Int32 → Option (Int32)
  | 0, _, _ => none
  | n + 1, v2_3, v3_4 =>
    if M_chunks ≤ v3_4 then (
      some (v2_3)) else (
      ob1 (
        if v2_3 = 0 then (
          ckb v3_4 96 <|
          if (M_order (Int32.toNatClampNeg v3_4)) = p0 then (
            some ((1 : Int32))) else (
            some ((0 : Int32)))) else (
          some ((1 : Int32)))) fun s_12 =>
      lp_X10_isUsed_4 M_chunks M_order p0 n s_12 (v3_4 + (1 : Int32)))
def lp_X10_isUsed_40 (M_nexts : Int32) (M_next : Nat → Int32) (p0 : Int32) : Nat → Int32 → Int32 → Option (Int32)
  | 0, _, _ => none
  | n + 1, v2_23, v3_24 =>
    if M_nexts ≤ v3_24 then (
      some (v2_23)) else (
      ob1 (
        if v2_23 = 0 then (
          ckb v3_24 240 <|
          if (M_next (Int32.toNatClampNeg v3_24)) = p0 then (
            some ((1 : Int32))) else (
            some ((0 : Int32)))) else (
          some ((1 : Int32)))) fun s_32 =>
      lp_X10_isUsed_40 M_nexts M_next p0 n s_32 (v3_24 + (1 : Int32)))
def m_X10_isUsed (M_chunks : Int32) (M_nexts : Int32) (M_order : Nat → Int32) (M_next : Nat → Int32) (p0 : Int32) : Option (Int32) :=
  ob1 (lp_X10_isUsed_4 M_chunks M_order p0 NN (0 : Int32) (0 : Int32)) fun v2_9 =>
  ob1 (lp_X10_isUsed_40 M_nexts M_next p0 NN v2_9 (0 : Int32)) fun v2_29 =>
  ckz v2_29 <|
  some (v2_29)
def lp_X10_freeSlot_2 (M_chunks : Int32) (M_nexts : Int32) (M_order : Nat → Int32) (M_next : Nat → Int32) : Nat → Int32 → Option (Int32)
  | 0, _ => none
  | n + 1, v1_2 =>
    ob1 (m_X10_isUsed M_chunks M_nexts M_order M_next v1_2) fun r_10 =>
    if r_10 = 0 then (
      some (v1_2)) else (
      lp_X10_freeSlot_2 M_chunks M_nexts M_order M_next n (v1_2 + (1 : Int32)))
def m_X10_freeSlot (M_chunks : Int32) (M_nexts : Int32) (M_order : Nat → Int32) (M_next : Nat → Int32) : Option (Int32) :=
  ob1 (lp_X10_freeSlot_2 M_chunks M_nexts M_order M_next NN (0 : Int32)) fun v1_7 =>
  some (v1_7)
def m_X10_isOf (M_place : Nat → Int32) (M_length : Nat → Int32) (p0 : Int32) (p1 : Int32) : Option (Int32) :=
  ckb p0 240 <|
  ob1 (
    if p1 < (M_place (Int32.toNatClampNeg p0)) then (
      some ((0 : Int32))) else (
      ckb p0 240 <|
      ckb p0 240 <|
      if ((M_place (Int32.toNatClampNeg p0)) + (M_length (Int32.toNatClampNeg p0))) ≤ p1 then (
        some ((0 : Int32))) else (
        some ((1 : Int32))))) fun s_2 =>
  ckz s_2 <|
  some (s_2)
def lp_X10_isTaken_5 (M_chunks : Int32) (M_place : Nat → Int32) (M_length : Nat → Int32) (M_order : Nat → Int32) (p0 : Int32) : Nat → Int32 → Int32 → Option (Int32)
  | 0, _, _ => none
  | n + 1, v3_3, v4_4 =>
    if M_chunks ≤ v4_4 then (
      some (v3_3)) else (
      ob1 (
        if v3_3 = 0 then (
          ckb v4_4 96 <|
          ob1 (m_X10_isOf M_place M_length (M_order (Int32.toNatClampNeg v4_4)) p0) fun r_18 =>
          if r_18 = 0 then (
            some ((0 : Int32))) else (
            some ((1 : Int32)))) else (
          some ((1 : Int32)))) fun s_12 =>
      lp_X10_isTaken_5 M_chunks M_place M_length M_order p0 n s_12 (v4_4 + (1 : Int32)))
def lp_X10_isTaken_48 (M_place : Nat → Int32) (M_length : Nat → Int32) (M_next : Nat → Int32) (M_isNew : Nat → Int32) (p0 : Int32) (p1 : Int32) : Nat → Int32 → Int32 → Option (Int32)
  | 0, _, _ => none
  | n + 1, v3_26, v4_27 =>
    if p1 ≤ v4_27 then (
      some (v3_26)) else (
      ob1 (
        if v3_26 = 0 then (
          ckb v4_27 240 <|
          if (M_isNew (Int32.toNatClampNeg v4_27)) = 0 then (
            some ((0 : Int32))) else (
            ckb v4_27 240 <|
            ob1 (m_X10_isOf M_place M_length (M_next (Int32.toNatClampNeg v4_27)) p0) fun r_43 =>
            if r_43 = 0 then (
              some ((0 : Int32))) else (
              some ((1 : Int32))))) else (
          some ((1 : Int32)))) fun s_35 =>
      lp_X10_isTaken_48 M_place M_length M_next M_isNew p0 p1 n s_35 (v4_27 + (1 : Int32)))
def m_X10_isTaken (M_chunks : Int32) (M_place : Nat → Int32) (M_length : Nat → Int32) (M_order : Nat → Int32) (M_next : Nat → Int32) (M_isNew : Nat → Int32) (p0 : Int32) (p1 : Int32) : Option (Int32) :=
  ob1 (lp_X10_isTaken_5 M_chunks M_place M_length M_order p0 NN (0 : Int32) (0 : Int32)) fun v3_9 =>
  ob1 (lp_X10_isTaken_48 M_place M_length M_next M_isNew p0 p1 NN v3_9 (0 : Int32)) fun v3_32 =>
  ckz v3_32 <|
  some (v3_32)
def lp_X10_find_7 (M_chunks : Int32) (M_place : Nat → Int32) (M_length : Nat → Int32) (M_order : Nat → Int32) (M_next : Nat → Int32) (M_isNew : Nat → Int32) (p0 : Int32) (p1 : Int32) : Nat → Int32 → Int32 → Option (Int32)
  | 0, _, _ => none
  | n + 1, v3_3, v4_4 =>
    if (4096 : Int32) ≤ v4_4 then (
      some ((-1 : Int32))) else (
      ob1 (m_X10_isTaken M_chunks M_place M_length M_order M_next M_isNew v4_4 p1) fun r_12 =>
      ob1 (
        if r_12 = 0 then (
          some ((v3_3 + (1 : Int32)))) else (
          some ((0 : Int32)))) fun s_14 =>
      if s_14 = p0 then (
        some (((v4_4 - p0) + (1 : Int32)))) else (
        lp_X10_find_7 M_chunks M_place M_length M_order M_next M_isNew p0 p1 n s_14 (v4_4 + (1 : Int32))))
def m_X10_find (M_chunks : Int32) (M_place : Nat → Int32) (M_length : Nat → Int32) (M_order : Nat → Int32) (M_next : Nat → Int32) (M_isNew : Nat → Int32) (p0 : Int32) (p1 : Int32) : Option (Int32) :=
  lp_X10_find_7 M_chunks M_place M_length M_order M_next M_isNew p0 p1 NN (0 : Int32) (2435 : Int32)
def m_X10_index (p0 : Int32) : Option (Int32) :=
  ob1 (
    if p0 = 0 then (
      some ((1 : Int32))) else (
      some ((962 : Int32)))) fun s_1 =>
  some (s_1)
def lp_X10_writeChunk_11 (M_place : Nat → Int32) (p0 : Int32) (r_2 : Int32) (M_made_4 : Nat → Int32) : Nat → Int32 → Int32 → Int32 → Int32 → Int32 → (Nat → Int32) → Option (Int32 × Int32 × Int32 × Int32 × (Nat → Int32))
  | 0, _, _, _, _, _, _ => none
  | n + 1, v3_9, v4_10, M_writes_11, M_fuse_12, M_down_13, M_disk_14 =>
    if r_2 ≤ v4_10 then (
      some (v3_9, M_writes_11, M_fuse_12, M_down_13, M_disk_14)) else (
      if v3_9 = 0 then (
        some (v3_9, M_writes_11, M_fuse_12, M_down_13, M_disk_14)) else (
        ckb p0 240 <|
        ckb v4_10 200 <|
        ob5 (m_X10_write M_writes_11 M_fuse_12 M_down_13 M_disk_14 ((M_place (Int32.toNatClampNeg p0)) + v4_10) (M_made_4 (Int32.toNatClampNeg v4_10))) fun r_30 M_writes_31 M_fuse_32 M_down_33 M_disk_34 =>
        lp_X10_writeChunk_11 M_place p0 r_2 M_made_4 n r_30 (v4_10 + (1 : Int32)) M_writes_31 M_fuse_32 M_down_33 M_disk_34))
def m_X10_writeChunk (M_writes : Int32) (M_fuse : Int32) (M_down : Int32) (M_bits : Int32) (M_disk : Nat → Int32) (M_many : Nat → Int32) (M_place : Nat → Int32) (M_times : Nat → Int32) (M_values : Nat → Int32) (M_made : Nat → Int32) (p0 : Int32) : Option (Int32 × Int32 × Int32 × Int32 × Int32 × (Nat → Int32) × (Nat → Int32)) :=
  ob3 (m_X10_make M_bits M_many M_times M_values M_made p0) fun r_2 M_bits_3 M_made_4 =>
  ob5 (lp_X10_writeChunk_11 M_place p0 r_2 M_made_4 NN (1 : Int32) (0 : Int32) M_writes M_fuse M_down M_disk) fun v3_19 M_writes_20 M_fuse_21 M_down_22 M_disk_23 =>
  ckz v3_19 <|
  some (v3_19, M_writes_20, M_fuse_21, M_down_22, M_bits_3, M_disk_23, M_made_4)
def lp_X10_sumOf_5 (M_many : Nat → Int32) (M_values : Nat → Int32) (p0 : Int32) : Nat → Int64 → Int32 → Option (Int64)
  | 0, _, _ => none
  | n + 1, v2_3, v4_4 =>
    ckb p0 240 <|
    if (M_many (Int32.toNatClampNeg p0)) ≤ v4_4 then (
      some (v2_3)) else (
      ckb (((64 : Int32) * p0) + v4_4) 15360 <|
      lp_X10_sumOf_5 M_many M_values p0 n (v2_3 + (Int32.toInt64 (M_values (Int32.toNatClampNeg (((64 : Int32) * p0) + v4_4))))) (v4_4 + (1 : Int32)))
def m_X10_sumOf (M_many : Nat → Int32) (M_values : Nat → Int32) (p0 : Int32) : Option (Int64) :=
  ob1 (lp_X10_sumOf_5 M_many M_values p0 NN (0 : Int64) (0 : Int32)) fun v2_9 =>
  some (v2_9)
def m_X10_firstTime (M_times : Nat → Int32) (p0 : Int32) : Option (Int32) :=
  ckb ((64 : Int32) * p0) 15360 <|
  some ((M_times (Int32.toNatClampNeg ((64 : Int32) * p0))))
def m_X10_lastTime (M_many : Nat → Int32) (M_times : Nat → Int32) (p0 : Int32) : Option (Int32) :=
  ckb p0 240 <|
  ckb ((((64 : Int32) * p0) + (M_many (Int32.toNatClampNeg p0))) - (1 : Int32)) 15360 <|
  some ((M_times (Int32.toNatClampNeg ((((64 : Int32) * p0) + (M_many (Int32.toNatClampNeg p0))) - (1 : Int32)))))
def lp_X10_leastOf_12 (M_many : Nat → Int32) (M_values : Nat → Int32) (p0 : Int32) : Nat → Int32 → Int32 → Option (Int32)
  | 0, _, _ => none
  | n + 1, v2_4, v3_5 =>
    ckb p0 240 <|
    if (M_many (Int32.toNatClampNeg p0)) ≤ v3_5 then (
      some (v2_4)) else (
      ckb (((64 : Int32) * p0) + v3_5) 15360 <|
      ob1 (
        if v2_4 ≤ (M_values (Int32.toNatClampNeg (((64 : Int32) * p0) + v3_5))) then (
          some (v2_4)) else (
          ckb (((64 : Int32) * p0) + v3_5) 15360 <|
          some ((M_values (Int32.toNatClampNeg (((64 : Int32) * p0) + v3_5)))))) fun s_15 =>
      lp_X10_leastOf_12 M_many M_values p0 n s_15 (v3_5 + (1 : Int32)))
def m_X10_leastOf (M_many : Nat → Int32) (M_values : Nat → Int32) (p0 : Int32) : Option (Int32) :=
  ckb ((64 : Int32) * p0) 15360 <|
  ob1 (lp_X10_leastOf_12 M_many M_values p0 NN (M_values (Int32.toNatClampNeg ((64 : Int32) * p0))) (1 : Int32)) fun v2_10 =>
  some (v2_10)
def lp_X10_greatestOf_12 (M_many : Nat → Int32) (M_values : Nat → Int32) (p0 : Int32) : Nat → Int32 → Int32 → Option (Int32)
  | 0, _, _ => none
  | n + 1, v2_4, v3_5 =>
    ckb p0 240 <|
    if (M_many (Int32.toNatClampNeg p0)) ≤ v3_5 then (
      some (v2_4)) else (
      ckb (((64 : Int32) * p0) + v3_5) 15360 <|
      ob1 (
        if (M_values (Int32.toNatClampNeg (((64 : Int32) * p0) + v3_5))) ≤ v2_4 then (
          some (v2_4)) else (
          ckb (((64 : Int32) * p0) + v3_5) 15360 <|
          some ((M_values (Int32.toNatClampNeg (((64 : Int32) * p0) + v3_5)))))) fun s_15 =>
      lp_X10_greatestOf_12 M_many M_values p0 n s_15 (v3_5 + (1 : Int32)))
def m_X10_greatestOf (M_many : Nat → Int32) (M_values : Nat → Int32) (p0 : Int32) : Option (Int32) :=
  ckb ((64 : Int32) * p0) 15360 <|
  ob1 (lp_X10_greatestOf_12 M_many M_values p0 NN (M_values (Int32.toNatClampNeg ((64 : Int32) * p0))) (1 : Int32)) fun v2_10 =>
  some (v2_10)
def lp_X10_writeIndex_12 (M_nexts : Int32) (M_its : Nat → Int32) (M_many : Nat → Int32) (M_place : Nat → Int32) (M_length : Nat → Int32) (M_times : Nat → Int32) (M_values : Nat → Int32) (M_next : Nat → Int32) (p0 : Int32) : Nat → Int32 → Int32 → Int32 → Int32 → Int32 → (Nat → Int32) → Option (Int32 × Int32 × Int32 × Int32 × (Nat → Int32))
  | 0, _, _, _, _, _, _ => none
  | n + 1, v2_10, v3_11, M_writes_12, M_fuse_13, M_down_14, M_disk_15 =>
    if M_nexts ≤ v3_11 then (
      some (v2_10, M_writes_12, M_fuse_13, M_down_14, M_disk_15)) else (
      if v2_10 = 0 then (
        some (v2_10, M_writes_12, M_fuse_13, M_down_14, M_disk_15)) else (
        ckb v3_11 240 <|
        ob1 (m_X10_sumOf M_many M_values (M_next (Int32.toNatClampNeg v3_11))) fun r_32 =>
        ckb (M_next (Int32.toNatClampNeg v3_11)) 240 <|
        ob5 (m_X10_write M_writes_12 M_fuse_13 M_down_14 M_disk_15 ((p0 + (1 : Int32)) + ((10 : Int32) * v3_11)) (M_its (Int32.toNatClampNeg (M_next (Int32.toNatClampNeg v3_11))))) fun r_37 M_writes_38 M_fuse_39 M_down_40 M_disk_41 =>
        ob5 (
          if r_37 = 0 then (
            some ((0 : Int32), M_writes_38, M_fuse_39, M_down_40, M_disk_41)) else (
            ob1 (m_X10_firstTime M_times (M_next (Int32.toNatClampNeg v3_11))) fun r_52 =>
            ob5 (m_X10_write M_writes_38 M_fuse_39 M_down_40 M_disk_41 (((p0 + (1 : Int32)) + ((10 : Int32) * v3_11)) + (1 : Int32)) r_52) fun r_55 M_writes_56 M_fuse_57 M_down_58 M_disk_59 =>
            if r_55 = 0 then (
              some ((0 : Int32), M_writes_56, M_fuse_57, M_down_58, M_disk_59)) else (
              ob1 (m_X10_lastTime M_many M_times (M_next (Int32.toNatClampNeg v3_11))) fun r_63 =>
              ob5 (m_X10_write M_writes_56 M_fuse_57 M_down_58 M_disk_59 (((p0 + (1 : Int32)) + ((10 : Int32) * v3_11)) + (2 : Int32)) r_63) fun r_66 M_writes_67 M_fuse_68 M_down_69 M_disk_70 =>
              if r_66 = 0 then (
                some ((0 : Int32), M_writes_67, M_fuse_68, M_down_69, M_disk_70)) else (
                ckb (M_next (Int32.toNatClampNeg v3_11)) 240 <|
                ob5 (m_X10_write M_writes_67 M_fuse_68 M_down_69 M_disk_70 (((p0 + (1 : Int32)) + ((10 : Int32) * v3_11)) + (3 : Int32)) (M_many (Int32.toNatClampNeg (M_next (Int32.toNatClampNeg v3_11))))) fun r_75 M_writes_76 M_fuse_77 M_down_78 M_disk_79 =>
                if r_75 = 0 then (
                  some ((0 : Int32), M_writes_76, M_fuse_77, M_down_78, M_disk_79)) else (
                  ob1 (m_X10_leastOf M_many M_values (M_next (Int32.toNatClampNeg v3_11))) fun r_83 =>
                  ob5 (m_X10_write M_writes_76 M_fuse_77 M_down_78 M_disk_79 (((p0 + (1 : Int32)) + ((10 : Int32) * v3_11)) + (4 : Int32)) r_83) fun r_86 M_writes_87 M_fuse_88 M_down_89 M_disk_90 =>
                  if r_86 = 0 then (
                    some ((0 : Int32), M_writes_87, M_fuse_88, M_down_89, M_disk_90)) else (
                    ob1 (m_X10_greatestOf M_many M_values (M_next (Int32.toNatClampNeg v3_11))) fun r_94 =>
                    ob5 (m_X10_write M_writes_87 M_fuse_88 M_down_89 M_disk_90 (((p0 + (1 : Int32)) + ((10 : Int32) * v3_11)) + (5 : Int32)) r_94) fun r_97 M_writes_98 M_fuse_99 M_down_100 M_disk_101 =>
                    if r_97 = 0 then (
                      some ((0 : Int32), M_writes_98, M_fuse_99, M_down_100, M_disk_101)) else (
                      ob5 (m_X10_write M_writes_98 M_fuse_99 M_down_100 M_disk_101 (((p0 + (1 : Int32)) + ((10 : Int32) * v3_11)) + (6 : Int32)) (Int64.toInt32 (r_32 >>> (Int32.toInt64 (32 : Int32) &&& 63)))) fun r_105 M_writes_106 M_fuse_107 M_down_108 M_disk_109 =>
                      if r_105 = 0 then (
                        some ((0 : Int32), M_writes_106, M_fuse_107, M_down_108, M_disk_109)) else (
                        ob5 (m_X10_write M_writes_106 M_fuse_107 M_down_108 M_disk_109 (((p0 + (1 : Int32)) + ((10 : Int32) * v3_11)) + (7 : Int32)) (Int64.toInt32 r_32)) fun r_113 M_writes_114 M_fuse_115 M_down_116 M_disk_117 =>
                        if r_113 = 0 then (
                          some ((0 : Int32), M_writes_114, M_fuse_115, M_down_116, M_disk_117)) else (
                          ckb (M_next (Int32.toNatClampNeg v3_11)) 240 <|
                          ob5 (m_X10_write M_writes_114 M_fuse_115 M_down_116 M_disk_117 (((p0 + (1 : Int32)) + ((10 : Int32) * v3_11)) + (8 : Int32)) (M_place (Int32.toNatClampNeg (M_next (Int32.toNatClampNeg v3_11))))) fun r_122 M_writes_123 M_fuse_124 M_down_125 M_disk_126 =>
                          if r_122 = 0 then (
                            some ((0 : Int32), M_writes_123, M_fuse_124, M_down_125, M_disk_126)) else (
                            ckb (M_next (Int32.toNatClampNeg v3_11)) 240 <|
                            ob5 (m_X10_write M_writes_123 M_fuse_124 M_down_125 M_disk_126 (((p0 + (1 : Int32)) + ((10 : Int32) * v3_11)) + (9 : Int32)) (M_length (Int32.toNatClampNeg (M_next (Int32.toNatClampNeg v3_11))))) fun r_131 M_writes_132 M_fuse_133 M_down_134 M_disk_135 =>
                            if r_131 = 0 then (
                              some ((0 : Int32), M_writes_132, M_fuse_133, M_down_134, M_disk_135)) else (
                              some ((1 : Int32), M_writes_132, M_fuse_133, M_down_134, M_disk_135)))))))))))) fun s_43 M_writes_44 M_fuse_45 M_down_46 M_disk_47 =>
        lp_X10_writeIndex_12 M_nexts M_its M_many M_place M_length M_times M_values M_next p0 n s_43 (v3_11 + (1 : Int32)) M_writes_44 M_fuse_45 M_down_46 M_disk_47))
def m_X10_writeIndex (M_writes : Int32) (M_fuse : Int32) (M_down : Int32) (M_nexts : Int32) (M_disk : Nat → Int32) (M_its : Nat → Int32) (M_many : Nat → Int32) (M_place : Nat → Int32) (M_length : Nat → Int32) (M_times : Nat → Int32) (M_values : Nat → Int32) (M_next : Nat → Int32) (p0 : Int32) : Option (Int32 × Int32 × Int32 × Int32 × (Nat → Int32)) :=
  ob5 (m_X10_write M_writes M_fuse M_down M_disk p0 M_nexts) fun r_2 M_writes_3 M_fuse_4 M_down_5 M_disk_6 =>
  ob5 (lp_X10_writeIndex_12 M_nexts M_its M_many M_place M_length M_times M_values M_next p0 NN r_2 (0 : Int32) M_writes_3 M_fuse_4 M_down_5 M_disk_6) fun v2_20 M_writes_21 M_fuse_22 M_down_23 M_disk_24 =>
  ckz v2_20 <|
  some (v2_20, M_writes_21, M_fuse_22, M_down_23, M_disk_24)
def lp_X10_turn_174 (M_nexts : Int32) (M_next : Nat → Int32) : Nat → Int32 → (Nat → Int32) → Option ((Nat → Int32))
  | 0, _, _ => none
  | n + 1, v2_48, M_order_49 =>
    if M_nexts ≤ v2_48 then (
      some (M_order_49)) else (
      ckb v2_48 240 <|
      ckb v2_48 96 <|
      lp_X10_turn_174 M_nexts M_next n (v2_48 + (1 : Int32)) (upd M_order_49 (Int32.toNatClampNeg v2_48) (M_next (Int32.toNatClampNeg v2_48))))
def lp_X10_turn_95 (M_chunks : Int32) (M_epoch : Int32) (M_side : Int32) (M_nexts : Int32) (M_its : Nat → Int32) (M_many : Nat → Int32) (M_times : Nat → Int32) (M_values : Nat → Int32) (M_order : Nat → Int32) (M_next : Nat → Int32) (M_isNew : Nat → Int32) (p0 : Int32) (M_place_5 : Nat → Int32) (M_length_6 : Nat → Int32) : Nat → Int32 → Int32 → Int32 → Int32 → Int32 → (Nat → Int32) → (Nat → Int32) → Option (Int32 × Int32 × Int32 × Int32 × Int32 × Int32 × Int32 × Int32 × (Nat → Int32) × (Nat → Int32) × (Nat → Int32) × (Nat → Int32) × (Nat → Int32))
  | 0, _, _, _, _, _, _, _ => none
  | n + 1, v2_15, M_writes_16, M_fuse_17, M_down_18, M_bits_19, M_disk_20, M_made_21 =>
    if M_nexts ≤ v2_15 then (
      ob1 (m_X10_index ((1 : Int32) - M_side)) fun r_29 =>
      ob5 (m_X10_writeIndex M_writes_16 M_fuse_17 M_down_18 M_nexts M_disk_20 M_its M_many M_place_5 M_length_6 M_times M_values M_next r_29) fun r_32 M_writes_33 M_fuse_34 M_down_35 M_disk_36 =>
      if r_32 = 0 then (
        some ((-9 : Int32), M_writes_33, M_fuse_34, M_down_35, M_chunks, M_epoch, M_side, M_bits_19, M_disk_36, M_place_5, M_length_6, M_order, M_made_21)) else (
        ob5 (m_X10_write M_writes_33 M_fuse_34 M_down_35 M_disk_36 (0 : Int32) ((((2 : Int32) * p0) + (1 : Int32)) - M_side)) fun r_40 M_writes_41 M_fuse_42 M_down_43 M_disk_44 =>
        if r_40 = 0 then (
          some ((-9 : Int32), M_writes_41, M_fuse_42, M_down_43, M_chunks, M_epoch, M_side, M_bits_19, M_disk_44, M_place_5, M_length_6, M_order, M_made_21)) else (
          ob1 (lp_X10_turn_174 M_nexts M_next NN (0 : Int32) M_order) fun M_order_54 =>
          some ((0 : Int32), M_writes_41, M_fuse_42, M_down_43, M_nexts, p0, ((1 : Int32) - M_side), M_bits_19, M_disk_44, M_place_5, M_length_6, M_order_54, M_made_21)))) else (
      ckb v2_15 240 <|
      if (M_isNew (Int32.toNatClampNeg v2_15)) = 0 then (
        lp_X10_turn_95 M_chunks M_epoch M_side M_nexts M_its M_many M_times M_values M_order M_next M_isNew p0 M_place_5 M_length_6 n (v2_15 + (1 : Int32)) M_writes_16 M_fuse_17 M_down_18 M_bits_19 M_disk_20 M_made_21) else (
        ckb v2_15 240 <|
        ob7 (m_X10_writeChunk M_writes_16 M_fuse_17 M_down_18 M_bits_19 M_disk_20 M_many M_place_5 M_times M_values M_made_21 (M_next (Int32.toNatClampNeg v2_15))) fun r_70 M_writes_71 M_fuse_72 M_down_73 M_bits_74 M_disk_75 M_made_76 =>
        if r_70 = 0 then (
          some ((-9 : Int32), M_writes_71, M_fuse_72, M_down_73, M_chunks, M_epoch, M_side, M_bits_74, M_disk_75, M_place_5, M_length_6, M_order, M_made_76)) else (
          lp_X10_turn_95 M_chunks M_epoch M_side M_nexts M_its M_many M_times M_values M_order M_next M_isNew p0 M_place_5 M_length_6 n (v2_15 + (1 : Int32)) M_writes_71 M_fuse_72 M_down_73 M_bits_74 M_disk_75 M_made_76)))
def lp_X10_turn_14 (M_writes : Int32) (M_fuse : Int32) (M_down : Int32) (M_chunks : Int32) (M_epoch : Int32) (M_side : Int32) (M_nexts : Int32) (M_disk : Nat → Int32) (M_its : Nat → Int32) (M_many : Nat → Int32) (M_times : Nat → Int32) (M_values : Nat → Int32) (M_order : Nat → Int32) (M_next : Nat → Int32) (M_isNew : Nat → Int32) (p0 : Int32) : Nat → Int32 → Int32 → (Nat → Int32) → (Nat → Int32) → (Nat → Int32) → Option (Int32 × Int32 × Int32 × Int32 × Int32 × Int32 × Int32 × Int32 × (Nat → Int32) × (Nat → Int32) × (Nat → Int32) × (Nat → Int32) × (Nat → Int32))
  | 0, _, _, _, _, _ => none
  | n + 1, v2_3, M_bits_4, M_place_5, M_length_6, M_made_7 =>
    if M_nexts ≤ v2_3 then (
      lp_X10_turn_95 M_chunks M_epoch M_side M_nexts M_its M_many M_times M_values M_order M_next M_isNew p0 M_place_5 M_length_6 NN (0 : Int32) M_writes M_fuse M_down M_bits_4 M_disk M_made_7) else (
      ckb v2_3 240 <|
      if (M_isNew (Int32.toNatClampNeg v2_3)) = 0 then (
        lp_X10_turn_14 M_writes M_fuse M_down M_chunks M_epoch M_side M_nexts M_disk M_its M_many M_times M_values M_order M_next M_isNew p0 n (v2_3 + (1 : Int32)) M_bits_4 M_place_5 M_length_6 M_made_7) else (
        ckb v2_3 240 <|
        ob3 (m_X10_make M_bits_4 M_many M_times M_values M_made_7 (M_next (Int32.toNatClampNeg v2_3))) fun r_84 M_bits_85 M_made_86 =>
        ob1 (m_X10_find M_chunks M_place_5 M_length_6 M_order M_next M_isNew r_84 v2_3) fun r_90 =>
        if r_90 = (-1 : Int32) then (
          some ((-3 : Int32), M_writes, M_fuse, M_down, M_chunks, M_epoch, M_side, M_bits_85, M_disk, M_place_5, M_length_6, M_order, M_made_86)) else (
          ckb v2_3 240 <|
          ckb (M_next (Int32.toNatClampNeg v2_3)) 240 <|
          ckb v2_3 240 <|
          ckb (M_next (Int32.toNatClampNeg v2_3)) 240 <|
          lp_X10_turn_14 M_writes M_fuse M_down M_chunks M_epoch M_side M_nexts M_disk M_its M_many M_times M_values M_order M_next M_isNew p0 n (v2_3 + (1 : Int32)) M_bits_85 (upd M_place_5 (Int32.toNatClampNeg (M_next (Int32.toNatClampNeg v2_3))) r_90) (upd M_length_6 (Int32.toNatClampNeg (M_next (Int32.toNatClampNeg v2_3))) r_84) M_made_86)))
def m_X10_turn (M_writes : Int32) (M_fuse : Int32) (M_down : Int32) (M_chunks : Int32) (M_epoch : Int32) (M_side : Int32) (M_nexts : Int32) (M_bits : Int32) (M_disk : Nat → Int32) (M_its : Nat → Int32) (M_many : Nat → Int32) (M_place : Nat → Int32) (M_length : Nat → Int32) (M_times : Nat → Int32) (M_values : Nat → Int32) (M_order : Nat → Int32) (M_next : Nat → Int32) (M_isNew : Nat → Int32) (M_made : Nat → Int32) (p0 : Int32) : Option (Int32 × Int32 × Int32 × Int32 × Int32 × Int32 × Int32 × Int32 × (Nat → Int32) × (Nat → Int32) × (Nat → Int32) × (Nat → Int32) × (Nat → Int32)) :=
  if M_nexts ≤ (96 : Int32) then (
    lp_X10_turn_14 M_writes M_fuse M_down M_chunks M_epoch M_side M_nexts M_disk M_its M_many M_times M_values M_order M_next M_isNew p0 NN (0 : Int32) M_bits M_place M_length M_made) else (
    some ((-3 : Int32), M_writes, M_fuse, M_down, M_chunks, M_epoch, M_side, M_bits, M_disk, M_place, M_length, M_order, M_made))
def m_X10_add (M_many : Nat → Int32) (M_times : Nat → Int32) (M_values : Nat → Int32) (p0 : Int32) (p1 : Int32) (p2 : Int32) : Option ((Nat → Int32) × (Nat → Int32) × (Nat → Int32)) :=
  ckb p0 240 <|
  ckb (((64 : Int32) * p0) + (M_many (Int32.toNatClampNeg p0))) 15360 <|
  ckb p0 240 <|
  ckb (((64 : Int32) * p0) + (M_many (Int32.toNatClampNeg p0))) 15360 <|
  ckb p0 240 <|
  ckb p0 240 <|
  some ((upd M_many (Int32.toNatClampNeg p0) ((M_many (Int32.toNatClampNeg p0)) + (1 : Int32))), (upd M_times (Int32.toNatClampNeg (((64 : Int32) * p0) + (M_many (Int32.toNatClampNeg p0)))) p1), (upd M_values (Int32.toNatClampNeg (((64 : Int32) * p0) + (M_many (Int32.toNatClampNeg p0)))) p2))
def lp_X10_headsOf_4 (M_most : Int32) (M_chunks : Int32) (M_logged : Int32) (M_order : Nat → Int32) (M_headOf : Nat → Int32) (M_headTime : Nat → Int32) (M_headValue : Nat → Int32) (p0 : Int32) : Nat → Int32 → Int32 → Int32 → (Nat → Int32) → (Nat → Int32) → (Nat → Int32) → (Nat → Int32) → (Nat → Int32) → (Nat → Int32) → Option (Int32 × (Nat → Int32) × (Nat → Int32) × (Nat → Int32) × (Nat → Int32) × (Nat → Int32) × (Nat → Int32))
  | 0, _, _, _, _, _, _, _, _, _ => none
  | n + 1, v2_3, v3_4, M_nexts_5, M_its_6, M_many_7, M_times_8, M_values_9, M_next_10, M_isNew_11 =>
    if M_logged ≤ v3_4 then (
      some (M_nexts_5, M_its_6, M_many_7, M_times_8, M_values_9, M_next_10, M_isNew_11)) else (
      ckb v3_4 128 <|
      ob8 (
        if (M_headOf (Int32.toNatClampNeg v3_4)) = p0 then (
          ob6 (
            if v2_3 = (-1 : Int32) then (
              ob1 (m_X10_freeSlot M_chunks M_nexts_5 M_order M_next_10) fun r_47 =>
              ckb r_47 240 <|
              ckb r_47 240 <|
              ob3 (m_X10_comes M_nexts_5 M_next_10 M_isNew_11 r_47 (1 : Int32)) fun M_nexts_55 M_next_56 M_isNew_57 =>
              some (r_47, M_nexts_55, (upd M_its_6 (Int32.toNatClampNeg r_47) p0), (upd M_many_7 (Int32.toNatClampNeg r_47) (0 : Int32)), M_next_56, M_isNew_57)) else (
              ckb v2_3 240 <|
              if (M_many_7 (Int32.toNatClampNeg v2_3)) = M_most then (
                ob1 (m_X10_freeSlot M_chunks M_nexts_5 M_order M_next_10) fun r_62 =>
                ckb r_62 240 <|
                ckb r_62 240 <|
                ob3 (m_X10_comes M_nexts_5 M_next_10 M_isNew_11 r_62 (1 : Int32)) fun M_nexts_70 M_next_71 M_isNew_72 =>
                some (r_62, M_nexts_70, (upd M_its_6 (Int32.toNatClampNeg r_62) p0), (upd M_many_7 (Int32.toNatClampNeg r_62) (0 : Int32)), M_next_71, M_isNew_72)) else (
                some (v2_3, M_nexts_5, M_its_6, M_many_7, M_next_10, M_isNew_11)))) fun v2_37 M_nexts_38 M_its_39 M_many_40 M_next_41 M_isNew_42 =>
          ckb v3_4 128 <|
          ckb v3_4 128 <|
          ob3 (m_X10_add M_many_40 M_times_8 M_values_9 v2_37 (M_headTime (Int32.toNatClampNeg v3_4)) (M_headValue (Int32.toNatClampNeg v3_4))) fun M_many_78 M_times_79 M_values_80 =>
          some (v2_37, M_nexts_38, M_its_39, M_many_78, M_times_79, M_values_80, M_next_41, M_isNew_42)) else (
          some (v2_3, M_nexts_5, M_its_6, M_many_7, M_times_8, M_values_9, M_next_10, M_isNew_11))) fun v2_26 M_nexts_27 M_its_28 M_many_29 M_times_30 M_values_31 M_next_32 M_isNew_33 =>
      lp_X10_headsOf_4 M_most M_chunks M_logged M_order M_headOf M_headTime M_headValue p0 n v2_26 (v3_4 + (1 : Int32)) M_nexts_27 M_its_28 M_many_29 M_times_30 M_values_31 M_next_32 M_isNew_33)
def m_X10_headsOf (M_most : Int32) (M_chunks : Int32) (M_logged : Int32) (M_nexts : Int32) (M_its : Nat → Int32) (M_many : Nat → Int32) (M_times : Nat → Int32) (M_values : Nat → Int32) (M_order : Nat → Int32) (M_headOf : Nat → Int32) (M_headTime : Nat → Int32) (M_headValue : Nat → Int32) (M_next : Nat → Int32) (M_isNew : Nat → Int32) (p0 : Int32) : Option (Int32 × (Nat → Int32) × (Nat → Int32) × (Nat → Int32) × (Nat → Int32) × (Nat → Int32) × (Nat → Int32)) :=
  ob7 (lp_X10_headsOf_4 M_most M_chunks M_logged M_order M_headOf M_headTime M_headValue p0 NN (-1 : Int32) (0 : Int32) M_nexts M_its M_many M_times M_values M_next M_isNew) fun M_nexts_16 M_its_17 M_many_18 M_times_19 M_values_20 M_next_21 M_isNew_22 =>
  some (M_nexts_16, M_its_17, M_many_18, M_times_19, M_values_20, M_next_21, M_isNew_22)
def lp_X10_flush_44 (M_chunks : Int32) (M_order : Nat → Int32) (v1_13 : Int32) (M_its_15 : Nat → Int32) : Nat → Int32 → Int32 → (Nat → Int32) → (Nat → Int32) → Option (Int32 × (Nat → Int32) × (Nat → Int32))
  | 0, _, _, _, _ => none
  | n + 1, v2_35, M_nexts_36, M_next_37, M_isNew_38 =>
    if M_chunks ≤ v2_35 then (
      some (M_nexts_36, M_next_37, M_isNew_38)) else (
      ckb v2_35 96 <|
      ckb (M_order (Int32.toNatClampNeg v2_35)) 240 <|
      ob3 (
        if (M_its_15 (Int32.toNatClampNeg (M_order (Int32.toNatClampNeg v2_35)))) = v1_13 then (
          ckb v2_35 96 <|
          ob3 (m_X10_comes M_nexts_36 M_next_37 M_isNew_38 (M_order (Int32.toNatClampNeg v2_35)) (0 : Int32)) fun M_nexts_58 M_next_59 M_isNew_60 =>
          some (M_nexts_58, M_next_59, M_isNew_60)) else (
          some (M_nexts_36, M_next_37, M_isNew_38))) fun M_nexts_50 M_next_51 M_isNew_52 =>
      lp_X10_flush_44 M_chunks M_order v1_13 M_its_15 n (v2_35 + (1 : Int32)) M_nexts_50 M_next_51 M_isNew_52)
def lp_X10_flush_34 (M_series : Int32) (M_most : Int32) (M_chunks : Int32) (M_logged : Int32) (M_order : Nat → Int32) (M_headOf : Nat → Int32) (M_headTime : Nat → Int32) (M_headValue : Nat → Int32) : Nat → Int32 → Int32 → (Nat → Int32) → (Nat → Int32) → (Nat → Int32) → (Nat → Int32) → (Nat → Int32) → (Nat → Int32) → Option (Int32 × (Nat → Int32) × (Nat → Int32) × (Nat → Int32) × (Nat → Int32) × (Nat → Int32) × (Nat → Int32))
  | 0, _, _, _, _, _, _, _, _ => none
  | n + 1, v1_13, M_nexts_14, M_its_15, M_many_16, M_times_17, M_values_18, M_next_19, M_isNew_20 =>
    if M_series ≤ v1_13 then (
      some (M_nexts_14, M_its_15, M_many_16, M_times_17, M_values_18, M_next_19, M_isNew_20)) else (
      ob3 (lp_X10_flush_44 M_chunks M_order v1_13 M_its_15 NN (0 : Int32) M_nexts_14 M_next_19 M_isNew_20) fun M_nexts_43 M_next_44 M_isNew_45 =>
      ob7 (m_X10_headsOf M_most M_chunks M_logged M_nexts_43 M_its_15 M_many_16 M_times_17 M_values_18 M_order M_headOf M_headTime M_headValue M_next_44 M_isNew_45 v1_13) fun M_nexts_66 M_its_67 M_many_68 M_times_69 M_values_70 M_next_71 M_isNew_72 =>
      lp_X10_flush_34 M_series M_most M_chunks M_logged M_order M_headOf M_headTime M_headValue n (v1_13 + (1 : Int32)) M_nexts_66 M_its_67 M_many_68 M_times_69 M_values_70 M_next_71 M_isNew_72)
def m_X10_flush (M_thrown : Int32) (M_series : Int32) (M_most : Int32) (M_writes : Int32) (M_fuse : Int32) (M_down : Int32) (M_chunks : Int32) (M_epoch : Int32) (M_side : Int32) (M_logged : Int32) (M_nexts : Int32) (M_hasCursor : Int32) (M_cursorMany : Int32) (M_cursorAt : Int32) (M_bits : Int32) (M_disk : Nat → Int32) (M_its : Nat → Int32) (M_many : Nat → Int32) (M_place : Nat → Int32) (M_length : Nat → Int32) (M_times : Nat → Int32) (M_values : Nat → Int32) (M_order : Nat → Int32) (M_headOf : Nat → Int32) (M_headTime : Nat → Int32) (M_headValue : Nat → Int32) (M_next : Nat → Int32) (M_isNew : Nat → Int32) (M_made : Nat → Int32) : Option (Int32 × Int32 × Int32 × Int32 × Int32 × Int32 × Int32 × Int32 × Int32 × Int32 × Int32 × Int32 × Int32 × Int32 × (Nat → Int32) × (Nat → Int32) × (Nat → Int32) × (Nat → Int32) × (Nat → Int32) × (Nat → Int32) × (Nat → Int32) × (Nat → Int32) × (Nat → Int32) × (Nat → Int32) × (Nat → Int32)) :=
  ob3 (m_X10_dropCursor M_hasCursor M_cursorMany M_cursorAt) fun M_hasCursor_3 M_cursorMany_4 M_cursorAt_5 =>
  if M_down = 0 then (
    if M_logged = 0 then (
      some ((0 : Int32), (0 : Int32), M_writes, M_fuse, M_down, M_chunks, M_epoch, M_side, M_logged, M_nexts, M_hasCursor_3, M_cursorMany_4, M_cursorAt_5, M_bits, M_disk, M_its, M_many, M_place, M_length, M_times, M_values, M_order, M_next, M_isNew, M_made)) else (
      ob1 (m_X10_beginNext M_nexts) fun M_nexts_10 =>
      ob7 (lp_X10_flush_34 M_series M_most M_chunks M_logged M_order M_headOf M_headTime M_headValue NN (0 : Int32) M_nexts_10 M_its M_many M_times M_values M_next M_isNew) fun M_nexts_25 M_its_26 M_many_27 M_times_28 M_values_29 M_next_30 M_isNew_31 =>
      ob13 (m_X10_turn M_writes M_fuse M_down M_chunks M_epoch M_side M_nexts_25 M_bits M_disk M_its_26 M_many_27 M_place M_length M_times_28 M_values_29 M_order M_next_30 M_isNew_31 M_made (M_epoch + (1 : Int32))) fun r_78 M_writes_79 M_fuse_80 M_down_81 M_chunks_82 M_epoch_83 M_side_84 M_bits_85 M_disk_86 M_place_87 M_length_88 M_order_89 M_made_90 =>
      ob1 (
        if r_78 = 0 then (
          some ((0 : Int32))) else (
          some (M_logged))) fun M_logged_93 =>
      ob1 (
        if r_78 = 0 then (
          some ((M_nexts_25 - M_chunks))) else (
          some (r_78))) fun s_99 =>
      some (s_99, (0 : Int32), M_writes_79, M_fuse_80, M_down_81, M_chunks_82, M_epoch_83, M_side_84, M_logged_93, M_nexts_25, M_hasCursor_3, M_cursorMany_4, M_cursorAt_5, M_bits_85, M_disk_86, M_its_26, M_many_27, M_place_87, M_length_88, M_times_28, M_values_29, M_order_89, M_next_30, M_isNew_31, M_made_90))) else (
    some ((-9 : Int32), (0 : Int32), M_writes, M_fuse, M_down, M_chunks, M_epoch, M_side, M_logged, M_nexts, M_hasCursor_3, M_cursorMany_4, M_cursorAt_5, M_bits, M_disk, M_its, M_many, M_place, M_length, M_times, M_values, M_order, M_next, M_isNew, M_made))
def lp_X10_together_14 (M_most : Int32) (M_chunks : Int32) (M_its : Nat → Int32) (M_many : Nat → Int32) (M_order : Nat → Int32) (p0 : Int32) : Nat → Int32 → Int32 → Option (Int32)
  | 0, _, _ => none
  | n + 1, v2_5, v3_6 =>
    if M_chunks ≤ (p0 + v2_5) then (
      some (v2_5)) else (
      ckb (p0 + v2_5) 96 <|
      ckb (M_order (Int32.toNatClampNeg (p0 + v2_5))) 240 <|
      ckb p0 96 <|
      ckb (M_order (Int32.toNatClampNeg p0)) 240 <|
      if (M_its (Int32.toNatClampNeg (M_order (Int32.toNatClampNeg (p0 + v2_5))))) = (M_its (Int32.toNatClampNeg (M_order (Int32.toNatClampNeg p0)))) then (
        ckb (p0 + v2_5) 96 <|
        ckb (M_order (Int32.toNatClampNeg (p0 + v2_5))) 240 <|
        if M_most < (v3_6 + (M_many (Int32.toNatClampNeg (M_order (Int32.toNatClampNeg (p0 + v2_5)))))) then (
          some (v2_5)) else (
          ckb (p0 + v2_5) 96 <|
          ckb (M_order (Int32.toNatClampNeg (p0 + v2_5))) 240 <|
          lp_X10_together_14 M_most M_chunks M_its M_many M_order p0 n (v2_5 + (1 : Int32)) (v3_6 + (M_many (Int32.toNatClampNeg (M_order (Int32.toNatClampNeg (p0 + v2_5)))))))) else (
        some (v2_5)))
def m_X10_together (M_most : Int32) (M_chunks : Int32) (M_its : Nat → Int32) (M_many : Nat → Int32) (M_order : Nat → Int32) (p0 : Int32) : Option (Int32) :=
  ckb p0 96 <|
  ckb (M_order (Int32.toNatClampNeg p0)) 240 <|
  ob1 (lp_X10_together_14 M_most M_chunks M_its M_many M_order p0 NN (1 : Int32) (M_many (Int32.toNatClampNeg (M_order (Int32.toNatClampNeg p0))))) fun v2_11 =>
  some (v2_11)
def lp_X10_joined_49 (M_order : Nat → Int32) (r_2 : Int32) (v4_17 : Int32) : Nat → Int32 → (Nat → Int32) → (Nat → Int32) → (Nat → Int32) → Option ((Nat → Int32) × (Nat → Int32) × (Nat → Int32))
  | 0, _, _, _, _ => none
  | n + 1, v5_31, M_many_32, M_times_33, M_values_34 =>
    ckb v4_17 96 <|
    ckb (M_order (Int32.toNatClampNeg v4_17)) 240 <|
    if (M_many_32 (Int32.toNatClampNeg (M_order (Int32.toNatClampNeg v4_17)))) ≤ v5_31 then (
      some (M_many_32, M_times_33, M_values_34)) else (
      ckb v4_17 96 <|
      ckb (((64 : Int32) * (M_order (Int32.toNatClampNeg v4_17))) + v5_31) 15360 <|
      ckb v4_17 96 <|
      ckb (((64 : Int32) * (M_order (Int32.toNatClampNeg v4_17))) + v5_31) 15360 <|
      ob3 (m_X10_add M_many_32 M_times_33 M_values_34 r_2 (M_times_33 (Int32.toNatClampNeg (((64 : Int32) * (M_order (Int32.toNatClampNeg v4_17))) + v5_31))) (M_values_34 (Int32.toNatClampNeg (((64 : Int32) * (M_order (Int32.toNatClampNeg v4_17))) + v5_31)))) fun M_many_51 M_times_52 M_values_53 =>
      lp_X10_joined_49 M_order r_2 v4_17 n (v5_31 + (1 : Int32)) M_many_51 M_times_52 M_values_53)
def lp_X10_joined_38 (M_order : Nat → Int32) (p0 : Int32) (p1 : Int32) (r_2 : Int32) : Nat → Int32 → (Nat → Int32) → (Nat → Int32) → (Nat → Int32) → Option ((Nat → Int32) × (Nat → Int32) × (Nat → Int32))
  | 0, _, _, _, _ => none
  | n + 1, v4_17, M_many_18, M_times_19, M_values_20 =>
    if (p0 + p1) ≤ v4_17 then (
      some (M_many_18, M_times_19, M_values_20)) else (
      ob3 (lp_X10_joined_49 M_order r_2 v4_17 NN (0 : Int32) M_many_18 M_times_19 M_values_20) fun M_many_39 M_times_40 M_values_41 =>
      lp_X10_joined_38 M_order p0 p1 r_2 n (v4_17 + (1 : Int32)) M_many_39 M_times_40 M_values_41)
def m_X10_joined (M_chunks : Int32) (M_nexts : Int32) (M_its : Nat → Int32) (M_many : Nat → Int32) (M_times : Nat → Int32) (M_values : Nat → Int32) (M_order : Nat → Int32) (M_next : Nat → Int32) (M_isNew : Nat → Int32) (p0 : Int32) (p1 : Int32) : Option (Int32 × (Nat → Int32) × (Nat → Int32) × (Nat → Int32) × (Nat → Int32) × (Nat → Int32) × (Nat → Int32)) :=
  ob1 (m_X10_freeSlot M_chunks M_nexts M_order M_next) fun r_2 =>
  ckb p0 96 <|
  ckb (M_order (Int32.toNatClampNeg p0)) 240 <|
  ckb r_2 240 <|
  ckb r_2 240 <|
  ob3 (m_X10_comes M_nexts M_next M_isNew r_2 (1 : Int32)) fun M_nexts_12 M_next_13 M_isNew_14 =>
  ob3 (lp_X10_joined_38 M_order p0 p1 r_2 NN p0 (upd M_many (Int32.toNatClampNeg r_2) (0 : Int32)) M_times M_values) fun M_many_25 M_times_26 M_values_27 =>
  some (M_nexts_12, (upd M_its (Int32.toNatClampNeg r_2) (M_its (Int32.toNatClampNeg (M_order (Int32.toNatClampNeg p0))))), M_many_25, M_times_26, M_values_27, M_next_13, M_isNew_14)
def lp_X10_compact_36 (M_most : Int32) (M_chunks : Int32) (M_order : Nat → Int32) (p0 : Int32) : Nat → Int32 → Int32 → (Nat → Int32) → (Nat → Int32) → (Nat → Int32) → (Nat → Int32) → (Nat → Int32) → (Nat → Int32) → Option (Int32 × (Nat → Int32) × (Nat → Int32) × (Nat → Int32) × (Nat → Int32) × (Nat → Int32) × (Nat → Int32))
  | 0, _, _, _, _, _, _, _, _ => none
  | n + 1, v2_16, M_nexts_17, M_its_18, M_many_19, M_times_20, M_values_21, M_next_22, M_isNew_23 =>
    if M_chunks ≤ v2_16 then (
      some (M_nexts_17, M_its_18, M_many_19, M_times_20, M_values_21, M_next_22, M_isNew_23)) else (
      ckb v2_16 96 <|
      ckb (M_order (Int32.toNatClampNeg v2_16)) 240 <|
      ob1 (
        if (M_its_18 (Int32.toNatClampNeg (M_order (Int32.toNatClampNeg v2_16)))) = p0 then (
          ob1 (m_X10_together M_most M_chunks M_its_18 M_many_19 M_order v2_16) fun r_44 =>
          some (r_44)) else (
          some ((1 : Int32)))) fun s_39 =>
      ob7 (
        if s_39 = (1 : Int32) then (
          ckb v2_16 96 <|
          ob3 (m_X10_comes M_nexts_17 M_next_22 M_isNew_23 (M_order (Int32.toNatClampNeg v2_16)) (0 : Int32)) fun M_nexts_69 M_next_70 M_isNew_71 =>
          some (M_nexts_69, M_its_18, M_many_19, M_times_20, M_values_21, M_next_70, M_isNew_71)) else (
          ob7 (m_X10_joined M_chunks M_nexts_17 M_its_18 M_many_19 M_times_20 M_values_21 M_order M_next_22 M_isNew_23 v2_16 s_39) fun M_nexts_59 M_its_60 M_many_61 M_times_62 M_values_63 M_next_64 M_isNew_65 =>
          some (M_nexts_59, M_its_60, M_many_61, M_times_62, M_values_63, M_next_64, M_isNew_65))) fun M_nexts_48 M_its_49 M_many_50 M_times_51 M_values_52 M_next_53 M_isNew_54 =>
      lp_X10_compact_36 M_most M_chunks M_order p0 n (v2_16 + s_39) M_nexts_48 M_its_49 M_many_50 M_times_51 M_values_52 M_next_53 M_isNew_54)
def m_X10_compact (M_thrown : Int32) (M_series : Int32) (M_most : Int32) (M_writes : Int32) (M_fuse : Int32) (M_down : Int32) (M_chunks : Int32) (M_epoch : Int32) (M_side : Int32) (M_nexts : Int32) (M_hasCursor : Int32) (M_cursorMany : Int32) (M_cursorAt : Int32) (M_bits : Int32) (M_disk : Nat → Int32) (M_its : Nat → Int32) (M_many : Nat → Int32) (M_place : Nat → Int32) (M_length : Nat → Int32) (M_times : Nat → Int32) (M_values : Nat → Int32) (M_order : Nat → Int32) (M_next : Nat → Int32) (M_isNew : Nat → Int32) (M_made : Nat → Int32) (p0 : Int32) : Option (Int32 × Int32 × Int32 × Int32 × Int32 × Int32 × Int32 × Int32 × Int32 × Int32 × Int32 × Int32 × Int32 × (Nat → Int32) × (Nat → Int32) × (Nat → Int32) × (Nat → Int32) × (Nat → Int32) × (Nat → Int32) × (Nat → Int32) × (Nat → Int32) × (Nat → Int32) × (Nat → Int32) × (Nat → Int32)) :=
  ob3 (m_X10_dropCursor M_hasCursor M_cursorMany M_cursorAt) fun M_hasCursor_3 M_cursorMany_4 M_cursorAt_5 =>
  if M_down = 0 then (
    ob1 (m_X10_isSeries M_series p0) fun r_9 =>
    if r_9 = 0 then (
      some ((-2 : Int32), (0 : Int32), M_writes, M_fuse, M_down, M_chunks, M_epoch, M_side, M_nexts, M_hasCursor_3, M_cursorMany_4, M_cursorAt_5, M_bits, M_disk, M_its, M_many, M_place, M_length, M_times, M_values, M_order, M_next, M_isNew, M_made)) else (
      ob1 (m_X10_beginNext M_nexts) fun M_nexts_13 =>
      ob7 (lp_X10_compact_36 M_most M_chunks M_order p0 NN (0 : Int32) M_nexts_13 M_its M_many M_times M_values M_next M_isNew) fun M_nexts_28 M_its_29 M_many_30 M_times_31 M_values_32 M_next_33 M_isNew_34 =>
      if (M_chunks - M_nexts_28) = 0 then (
        some ((0 : Int32), (0 : Int32), M_writes, M_fuse, M_down, M_chunks, M_epoch, M_side, M_nexts_28, M_hasCursor_3, M_cursorMany_4, M_cursorAt_5, M_bits, M_disk, M_its_29, M_many_30, M_place, M_length, M_times_31, M_values_32, M_order, M_next_33, M_isNew_34, M_made)) else (
        ob13 (m_X10_turn M_writes M_fuse M_down M_chunks M_epoch M_side M_nexts_28 M_bits M_disk M_its_29 M_many_30 M_place M_length M_times_31 M_values_32 M_order M_next_33 M_isNew_34 M_made M_epoch) fun r_79 M_writes_80 M_fuse_81 M_down_82 M_chunks_83 M_epoch_84 M_side_85 M_bits_86 M_disk_87 M_place_88 M_length_89 M_order_90 M_made_91 =>
        ob1 (
          if r_79 = 0 then (
            some ((M_chunks - M_nexts_28))) else (
            some (r_79))) fun s_94 =>
        some (s_94, (0 : Int32), M_writes_80, M_fuse_81, M_down_82, M_chunks_83, M_epoch_84, M_side_85, M_nexts_28, M_hasCursor_3, M_cursorMany_4, M_cursorAt_5, M_bits_86, M_disk_87, M_its_29, M_many_30, M_place_88, M_length_89, M_times_31, M_values_32, M_order_90, M_next_33, M_isNew_34, M_made_91)))) else (
    some ((-9 : Int32), (0 : Int32), M_writes, M_fuse, M_down, M_chunks, M_epoch, M_side, M_nexts, M_hasCursor_3, M_cursorMany_4, M_cursorAt_5, M_bits, M_disk, M_its, M_many, M_place, M_length, M_times, M_values, M_order, M_next, M_isNew, M_made))
def lp_X10_expire_27 (M_chunks : Int32) (M_many : Nat → Int32) (M_times : Nat → Int32) (M_order : Nat → Int32) (p0 : Int32) : Nat → Int32 → Int32 → Int32 → (Nat → Int32) → (Nat → Int32) → Option (Int32 × Int32 × (Nat → Int32) × (Nat → Int32))
  | 0, _, _, _, _, _ => none
  | n + 1, v2_13, v3_14, M_nexts_15, M_next_16, M_isNew_17 =>
    if M_chunks ≤ v3_14 then (
      some (v2_13, M_nexts_15, M_next_16, M_isNew_17)) else (
      ckb v3_14 96 <|
      ob1 (m_X10_lastTime M_many M_times (M_order (Int32.toNatClampNeg v3_14))) fun r_30 =>
      ob4 (
        if p0 ≤ r_30 then (
          ckb v3_14 96 <|
          ob3 (m_X10_comes M_nexts_15 M_next_16 M_isNew_17 (M_order (Int32.toNatClampNeg v3_14)) (0 : Int32)) fun M_nexts_41 M_next_42 M_isNew_43 =>
          some (v2_13, M_nexts_41, M_next_42, M_isNew_43)) else (
          ckb v3_14 96 <|
          ckb (M_order (Int32.toNatClampNeg v3_14)) 240 <|
          some ((v2_13 + (M_many (Int32.toNatClampNeg (M_order (Int32.toNatClampNeg v3_14))))), M_nexts_15, M_next_16, M_isNew_17))) fun v2_32 M_nexts_33 M_next_34 M_isNew_35 =>
      lp_X10_expire_27 M_chunks M_many M_times M_order p0 n v2_32 (v3_14 + (1 : Int32)) M_nexts_33 M_next_34 M_isNew_35)
def m_X10_expire (M_thrown : Int32) (M_writes : Int32) (M_fuse : Int32) (M_down : Int32) (M_chunks : Int32) (M_epoch : Int32) (M_side : Int32) (M_nexts : Int32) (M_hasCursor : Int32) (M_cursorMany : Int32) (M_cursorAt : Int32) (M_bits : Int32) (M_disk : Nat → Int32) (M_its : Nat → Int32) (M_many : Nat → Int32) (M_place : Nat → Int32) (M_length : Nat → Int32) (M_times : Nat → Int32) (M_values : Nat → Int32) (M_order : Nat → Int32) (M_next : Nat → Int32) (M_isNew : Nat → Int32) (M_made : Nat → Int32) (p0 : Int32) : Option (Int32 × Int32 × Int32 × Int32 × Int32 × Int32 × Int32 × Int32 × Int32 × Int32 × Int32 × Int32 × Int32 × (Nat → Int32) × (Nat → Int32) × (Nat → Int32) × (Nat → Int32) × (Nat → Int32) × (Nat → Int32) × (Nat → Int32)) :=
  ob3 (m_X10_dropCursor M_hasCursor M_cursorMany M_cursorAt) fun M_hasCursor_3 M_cursorMany_4 M_cursorAt_5 =>
  if M_down = 0 then (
    ob1 (m_X10_beginNext M_nexts) fun M_nexts_9 =>
    ob4 (lp_X10_expire_27 M_chunks M_many M_times M_order p0 NN (0 : Int32) (0 : Int32) M_nexts_9 M_next M_isNew) fun v2_22 M_nexts_23 M_next_24 M_isNew_25 =>
    if v2_22 = 0 then (
      some ((0 : Int32), (0 : Int32), M_writes, M_fuse, M_down, M_chunks, M_epoch, M_side, M_nexts_23, M_hasCursor_3, M_cursorMany_4, M_cursorAt_5, M_bits, M_disk, M_place, M_length, M_order, M_next_24, M_isNew_25, M_made)) else (
      ob13 (m_X10_turn M_writes M_fuse M_down M_chunks M_epoch M_side M_nexts_23 M_bits M_disk M_its M_many M_place M_length M_times M_values M_order M_next_24 M_isNew_25 M_made M_epoch) fun r_53 M_writes_54 M_fuse_55 M_down_56 M_chunks_57 M_epoch_58 M_side_59 M_bits_60 M_disk_61 M_place_62 M_length_63 M_order_64 M_made_65 =>
      ob1 (
        if r_53 = 0 then (
          some (v2_22)) else (
          some (r_53))) fun s_68 =>
      some (s_68, (0 : Int32), M_writes_54, M_fuse_55, M_down_56, M_chunks_57, M_epoch_58, M_side_59, M_nexts_23, M_hasCursor_3, M_cursorMany_4, M_cursorAt_5, M_bits_60, M_disk_61, M_place_62, M_length_63, M_order_64, M_next_24, M_isNew_25, M_made_65))) else (
    some ((-9 : Int32), (0 : Int32), M_writes, M_fuse, M_down, M_chunks, M_epoch, M_side, M_nexts, M_hasCursor_3, M_cursorMany_4, M_cursorAt_5, M_bits, M_disk, M_place, M_length, M_order, M_next, M_isNew, M_made))
def m_X10_meet (M_askMany : Int32) (M_askLeast : Int32) (M_askGreatest : Int32) (M_askSum : Int64) (M_cursorTime : Nat → Int32) (M_cursorValue : Nat → Int32) (p0 : Int32) (p1 : Int32) (p2 : Int32) (p3 : Int32) (p4 : Int32) : Option (Int32 × Int32 × Int32 × Int64 × (Nat → Int32) × (Nat → Int32)) :=
  if p0 < p2 then (
    some (M_askMany, M_askLeast, M_askGreatest, M_askSum, M_cursorTime, M_cursorValue)) else (
    if p0 ≤ p3 then (
      ob1 (
        if M_askMany = 0 then (
          some (p1)) else (
          if M_askLeast ≤ p1 then (
            some (M_askLeast)) else (
            some (p1)))) fun s_3 =>
      ob1 (
        if M_askMany = 0 then (
          some (p1)) else (
          if p1 ≤ M_askGreatest then (
            some (M_askGreatest)) else (
            some (p1)))) fun s_10 =>
      ob2 (
        if p4 = 0 then (
          some (M_cursorTime, M_cursorValue)) else (
          ckb M_askMany 6300 <|
          ckb M_askMany 6300 <|
          some ((upd M_cursorTime (Int32.toNatClampNeg M_askMany) p0), (upd M_cursorValue (Int32.toNatClampNeg M_askMany) p1)))) fun M_cursorTime_18 M_cursorValue_19 =>
      some ((M_askMany + (1 : Int32)), s_3, s_10, (M_askSum + (Int32.toInt64 p1)), M_cursorTime_18, M_cursorValue_19)) else (
      some (M_askMany, M_askLeast, M_askGreatest, M_askSum, M_cursorTime, M_cursorValue)))
def lp_X10_chunksOf_4 (M_chunks : Int32) (M_its : Nat → Int32) (M_order : Nat → Int32) (p0 : Int32) : Nat → Int32 → Int32 → Option (Int32)
  | 0, _, _ => none
  | n + 1, v2_3, v3_4 =>
    if M_chunks ≤ v3_4 then (
      some (v2_3)) else (
      ckb v3_4 96 <|
      ckb (M_order (Int32.toNatClampNeg v3_4)) 240 <|
      ob1 (
        if (M_its (Int32.toNatClampNeg (M_order (Int32.toNatClampNeg v3_4)))) = p0 then (
          some ((1 : Int32))) else (
          some ((0 : Int32)))) fun s_14 =>
      lp_X10_chunksOf_4 M_chunks M_its M_order p0 n (v2_3 + s_14) (v3_4 + (1 : Int32)))
def m_X10_chunksOf (M_chunks : Int32) (M_its : Nat → Int32) (M_order : Nat → Int32) (p0 : Int32) : Option (Int32) :=
  ob1 (lp_X10_chunksOf_4 M_chunks M_its M_order p0 NN (0 : Int32) (0 : Int32)) fun v2_9 =>
  some (v2_9)
def m_X10_groupsOf (M_ratio : Int32) (M_chunks : Int32) (M_its : Nat → Int32) (M_order : Nat → Int32) (p0 : Int32) : Option (Int32) :=
  ob1 (m_X10_chunksOf M_chunks M_its M_order p0) fun r_2 =>
  ckn M_ratio <|
  some ((((r_2 + M_ratio) - (1 : Int32)) / M_ratio))
def lp_X10_slot_5 (M_chunks : Int32) (M_its : Nat → Int32) (M_order : Nat → Int32) (p0 : Int32) (p1 : Int32) : Nat → Int32 → Int32 → Option (Int32)
  | 0, _, _ => none
  | n + 1, v3_3, v4_4 =>
    if M_chunks ≤ v4_4 then (
      some ((-1 : Int32))) else (
      ckb v4_4 96 <|
      ckb (M_order (Int32.toNatClampNeg v4_4)) 240 <|
      if (M_its (Int32.toNatClampNeg (M_order (Int32.toNatClampNeg v4_4)))) = p0 then (
        if v3_3 = p1 then (
          ckb v4_4 96 <|
          some ((M_order (Int32.toNatClampNeg v4_4)))) else (
          lp_X10_slot_5 M_chunks M_its M_order p0 p1 n (v3_3 + (1 : Int32)) (v4_4 + (1 : Int32)))) else (
        lp_X10_slot_5 M_chunks M_its M_order p0 p1 n v3_3 (v4_4 + (1 : Int32))))
def m_X10_slot (M_chunks : Int32) (M_its : Nat → Int32) (M_order : Nat → Int32) (p0 : Int32) (p1 : Int32) : Option (Int32) :=
  lp_X10_slot_5 M_chunks M_its M_order p0 p1 NN (0 : Int32) (0 : Int32)
def m_X10_isPart (p0 : Int32) (p1 : Int32) (p2 : Int32) (p3 : Int32) : Option (Int32) :=
  ob1 (
    if p1 < p2 then (
      some ((1 : Int32))) else (
      if p0 ≤ p3 then (
        some ((0 : Int32))) else (
        some ((1 : Int32))))) fun s_1 =>
  ob1 (
    if p0 < p2 then (
      some ((0 : Int32))) else (
      if p3 < p1 then (
        some ((0 : Int32))) else (
        some ((1 : Int32))))) fun s_8 =>
  ob1 (
    if s_1 = 0 then (
      if s_8 = 0 then (
        some ((1 : Int32))) else (
        some ((0 : Int32)))) else (
      some ((0 : Int32)))) fun s_15 =>
  ckz s_15 <|
  some (s_15)
def lp_X10_lookInto_3 (M_chunks : Int32) (M_its : Nat → Int32) (M_many : Nat → Int32) (M_times : Nat → Int32) (M_order : Nat → Int32) (p0 : Int32) (p2 : Int32) (p3 : Int32) (p4 : Int32) : Nat → Int32 → Int32 → Int32 → Option (Int32 × Int32)
  | 0, _, _, _ => none
  | n + 1, v6_2, M_looks_3, M_unpacked_4 =>
    if p2 ≤ v6_2 then (
      some (M_looks_3, M_unpacked_4)) else (
      ob1 (m_X10_slot M_chunks M_its M_order p0 v6_2) fun r_15 =>
      ob1 (m_X10_firstTime M_times r_15) fun r_18 =>
      ob1 (m_X10_slot M_chunks M_its M_order p0 v6_2) fun r_21 =>
      ob1 (m_X10_lastTime M_many M_times r_21) fun r_24 =>
      ob1 (m_X10_isPart r_18 r_24 p3 p4) fun r_27 =>
      ob1 (
        if r_27 = 0 then (
          some ((0 : Int32))) else (
          some ((1 : Int32)))) fun s_29 =>
      lp_X10_lookInto_3 M_chunks M_its M_many M_times M_order p0 p2 p3 p4 n (v6_2 + (1 : Int32)) (M_looks_3 + (1 : Int32)) (M_unpacked_4 + s_29))
def m_X10_lookInto (M_looks : Int32) (M_unpacked : Int32) (M_chunks : Int32) (M_its : Nat → Int32) (M_many : Nat → Int32) (M_times : Nat → Int32) (M_order : Nat → Int32) (p0 : Int32) (p1 : Int32) (p2 : Int32) (p3 : Int32) (p4 : Int32) : Option (Int32 × Int32) :=
  ob2 (lp_X10_lookInto_3 M_chunks M_its M_many M_times M_order p0 p2 p3 p4 NN p1 M_looks M_unpacked) fun M_looks_9 M_unpacked_10 =>
  some (M_looks_9, M_unpacked_10)
def lp_X10_lookAt_20 (M_ratio : Int32) (M_chunks : Int32) (M_its : Nat → Int32) (M_many : Nat → Int32) (M_times : Nat → Int32) (M_order : Nat → Int32) (p0 : Int32) (p1 : Int32) (p2 : Int32) (r_4 : Int32) : Nat → Int32 → Int32 → Int32 → Option (Int32 × Int32)
  | 0, _, _, _ => none
  | n + 1, v5_8, M_looks_9, M_unpacked_10 =>
    ob1 (m_X10_groupsOf M_ratio M_chunks M_its M_order p0) fun r_19 =>
    if r_19 ≤ v5_8 then (
      some (M_looks_9, M_unpacked_10)) else (
      ob1 (
        if r_4 ≤ ((M_ratio * v5_8) + M_ratio) then (
          some (r_4)) else (
          some (((M_ratio * v5_8) + M_ratio)))) fun s_24 =>
      ob1 (m_X10_slot M_chunks M_its M_order p0 (M_ratio * v5_8)) fun r_31 =>
      ob1 (m_X10_firstTime M_times r_31) fun r_34 =>
      ob1 (m_X10_slot M_chunks M_its M_order p0 (s_24 - (1 : Int32))) fun r_37 =>
      ob1 (m_X10_lastTime M_many M_times r_37) fun r_40 =>
      ob1 (m_X10_isPart r_34 r_40 p1 p2) fun r_43 =>
      ob2 (
        if r_43 = 0 then (
          some ((M_looks_9 + (1 : Int32)), M_unpacked_10)) else (
          ob2 (m_X10_lookInto (M_looks_9 + (1 : Int32)) M_unpacked_10 M_chunks M_its M_many M_times M_order p0 (M_ratio * v5_8) s_24 p1 p2) fun M_looks_51 M_unpacked_52 =>
          some (M_looks_51, M_unpacked_52))) fun M_looks_45 M_unpacked_46 =>
      lp_X10_lookAt_20 M_ratio M_chunks M_its M_many M_times M_order p0 p1 p2 r_4 n (v5_8 + (1 : Int32)) M_looks_45 M_unpacked_46)
def m_X10_lookAt (M_ratio : Int32) (M_looks : Int32) (M_unpacked : Int32) (M_chunks : Int32) (M_its : Nat → Int32) (M_many : Nat → Int32) (M_times : Nat → Int32) (M_order : Nat → Int32) (p0 : Int32) (p1 : Int32) (p2 : Int32) : Option (Int32 × Int32) :=
  ob1 (m_X10_chunksOf M_chunks M_its M_order p0) fun r_4 =>
  ob2 (lp_X10_lookAt_20 M_ratio M_chunks M_its M_many M_times M_order p0 p1 p2 r_4 NN (0 : Int32) (0 : Int32) (0 : Int32)) fun M_looks_15 M_unpacked_16 =>
  some (M_looks_15, M_unpacked_16)
def lp_X10_ask_44 (M_its : Nat → Int32) (M_many : Nat → Int32) (M_times : Nat → Int32) (M_values : Nat → Int32) (M_order : Nat → Int32) (p0 : Int32) (p1 : Int32) (p2 : Int32) (p3 : Int32) (v5_6 : Int32) : Nat → Int32 → Int32 → Int32 → Int32 → Int64 → (Nat → Int32) → (Nat → Int32) → Option (Int32 × Int32 × Int32 × Int64 × (Nat → Int32) × (Nat → Int32))
  | 0, _, _, _, _, _, _, _ => none
  | n + 1, v7_28, M_askMany_29, M_askLeast_30, M_askGreatest_31, M_askSum_32, M_cursorTime_33, M_cursorValue_34 =>
    ckb (M_order (Int32.toNatClampNeg v5_6)) 240 <|
    if (M_many (Int32.toNatClampNeg (M_order (Int32.toNatClampNeg v5_6)))) ≤ v7_28 then (
      some (M_askMany_29, M_askLeast_30, M_askGreatest_31, M_askSum_32, M_cursorTime_33, M_cursorValue_34)) else (
      ckb (M_order (Int32.toNatClampNeg v5_6)) 240 <|
      if (M_its (Int32.toNatClampNeg (M_order (Int32.toNatClampNeg v5_6)))) = p0 then (
        ckb (((64 : Int32) * (M_order (Int32.toNatClampNeg v5_6))) + v7_28) 15360 <|
        ckb (((64 : Int32) * (M_order (Int32.toNatClampNeg v5_6))) + v7_28) 15360 <|
        ob6 (m_X10_meet M_askMany_29 M_askLeast_30 M_askGreatest_31 M_askSum_32 M_cursorTime_33 M_cursorValue_34 (M_times (Int32.toNatClampNeg (((64 : Int32) * (M_order (Int32.toNatClampNeg v5_6))) + v7_28))) (M_values (Int32.toNatClampNeg (((64 : Int32) * (M_order (Int32.toNatClampNeg v5_6))) + v7_28))) p1 p2 p3) fun M_askMany_53 M_askLeast_54 M_askGreatest_55 M_askSum_56 M_cursorTime_57 M_cursorValue_58 =>
        lp_X10_ask_44 M_its M_many M_times M_values M_order p0 p1 p2 p3 v5_6 n (v7_28 + (1 : Int32)) M_askMany_53 M_askLeast_54 M_askGreatest_55 M_askSum_56 M_cursorTime_57 M_cursorValue_58) else (
        some (M_askMany_29, M_askLeast_30, M_askGreatest_31, M_askSum_32, M_cursorTime_33, M_cursorValue_34)))
def lp_X10_ask_23 (M_chunks : Int32) (M_its : Nat → Int32) (M_many : Nat → Int32) (M_times : Nat → Int32) (M_values : Nat → Int32) (M_order : Nat → Int32) (p0 : Int32) (p1 : Int32) (p2 : Int32) (p3 : Int32) : Nat → Int32 → Int32 → Int32 → Int32 → Int64 → (Nat → Int32) → (Nat → Int32) → Option (Int32 × Int32 × Int32 × Int64 × (Nat → Int32) × (Nat → Int32))
  | 0, _, _, _, _, _, _, _ => none
  | n + 1, v5_6, M_askMany_7, M_askLeast_8, M_askGreatest_9, M_askSum_10, M_cursorTime_11, M_cursorValue_12 =>
    if M_chunks ≤ v5_6 then (
      some (M_askMany_7, M_askLeast_8, M_askGreatest_9, M_askSum_10, M_cursorTime_11, M_cursorValue_12)) else (
      ckb v5_6 96 <|
      ob6 (lp_X10_ask_44 M_its M_many M_times M_values M_order p0 p1 p2 p3 v5_6 NN (0 : Int32) M_askMany_7 M_askLeast_8 M_askGreatest_9 M_askSum_10 M_cursorTime_11 M_cursorValue_12) fun M_askMany_39 M_askLeast_40 M_askGreatest_41 M_askSum_42 M_cursorTime_43 M_cursorValue_44 =>
      lp_X10_ask_23 M_chunks M_its M_many M_times M_values M_order p0 p1 p2 p3 n (v5_6 + (1 : Int32)) M_askMany_39 M_askLeast_40 M_askGreatest_41 M_askSum_42 M_cursorTime_43 M_cursorValue_44)
def lp_X10_ask_116 (M_logged : Int32) (M_headOf : Nat → Int32) (M_headTime : Nat → Int32) (M_headValue : Nat → Int32) (p0 : Int32) (p1 : Int32) (p2 : Int32) (p3 : Int32) : Nat → Int32 → Int32 → Int32 → Int32 → Int64 → (Nat → Int32) → (Nat → Int32) → Option (Int32 × Int32 × Int32 × Int64 × (Nat → Int32) × (Nat → Int32))
  | 0, _, _, _, _, _, _, _ => none
  | n + 1, v5_65, M_askMany_66, M_askLeast_67, M_askGreatest_68, M_askSum_69, M_cursorTime_70, M_cursorValue_71 =>
    if M_logged ≤ v5_65 then (
      some (M_askMany_66, M_askLeast_67, M_askGreatest_68, M_askSum_69, M_cursorTime_70, M_cursorValue_71)) else (
      ckb v5_65 128 <|
      ob6 (
        if (M_headOf (Int32.toNatClampNeg v5_65)) = p0 then (
          ckb v5_65 128 <|
          ckb v5_65 128 <|
          ob6 (m_X10_meet M_askMany_66 M_askLeast_67 M_askGreatest_68 M_askSum_69 M_cursorTime_70 M_cursorValue_71 (M_headTime (Int32.toNatClampNeg v5_65)) (M_headValue (Int32.toNatClampNeg v5_65)) p1 p2 p3) fun M_askMany_97 M_askLeast_98 M_askGreatest_99 M_askSum_100 M_cursorTime_101 M_cursorValue_102 =>
          some (M_askMany_97, M_askLeast_98, M_askGreatest_99, M_askSum_100, M_cursorTime_101, M_cursorValue_102)) else (
          some (M_askMany_66, M_askLeast_67, M_askGreatest_68, M_askSum_69, M_cursorTime_70, M_cursorValue_71))) fun M_askMany_85 M_askLeast_86 M_askGreatest_87 M_askSum_88 M_cursorTime_89 M_cursorValue_90 =>
      lp_X10_ask_116 M_logged M_headOf M_headTime M_headValue p0 p1 p2 p3 n (v5_65 + (1 : Int32)) M_askMany_85 M_askLeast_86 M_askGreatest_87 M_askSum_88 M_cursorTime_89 M_cursorValue_90)
def m_X10_ask (M_ratio : Int32) (M_looks : Int32) (M_unpacked : Int32) (M_chunks : Int32) (M_logged : Int32) (M_askMany : Int32) (M_askLeast : Int32) (M_askGreatest : Int32) (M_askSum : Int64) (M_its : Nat → Int32) (M_many : Nat → Int32) (M_times : Nat → Int32) (M_values : Nat → Int32) (M_order : Nat → Int32) (M_headOf : Nat → Int32) (M_headTime : Nat → Int32) (M_headValue : Nat → Int32) (M_cursorTime : Nat → Int32) (M_cursorValue : Nat → Int32) (p0 : Int32) (p1 : Int32) (p2 : Int32) (p3 : Int32) : Option (Int32 × Int32 × Int32 × Int32 × Int32 × Int64 × (Nat → Int32) × (Nat → Int32)) :=
  ob6 (lp_X10_ask_23 M_chunks M_its M_many M_times M_values M_order p0 p1 p2 p3 NN (0 : Int32) (0 : Int32) (0 : Int32) (0 : Int32) (0 : Int64) M_cursorTime M_cursorValue) fun M_askMany_17 M_askLeast_18 M_askGreatest_19 M_askSum_20 M_cursorTime_21 M_cursorValue_22 =>
  ob6 (lp_X10_ask_116 M_logged M_headOf M_headTime M_headValue p0 p1 p2 p3 NN (0 : Int32) M_askMany_17 M_askLeast_18 M_askGreatest_19 M_askSum_20 M_cursorTime_21 M_cursorValue_22) fun M_askMany_76 M_askLeast_77 M_askGreatest_78 M_askSum_79 M_cursorTime_80 M_cursorValue_81 =>
  ob2 (m_X10_lookAt M_ratio M_looks M_unpacked M_chunks M_its M_many M_times M_order p0 p1 p2) fun M_looks_108 M_unpacked_109 =>
  some (M_looks_108, M_unpacked_109, M_askMany_76, M_askLeast_77, M_askGreatest_78, M_askSum_79, M_cursorTime_80, M_cursorValue_81)
def m_X10_seek (M_thrown : Int32) (M_series : Int32) (M_ratio : Int32) (M_down : Int32) (M_looks : Int32) (M_unpacked : Int32) (M_chunks : Int32) (M_logged : Int32) (M_hasCursor : Int32) (M_cursorMany : Int32) (M_cursorAt : Int32) (M_askMany : Int32) (M_askLeast : Int32) (M_askGreatest : Int32) (M_askSum : Int64) (M_its : Nat → Int32) (M_many : Nat → Int32) (M_times : Nat → Int32) (M_values : Nat → Int32) (M_order : Nat → Int32) (M_headOf : Nat → Int32) (M_headTime : Nat → Int32) (M_headValue : Nat → Int32) (M_cursorTime : Nat → Int32) (M_cursorValue : Nat → Int32) (p0 : Int32) (p1 : Int32) (p2 : Int32) : Option (Int32 × Int32 × Int32 × Int32 × Int32 × Int32 × Int32 × Int32 × Int32 × Int32 × Int64 × (Nat → Int32) × (Nat → Int32)) :=
  ob3 (m_X10_dropCursor M_hasCursor M_cursorMany M_cursorAt) fun M_hasCursor_3 M_cursorMany_4 M_cursorAt_5 =>
  if M_down = 0 then (
    ob1 (m_X10_isSeries M_series p0) fun r_9 =>
    if r_9 = 0 then (
      some ((-2 : Int32), (0 : Int32), M_looks, M_unpacked, M_hasCursor_3, M_cursorMany_4, M_cursorAt_5, M_askMany, M_askLeast, M_askGreatest, M_askSum, M_cursorTime, M_cursorValue)) else (
      ob8 (m_X10_ask M_ratio M_looks M_unpacked M_chunks M_logged M_askMany M_askLeast M_askGreatest M_askSum M_its M_many M_times M_values M_order M_headOf M_headTime M_headValue M_cursorTime M_cursorValue p0 p1 p2 (1 : Int32)) fun M_looks_13 M_unpacked_14 M_askMany_15 M_askLeast_16 M_askGreatest_17 M_askSum_18 M_cursorTime_19 M_cursorValue_20 =>
      some (M_askMany_15, (0 : Int32), M_looks_13, M_unpacked_14, (1 : Int32), M_askMany_15, M_cursorAt_5, M_askMany_15, M_askLeast_16, M_askGreatest_17, M_askSum_18, M_cursorTime_19, M_cursorValue_20))) else (
    some ((-9 : Int32), (0 : Int32), M_looks, M_unpacked, M_hasCursor_3, M_cursorMany_4, M_cursorAt_5, M_askMany, M_askLeast, M_askGreatest, M_askSum, M_cursorTime, M_cursorValue))
def m_X10_next (M_thrown : Int32) (M_hasCursor : Int32) (M_cursorMany : Int32) (M_cursorAt : Int32) : Option (Int32 × Int32 × Int32) :=
  ob1 (
    if M_cursorMany ≤ M_cursorAt then (
      some (M_cursorAt)) else (
      some ((M_cursorAt + (1 : Int32))))) fun M_cursorAt_2 =>
  ob1 (
    if M_hasCursor = 0 then (
      some ((0 : Int32))) else (
      if M_cursorMany ≤ M_cursorAt_2 then (
        some ((0 : Int32))) else (
        some ((1 : Int32))))) fun s_8 =>
  ckz s_8 <|
  some (s_8, (0 : Int32), M_cursorAt_2)
def m_X10_isAt (M_hasCursor : Int32) (M_cursorMany : Int32) (M_cursorAt : Int32) : Option (Int32) :=
  ob1 (
    if M_hasCursor = 0 then (
      some ((0 : Int32))) else (
      if M_cursorAt < 0 then (
        some ((0 : Int32))) else (
        if M_cursorMany ≤ M_cursorAt then (
          some ((0 : Int32))) else (
          some ((1 : Int32)))))) fun s_1 =>
  ckz s_1 <|
  some (s_1)
def m_X10_curTime (M_thrown : Int32) (M_hasCursor : Int32) (M_cursorMany : Int32) (M_cursorAt : Int32) (M_cursorTime : Nat → Int32) : Option (Int32 × Int32) :=
  ob1 (m_X10_isAt M_hasCursor M_cursorMany M_cursorAt) fun r_3 =>
  ob1 (
    if r_3 = 0 then (
      some ((0 : Int32))) else (
      ckb M_cursorAt 6300 <|
      some ((M_cursorTime (Int32.toNatClampNeg M_cursorAt))))) fun s_5 =>
  some (s_5, (0 : Int32))
def m_X10_curVal (M_thrown : Int32) (M_hasCursor : Int32) (M_cursorMany : Int32) (M_cursorAt : Int32) (M_cursorValue : Nat → Int32) : Option (Int32 × Int32) :=
  ob1 (m_X10_isAt M_hasCursor M_cursorMany M_cursorAt) fun r_3 =>
  ob1 (
    if r_3 = 0 then (
      some ((0 : Int32))) else (
      ckb M_cursorAt 6300 <|
      some ((M_cursorValue (Int32.toNatClampNeg M_cursorAt))))) fun s_5 =>
  some (s_5, (0 : Int32))
def m_X10_aggCount (M_thrown : Int32) (M_series : Int32) (M_ratio : Int32) (M_down : Int32) (M_looks : Int32) (M_unpacked : Int32) (M_chunks : Int32) (M_logged : Int32) (M_askMany : Int32) (M_askLeast : Int32) (M_askGreatest : Int32) (M_askSum : Int64) (M_its : Nat → Int32) (M_many : Nat → Int32) (M_times : Nat → Int32) (M_values : Nat → Int32) (M_order : Nat → Int32) (M_headOf : Nat → Int32) (M_headTime : Nat → Int32) (M_headValue : Nat → Int32) (M_cursorTime : Nat → Int32) (M_cursorValue : Nat → Int32) (p0 : Int32) (p1 : Int32) (p2 : Int32) : Option (Int32 × Int32 × Int32 × Int32 × Int32 × Int32 × Int32 × Int64 × (Nat → Int32) × (Nat → Int32)) :=
  if M_down = 0 then (
    ob1 (m_X10_isSeries M_series p0) fun r_4 =>
    if r_4 = 0 then (
      some ((-2 : Int32), (0 : Int32), M_looks, M_unpacked, M_askMany, M_askLeast, M_askGreatest, M_askSum, M_cursorTime, M_cursorValue)) else (
      ob8 (m_X10_ask M_ratio M_looks M_unpacked M_chunks M_logged M_askMany M_askLeast M_askGreatest M_askSum M_its M_many M_times M_values M_order M_headOf M_headTime M_headValue M_cursorTime M_cursorValue p0 p1 p2 (0 : Int32)) fun M_looks_8 M_unpacked_9 M_askMany_10 M_askLeast_11 M_askGreatest_12 M_askSum_13 M_cursorTime_14 M_cursorValue_15 =>
      some (M_askMany_10, (0 : Int32), M_looks_8, M_unpacked_9, M_askMany_10, M_askLeast_11, M_askGreatest_12, M_askSum_13, M_cursorTime_14, M_cursorValue_15))) else (
    some ((-9 : Int32), (0 : Int32), M_looks, M_unpacked, M_askMany, M_askLeast, M_askGreatest, M_askSum, M_cursorTime, M_cursorValue))
def m_X10_asks (M_thrown : Int32) (M_series : Int32) (M_ratio : Int32) (M_down : Int32) (M_looks : Int32) (M_unpacked : Int32) (M_chunks : Int32) (M_logged : Int32) (M_askMany : Int32) (M_askLeast : Int32) (M_askGreatest : Int32) (M_askSum : Int64) (M_its : Nat → Int32) (M_many : Nat → Int32) (M_times : Nat → Int32) (M_values : Nat → Int32) (M_order : Nat → Int32) (M_headOf : Nat → Int32) (M_headTime : Nat → Int32) (M_headValue : Nat → Int32) (M_cursorTime : Nat → Int32) (M_cursorValue : Nat → Int32) (p0 : Int32) (p1 : Int32) (p2 : Int32) : Option (Int32 × Int32 × Int32 × Int32 × Int32 × Int32 × Int32 × Int64 × (Nat → Int32) × (Nat → Int32)) :=
  ob1 (
    if M_down = 0 then (
      ob1 (m_X10_isSeries M_series p0) fun r_6 =>
      if r_6 = 0 then (
        some ((2 : Int32))) else (
        some ((0 : Int32)))) else (
      some ((1 : Int32)))) fun s_1 =>
  ob8 (
    if s_1 = 0 then (
      ob8 (m_X10_ask M_ratio M_looks M_unpacked M_chunks M_logged M_askMany M_askLeast M_askGreatest M_askSum M_its M_many M_times M_values M_order M_headOf M_headTime M_headValue M_cursorTime M_cursorValue p0 p1 p2 (0 : Int32)) fun M_looks_23 M_unpacked_24 M_askMany_25 M_askLeast_26 M_askGreatest_27 M_askSum_28 M_cursorTime_29 M_cursorValue_30 =>
      some (M_looks_23, M_unpacked_24, M_askMany_25, M_askLeast_26, M_askGreatest_27, M_askSum_28, M_cursorTime_29, M_cursorValue_30)) else (
      some (M_looks, M_unpacked, M_askMany, M_askLeast, M_askGreatest, M_askSum, M_cursorTime, M_cursorValue))) fun M_looks_11 M_unpacked_12 M_askMany_13 M_askLeast_14 M_askGreatest_15 M_askSum_16 M_cursorTime_17 M_cursorValue_18 =>
  ob1 (
    if s_1 = 0 then (
      some ((1 : Int32))) else (
      some ((0 : Int32)))) fun s_33 =>
  ckz s_33 <|
  some (s_33, s_1, M_looks_11, M_unpacked_12, M_askMany_13, M_askLeast_14, M_askGreatest_15, M_askSum_16, M_cursorTime_17, M_cursorValue_18)
def m_X10_aggMin (M_thrown : Int32) (M_series : Int32) (M_ratio : Int32) (M_down : Int32) (M_looks : Int32) (M_unpacked : Int32) (M_chunks : Int32) (M_logged : Int32) (M_askMany : Int32) (M_askLeast : Int32) (M_askGreatest : Int32) (M_askSum : Int64) (M_its : Nat → Int32) (M_many : Nat → Int32) (M_times : Nat → Int32) (M_values : Nat → Int32) (M_order : Nat → Int32) (M_headOf : Nat → Int32) (M_headTime : Nat → Int32) (M_headValue : Nat → Int32) (M_cursorTime : Nat → Int32) (M_cursorValue : Nat → Int32) (p0 : Int32) (p1 : Int32) (p2 : Int32) : Option (Int32 × Int32 × Int32 × Int32 × Int32 × Int32 × Int32 × Int64 × (Nat → Int32) × (Nat → Int32)) :=
  ob10 (m_X10_asks M_thrown M_series M_ratio M_down M_looks M_unpacked M_chunks M_logged M_askMany M_askLeast M_askGreatest M_askSum M_its M_many M_times M_values M_order M_headOf M_headTime M_headValue M_cursorTime M_cursorValue p0 p1 p2) fun r_2 M_thrown_3 M_looks_4 M_unpacked_5 M_askMany_6 M_askLeast_7 M_askGreatest_8 M_askSum_9 M_cursorTime_10 M_cursorValue_11 =>
  ob1 (
    if r_2 = 0 then (
      some ((0 : Int32))) else (
      some (M_askLeast_7))) fun s_13 =>
  some (s_13, M_thrown_3, M_looks_4, M_unpacked_5, M_askMany_6, M_askLeast_7, M_askGreatest_8, M_askSum_9, M_cursorTime_10, M_cursorValue_11)
def m_X10_aggMax (M_thrown : Int32) (M_series : Int32) (M_ratio : Int32) (M_down : Int32) (M_looks : Int32) (M_unpacked : Int32) (M_chunks : Int32) (M_logged : Int32) (M_askMany : Int32) (M_askLeast : Int32) (M_askGreatest : Int32) (M_askSum : Int64) (M_its : Nat → Int32) (M_many : Nat → Int32) (M_times : Nat → Int32) (M_values : Nat → Int32) (M_order : Nat → Int32) (M_headOf : Nat → Int32) (M_headTime : Nat → Int32) (M_headValue : Nat → Int32) (M_cursorTime : Nat → Int32) (M_cursorValue : Nat → Int32) (p0 : Int32) (p1 : Int32) (p2 : Int32) : Option (Int32 × Int32 × Int32 × Int32 × Int32 × Int32 × Int32 × Int64 × (Nat → Int32) × (Nat → Int32)) :=
  ob10 (m_X10_asks M_thrown M_series M_ratio M_down M_looks M_unpacked M_chunks M_logged M_askMany M_askLeast M_askGreatest M_askSum M_its M_many M_times M_values M_order M_headOf M_headTime M_headValue M_cursorTime M_cursorValue p0 p1 p2) fun r_2 M_thrown_3 M_looks_4 M_unpacked_5 M_askMany_6 M_askLeast_7 M_askGreatest_8 M_askSum_9 M_cursorTime_10 M_cursorValue_11 =>
  ob1 (
    if r_2 = 0 then (
      some ((0 : Int32))) else (
      some (M_askGreatest_8))) fun s_13 =>
  some (s_13, M_thrown_3, M_looks_4, M_unpacked_5, M_askMany_6, M_askLeast_7, M_askGreatest_8, M_askSum_9, M_cursorTime_10, M_cursorValue_11)
def m_X10_aggSum (M_thrown : Int32) (M_series : Int32) (M_ratio : Int32) (M_down : Int32) (M_looks : Int32) (M_unpacked : Int32) (M_chunks : Int32) (M_logged : Int32) (M_askMany : Int32) (M_askLeast : Int32) (M_askGreatest : Int32) (M_askSum : Int64) (M_its : Nat → Int32) (M_many : Nat → Int32) (M_times : Nat → Int32) (M_values : Nat → Int32) (M_order : Nat → Int32) (M_headOf : Nat → Int32) (M_headTime : Nat → Int32) (M_headValue : Nat → Int32) (M_cursorTime : Nat → Int32) (M_cursorValue : Nat → Int32) (p0 : Int32) (p1 : Int32) (p2 : Int32) : Option (Int64 × Int32 × Int32 × Int32 × Int32 × Int32 × Int32 × Int64 × (Nat → Int32) × (Nat → Int32)) :=
  ob10 (m_X10_asks M_thrown M_series M_ratio M_down M_looks M_unpacked M_chunks M_logged M_askMany M_askLeast M_askGreatest M_askSum M_its M_many M_times M_values M_order M_headOf M_headTime M_headValue M_cursorTime M_cursorValue p0 p1 p2) fun r_2 M_thrown_3 M_looks_4 M_unpacked_5 M_askMany_6 M_askLeast_7 M_askGreatest_8 M_askSum_9 M_cursorTime_10 M_cursorValue_11 =>
  ob1 (
    if r_2 = 0 then (
      some ((0 : Int64))) else (
      some (M_askSum_9))) fun s_13 =>
  some (s_13, M_thrown_3, M_looks_4, M_unpacked_5, M_askMany_6, M_askLeast_7, M_askGreatest_8, M_askSum_9, M_cursorTime_10, M_cursorValue_11)
def m_X10_crashAfter (M_thrown : Int32) (M_fuse : Int32) (M_down : Int32) (p0 : Int32) : Option (Int32 × Int32 × Int32) :=
  if M_down = 0 then (
    if p0 < 0 then (
      some ((0 : Int32), (0 : Int32), M_fuse)) else (
      if p0 ≤ (1000000 : Int32) then (
        some ((1 : Int32), (0 : Int32), p0)) else (
        some ((0 : Int32), (0 : Int32), M_fuse)))) else (
    some ((0 : Int32), (0 : Int32), M_fuse))
def lp_X10_recover_76 (M_disk : Nat → Int32) (r_15 : Int32) : Nat → Int32 → Int32 → Int32 → Int32 → (Nat → Int32) → (Nat → Int32) → (Nat → Int32) → (Nat → Int32) → (Nat → Int32) → (Nat → Int32) → (Nat → Int32) → Option (Int32 × Int32 × Int32 × (Nat → Int32) × (Nat → Int32) × (Nat → Int32) × (Nat → Int32) × (Nat → Int32) × (Nat → Int32) × (Nat → Int32))
  | 0, _, _, _, _, _, _, _, _, _, _, _ => none
  | n + 1, v2_22, v3_23, M_bits_24, M_from_25, M_its_26, M_many_27, M_place_28, M_length_29, M_times_30, M_values_31, M_order_32 =>
    if (M_disk (Int32.toNatClampNeg r_15)) ≤ v3_23 then (
      some (v2_22, M_bits_24, M_from_25, M_its_26, M_many_27, M_place_28, M_length_29, M_times_30, M_values_31, M_order_32)) else (
      ckb v3_23 96 <|
      ckb ((r_15 + (1 : Int32)) + ((10 : Int32) * v3_23)) 4096 <|
      ckb v3_23 240 <|
      ckb (((r_15 + (1 : Int32)) + ((10 : Int32) * v3_23)) + (3 : Int32)) 4096 <|
      ckb v3_23 240 <|
      ckb (((r_15 + (1 : Int32)) + ((10 : Int32) * v3_23)) + (8 : Int32)) 4096 <|
      ckb v3_23 240 <|
      ckb (((r_15 + (1 : Int32)) + ((10 : Int32) * v3_23)) + (9 : Int32)) 4096 <|
      ckb v3_23 240 <|
      ob4 (m_X10_read M_bits_24 M_from_25 M_disk (upd M_many_27 (Int32.toNatClampNeg v3_23) (M_disk (Int32.toNatClampNeg (((r_15 + (1 : Int32)) + ((10 : Int32) * v3_23)) + (3 : Int32))))) (upd M_place_28 (Int32.toNatClampNeg v3_23) (M_disk (Int32.toNatClampNeg (((r_15 + (1 : Int32)) + ((10 : Int32) * v3_23)) + (8 : Int32))))) M_times_30 M_values_31 v3_23) fun M_bits_65 M_from_66 M_times_67 M_values_68 =>
      ckb v3_23 240 <|
      lp_X10_recover_76 M_disk r_15 n (v2_22 + ((upd M_many_27 (Int32.toNatClampNeg v3_23) (M_disk (Int32.toNatClampNeg (((r_15 + (1 : Int32)) + ((10 : Int32) * v3_23)) + (3 : Int32))))) (Int32.toNatClampNeg v3_23))) (v3_23 + (1 : Int32)) M_bits_65 M_from_66 (upd M_its_26 (Int32.toNatClampNeg v3_23) (M_disk (Int32.toNatClampNeg ((r_15 + (1 : Int32)) + ((10 : Int32) * v3_23))))) (upd M_many_27 (Int32.toNatClampNeg v3_23) (M_disk (Int32.toNatClampNeg (((r_15 + (1 : Int32)) + ((10 : Int32) * v3_23)) + (3 : Int32))))) (upd M_place_28 (Int32.toNatClampNeg v3_23) (M_disk (Int32.toNatClampNeg (((r_15 + (1 : Int32)) + ((10 : Int32) * v3_23)) + (8 : Int32))))) (upd M_length_29 (Int32.toNatClampNeg v3_23) (M_disk (Int32.toNatClampNeg (((r_15 + (1 : Int32)) + ((10 : Int32) * v3_23)) + (9 : Int32))))) M_times_67 M_values_68 (upd M_order_32 (Int32.toNatClampNeg v3_23) v3_23))
def lp_X10_recover_186 (M_disk : Nat → Int32) : Nat → Int32 → (Nat → Int32) → (Nat → Int32) → (Nat → Int32) → Option (Int32 × (Nat → Int32) × (Nat → Int32) × (Nat → Int32))
  | 0, _, _, _, _ => none
  | n + 1, M_logged_75, M_headOf_76, M_headTime_77, M_headValue_78 =>
    if (128 : Int32) ≤ M_logged_75 then (
      some (M_logged_75, M_headOf_76, M_headTime_77, M_headValue_78)) else (
      ckb (((1923 : Int32) + ((4 : Int32) * M_logged_75)) + (3 : Int32)) 4096 <|
      if (M_disk (Int32.toNatClampNeg (((1923 : Int32) + ((4 : Int32) * M_logged_75)) + (3 : Int32)))) = (((M_disk (Int32.toNatClampNeg (0 : Int32))) >>> ((1 : Int32) &&& 31)) + (1 : Int32)) then (
        ckb ((1923 : Int32) + ((4 : Int32) * M_logged_75)) 4096 <|
        ckb M_logged_75 128 <|
        ckb (((1923 : Int32) + ((4 : Int32) * M_logged_75)) + (1 : Int32)) 4096 <|
        ckb M_logged_75 128 <|
        ckb (((1923 : Int32) + ((4 : Int32) * M_logged_75)) + (2 : Int32)) 4096 <|
        ckb M_logged_75 128 <|
        lp_X10_recover_186 M_disk n (M_logged_75 + (1 : Int32)) (upd M_headOf_76 (Int32.toNatClampNeg M_logged_75) (M_disk (Int32.toNatClampNeg ((1923 : Int32) + ((4 : Int32) * M_logged_75))))) (upd M_headTime_77 (Int32.toNatClampNeg M_logged_75) (M_disk (Int32.toNatClampNeg (((1923 : Int32) + ((4 : Int32) * M_logged_75)) + (1 : Int32))))) (upd M_headValue_78 (Int32.toNatClampNeg M_logged_75) (M_disk (Int32.toNatClampNeg (((1923 : Int32) + ((4 : Int32) * M_logged_75)) + (2 : Int32)))))) else (
        some (M_logged_75, M_headOf_76, M_headTime_77, M_headValue_78)))
def m_X10_recover (M_thrown : Int32) (M_fuse : Int32) (M_down : Int32) (M_recovers : Int32) (M_chunks : Int32) (M_epoch : Int32) (M_side : Int32) (M_logged : Int32) (M_hasCursor : Int32) (M_cursorMany : Int32) (M_cursorAt : Int32) (M_bits : Int32) (M_from : Int32) (M_disk : Nat → Int32) (M_its : Nat → Int32) (M_many : Nat → Int32) (M_place : Nat → Int32) (M_length : Nat → Int32) (M_times : Nat → Int32) (M_values : Nat → Int32) (M_order : Nat → Int32) (M_headOf : Nat → Int32) (M_headTime : Nat → Int32) (M_headValue : Nat → Int32) : Option (Int32 × Int32 × Int32 × Int32 × Int32 × Int32 × Int32 × Int32 × Int32 × Int32 × Int32 × Int32 × Int32 × Int32 × (Nat → Int32) × (Nat → Int32) × (Nat → Int32) × (Nat → Int32) × (Nat → Int32) × (Nat → Int32) × (Nat → Int32) × (Nat → Int32) × (Nat → Int32) × (Nat → Int32)) :=
  ob3 (m_X10_dropCursor M_hasCursor M_cursorMany M_cursorAt) fun M_hasCursor_3 M_cursorMany_4 M_cursorAt_5 =>
  ckb (0 : Int32) 4096 <|
  ckb (0 : Int32) 4096 <|
  ob1 (m_X10_index ((M_disk (Int32.toNatClampNeg (0 : Int32))) &&& (1 : Int32))) fun r_15 =>
  ckb r_15 4096 <|
  ob10 (lp_X10_recover_76 M_disk r_15 NN (0 : Int32) (0 : Int32) M_bits M_from M_its M_many M_place M_length M_times M_values M_order) fun v2_37 M_bits_38 M_from_39 M_its_40 M_many_41 M_place_42 M_length_43 M_times_44 M_values_45 M_order_46 =>
  ob4 (lp_X10_recover_186 M_disk NN (0 : Int32) M_headOf M_headTime M_headValue) fun M_logged_83 M_headOf_84 M_headTime_85 M_headValue_86 =>
  some ((v2_37 + M_logged_83), (0 : Int32), (-1 : Int32), (0 : Int32), (M_recovers + (1 : Int32)), (M_disk (Int32.toNatClampNeg r_15)), ((M_disk (Int32.toNatClampNeg (0 : Int32))) >>> ((1 : Int32) &&& 31)), ((M_disk (Int32.toNatClampNeg (0 : Int32))) &&& (1 : Int32)), M_logged_83, M_hasCursor_3, M_cursorMany_4, M_cursorAt_5, M_bits_38, M_from_39, M_its_40, M_many_41, M_place_42, M_length_43, M_times_44, M_values_45, M_order_46, M_headOf_84, M_headTime_85, M_headValue_86)
def m_X10_cell (M_thrown : Int32) (M_disk : Nat → Int32) (p0 : Int32) : Option (Int32 × Int32) :=
  ob1 (
    if p0 < 0 then (
      some ((0 : Int32))) else (
      if p0 < (4096 : Int32) then (
        ckb p0 4096 <|
        some ((M_disk (Int32.toNatClampNeg p0)))) else (
        some ((0 : Int32))))) fun s_2 =>
  some (s_2, (0 : Int32))
def lp_X10_sizes_76 (M_logged : Int32) (M_headOf : Nat → Int32) (p0 : Int32) : Nat → Int32 → Int32 → Option (Int32)
  | 0, _, _ => none
  | n + 1, v3_18, v4_19 =>
    if M_logged ≤ v4_19 then (
      some (v3_18)) else (
      ckb v4_19 128 <|
      ob1 (
        if (M_headOf (Int32.toNatClampNeg v4_19)) = p0 then (
          some ((1 : Int32))) else (
          some ((0 : Int32)))) fun s_28 =>
      lp_X10_sizes_76 M_logged M_headOf p0 n (v3_18 + s_28) (v4_19 + (1 : Int32)))
def m_X10_sizes (M_thrown : Int32) (M_series : Int32) (M_ratio : Int32) (M_down : Int32) (M_chunks : Int32) (M_logged : Int32) (M_its : Nat → Int32) (M_order : Nat → Int32) (M_headOf : Nat → Int32) (p0 : Int32) (p1 : Int32) : Option (Int32 × Int32) :=
  ob1 (
    if M_down = 0 then (
      ob1 (m_X10_isSeries M_series p0) fun r_6 =>
      if r_6 = 0 then (
        some ((2 : Int32))) else (
        if p1 < 0 then (
          some ((3 : Int32))) else (
          if p1 ≤ (2 : Int32) then (
            some ((0 : Int32))) else (
            some ((3 : Int32)))))) else (
      some ((1 : Int32)))) fun s_1 =>
  if s_1 ≤ 0 then (
    if p1 = 0 then (
      ob1 (m_X10_chunksOf M_chunks M_its M_order p0) fun r_40 =>
      some (r_40, s_1)) else (
      if p1 = (2 : Int32) then (
        ob1 (m_X10_groupsOf M_ratio M_chunks M_its M_order p0) fun r_37 =>
        some (r_37, s_1)) else (
        ob1 (lp_X10_sizes_76 M_logged M_headOf p0 NN (0 : Int32) (0 : Int32)) fun v3_24 =>
        some (v3_24, s_1)))) else (
    some ((0 : Int32), s_1))
def m_X10_chunk (M_thrown : Int32) (M_series : Int32) (M_down : Int32) (M_chunks : Int32) (M_its : Nat → Int32) (M_many : Nat → Int32) (M_place : Nat → Int32) (M_length : Nat → Int32) (M_times : Nat → Int32) (M_values : Nat → Int32) (M_order : Nat → Int32) (p0 : Int32) (p1 : Int32) (p2 : Int32) : Option (Int32 × Int32) :=
  ob1 (
    if M_down = 0 then (
      ob1 (m_X10_isSeries M_series p0) fun r_6 =>
      if r_6 = 0 then (
        some ((2 : Int32))) else (
        if p2 < 0 then (
          some ((3 : Int32))) else (
          if (6 : Int32) < p2 then (
            some ((3 : Int32))) else (
            if p1 < 0 then (
              some ((3 : Int32))) else (
              ob1 (m_X10_chunksOf M_chunks M_its M_order p0) fun r_13 =>
              if p1 < r_13 then (
                some ((0 : Int32))) else (
                some ((3 : Int32)))))))) else (
      some ((1 : Int32)))) fun s_1 =>
  if s_1 ≤ 0 then (
    ob1 (m_X10_slot M_chunks M_its M_order p0 p1) fun r_20 =>
    if p2 = (0 : Int32) then (
      ob1 (m_X10_firstTime M_times r_20) fun r_25 =>
      some (r_25, s_1)) else if p2 = (1 : Int32) then (
      ob1 (m_X10_lastTime M_many M_times r_20) fun r_29 =>
      some (r_29, s_1)) else if p2 = (2 : Int32) then (
      ckb r_20 240 <|
      some ((M_many (Int32.toNatClampNeg r_20)), s_1)) else if p2 = (3 : Int32) then (
      ob1 (m_X10_leastOf M_many M_values r_20) fun r_35 =>
      some (r_35, s_1)) else if p2 = (4 : Int32) then (
      ob1 (m_X10_greatestOf M_many M_values r_20) fun r_39 =>
      some (r_39, s_1)) else if p2 = (5 : Int32) then (
      ckb r_20 240 <|
      some ((M_place (Int32.toNatClampNeg r_20)), s_1)) else (
      ckb r_20 240 <|
      some ((M_length (Int32.toNatClampNeg r_20)), s_1))) else (
    some ((0 : Int32), s_1))
def lp_X10_group_195 (M_chunks : Int32) (M_its : Nat → Int32) (M_many : Nat → Int32) (M_values : Nat → Int32) (M_order : Nat → Int32) (p0 : Int32) (p2 : Int32) (s_24 : Int32) : Nat → Int32 → Int32 → Option (Int32)
  | 0, _, _ => none
  | n + 1, v7_53, v8_54 =>
    if s_24 ≤ v8_54 then (
      some (v7_53)) else (
      ob1 (m_X10_slot M_chunks M_its M_order p0 v8_54) fun r_63 =>
      ob1 (
        if p2 = (2 : Int32) then (
          ckb r_63 240 <|
          some ((v7_53 + (M_many (Int32.toNatClampNeg r_63))))) else (
          some (v7_53))) fun v7_66 =>
      ob1 (
        if p2 = (3 : Int32) then (
          ob1 (m_X10_leastOf M_many M_values r_63) fun r_78 =>
          ob1 (
            if v7_66 ≤ r_78 then (
              some (v7_66)) else (
              ob1 (m_X10_leastOf M_many M_values r_63) fun r_85 =>
              some (r_85))) fun s_80 =>
          some (s_80)) else (
          some (v7_66))) fun v7_73 =>
      ob1 (
        if p2 = (4 : Int32) then (
          ob1 (m_X10_greatestOf M_many M_values r_63) fun r_95 =>
          ob1 (
            if r_95 ≤ v7_73 then (
              some (v7_73)) else (
              ob1 (m_X10_greatestOf M_many M_values r_63) fun r_102 =>
              some (r_102))) fun s_97 =>
          some (s_97)) else (
          some (v7_73))) fun v7_90 =>
      lp_X10_group_195 M_chunks M_its M_many M_values M_order p0 p2 s_24 n v7_90 (v8_54 + (1 : Int32)))
def m_X10_group (M_thrown : Int32) (M_series : Int32) (M_ratio : Int32) (M_down : Int32) (M_chunks : Int32) (M_its : Nat → Int32) (M_many : Nat → Int32) (M_times : Nat → Int32) (M_values : Nat → Int32) (M_order : Nat → Int32) (p0 : Int32) (p1 : Int32) (p2 : Int32) : Option (Int32 × Int32) :=
  ob1 (
    if M_down = 0 then (
      ob1 (m_X10_isSeries M_series p0) fun r_6 =>
      if r_6 = 0 then (
        some ((2 : Int32))) else (
        if p2 < 0 then (
          some ((3 : Int32))) else (
          if (5 : Int32) < p2 then (
            some ((3 : Int32))) else (
            if p1 < 0 then (
              some ((3 : Int32))) else (
              ob1 (m_X10_groupsOf M_ratio M_chunks M_its M_order p0) fun r_13 =>
              if p1 < r_13 then (
                some ((0 : Int32))) else (
                some ((3 : Int32)))))))) else (
      some ((1 : Int32)))) fun s_1 =>
  if s_1 ≤ 0 then (
    ob1 (m_X10_chunksOf M_chunks M_its M_order p0) fun r_20 =>
    ob1 (
      if r_20 ≤ ((M_ratio * p1) + M_ratio) then (
        some (r_20)) else (
        some (((M_ratio * p1) + M_ratio)))) fun s_24 =>
    if p2 = 0 then (
      ob1 (m_X10_slot M_chunks M_its M_order p0 (M_ratio * p1)) fun r_116 =>
      ob1 (m_X10_firstTime M_times r_116) fun r_119 =>
      some (r_119, s_1)) else (
      if p2 = (1 : Int32) then (
        ob1 (m_X10_slot M_chunks M_its M_order p0 (s_24 - (1 : Int32))) fun r_110 =>
        ob1 (m_X10_lastTime M_many M_times r_110) fun r_113 =>
        some (r_113, s_1)) else (
        if p2 = (5 : Int32) then (
          some ((s_24 - (M_ratio * p1)), s_1)) else (
          ob1 (
            if p2 = (2 : Int32) then (
              some ((0 : Int32))) else (
              if p2 = (3 : Int32) then (
                ob1 (m_X10_slot M_chunks M_its M_order p0 (M_ratio * p1)) fun r_45 =>
                ob1 (m_X10_leastOf M_many M_values r_45) fun r_48 =>
                some (r_48)) else (
                ob1 (m_X10_slot M_chunks M_its M_order p0 (M_ratio * p1)) fun r_39 =>
                ob1 (m_X10_greatestOf M_many M_values r_39) fun r_42 =>
                some (r_42)))) fun s_33 =>
          ob1 (lp_X10_group_195 M_chunks M_its M_many M_values M_order p0 p2 s_24 NN s_33 (M_ratio * p1)) fun v7_59 =>
          some (v7_59, s_1))))) else (
    some ((0 : Int32), s_1))
def lp_X10_taken_4 (M_chunks : Int32) (M_length : Nat → Int32) (M_order : Nat → Int32) : Nat → Int32 → Int32 → Option (Int32)
  | 0, _, _ => none
  | n + 1, v1_3, v2_4 =>
    if M_chunks ≤ v2_4 then (
      some (v1_3)) else (
      ckb v2_4 96 <|
      ckb (M_order (Int32.toNatClampNeg v2_4)) 240 <|
      lp_X10_taken_4 M_chunks M_length M_order n (v1_3 + (M_length (Int32.toNatClampNeg (M_order (Int32.toNatClampNeg v2_4))))) (v2_4 + (1 : Int32)))
def m_X10_taken (M_chunks : Int32) (M_length : Nat → Int32) (M_order : Nat → Int32) : Option (Int32) :=
  ob1 (lp_X10_taken_4 M_chunks M_length M_order NN (0 : Int32) (0 : Int32)) fun v1_9 =>
  some (v1_9)
def m_X10_look (M_thrown : Int32) (M_writes : Int32) (M_fuse : Int32) (M_down : Int32) (M_recovers : Int32) (M_looks : Int32) (M_unpacked : Int32) (M_chunks : Int32) (M_logged : Int32) (M_length : Nat → Int32) (M_order : Nat → Int32) (p0 : Int32) : Option (Int32 × Int32) :=
  if p0 = (0 : Int32) then (
    some (M_writes, (0 : Int32))) else if p0 = (1 : Int32) then (
    some (M_logged, (0 : Int32))) else if p0 = (2 : Int32) then (
    some (M_chunks, (0 : Int32))) else if p0 = (3 : Int32) then (
    ob1 (m_X10_taken M_chunks M_length M_order) fun r_7 =>
    some (r_7, (0 : Int32))) else if p0 = (4 : Int32) then (
    some (M_looks, (0 : Int32))) else if p0 = (5 : Int32) then (
    some (M_unpacked, (0 : Int32))) else if p0 = (6 : Int32) then (
    ob1 (
      if M_down = 0 then (
        some ((0 : Int32))) else (
        some ((1 : Int32)))) fun s_12 =>
    some (s_12, (0 : Int32))) else if p0 = (7 : Int32) then (
    ob1 (
      if M_down = 0 then (
        some (M_fuse)) else (
        some ((0 : Int32)))) fun s_18 =>
    some (s_18, (0 : Int32))) else if p0 = (8 : Int32) then (
    some (M_recovers, (0 : Int32))) else (
    some ((-1 : Int32), (0 : Int32)))
