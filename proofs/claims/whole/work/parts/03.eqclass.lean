theorem eX0_copy_16_12 (f : Hp) : am_call 1 [.ref 16, .ref 12] f =
  am_cp f 13 17 40 40 0 0 40 fun g1 =>
  am_cp g1 14 18 40 40 0 0 40 fun g2 =>
  am_cp g2 15 19 40 40 0 0 40 fun g3 =>
  some (0, (am_up g3 16 3 (g3 12 3)))
  := (am_ex_eq 1 29 0 _ [] f).trans rfl

theorem eX0_readFrom_12_10 (f : Hp) : am_call 2 [.ref 12, .ref 10] f =
  am_run 2 7 [.ref 12, .ref 10, .int 0, .null] [] (am_up f 12 3 0)
  := (am_ex_eq 2 6 0 _ [] f).trans rfl

theorem eX0_readFrom_7_12_10 (f : Hp) (a2 : Int32) : am_run 2 7 [.ref 12, .ref 10, .int a2, .null] [] f =
  if a2 < (f 10 1) then
    am_cal (am_call 3 [.ref 12, .ref 10, .int a2] f) fun x1 g1 =>
    if a2 < x1 then
      am_run 2 7 [.ref 12, .ref 10, .int x1, .null] [] g1
    else
      some (a2, g1)
  else
    some ((-1), f)
  := (am_ex_eq 2 16 7 _ _ f).trans rfl

theorem eX0_readItem_12_10 (f : Hp) (a2 : Int32) : am_call 3 [.ref 12, .ref 10, .int a2] f =
  am_cal (am_call 41 [.ref 10, .int (a2 + 1)] f) fun x1 g1 =>
  am_cal (am_call 41 [.ref 10, .int (x1 + 1)] g1) fun x2 g2 =>
  am_cal (am_call 40 [.ref 10, .int a2] g2) fun x3 g3 =>
  am_cal (am_call 42 [.ref 10, .int (a2 + 1), .int x1] g3) fun x4 g4 =>
  am_cal (am_call 42 [.ref 10, .int (x1 + 1), .int x2] g4) fun x5 g5 =>
  if x4 < 0 then
    some ((-1), g5)
  else
    if x5 < 0 then
      some ((-1), g5)
    else
      am_cal (am_call 40 [.ref 10, .int x1] g5) fun x6 g6 =>
      if x6 = 44 then
        am_cal (am_call 40 [.ref 10, .int x2] g6) fun x7 g7 =>
        if x7 = 59 then
          am_cal (am_call 4 [.int x3, .int x4, .int x5] g7) fun x8 g8 =>
          if x8 = 0 then
            some ((-1), g8)
          else
            if (g8 12 3) < 40 then
              am_ast g8 13 40 (g8 12 3) x3 fun g9 =>
              am_ast g9 14 40 (g9 12 3) x4 fun g10 =>
              am_ast g10 15 40 (g10 12 3) x5 fun g11 =>
              some (x2 + 1, (am_up g11 12 3 ((g11 12 3) + 1)))
            else
              some ((-1), g8)
        else
          some ((-1), g7)
      else
        some ((-1), g6)
  := (am_ex_eq 3 81 0 _ [] f).trans rfl

theorem eX0_isItem (f : Hp) (a0 : Int32) (a1 : Int32) (a2 : Int32) : am_call 4 [.int a0, .int a1, .int a2] f =
  if a0 = 109 then
    am_cal (am_call 106 [.int a1, .int 1, .int 9999] f) fun x1 g1 =>
    if x1 = 0 then
      am_z 0 (some (0, g1))
    else
      am_cal (am_call 107 [.int a2] g1) fun x2 g2 =>
      if x2 = 0 then
        am_z 0 (some (0, g2))
      else
        am_z 1 (some (1, g2))
  else
    if a0 = 110 then
      am_cal (am_call 108 [.int a1] f) fun x3 g3 =>
      if x3 = 0 then
        am_z 0 (some (0, g3))
      else
        am_cal (am_call 108 [.int a2] g3) fun x4 g4 =>
        if x4 = 0 then
          am_z 0 (some (0, g4))
        else
          am_z 1 (some (1, g4))
    else
      if a0 = 111 then
        am_cal (am_call 106 [.int a1, .int 0, .int 9999] f) fun x5 g5 =>
        if x5 = 0 then
          am_z 0 (some (0, g5))
        else
          am_cal (am_call 107 [.int a2] g5) fun x6 g6 =>
          if x6 = 0 then
            am_z 0 (some (0, g6))
          else
            am_z 1 (some (1, g6))
      else
        if a0 = 112 then
          am_z 0 (some (0, f))
        else
          if a0 = 113 then
            am_z 0 (some (0, f))
          else
            if a0 = 114 then
              am_z 0 (some (0, f))
            else
              if a0 = 115 then
                if a1 < 9 then
                  if a2 < 9 then
                    if a1 = a2 then
                      am_z 0 (some (0, f))
                    else
                      am_z 1 (some (1, f))
                  else
                    am_z 0 (some (0, f))
                else
                  am_z 0 (some (0, f))
              else
                if a0 = 116 then
                  am_z 0 (some (0, f))
                else
                  if a0 = 117 then
                    if a1 < 9 then
                      if a2 < 9 then
                        if a1 = a2 then
                          am_z 0 (some (0, f))
                        else
                          am_z 1 (some (1, f))
                      else
                        am_z 0 (some (0, f))
                    else
                      am_z 0 (some (0, f))
                  else
                    if a0 = 118 then
                      am_z 0 (some (0, f))
                    else
                      if a0 = 119 then
                        am_z 0 (some (0, f))
                      else
                        if a0 = 120 then
                          am_z 0 (some (0, f))
                        else
                          if a0 = 121 then
                            am_cal (am_call 106 [.int a1, .int 0, .int 40] f) fun x7 g7 =>
                            if x7 = 0 then
                              am_z 0 (some (0, g7))
                            else
                              am_cal (am_call 107 [.int a2] g7) fun x8 g8 =>
                              if x8 = 0 then
                                am_z 0 (some (0, g8))
                              else
                                am_z 1 (some (1, g8))
                          else
                            am_z 0 (some (0, f))
  := (am_ex_eq 4 14 0 _ [] f).trans rfl

theorem eX0_letterOf (f : Hp) (a0 : Int32) : am_call 5 [.int a0] f =
  if a0 = 0 then
    some (109, f)
  else
    if a0 = 1 then
      some (121, f)
    else
      some (111, f)
  := (am_ex_eq 5 8 0 _ [] f).trans rfl

theorem eX0_itemOn_16 (f : Hp) (a1 : Int32) (a2 : Int32) : am_call 6 [.ref 16, .int a1, .int a2] f =
  am_cal (am_call 5 [.int a1] f) fun x1 g1 =>
  am_run 6 13 [.ref 16, .null, .int a2, .int x1, .int ((g1 16 3) - 1)] [] g1
  := (am_ex_eq 6 9 0 _ [] f).trans rfl

theorem eX0_itemOn_13_16 (f : Hp) (a2 : Int32) (a3 : Int32) (a4 : Int32) : am_run 6 13 [.ref 16, .null, .int a2, .int a3, .int a4] [] f =
  if a4 < 0 then
    some ((-1), f)
  else
    am_ald f 17 40 a4 fun x1 =>
    if x1 = a3 then
      am_ald f 19 40 a4 fun x2 =>
      if a2 < x2 then
        am_run 6 13 [.ref 16, .null, .int a2, .int a3, .int (a4 + (-1))] [] f
      else
        some (a4, f)
    else
      am_run 6 13 [.ref 16, .null, .int a2, .int a3, .int (a4 + (-1))] [] f
  := (am_ex_eq 6 17 13 _ _ f).trans rfl

theorem eX0_valueOn_16 (f : Hp) (a1 : Int32) (a2 : Int32) : am_call 7 [.ref 16, .int a1, .int a2] f =
  am_cal (am_call 6 [.ref 16, .int a1, .int a2] f) fun x1 g1 =>
  if x1 < 0 then
    if a1 = 0 then
      some (100, g1)
    else
      some (0, g1)
  else
    am_ald g1 18 40 x1 fun x2 =>
    some (x2, g1)
  := (am_ex_eq 7 12 0 _ [] f).trans rfl

theorem eX0_areAtOdds_16 (f : Hp) (a1 : Int32) (a2 : Int32) : am_call 8 [.ref 16, .int a1, .int a2] f =
  am_ald f 17 40 a1 fun x1 =>
  am_ald f 17 40 a2 fun x2 =>
  if x1 = x2 then
    if x1 = 109 then
      am_run 8 44 [.ref 16, .int a1, .int a2, .null, .null, .null] [.int 1] f
    else
      if x1 = 121 then
        am_run 8 44 [.ref 16, .int a1, .int a2, .null, .null, .null] [.int 1] f
      else
        if x1 = 111 then
          am_run 8 44 [.ref 16, .int a1, .int a2, .null, .null, .null] [.int 1] f
        else
          am_run 8 44 [.ref 16, .int a1, .int a2, .null, .null, .null] [.int 0] f
  else
    if x1 = 115 then
      if x2 = 117 then
        if 1 = 0 then
          am_z 0 (some (0, f))
        else
          am_cal (am_call 9 [.ref 16, .int a1] f) fun x3 g3 =>
          am_cal (am_call 9 [.ref 16, .int a2] g3) fun x4 g4 =>
          if x3 = x4 then
            am_z 1 (some (1, g4))
          else
            am_z 0 (some (0, g4))
      else
        am_run 8 100 [.ref 16, .int a1, .int a2, .int x1, .int x2, .null] [] f
    else
      am_run 8 100 [.ref 16, .int a1, .int a2, .int x1, .int x2, .null] [] f
  := (am_ex_eq 8 34 0 _ [] f).trans rfl

theorem eX0_areAtOdds_44_16_s1 (f : Hp) (a1 : Int32) (a2 : Int32) (s0 : Int32) : am_run 8 44 [.ref 16, .int a1, .int a2, .null, .null, .null] [.int s0] f =
  if s0 = 0 then
    am_z 0 (some (0, f))
  else
    am_ald f 19 40 a1 fun x1 =>
    am_ald f 19 40 a2 fun x2 =>
    if x1 = x2 then
      am_ald f 18 40 a1 fun x3 =>
      am_ald f 18 40 a2 fun x4 =>
      if x3 = x4 then
        am_z 0 (some (0, f))
      else
        am_z 1 (some (1, f))
    else
      am_z 0 (some (0, f))
  := (am_ex_eq 8 24 44 _ _ f).trans rfl

theorem eX0_areAtOdds_100_16 (f : Hp) (a1 : Int32) (a2 : Int32) (a3 : Int32) (a4 : Int32) : am_run 8 100 [.ref 16, .int a1, .int a2, .int a3, .int a4, .null] [] f =
  if a3 = 117 then
    if a4 = 115 then
      if 1 = 0 then
        am_z 0 (some (0, f))
      else
        am_cal (am_call 9 [.ref 16, .int a1] f) fun x1 g1 =>
        am_cal (am_call 9 [.ref 16, .int a2] g1) fun x2 g2 =>
        if x1 = x2 then
          am_z 1 (some (1, g2))
        else
          am_z 0 (some (0, g2))
    else
      if 0 = 0 then
        am_z 0 (some (0, f))
      else
        am_cal (am_call 9 [.ref 16, .int a1] f) fun x3 g3 =>
        am_cal (am_call 9 [.ref 16, .int a2] g3) fun x4 g4 =>
        if x3 = x4 then
          am_z 1 (some (1, g4))
        else
          am_z 0 (some (0, g4))
  else
    if 0 = 0 then
      am_z 0 (some (0, f))
    else
      am_cal (am_call 9 [.ref 16, .int a1] f) fun x5 g5 =>
      am_cal (am_call 9 [.ref 16, .int a2] g5) fun x6 g6 =>
      if x5 = x6 then
        am_z 1 (some (1, g6))
      else
        am_z 0 (some (0, g6))
  := (am_ex_eq 8 21 100 _ _ f).trans rfl

theorem eX0_pairOf_16 (f : Hp) (a1 : Int32) : am_call 9 [.ref 16, .int a1] f =
  am_ald f 18 40 a1 fun x1 =>
  am_ald f 19 40 a1 fun x2 =>
  some ((1 <<< (x1 &&& 31)) ||| (1 <<< (x2 &&& 31)), f)
  := (am_ex_eq 9 14 0 _ [] f).trans rfl

theorem eX0_allowsWord_16 (f : Hp) (a1 : Int32) : am_call 10 [.ref 16, .int a1] f =
  am_dv 6 (
    am_dv 6 (
      am_run 10 16 [.ref 16, .null, .int ((1 <<< ((a1 / 6) &&& 31)) ||| (1 <<< ((a1 - a1 / 6 * 6) &&& 31))), .int 0] [] f))
  := (am_ex_eq 10 15 0 _ [] f).trans rfl

theorem eX0_allowsWord_16_16 (f : Hp) (a2 : Int32) (a3 : Int32) : am_run 10 16 [.ref 16, .null, .int a2, .int a3] [] f =
  if a3 < (f 16 3) then
    am_ald f 17 40 a3 fun x1 =>
    if x1 = 110 then
      am_cal (am_call 9 [.ref 16, .int a3] f) fun x2 g2 =>
      if x2 = a2 then
        am_z 0 (some (0, g2))
      else
        am_run 10 16 [.ref 16, .null, .int a2, .int (a3 + 1)] [] g2
    else
      am_run 10 16 [.ref 16, .null, .int a2, .int (a3 + 1)] [] f
  else
    am_z 1 (some (1, f))
  := (am_ex_eq 10 18 16 _ _ f).trans rfl

theorem eX0_allowsShape_16 (f : Hp) (a1 : Int32) : am_call 11 [.ref 16, .int a1] f =
  am_run 11 2 [.ref 16, .int a1, .int 0, .null, .null] [] f
  := (am_ex_eq 11 3 0 _ [] f).trans rfl

theorem eX0_allowsShape_2_16 (f : Hp) (a1 : Int32) (a2 : Int32) : am_run 11 2 [.ref 16, .int a1, .int a2, .null, .null] [] f =
  if a2 < (f 16 3) then
    am_ald f 18 40 a2 fun x1 =>
    am_cal (am_call 110 [.int a1, .int x1] f) fun x2 g2 =>
    am_ald g2 19 40 a2 fun x3 =>
    am_cal (am_call 110 [.int a1, .int x3] g2) fun x4 g4 =>
    am_ald g4 17 40 a2 fun x5 =>
    if x5 = 115 then
      if x2 = 0 then
        am_ald g4 17 40 a2 fun x6 =>
        if x6 = 117 then
          if x2 = x4 then
            am_run 11 2 [.ref 16, .int a1, .int (a2 + 1), .null, .null] [] g4
          else
            am_z 0 (some (0, g4))
        else
          am_run 11 2 [.ref 16, .int a1, .int (a2 + 1), .null, .null] [] g4
      else
        if x4 = 0 then
          am_ald g4 17 40 a2 fun x7 =>
          if x7 = 117 then
            if x2 = x4 then
              am_run 11 2 [.ref 16, .int a1, .int (a2 + 1), .null, .null] [] g4
            else
              am_z 0 (some (0, g4))
          else
            am_run 11 2 [.ref 16, .int a1, .int (a2 + 1), .null, .null] [] g4
        else
          am_z 0 (some (0, g4))
    else
      am_ald g4 17 40 a2 fun x8 =>
      if x8 = 117 then
        if x2 = x4 then
          am_run 11 2 [.ref 16, .int a1, .int (a2 + 1), .null, .null] [] g4
        else
          am_z 0 (some (0, g4))
      else
        am_run 11 2 [.ref 16, .int a1, .int (a2 + 1), .null, .null] [] g4
  else
    am_z 1 (some (1, f))
  := (am_ex_eq 11 40 2 _ _ f).trans rfl

theorem eX1_hasRoom_20 (f : Hp) (a1 : Int32) (a2 : Int32) (a3 : Int32) : am_call 12 [.ref 20, .int a1, .int a2, .int a3] f =
  am_cal (am_call 14 [.ref 20, .int a1] f) fun x1 g1 =>
  am_ald g1 21 36 ((a1 * 6) + a2) fun x2 =>
  if (x1 + x2) < a3 then
    am_z 0 (some (0, g1))
  else
    am_z 1 (some (1, g1))
  := (am_ex_eq 12 17 0 _ [] f).trans rfl

theorem eX1_set_20 (f : Hp) (a1 : Int32) (a2 : Int32) (a3 : Int32) : am_call 13 [.ref 20, .int a1, .int a2, .int a3] f =
  am_ald f 21 36 ((a1 * 6) + a2) fun x1 =>
  am_ast f 21 36 ((a1 * 6) + a2) a3 fun g2 =>
  some (x1, g2)
  := (am_ex_eq 13 20 0 _ [] f).trans rfl

theorem eX1_leftOf_20 (f : Hp) (a1 : Int32) : am_call 14 [.ref 20, .int a1] f =
  am_run 14 5 [.ref 20, .int a1, .int 100, .int 0] [] f
  := (am_ex_eq 14 5 0 _ [] f).trans rfl

theorem eX1_leftOf_5_20 (f : Hp) (a1 : Int32) (a2 : Int32) (a3 : Int32) : am_run 14 5 [.ref 20, .int a1, .int a2, .int a3] [] f =
  if a3 < 6 then
    am_ald f 21 36 ((a1 * 6) + a3) fun x1 =>
    am_run 14 5 [.ref 20, .int a1, .int (a2 - x1), .int (a3 + 1)] [] f
  else
    some (a2, f)
  := (am_ex_eq 14 17 5 _ _ f).trans rfl

theorem eX1_letterAs_20 (f : Hp) (a1 : Int32) (a2 : Int32) : am_call 15 [.ref 20, .int a1, .int a2] f =
  if a1 = a2 then
    am_cal (am_call 14 [.ref 20, .int a1] f) fun x1 g1 =>
    some (x1, g1)
  else
    am_ald f 21 36 ((a1 * 6) + a2) fun x2 =>
    some (x2, f)
  := (am_ex_eq 15 12 0 _ [] f).trans rfl

theorem eX1_readAs_20 (f : Hp) (a1 : Int32) (a2 : Int32) : am_call 16 [.ref 20, .int a1, .int a2] f =
  am_dv 6 (
    am_dv 6 (
      am_cal (am_call 15 [.ref 20, .int (a1 / 6), .int (a2 / 6)] f) fun x1 g1 =>
      am_dv 6 (
        am_dv 6 (
          am_cal (am_call 15 [.ref 20, .int (a1 - a1 / 6 * 6), .int (a2 - a2 / 6 * 6)] g1) fun x2 g2 =>
          some (x1 * x2, g2)))))
  := (am_ex_eq 16 18 0 _ [] f).trans rfl

theorem eX2_weigh_33_2_37 (f : Hp) (a3 : Int32) : am_call 17 [.ref 33, .ref 2, .ref 37, .int a3] f =
  am_run 17 8 [.ref 33, .ref 2, .ref 37, .int a3, .int 0, .null] [] (am_up f 33 3 0)
  := (am_ex_eq 17 6 0 _ [] f).trans rfl

theorem eX2_weigh_8_33_2_37 (f : Hp) (a3 : Int32) (a4 : Int32) : am_run 17 8 [.ref 33, .ref 2, .ref 37, .int a3, .int a4, .null] [] f =
  if a4 < 9 then
    am_cal (am_call 47 [.ref 37, .int a4] f) fun x1 g1 =>
    if (x1 &&& (-x1)) = (1 <<< (a4 &&& 31)) then
      if (g1 33 3) < 9 then
        am_cal (am_call 32 [.ref 2, .int x1, .int a3] g1) fun x2 g2 =>
        am_ast g2 34 9 (g1 33 3) x2 fun g3 =>
        am_run 17 8 [.ref 33, .ref 2, .ref 37, .int a3, .int (a4 + 1), .null] [] (am_up g3 33 3 ((g3 33 3) + 1))
      else
        am_run 17 8 [.ref 33, .ref 2, .ref 37, .int a3, .int (a4 + 1), .null] [] g1
    else
      am_run 17 8 [.ref 33, .ref 2, .ref 37, .int a3, .int (a4 + 1), .null] [] g1
  else
    am_run 17 80 [.ref 33, .null, .null, .null, .int 1, .null] [] f
  := (am_ex_eq 17 37 8 _ _ f).trans rfl

theorem eX2_weigh_80_33 (f : Hp) (a4 : Int32) : am_run 17 80 [.ref 33, .null, .null, .null, .int a4, .null] [] f =
  if a4 < (1 <<< ((f 33 3) &&& 31)) then
    am_cal (am_call 18 [.ref 33, .int a4] f) fun x1 g1 =>
    am_ast g1 35 512 a4 x1 fun g2 =>
    am_run 17 80 [.ref 33, .null, .null, .null, .int (a4 + 1), .null] [] g2
  else
    some (0, f)
  := (am_ex_eq 17 16 80 _ _ f).trans rfl

theorem eX2_loadOf_33 (f : Hp) (a1 : Int32) : am_call 18 [.ref 33, .int a1] f =
  am_run 18 4 [.ref 33, .int a1, .int 0, .int 0] [] f
  := (am_ex_eq 18 5 0 _ [] f).trans rfl

theorem eX2_loadOf_4_33 (f : Hp) (a1 : Int32) (a2 : Int32) (a3 : Int32) : am_run 18 4 [.ref 33, .int a1, .int a2, .int a3] [] f =
  if a3 < (f 33 3) then
    am_cal (am_call 110 [.int a1, .int a3] f) fun x1 g1 =>
    if x1 = 0 then
      am_run 18 4 [.ref 33, .int a1, .int a2, .int (a3 + 1)] [] g1
    else
      am_ald g1 34 9 a3 fun x2 =>
      am_run 18 4 [.ref 33, .int a1, .int (a2 + x2), .int (a3 + 1)] [] g1
  else
    some (a2, f)
  := (am_ex_eq 18 18 4 _ _ f).trans rfl

theorem eX2_fewest_33 (f : Hp) (a1 : Int32) : am_call 19 [.ref 33, .int a1] f =
  am_run 19 11 [.ref 33, .int a1, .int ((1 <<< ((f 33 3) &&& 31)) - 1), .int 1] [] f
  := (am_ex_eq 19 10 0 _ [] f).trans rfl

theorem eX2_fewest_11_33 (f : Hp) (a1 : Int32) (a2 : Int32) (a3 : Int32) : am_run 19 11 [.ref 33, .int a1, .int a2, .int a3] [] f =
  if a2 < a3 then
    am_ald f 36 512 a2 fun x1 =>
    some (x1, f)
  else
    am_cal (am_call 20 [.ref 33, .int a3, .int a1] f) fun x2 g2 =>
    am_ast g2 36 512 a3 x2 fun g3 =>
    am_run 19 11 [.ref 33, .int a1, .int a2, .int (a3 + 1)] [] g3
  := (am_ex_eq 19 14 11 _ _ f).trans rfl

theorem eX2_bestOf_33 (f : Hp) (a1 : Int32) (a2 : Int32) : am_call 20 [.ref 33, .int a1, .int a2] f =
  am_run 20 18 [.ref 33, .null, .int a2, .int (a1 &&& (-a1)), .int (a1 ^^^ (a1 &&& (-a1))), .int 100000000, .int (a1 ^^^ (a1 &&& (-a1))), .null, .null, .null] [] f
  := (am_ex_eq 20 14 0 _ [] f).trans rfl

theorem eX2_bestOf_18_33 (f : Hp) (a2 : Int32) (a3 : Int32) (a4 : Int32) (a5 : Int32) (a6 : Int32) : am_run 20 18 [.ref 33, .null, .int a2, .int a3, .int a4, .int a5, .int a6, .null, .null, .null] [] f =
  if a6 < 0 then
    some (a5, f)
  else
    am_ald f 35 512 ((a6 &&& a4) ||| a3) fun x1 =>
    am_ald f 36 512 (a4 ^^^ (a6 &&& a4)) fun x2 =>
    if a2 < x1 then
      am_run 20 18 [.ref 33, .null, .int a2, .int a3, .int a4, .int a5, .int ((a6 &&& a4) + (-1)), .null, .null, .null] [] f
    else
      if x2 < 100000000 then
        am_dv 1000000 (
          am_dv 1000000 (
            am_run 20 18 [.ref 33, .null, .int a2, .int a3, .int a4, .int (am_min a5 (((x2 - (x2 - x2 / 1000000 * 1000000)) + 1000000) + (am_max x1 (x2 - x2 / 1000000 * 1000000)))), .int ((a6 &&& a4) + (-1)), .null, .null, .null] [] f))
      else
        am_run 20 18 [.ref 33, .null, .int a2, .int a3, .int a4, .int a5, .int ((a6 &&& a4) + (-1)), .null, .null, .null] [] f
  := (am_ex_eq 20 47 18 _ _ f).trans rfl

theorem eX3_forget_22 (f : Hp) : am_call 21 [.ref 22] f =
  some (0, (am_up f 22 8 (-1)))
  := (am_ex_eq 21 4 0 _ [] f).trans rfl

theorem eX3_isRight_22 (f : Hp) (a1 : Int32) (a2 : Int32) : am_call 22 [.ref 22, .int a1, .int a2] f =
  am_cal (am_call 188 [.ref 22, .int a2] f) fun x1 g1 =>
  am_cal (am_call 7 [.ref 16, .int 0, .int a2] g1) fun x2 g2 =>
  am_cal (am_call 189 [.ref 22, .int a1, .int x1, .int x2] g2) fun x3 g3 =>
  am_z x3 (some (x3, g3))
  := (am_ex_eq 22 12 0 _ [] f).trans rfl

theorem eX3_shapeOn_22 (f : Hp) (a1 : Int32) : am_call 23 [.ref 22, .int a1] f =
  if (f 22 8) = a1 then
    some (0, f)
  else
    am_cal (am_call 30 [.ref 2] f) fun x1 g1 =>
    am_cal (am_call 188 [.ref 22, .int a1] g1) fun x2 g2 =>
    am_cal (am_call 7 [.ref 16, .int 0, .int a1] g2) fun x3 g3 =>
    am_run 23 37 [.ref 22, .int a1, .int x1, .int x2, .int x3, .int 1, .null] [] g3
  := (am_ex_eq 23 21 0 _ [] f).trans rfl

theorem eX3_shapeOn_37_22 (f : Hp) (a1 : Int32) (a2 : Int32) (a3 : Int32) (a4 : Int32) (a5 : Int32) : am_run 23 37 [.ref 22, .int a1, .int a2, .int a3, .int a4, .int a5, .null] [] f =
  if a2 < a5 then
    if a2 = 0 then
      some (0, (am_up (am_up (am_up f 22 6 0) 22 7 0) 22 8 a1))
    else
      am_ald (am_up (am_up (am_up f 22 6 0) 22 7 0) 22 8 a1) 24 512 a2 fun x1 =>
      if x1 < 100000000 then
        am_ald (am_up (am_up (am_up f 22 6 0) 22 7 0) 22 8 a1) 24 512 a2 fun x2 =>
        am_dv 1000000 (
          am_run 23 121 [.ref 22, .null, .null, .null, .null, .int a2, .int 0] [] (am_up (am_up (am_up (am_up f 22 6 0) 22 7 0) 22 8 a1) 22 7 (x2 - x2 / 1000000 * 1000000)))
      else
        some (0, (am_up (am_up (am_up f 22 6 0) 22 7 0) 22 8 a1))
  else
    am_cal (am_call 189 [.ref 22, .int a5, .int a3, .int a4] f) fun x3 g3 =>
    am_ast g3 23 512 a5 (x3 &&& 1) fun g4 =>
    am_cal (am_call 24 [.ref 22, .int a5] g4) fun _ g5 =>
    am_run 23 37 [.ref 22, .int a1, .int a2, .int a3, .int a4, .int (a5 + 1), .null] [] g5
  := (am_ex_eq 23 33 37 _ _ f).trans rfl

theorem eX3_shapeOn_121_22 (f : Hp) (a5 : Int32) (a6 : Int32) : am_run 23 121 [.ref 22, .null, .null, .null, .null, .int a5, .int a6] [] f =
  if a6 < 9 then
    if a5 = 0 then
      some (0, f)
    else
      am_ald f 25 512 a5 fun x1 =>
      am_ast f 26 9 a6 x1 fun g2 =>
      am_ald g2 26 9 a6 fun x3 =>
      am_run 23 121 [.ref 22, .null, .null, .null, .null, .int (a5 ^^^ x3), .int (a6 + 1)] [] (am_up g2 22 6 ((g2 22 6) + 1))
  else
    some (0, f)
  := (am_ex_eq 23 29 121 _ _ f).trans rfl

theorem eX3_findPart_22 (f : Hp) (a1 : Int32) : am_call 24 [.ref 22, .int a1] f =
  am_run 24 19 [.ref 22, .int a1, .int (a1 &&& (-a1)), .int (a1 ^^^ (a1 &&& (-a1))), .int 100000000, .int 0, .int (a1 ^^^ (a1 &&& (-a1))), .null, .null, .null] [] f
  := (am_ex_eq 24 16 0 _ [] f).trans rfl

theorem eX3_findPart_19_22 (f : Hp) (a1 : Int32) (a2 : Int32) (a3 : Int32) (a4 : Int32) (a5 : Int32) (a6 : Int32) : am_run 24 19 [.ref 22, .int a1, .int a2, .int a3, .int a4, .int a5, .int a6, .null, .null, .null] [] f =
  if a6 < 0 then
    am_ast f 24 512 a1 a4 fun g1 =>
    am_ast g1 25 512 a1 a5 fun g2 =>
    some (0, g2)
  else
    am_ald f 23 512 ((a6 &&& a3) ||| a2) fun x3 =>
    if x3 = 0 then
      am_run 24 19 [.ref 22, .int a1, .int a2, .int a3, .int a4, .int a5, .int ((a6 &&& a3) + (-1)), .null, .null, .null] [] f
    else
      am_ald f 24 512 (a1 ^^^ ((a6 &&& a3) ||| a2)) fun x4 =>
      if x4 < 100000000 then
        am_ald f 24 512 (a1 ^^^ ((a6 &&& a3) ||| a2)) fun x5 =>
        am_cal (am_call 34 [.ref 2, .int ((a6 &&& a3) ||| a2)] f) fun x6 g6 =>
        if a4 < ((x5 + 1000000) + x6) then
          am_run 24 19 [.ref 22, .int a1, .int a2, .int a3, .int a4, .int a5, .int ((a6 &&& a3) + (-1)), .null, .null, .null] [] g6
        else
          am_run 24 19 [.ref 22, .int a1, .int a2, .int a3, .int ((x5 + 1000000) + x6), .int ((a6 &&& a3) ||| a2), .int ((a6 &&& a3) + (-1)), .null, .null, .null] [] g6
      else
        am_run 24 19 [.ref 22, .int a1, .int a2, .int a3, .int a4, .int a5, .int ((a6 &&& a3) + (-1)), .null, .null, .null] [] f
  := (am_ex_eq 24 47 19 _ _ f).trans rfl

theorem eX3_bar_22 (f : Hp) : am_call 25 [.ref 22] f =
  if 0 < (f 22 6) then
    some ((-4), f)
  else
    am_run 25 12 [.ref 22, .int 0] [] f
  := (am_ex_eq 25 6 0 _ [] f).trans rfl

theorem eX3_bar_12_22 (f : Hp) (a1 : Int32) : am_run 25 12 [.ref 22, .int a1] [] f =
  if a1 < (f 2 7) then
    am_cal (am_call 26 [.ref 22, .int a1] f) fun x1 g1 =>
    if x1 = 0 then
      some (a1, g1)
    else
      am_run 25 12 [.ref 22, .int (a1 + 1)] [] g1
  else
    some ((-4), f)
  := (am_ex_eq 25 12 12 _ _ f).trans rfl

theorem eX3_isInRight_22 (f : Hp) (a1 : Int32) : am_call 26 [.ref 22, .int a1] f =
  am_run 26 2 [.ref 22, .int a1, .int 1] [] f
  := (am_ex_eq 26 3 0 _ [] f).trans rfl

theorem eX3_isInRight_2_22 (f : Hp) (a1 : Int32) (a2 : Int32) : am_run 26 2 [.ref 22, .int a1, .int a2] [] f =
  am_cal (am_call 30 [.ref 2] f) fun x1 g1 =>
  if x1 < a2 then
    am_z 0 (some (0, g1))
  else
    am_ald g1 23 512 a2 fun x2 =>
    if x2 = 0 then
      am_run 26 2 [.ref 22, .int a1, .int (a2 + 1)] [] g1
    else
      am_cal (am_call 110 [.int a2, .int a1] g1) fun x3 g3 =>
      if x3 = 0 then
        am_run 26 2 [.ref 22, .int a1, .int (a2 + 1)] [] g3
      else
        am_z 1 (some (1, g3))
  := (am_ex_eq 26 17 2 _ _ f).trans rfl

theorem eX3_dayLookedAt_22 (f : Hp) (a1 : Int32) : am_call 188 [.ref 22, .int a1] f =
  am_cal (am_call 7 [.ref 16, .int 1, .int a1] f) fun x1 g1 =>
  some (a1 + (365 * x1), g1)
  := (am_ex_eq 188 10 0 _ [] f).trans rfl

theorem eX3_fits_22 (f : Hp) (a1 : Int32) (a2 : Int32) (a3 : Int32) : am_call 189 [.ref 22, .int a1, .int a2, .int a3] f =
  am_cal (am_call 34 [.ref 2, .int a1] f) fun x1 g1 =>
  if x1 < 1000000 then
    am_cal (am_call 31 [.ref 2, .int a1, .int a2] g1) fun x2 g2 =>
    if a3 < x2 then
      am_z 0 (some (0, g2))
    else
      am_cal (am_call 11 [.ref 16, .int a1] g2) fun x3 g3 =>
      if x3 = 0 then
        am_z 0 (some (0, g3))
      else
        am_z 1 (some (1, g3))
  else
    am_z 0 (some (0, g1))
  := (am_ex_eq 189 21 0 _ [] f).trans rfl

theorem eX4_add_2 (f : Hp) (a1 : Int32) (a2 : Int32) (a3 : Int32) (a4 : Int32) : am_call 27 [.ref 2, .int a1, .int a2, .int a3, .int a4] f =
  if (f 2 7) < 9 then
    am_ast f 3 9 (f 2 7) a1 fun g1 =>
    am_ast g1 4 9 (g1 2 7) a2 fun g2 =>
    am_ast g2 5 9 (g2 2 7) a3 fun g3 =>
    am_ast g3 6 9 (g3 2 7) a4 fun g4 =>
    am_z 0 (
      some (((am_up (am_up g4 2 8 0) 2 7 (((am_up g4 2 8 0) 2 7) + 1)) 2 7) - 1, (am_up (am_up g4 2 8 0) 2 7 (((am_up g4 2 8 0) 2 7) + 1))))
  else
    some ((-3), f)
  := (am_ex_eq 27 42 0 _ [] f).trans rfl

theorem eX4_setLink_2 (f : Hp) (a1 : Int32) (a2 : Int32) (a3 : Int32) : am_call 28 [.ref 2, .int a1, .int a2, .int a3] f =
  am_ald f 7 81 ((a1 * 9) + a2) fun x1 =>
  am_ast f 7 81 ((a1 * 9) + a2) a3 fun g2 =>
  am_ast g2 7 81 ((a2 * 9) + a1) a3 fun g3 =>
  am_z 0 (
    some (x1, (am_up g3 2 8 0)))
  := (am_ex_eq 28 32 0 _ [] f).trans rfl

theorem eX4_countLinks_2 (f : Hp) : am_call 29 [.ref 2] f =
  am_run 29 4 [.ref 2, .int 0, .int 0, .null] [] f
  := (am_ex_eq 29 5 0 _ [] f).trans rfl

theorem eX4_countLinks_4_2 (f : Hp) (a1 : Int32) (a2 : Int32) : am_run 29 4 [.ref 2, .int a1, .int a2, .null] [] f =
  if a2 < 9 then
    am_run 29 14 [.ref 2, .int a1, .int a2, .int (a2 + 1)] [] f
  else
    some (a1, f)
  := (am_ex_eq 29 8 4 _ _ f).trans rfl

theorem eX4_countLinks_14_2 (f : Hp) (a1 : Int32) (a2 : Int32) (a3 : Int32) : am_run 29 14 [.ref 2, .int a1, .int a2, .int a3] [] f =
  if a3 < 9 then
    am_ald f 7 81 ((a2 * 9) + a3) fun x1 =>
    if 0 < x1 then
      am_run 29 14 [.ref 2, .int (a1 + 1), .int a2, .int (a3 + 1)] [] f
    else
      am_run 29 14 [.ref 2, .int a1, .int a2, .int (a3 + 1)] [] f
  else
    am_run 29 4 [.ref 2, .int a1, .int (a2 + 1), .null] [] f
  := (am_ex_eq 29 16 14 _ _ f).trans rfl

theorem eX4_allSides_2 (f : Hp) : am_call 30 [.ref 2] f =
  some ((1 <<< ((f 2 7) &&& 31)) - 1, f)
  := (am_ex_eq 30 7 0 _ [] f).trans rfl

theorem eX4_doorsOf_2 (f : Hp) (a1 : Int32) (a2 : Int32) : am_call 31 [.ref 2, .int a1, .int a2] f =
  am_run 31 5 [.ref 2, .int a1, .int a2, .int 0, .int 0] [] f
  := (am_ex_eq 31 5 0 _ [] f).trans rfl

theorem eX4_doorsOf_5_2 (f : Hp) (a1 : Int32) (a2 : Int32) (a3 : Int32) (a4 : Int32) : am_run 31 5 [.ref 2, .int a1, .int a2, .int a3, .int a4] [] f =
  if a4 < (f 2 7) then
    am_cal (am_call 110 [.int a1, .int a4] f) fun x1 g1 =>
    if x1 = 0 then
      am_run 31 5 [.ref 2, .int a1, .int a2, .int a3, .int (a4 + 1)] [] g1
    else
      am_ald g1 3 9 a4 fun x2 =>
      am_ald g1 4 9 a4 fun x3 =>
      am_dv 365 (
        am_run 31 5 [.ref 2, .int a1, .int a2, .int (a3 + (x2 + (x3 * (a2 / 365)))), .int (a4 + 1)] [] g1)
  else
    some (a3, f)
  := (am_ex_eq 31 27 5 _ _ f).trans rfl

theorem eX4_weightOf_2 (f : Hp) (a1 : Int32) (a2 : Int32) : am_call 32 [.ref 2, .int a1, .int a2] f =
  am_run 32 5 [.ref 2, .int a1, .int a2, .int 0, .int 0] [] f
  := (am_ex_eq 32 5 0 _ [] f).trans rfl

theorem eX4_weightOf_5_2 (f : Hp) (a1 : Int32) (a2 : Int32) (a3 : Int32) (a4 : Int32) : am_run 32 5 [.ref 2, .int a1, .int a2, .int a3, .int a4] [] f =
  if a4 < (f 2 7) then
    am_cal (am_call 110 [.int a1, .int a4] f) fun x1 g1 =>
    if x1 = 0 then
      am_run 32 5 [.ref 2, .int a1, .int a2, .int a3, .int (a4 + 1)] [] g1
    else
      am_ald g1 6 9 a4 fun x2 =>
      am_cal (am_call 31 [.ref 2, .int (1 <<< (a4 &&& 31)), .int a2] g1) fun x3 g3 =>
      am_run 32 5 [.ref 2, .int a1, .int a2, .int (a3 + (x2 * x3)), .int (a4 + 1)] [] g3
  else
    some (a3, f)
  := (am_ex_eq 32 25 5 _ _ f).trans rfl

theorem eX4_areLinked_2 (f : Hp) (a1 : Int32) (a2 : Int32) : am_call 33 [.ref 2, .int a1, .int a2] f =
  am_run 33 2 [.ref 2, .int a1, .int a2, .int 0, .null] [] f
  := (am_ex_eq 33 3 0 _ [] f).trans rfl

theorem eX4_areLinked_2_2 (f : Hp) (a1 : Int32) (a2 : Int32) (a3 : Int32) : am_run 33 2 [.ref 2, .int a1, .int a2, .int a3, .null] [] f =
  if a3 < (f 2 7) then
    am_run 33 13 [.ref 2, .int a1, .int a2, .int a3, .int 0] [] f
  else
    am_z 0 (some (0, f))
  := (am_ex_eq 33 7 2 _ _ f).trans rfl

theorem eX4_areLinked_13_2 (f : Hp) (a1 : Int32) (a2 : Int32) (a3 : Int32) (a4 : Int32) : am_run 33 13 [.ref 2, .int a1, .int a2, .int a3, .int a4] [] f =
  if a4 < (f 2 7) then
    am_cal (am_call 110 [.int a1, .int a3] f) fun x1 g1 =>
    if x1 = 0 then
      am_run 33 13 [.ref 2, .int a1, .int a2, .int a3, .int (a4 + 1)] [] g1
    else
      am_cal (am_call 110 [.int a2, .int a4] g1) fun x2 g2 =>
      if x2 = 0 then
        am_run 33 13 [.ref 2, .int a1, .int a2, .int a3, .int (a4 + 1)] [] g2
      else
        am_ald g2 7 81 ((a3 * 9) + a4) fun x3 =>
        if 0 < x3 then
          am_z 1 (some (1, g2))
        else
          am_run 33 13 [.ref 2, .int a1, .int a2, .int a3, .int (a4 + 1)] [] g2
  else
    am_run 33 2 [.ref 2, .int a1, .int a2, .int (a3 + 1), .null] [] f
  := (am_ex_eq 33 24 13 _ _ f).trans rfl

theorem eX4_leastWalk_2 (f : Hp) (a1 : Int32) : am_call 34 [.ref 2, .int a1] f =
  am_cal (am_call 30 [.ref 2] f) fun x1 g1 =>
  am_cal (am_call 106 [.int a1, .int 1, .int x1] g1) fun x2 g2 =>
  if x2 = 0 then
    some (1000000, g2)
  else
    am_cal (am_call 35 [.ref 2] g2) fun _ g3 =>
    am_ald g3 8 512 a1 fun x4 =>
    some (x4, g3)
  := (am_ex_eq 34 13 0 _ [] f).trans rfl

theorem eX4_walkAll_2 (f : Hp) : am_call 35 [.ref 2] f =
  if (f 2 8) = 0 then
    am_run 35 10 [.ref 2, .int 1, .null, .null, .null] [] f
  else
    some (0, f)
  := (am_ex_eq 35 6 0 _ [] f).trans rfl

theorem eX4_walkAll_10_2 (f : Hp) (a1 : Int32) : am_run 35 10 [.ref 2, .int a1, .null, .null, .null] [] f =
  am_cal (am_call 30 [.ref 2] f) fun x1 g1 =>
  if x1 < a1 then
    am_z 1 (
      some (0, (am_up g1 2 8 1)))
  else
    am_run 35 23 [.ref 2, .int a1, .int 1000000, .int 0, .null] [] g1
  := (am_ex_eq 35 9 10 _ _ f).trans rfl

theorem eX4_walkAll_23_2 (f : Hp) (a1 : Int32) (a2 : Int32) (a3 : Int32) : am_run 35 23 [.ref 2, .int a1, .int a2, .int a3, .null] [] f =
  if a3 < (f 2 7) then
    am_cal (am_call 110 [.int a1, .int a3] f) fun x1 g1 =>
    if x1 = 0 then
      am_ast g1 9 4608 ((a1 * 9) + a3) 1000000 fun g2 =>
      am_run 35 23 [.ref 2, .int a1, .int (am_min a2 1000000), .int (a3 + 1), .null] [] g2
    else
      am_cal (am_call 36 [.ref 2, .int a1, .int a3] g1) fun x3 g3 =>
      am_ast g3 9 4608 ((a1 * 9) + a3) x3 fun g4 =>
      am_run 35 23 [.ref 2, .int a1, .int (am_min a2 x3), .int (a3 + 1), .null] [] g4
  else
    am_ast f 8 512 a1 a2 fun g5 =>
    am_run 35 10 [.ref 2, .int (a1 + 1), .null, .null, .null] [] g5
  := (am_ex_eq 35 30 23 _ _ f).trans rfl

theorem eX4_stepsFrom_2 (f : Hp) (a1 : Int32) (a2 : Int32) : am_call 36 [.ref 2, .int a1, .int a2] f =
  if (a1 ^^^ (1 <<< (a2 &&& 31))) = 0 then
    am_ald f 5 9 a2 fun x1 =>
    some (x1, f)
  else
    am_run 36 24 [.ref 2, .null, .int a2, .int (a1 ^^^ (1 <<< (a2 &&& 31))), .int 1000000, .int 0, .null, .null, .null] [] f
  := (am_ex_eq 36 13 0 _ [] f).trans rfl

theorem eX4_stepsFrom_24_2 (f : Hp) (a2 : Int32) (a3 : Int32) (a4 : Int32) (a5 : Int32) : am_run 36 24 [.ref 2, .null, .int a2, .int a3, .int a4, .int a5, .null, .null, .null] [] f =
  if a5 < (f 2 7) then
    am_ald f 7 81 ((a2 * 9) + a5) fun x1 =>
    am_ald f 9 4608 ((a3 * 9) + a5) fun x2 =>
    am_ald f 5 9 a2 fun x3 =>
    if 0 < x1 then
      if x2 < 1000000 then
        if ((x3 + x1) + x2) < a4 then
          am_run 36 24 [.ref 2, .null, .int a2, .int a3, .int ((x3 + x1) + x2), .int (a5 + 1), .null, .null, .null] [] f
        else
          am_run 36 24 [.ref 2, .null, .int a2, .int a3, .int a4, .int (a5 + 1), .null, .null, .null] [] f
      else
        am_run 36 24 [.ref 2, .null, .int a2, .int a3, .int a4, .int (a5 + 1), .null, .null, .null] [] f
    else
      am_run 36 24 [.ref 2, .null, .int a2, .int a3, .int a4, .int (a5 + 1), .null, .null, .null] [] f
  else
    some (a4, f)
  := (am_ex_eq 36 44 24 _ _ f).trans rfl

theorem eX4_sideInRow_2 (f : Hp) (a1 : Int32) (a2 : Int32) : am_call 37 [.ref 2, .int a1, .int a2] f =
  am_cal (am_call 34 [.ref 2, .int a1] f) fun x1 g1 =>
  if x1 < 1000000 then
    am_run 37 24 [.ref 2, .null, .int a2, .int x1, .int a1, .int (-1), .int 0, .null] [] g1
  else
    some ((-4), g1)
  := (am_ex_eq 37 14 0 _ [] f).trans rfl

theorem eX4_sideInRow_24_2 (f : Hp) (a2 : Int32) (a3 : Int32) (a4 : Int32) (a5 : Int32) (a6 : Int32) : am_run 37 24 [.ref 2, .null, .int a2, .int a3, .int a4, .int a5, .int a6, .null] [] f =
  if a6 < (f 2 7) then
    if a4 = 0 then
      some ((-4), f)
    else
      am_cal (am_call 38 [.ref 2, .int a4, .int a5, .int a3] f) fun x1 g1 =>
      if x1 < 0 then
        if x1 < 0 then
          some ((-4), g1)
        else
          some (x1, g1)
      else
        if a6 = a2 then
          if x1 < 0 then
            some ((-4), g1)
          else
            some (x1, g1)
        else
          am_ald g1 9 4608 ((a4 * 9) + x1) fun x2 =>
          am_ald g1 5 9 x1 fun x3 =>
          am_run 37 24 [.ref 2, .null, .int a2, .int (x2 - x3), .int (a4 ^^^ (1 <<< (x1 &&& 31))), .int x1, .int (a6 + 1), .null] [] g1
  else
    some ((-4), f)
  := (am_ex_eq 37 42 24 _ _ f).trans rfl

theorem eX4_nextInRow_2 (f : Hp) (a1 : Int32) (a2 : Int32) (a3 : Int32) : am_call 38 [.ref 2, .int a1, .int a2, .int a3] f =
  am_run 38 3 [.ref 2, .int a1, .int a2, .int a3, .int 0, .null, .null] [] f
  := (am_ex_eq 38 3 0 _ [] f).trans rfl

theorem eX4_nextInRow_3_2 (f : Hp) (a1 : Int32) (a2 : Int32) (a3 : Int32) (a4 : Int32) : am_run 38 3 [.ref 2, .int a1, .int a2, .int a3, .int a4, .null, .null] [] f =
  if a4 < (f 2 7) then
    if a2 < 0 then
      am_run 38 32 [.ref 2, .int a1, .int a2, .int a3, .int a4, .null, .null] [.int 0] f
    else
      am_ald f 7 81 ((a2 * 9) + a4) fun x1 =>
      am_run 38 32 [.ref 2, .int a1, .int a2, .int a3, .int a4, .null, .null] [.int x1] f
  else
    some ((-1), f)
  := (am_ex_eq 38 15 3 _ _ f).trans rfl

theorem eX4_nextInRow_32_2_s1 (f : Hp) (a1 : Int32) (a2 : Int32) (a3 : Int32) (a4 : Int32) (s0 : Int32) : am_run 38 32 [.ref 2, .int a1, .int a2, .int a3, .int a4, .null, .null] [.int s0] f =
  am_cal (am_call 110 [.int a1, .int a4] f) fun x1 g1 =>
  if x1 = 0 then
    if 0 = 0 then
      am_run 38 3 [.ref 2, .int a1, .int a2, .int a3, .int (a4 + 1), .null, .null] [] g1
    else
      am_ald g1 9 4608 ((a1 * 9) + a4) fun x2 =>
      if (s0 + x2) = a3 then
        some (a4, g1)
      else
        am_run 38 3 [.ref 2, .int a1, .int a2, .int a3, .int (a4 + 1), .null, .null] [] g1
  else
    if a2 < 0 then
      if 1 = 0 then
        am_run 38 3 [.ref 2, .int a1, .int a2, .int a3, .int (a4 + 1), .null, .null] [] g1
      else
        am_ald g1 9 4608 ((a1 * 9) + a4) fun x3 =>
        if (s0 + x3) = a3 then
          some (a4, g1)
        else
          am_run 38 3 [.ref 2, .int a1, .int a2, .int a3, .int (a4 + 1), .null, .null] [] g1
    else
      if 0 < s0 then
        if 1 = 0 then
          am_run 38 3 [.ref 2, .int a1, .int a2, .int a3, .int (a4 + 1), .null, .null] [] g1
        else
          am_ald g1 9 4608 ((a1 * 9) + a4) fun x4 =>
          if (s0 + x4) = a3 then
            some (a4, g1)
          else
            am_run 38 3 [.ref 2, .int a1, .int a2, .int a3, .int (a4 + 1), .null, .null] [] g1
      else
        if 0 = 0 then
          am_run 38 3 [.ref 2, .int a1, .int a2, .int a3, .int (a4 + 1), .null, .null] [] g1
        else
          am_ald g1 9 4608 ((a1 * 9) + a4) fun x5 =>
          if (s0 + x5) = a3 then
            some (a4, g1)
          else
            am_run 38 3 [.ref 2, .int a1, .int a2, .int a3, .int (a4 + 1), .null, .null] [] g1
  := (am_ex_eq 38 29 32 _ _ f).trans rfl

theorem eX5_append_10 (f : Hp) (a1 : Int32) (a2 : Int64) : am_call 39 [.ref 10, .int a1, .long a2] f =
  am_run 39 5 [.ref 10, .null, .long a2, .null, .int (a1 - 1)] [] f
  := (am_ex_eq 39 5 0 _ [] f).trans rfl

theorem eX5_append_5_10 (f : Hp) (a2 : Int64) (a4 : Int32) : am_run 39 5 [.ref 10, .null, .long a2, .null, .int a4] [] f =
  if a4 < 0 then
    some (0, f)
  else
    if (f 10 1) < 200 then
      am_ast f 11 200 (f 10 1) ((((a2 >>> ((8 * a4).toInt64 &&& 63)).toInt32).toInt8.toInt32).toInt8.toInt32) fun g1 =>
      am_run 39 5 [.ref 10, .null, .long a2, .null, .int (a4 + (-1))] [] (am_up g1 10 1 ((g1 10 1) + 1))
    else
      some (0, f)
  := (am_ex_eq 39 27 5 _ _ f).trans rfl

theorem eX5_at_10 (f : Hp) (a1 : Int32) : am_call 40 [.ref 10, .int a1] f =
  if a1 < 0 then
    some ((-1), f)
  else
    if a1 < (f 10 1) then
      am_ald f 11 200 a1 fun x1 =>
      some (x1 &&& 255, f)
    else
      some ((-1), f)
  := (am_ex_eq 40 14 0 _ [] f).trans rfl

theorem eX5_endOfFigures_10 (f : Hp) (a1 : Int32) : am_call 41 [.ref 10, .int a1] f =
  am_run 41 2 [.ref 10, .null, .int a1] [] f
  := (am_ex_eq 41 3 0 _ [] f).trans rfl

theorem eX5_endOfFigures_2_10 (f : Hp) (a2 : Int32) : am_run 41 2 [.ref 10, .null, .int a2] [] f =
  if a2 < (f 10 1) then
    am_cal (am_call 40 [.ref 10, .int a2] f) fun x1 g1 =>
    am_cal (am_call 106 [.int x1, .int 48, .int 57] g1) fun x2 g2 =>
    if x2 = 0 then
      some (a2, g2)
    else
      am_run 41 2 [.ref 10, .null, .int (a2 + 1)] [] g2
  else
    some (a2, f)
  := (am_ex_eq 41 14 2 _ _ f).trans rfl

theorem eX5_number_10 (f : Hp) (a1 : Int32) (a2 : Int32) : am_call 42 [.ref 10, .int a1, .int a2] f =
  am_cal (am_call 106 [.int (a2 - a1), .int 1, .int 5] f) fun x1 g1 =>
  if x1 = 0 then
    some ((-1), g1)
  else
    am_run 42 18 [.ref 10, .null, .int a2, .int 0, .int a1] [] g1
  := (am_ex_eq 42 12 0 _ [] f).trans rfl

theorem eX5_number_18_10 (f : Hp) (a2 : Int32) (a3 : Int32) (a4 : Int32) : am_run 42 18 [.ref 10, .null, .int a2, .int a3, .int a4] [] f =
  if a4 < a2 then
    am_cal (am_call 40 [.ref 10, .int a4] f) fun x1 g1 =>
    am_run 42 18 [.ref 10, .null, .int a2, .int (((a3 * 10) + x1) - 48), .int (a4 + 1)] [] g1
  else
    some (a3, f)
  := (am_ex_eq 42 16 18 _ _ f).trans rfl

theorem eX6_copy_37_46 (f : Hp) : am_call 43 [.ref 37, .ref 46] f =
  am_cp f 47 38 9 9 0 0 (Int32.ofNat 9) fun g1 =>
  am_cp g1 48 39 324 324 0 0 (Int32.ofNat 324) fun g2 =>
  am_cp g2 49 40 90 90 0 0 (Int32.ofNat 90) fun g3 =>
  some (0, (am_up (am_up g3 37 3 (g3 46 3)) 37 4 ((am_up g3 37 3 (g3 46 3)) 46 4)))
  := (am_ex_eq 43 39 0 _ [] f).trans rfl

theorem eX6_copy_37_42 (f : Hp) : am_call 43 [.ref 37, .ref 42] f =
  am_cp f 43 38 9 9 0 0 (Int32.ofNat 9) fun g1 =>
  am_cp g1 44 39 324 324 0 0 (Int32.ofNat 324) fun g2 =>
  am_cp g2 45 40 90 90 0 0 (Int32.ofNat 90) fun g3 =>
  some (0, (am_up (am_up g3 37 3 (g3 42 3)) 37 4 ((am_up g3 37 3 (g3 42 3)) 42 4)))
  := (am_ex_eq 43 39 0 _ [] f).trans rfl

theorem eX6_copy_46_37 (f : Hp) : am_call 43 [.ref 46, .ref 37] f =
  am_cp f 38 47 9 9 0 0 (Int32.ofNat 9) fun g1 =>
  am_cp g1 39 48 324 324 0 0 (Int32.ofNat 324) fun g2 =>
  am_cp g2 40 49 90 90 0 0 (Int32.ofNat 90) fun g3 =>
  some (0, (am_up (am_up g3 46 3 (g3 37 3)) 46 4 ((am_up g3 46 3 (g3 37 3)) 37 4)))
  := (am_ex_eq 43 39 0 _ [] f).trans rfl

theorem eX6_copy_42_37 (f : Hp) : am_call 43 [.ref 42, .ref 37] f =
  am_cp f 38 43 9 9 0 0 (Int32.ofNat 9) fun g1 =>
  am_cp g1 39 44 324 324 0 0 (Int32.ofNat 324) fun g2 =>
  am_cp g2 40 45 90 90 0 0 (Int32.ofNat 90) fun g3 =>
  some (0, (am_up (am_up g3 42 3 (g3 37 3)) 42 4 ((am_up g3 42 3 (g3 37 3)) 37 4)))
  := (am_ex_eq 43 39 0 _ [] f).trans rfl

theorem eX6_isGiven_37 (f : Hp) : am_call 44 [.ref 37] f =
  if (f 37 4) < 0 then
    am_z 0 (some (0, f))
  else
    am_z 1 (some (1, f))
  := (am_ex_eq 44 6 0 _ [] f).trans rfl

theorem eX6_wordOf_37 (f : Hp) (a1 : Int32) : am_call 45 [.ref 37, .int a1] f =
  am_ald f 38 9 a1 fun x1 =>
  some (x1, f)
  := (am_ex_eq 45 5 0 _ [] f).trans rfl

theorem eX6_sidesWith_37 (f : Hp) (a1 : Int32) : am_call 46 [.ref 37, .int a1] f =
  am_run 46 4 [.ref 37, .int a1, .int 0, .int 0] [] f
  := (am_ex_eq 46 5 0 _ [] f).trans rfl

theorem eX6_sidesWith_4_37 (f : Hp) (a1 : Int32) (a2 : Int32) (a3 : Int32) : am_run 46 4 [.ref 37, .int a1, .int a2, .int a3] [] f =
  if a3 < 9 then
    am_ald f 38 9 a3 fun x1 =>
    if x1 = a1 then
      am_run 46 4 [.ref 37, .int a1, .int (a2 ||| (1 <<< (a3 &&& 31))), .int (a3 + 1)] [] f
    else
      am_run 46 4 [.ref 37, .int a1, .int a2, .int (a3 + 1)] [] f
  else
    some (a2, f)
  := (am_ex_eq 46 18 4 _ _ f).trans rfl

theorem eX6_codeOf_37 (f : Hp) (a1 : Int32) : am_call 47 [.ref 37, .int a1] f =
  am_ald f 38 9 a1 fun x1 =>
  if x1 < 0 then
    some (0, f)
  else
    am_ald f 38 9 a1 fun x2 =>
    am_cal (am_call 46 [.ref 37, .int x2] f) fun x3 g3 =>
    some (x3, g3)
  := (am_ex_eq 47 12 0 _ [] f).trans rfl

theorem eX6_ledTo_37 (f : Hp) (a1 : Int32) (a2 : Int32) : am_call 48 [.ref 37, .int a1, .int a2] f =
  am_run 48 5 [.ref 37, .int a1, .int a2, .int 0, .int 0] [] f
  := (am_ex_eq 48 5 0 _ [] f).trans rfl

theorem eX6_ledTo_5_37 (f : Hp) (a1 : Int32) (a2 : Int32) (a3 : Int32) (a4 : Int32) : am_run 48 5 [.ref 37, .int a1, .int a2, .int a3, .int a4] [] f =
  if a4 < 9 then
    am_ald f 38 9 a4 fun x1 =>
    if x1 = a1 then
      am_cal (am_call 47 [.ref 37, .int a4] f) fun x2 g2 =>
      am_run 48 5 [.ref 37, .int a1, .int a2, .int (a3 ||| x2), .int (a4 + 1)] [] g2
    else
      am_ald f 39 324 ((a4 * 36) + a1) fun x3 =>
      if x3 < a2 then
        am_run 48 5 [.ref 37, .int a1, .int a2, .int a3, .int (a4 + 1)] [] f
      else
        am_cal (am_call 47 [.ref 37, .int a4] f) fun x4 g4 =>
        am_run 48 5 [.ref 37, .int a1, .int a2, .int (a3 ||| x4), .int (a4 + 1)] [] g4
  else
    some (a3, f)
  := (am_ex_eq 48 28 5 _ _ f).trans rfl

theorem eX6_rename_37 (f : Hp) (a1 : Int32) (a2 : Int32) (a3 : Int32) : am_call 49 [.ref 37, .int a1, .int a2, .int a3] f =
  am_ald f 38 9 a1 fun x1 =>
  if x1 = a2 then
    some (0, f)
  else
    if x1 < 0 then
      am_ast f 38 9 a1 a2 fun g2 =>
      some (0, g2)
    else
      am_ald f 39 324 ((a1 * 36) + x1) fun x3 =>
      am_ast f 39 324 ((a1 * 36) + x1) (am_max x3 a3) fun g4 =>
      am_ast g4 38 9 a1 a2 fun g5 =>
      some (0, g5)
  := (am_ex_eq 49 32 0 _ [] f).trans rfl

theorem eX6_countCodes_37 (f : Hp) : am_call 50 [.ref 37] f =
  am_run 50 4 [.ref 37, .int 0, .int 0] [] f
  := (am_ex_eq 50 5 0 _ [] f).trans rfl

theorem eX6_countCodes_4_37 (f : Hp) (a1 : Int32) (a2 : Int32) : am_run 50 4 [.ref 37, .int a1, .int a2] [] f =
  if a2 < 36 then
    am_cal (am_call 46 [.ref 37, .int a2] f) fun x1 g1 =>
    if x1 = 0 then
      am_run 50 4 [.ref 37, .int a1, .int (a2 + 1)] [] g1
    else
      am_run 50 4 [.ref 37, .int (a1 + 1), .int (a2 + 1)] [] g1
  else
    some (a1, f)
  := (am_ex_eq 50 11 4 _ _ f).trans rfl

theorem eX6_countOldWords_37 (f : Hp) : am_call 51 [.ref 37] f =
  am_cal (am_call 44 [.ref 37] f) fun x1 g1 =>
  if x1 = 0 then
    some (0, g1)
  else
    am_run 51 13 [.ref 37, .int 0, .int 0] [] g1
  := (am_ex_eq 51 8 0 _ [] f).trans rfl

theorem eX6_countOldWords_13_37 (f : Hp) (a1 : Int32) (a2 : Int32) : am_run 51 13 [.ref 37, .int a1, .int a2] [] f =
  if a2 < 36 then
    am_cal (am_call 46 [.ref 37, .int a2] f) fun x1 g1 =>
    if x1 = 0 then
      am_cal (am_call 48 [.ref 37, .int a2, .int (g1 37 4)] g1) fun x2 g2 =>
      if x2 = 0 then
        am_run 51 13 [.ref 37, .int a1, .int (a2 + 1)] [] g2
      else
        am_run 51 13 [.ref 37, .int (a1 + 1), .int (a2 + 1)] [] g2
    else
      am_run 51 13 [.ref 37, .int a1, .int (a2 + 1)] [] g1
  else
    some (a1, f)
  := (am_ex_eq 51 17 13 _ _ f).trans rfl

theorem eX6_print_37 (f : Hp) : am_call 52 [.ref 37] f =
  am_cp f 38 40 9 90 0 ((f 37 3) * 9) 9 fun g1 =>
  some (((am_up g1 37 3 ((g1 37 3) + 1)) 37 3) - 1, (am_up g1 37 3 ((g1 37 3) + 1)))
  := (am_ex_eq 52 22 0 _ [] f).trans rfl

theorem eX6_printed_37 (f : Hp) (a1 : Int32) (a2 : Int32) : am_call 53 [.ref 37, .int a1, .int a2] f =
  am_ald f 40 90 ((a1 * 9) + a2) fun x1 =>
  some (x1, f)
  := (am_ex_eq 53 9 0 _ [] f).trans rfl

theorem eX6_isMisprinted_37 (f : Hp) (a1 : Int32) (a2 : Int32) (a3 : Int32) : am_call 54 [.ref 37, .int a1, .int a2, .int a3] f =
  am_cal (am_call 53 [.ref 37, .int a1, .int a2] f) fun x1 g1 =>
  am_ald g1 38 9 a2 fun x2 =>
  if x1 = x2 then
    am_z 0 (some (0, g1))
  else
    if x1 < 0 then
      am_z 1 (some (1, g1))
    else
      am_cal (am_call 48 [.ref 37, .int x1, .int a3] g1) fun x3 g3 =>
      am_cal (am_call 110 [.int x3, .int a2] g3) fun x4 g4 =>
      if x4 = 0 then
        am_z 1 (some (1, g4))
      else
        am_z 0 (some (0, g4))
  := (am_ex_eq 54 23 0 _ [] f).trans rfl

theorem eX7_forget_27 (f : Hp) : am_call 55 [.ref 27] f =
  some (0, (am_up f 27 12 (-1)))
  := (am_ex_eq 55 4 0 _ [] f).trans rfl

theorem eX7_findWords_27 (f : Hp) (a1 : Int32) (a2 : Int32) : am_call 56 [.ref 27, .int a1, .int a2] f =
  if a1 = (f 27 12) then
    if a2 = (f 27 13) then
      if (f 27 9) < (f 27 10) then
        am_z 0 (some (0, f))
      else
        am_z 1 (some (1, f))
    else
      am_run 56 16 [.ref 27, .int a1, .int a2] [] f
  else
    am_run 56 16 [.ref 27, .int a1, .int a2] [] f
  := (am_ex_eq 56 16 0 _ [] f).trans rfl

theorem eX7_findWords_16_27 (f : Hp) (a1 : Int32) (a2 : Int32) : am_run 56 16 [.ref 27, .int a1, .int a2] [] f =
  am_cal (am_call 57 [.ref 27, .int a2] (am_up f 27 10 (am_min (f 22 6) 4))) fun _ g1 =>
  am_cal (am_call 58 [.ref 27] g1) fun _ g2 =>
  am_cal (am_call 63 [.ref 27, .int 0, .int 0] (am_up g2 27 11 1000000)) fun _ g3 =>
  if ((am_up (am_up g3 27 12 a1) 27 13 a2) 27 9) < ((am_up (am_up g3 27 12 a1) 27 13 a2) 27 10) then
    am_z 0 (some (0, (am_up (am_up g3 27 12 a1) 27 13 a2)))
  else
    am_z 1 (some (1, (am_up (am_up g3 27 12 a1) 27 13 a2)))
  := (am_ex_eq 56 33 16 _ _ f).trans rfl

theorem eX7_gatherCandidates_27 (f : Hp) (a1 : Int32) : am_call 57 [.ref 27, .int a1] f =
  am_run 57 7 [.ref 27, .int a1, .int 0, .null] [] (am_up f 27 9 0)
  := (am_ex_eq 57 6 0 _ [] f).trans rfl

theorem eX7_gatherCandidates_7_27 (f : Hp) (a1 : Int32) (a2 : Int32) : am_run 57 7 [.ref 27, .int a1, .int a2, .null] [] f =
  if a2 < 36 then
    am_dv 6 (
      if (a2 / 6) < a1 then
        am_dv 6 (
          if (a2 - a2 / 6 * 6) < a1 then
            am_run 57 34 [.ref 27, .int a1, .int a2, .null] [.int 1] f
          else
            am_run 57 34 [.ref 27, .int a1, .int a2, .null] [.int 0] f)
      else
        am_run 57 34 [.ref 27, .int a1, .int a2, .null] [.int 0] f)
  else
    some (0, f)
  := (am_ex_eq 57 16 7 _ _ f).trans rfl

theorem eX7_gatherCandidates_34_27_s1 (f : Hp) (a1 : Int32) (a2 : Int32) (s0 : Int32) : am_run 57 34 [.ref 27, .int a1, .int a2, .null] [.int s0] f =
  if s0 = 0 then
    am_run 57 7 [.ref 27, .int a1, .int (a2 + 1), .null] [] f
  else
    am_cal (am_call 10 [.ref 16, .int a2] f) fun x1 g1 =>
    if x1 = 0 then
      am_run 57 7 [.ref 27, .int a1, .int (a2 + 1), .null] [] g1
    else
      if (g1 27 9) < (Int32.ofNat 16) then
        am_ast g1 28 16 (g1 27 9) a2 fun g2 =>
        am_run 57 7 [.ref 27, .int a1, .int (a2 + 1), .null] [] (am_up g2 27 9 ((g2 27 9) + 1))
      else
        am_run 57 7 [.ref 27, .int a1, .int (a2 + 1), .null] [] g1
  := (am_ex_eq 57 29 34 _ _ f).trans rfl

theorem eX7_compareAll_27 (f : Hp) : am_call 58 [.ref 27] f =
  am_run 58 2 [.ref 27, .int 0, .null, .null] [] f
  := (am_ex_eq 58 3 0 _ [] f).trans rfl

theorem eX7_compareAll_2_27 (f : Hp) (a1 : Int32) : am_run 58 2 [.ref 27, .int a1, .null, .null] [] f =
  if a1 < (f 27 9) then
    am_run 58 12 [.ref 27, .int a1, .int 0, .null] [] f
  else
    am_run 58 87 [.ref 27, .int 0, .null, .null] [] f
  := (am_ex_eq 58 7 2 _ _ f).trans rfl

theorem eX7_compareAll_12_27 (f : Hp) (a1 : Int32) (a2 : Int32) : am_run 58 12 [.ref 27, .int a1, .int a2, .null] [] f =
  if a2 < (f 27 9) then
    am_ald f 28 16 a1 fun x1 =>
    am_ald f 28 16 a2 fun x2 =>
    am_cal (am_call 16 [.ref 20, .int x1, .int x2] f) fun x3 g3 =>
    am_ald g3 28 16 a2 fun x4 =>
    am_ald g3 28 16 a1 fun x5 =>
    am_cal (am_call 16 [.ref 20, .int x4, .int x5] g3) fun x6 g6 =>
    am_ast g6 29 256 ((a1 * (Int32.ofNat 16)) + a2) (x3 + x6) fun g7 =>
    am_run 58 12 [.ref 27, .int a1, .int (a2 + 1), .null] [] g7
  else
    am_run 58 2 [.ref 27, .int (a1 + 1), .null, .null] [] f
  := (am_ex_eq 58 40 12 _ _ f).trans rfl

theorem eX7_compareAll_87_27 (f : Hp) (a1 : Int32) : am_run 58 87 [.ref 27, .int a1, .null, .null] [] f =
  if a1 < (f 27 10) then
    am_run 58 97 [.ref 27, .int a1, .int 0, .null] [] f
  else
    some (0, f)
  := (am_ex_eq 58 7 87 _ _ f).trans rfl

theorem eX7_compareAll_97_27 (f : Hp) (a1 : Int32) (a2 : Int32) : am_run 58 97 [.ref 27, .int a1, .int a2, .null] [] f =
  if a2 < (f 27 10) then
    am_ald f 26 9 a1 fun x1 =>
    am_ald f 26 9 a2 fun x2 =>
    am_cal (am_call 33 [.ref 2, .int x1, .int x2] f) fun x3 g3 =>
    if x3 = 0 then
      am_ast g3 30 16 ((a1 * 4) + a2) 1 fun g4 =>
      am_run 58 97 [.ref 27, .int a1, .int (a2 + 1), .null] [] g4
    else
      am_ast g3 30 16 ((a1 * 4) + a2) 3 fun g5 =>
      am_run 58 97 [.ref 27, .int a1, .int (a2 + 1), .null] [] g5
  else
    am_run 58 87 [.ref 27, .int (a1 + 1), .null, .null] [] f
  := (am_ex_eq 58 33 97 _ _ f).trans rfl

theorem eX7_choose_1_27 (f : Hp) (a1 : Int32) (a2 : Int32) : am_call 59 [.ref 27, .int a1, .int a2] f =
  if a2 < (f 27 11) then
    if 4 < a1 then
      some (0, f)
    else
      if a1 = (f 27 10) then
        am_run 59 29 [.ref 27, .null, .null, .int 0] [] (am_up f 27 11 a2)
      else
        am_run 59 63 [.ref 27, .int a1, .int a2, .int 0] [] f
  else
    some (0, f)
  := (am_ex_eq 59 17 0 _ [] f).trans rfl

theorem eX7_choose_1_29_27 (f : Hp) (a3 : Int32) : am_run 59 29 [.ref 27, .null, .null, .int a3] [] f =
  if a3 < (f 27 10) then
    am_ald f 31 4 a3 fun x1 =>
    am_ald f 28 16 x1 fun x2 =>
    am_ast f 32 4 a3 x2 fun g3 =>
    am_run 59 29 [.ref 27, .null, .null, .int (a3 + 1)] [] g3
  else
    some (0, f)
  := (am_ex_eq 59 18 29 _ _ f).trans rfl

theorem eX7_choose_1_63_27 (f : Hp) (a1 : Int32) (a2 : Int32) (a3 : Int32) : am_run 59 63 [.ref 27, .int a1, .int a2, .int a3] [] f =
  if a3 < (f 27 9) then
    am_cal (am_call 64 [.ref 27, .int a3, .int a1] f) fun x1 g1 =>
    if x1 = 0 then
      am_ast g1 31 4 a1 a3 fun g2 =>
      am_cal (am_call 65 [.ref 27, .int a1] g2) fun x3 g3 =>
      none
    else
      am_run 59 63 [.ref 27, .int a1, .int a2, .int (a3 + 1)] [] g1
  else
    some (0, f)
  := (am_ex_eq 59 24 63 _ _ f).trans rfl

theorem eX7_choose_2_27 (f : Hp) (a1 : Int32) (a2 : Int32) : am_call 60 [.ref 27, .int a1, .int a2] f =
  if a2 < (f 27 11) then
    if 4 < a1 then
      some (0, f)
    else
      if a1 = (f 27 10) then
        am_run 60 29 [.ref 27, .null, .null, .int 0] [] (am_up f 27 11 a2)
      else
        am_run 60 63 [.ref 27, .int a1, .int a2, .int 0] [] f
  else
    some (0, f)
  := (am_ex_eq 60 17 0 _ [] f).trans rfl

theorem eX7_choose_2_29_27 (f : Hp) (a3 : Int32) : am_run 60 29 [.ref 27, .null, .null, .int a3] [] f =
  if a3 < (f 27 10) then
    am_ald f 31 4 a3 fun x1 =>
    am_ald f 28 16 x1 fun x2 =>
    am_ast f 32 4 a3 x2 fun g3 =>
    am_run 60 29 [.ref 27, .null, .null, .int (a3 + 1)] [] g3
  else
    some (0, f)
  := (am_ex_eq 60 18 29 _ _ f).trans rfl

theorem eX7_choose_2_63_27 (f : Hp) (a1 : Int32) (a2 : Int32) (a3 : Int32) : am_run 60 63 [.ref 27, .int a1, .int a2, .int a3] [] f =
  if a3 < (f 27 9) then
    am_cal (am_call 64 [.ref 27, .int a3, .int a1] f) fun x1 g1 =>
    if x1 = 0 then
      am_ast g1 31 4 a1 a3 fun g2 =>
      am_cal (am_call 65 [.ref 27, .int a1] g2) fun x3 g3 =>
      am_cal (am_call 59 [.ref 27, .int (a1 + 1), .int (a2 + x3)] g3) fun _ g4 =>
      am_run 60 63 [.ref 27, .int a1, .int a2, .int (a3 + 1)] [] g4
    else
      am_run 60 63 [.ref 27, .int a1, .int a2, .int (a3 + 1)] [] g1
  else
    some (0, f)
  := (am_ex_eq 60 27 63 _ _ f).trans rfl

theorem eX7_choose_3_27 (f : Hp) (a1 : Int32) (a2 : Int32) : am_call 61 [.ref 27, .int a1, .int a2] f =
  if a2 < (f 27 11) then
    if 4 < a1 then
      some (0, f)
    else
      if a1 = (f 27 10) then
        am_run 61 29 [.ref 27, .null, .null, .int 0] [] (am_up f 27 11 a2)
      else
        am_run 61 63 [.ref 27, .int a1, .int a2, .int 0] [] f
  else
    some (0, f)
  := (am_ex_eq 61 17 0 _ [] f).trans rfl

theorem eX7_choose_3_29_27 (f : Hp) (a3 : Int32) : am_run 61 29 [.ref 27, .null, .null, .int a3] [] f =
  if a3 < (f 27 10) then
    am_ald f 31 4 a3 fun x1 =>
    am_ald f 28 16 x1 fun x2 =>
    am_ast f 32 4 a3 x2 fun g3 =>
    am_run 61 29 [.ref 27, .null, .null, .int (a3 + 1)] [] g3
  else
    some (0, f)
  := (am_ex_eq 61 18 29 _ _ f).trans rfl

theorem eX7_choose_3_63_27 (f : Hp) (a1 : Int32) (a2 : Int32) (a3 : Int32) : am_run 61 63 [.ref 27, .int a1, .int a2, .int a3] [] f =
  if a3 < (f 27 9) then
    am_cal (am_call 64 [.ref 27, .int a3, .int a1] f) fun x1 g1 =>
    if x1 = 0 then
      am_ast g1 31 4 a1 a3 fun g2 =>
      am_cal (am_call 65 [.ref 27, .int a1] g2) fun x3 g3 =>
      am_cal (am_call 60 [.ref 27, .int (a1 + 1), .int (a2 + x3)] g3) fun _ g4 =>
      am_run 61 63 [.ref 27, .int a1, .int a2, .int (a3 + 1)] [] g4
    else
      am_run 61 63 [.ref 27, .int a1, .int a2, .int (a3 + 1)] [] g1
  else
    some (0, f)
  := (am_ex_eq 61 27 63 _ _ f).trans rfl

theorem eX7_choose_4_27 (f : Hp) (a1 : Int32) (a2 : Int32) : am_call 62 [.ref 27, .int a1, .int a2] f =
  if a2 < (f 27 11) then
    if 4 < a1 then
      some (0, f)
    else
      if a1 = (f 27 10) then
        am_run 62 29 [.ref 27, .null, .null, .int 0] [] (am_up f 27 11 a2)
      else
        am_run 62 63 [.ref 27, .int a1, .int a2, .int 0] [] f
  else
    some (0, f)
  := (am_ex_eq 62 17 0 _ [] f).trans rfl

theorem eX7_choose_4_29_27 (f : Hp) (a3 : Int32) : am_run 62 29 [.ref 27, .null, .null, .int a3] [] f =
  if a3 < (f 27 10) then
    am_ald f 31 4 a3 fun x1 =>
    am_ald f 28 16 x1 fun x2 =>
    am_ast f 32 4 a3 x2 fun g3 =>
    am_run 62 29 [.ref 27, .null, .null, .int (a3 + 1)] [] g3
  else
    some (0, f)
  := (am_ex_eq 62 18 29 _ _ f).trans rfl

theorem eX7_choose_4_63_27 (f : Hp) (a1 : Int32) (a2 : Int32) (a3 : Int32) : am_run 62 63 [.ref 27, .int a1, .int a2, .int a3] [] f =
  if a3 < (f 27 9) then
    am_cal (am_call 64 [.ref 27, .int a3, .int a1] f) fun x1 g1 =>
    if x1 = 0 then
      am_ast g1 31 4 a1 a3 fun g2 =>
      am_cal (am_call 65 [.ref 27, .int a1] g2) fun x3 g3 =>
      am_cal (am_call 61 [.ref 27, .int (a1 + 1), .int (a2 + x3)] g3) fun _ g4 =>
      am_run 62 63 [.ref 27, .int a1, .int a2, .int (a3 + 1)] [] g4
    else
      am_run 62 63 [.ref 27, .int a1, .int a2, .int (a3 + 1)] [] g1
  else
    some (0, f)
  := (am_ex_eq 62 27 63 _ _ f).trans rfl

theorem eX7_choose_5_27 (f : Hp) (a1 : Int32) (a2 : Int32) : am_call 63 [.ref 27, .int a1, .int a2] f =
  if a2 < (f 27 11) then
    if 4 < a1 then
      some (0, f)
    else
      if a1 = (f 27 10) then
        am_run 63 29 [.ref 27, .null, .null, .int 0] [] (am_up f 27 11 a2)
      else
        am_run 63 63 [.ref 27, .int a1, .int a2, .int 0] [] f
  else
    some (0, f)
  := (am_ex_eq 63 17 0 _ [] f).trans rfl

theorem eX7_choose_5_29_27 (f : Hp) (a3 : Int32) : am_run 63 29 [.ref 27, .null, .null, .int a3] [] f =
  if a3 < (f 27 10) then
    am_ald f 31 4 a3 fun x1 =>
    am_ald f 28 16 x1 fun x2 =>
    am_ast f 32 4 a3 x2 fun g3 =>
    am_run 63 29 [.ref 27, .null, .null, .int (a3 + 1)] [] g3
  else
    some (0, f)
  := (am_ex_eq 63 18 29 _ _ f).trans rfl

theorem eX7_choose_5_63_27 (f : Hp) (a1 : Int32) (a2 : Int32) (a3 : Int32) : am_run 63 63 [.ref 27, .int a1, .int a2, .int a3] [] f =
  if a3 < (f 27 9) then
    am_cal (am_call 64 [.ref 27, .int a3, .int a1] f) fun x1 g1 =>
    if x1 = 0 then
      am_ast g1 31 4 a1 a3 fun g2 =>
      am_cal (am_call 65 [.ref 27, .int a1] g2) fun x3 g3 =>
      am_cal (am_call 62 [.ref 27, .int (a1 + 1), .int (a2 + x3)] g3) fun _ g4 =>
      am_run 63 63 [.ref 27, .int a1, .int a2, .int (a3 + 1)] [] g4
    else
      am_run 63 63 [.ref 27, .int a1, .int a2, .int (a3 + 1)] [] g1
  else
    some (0, f)
  := (am_ex_eq 63 27 63 _ _ f).trans rfl

theorem eX7_isChosen_27 (f : Hp) (a1 : Int32) (a2 : Int32) : am_call 64 [.ref 27, .int a1, .int a2] f =
  am_run 64 2 [.ref 27, .int a1, .int a2, .int 0] [] f
  := (am_ex_eq 64 3 0 _ [] f).trans rfl

theorem eX7_isChosen_2_27 (f : Hp) (a1 : Int32) (a2 : Int32) (a3 : Int32) : am_run 64 2 [.ref 27, .int a1, .int a2, .int a3] [] f =
  if a3 < a2 then
    am_ald f 31 4 a3 fun x1 =>
    if x1 = a1 then
      am_z 1 (some (1, f))
    else
      am_run 64 2 [.ref 27, .int a1, .int a2, .int (a3 + 1)] [] f
  else
    am_z 0 (some (0, f))
  := (am_ex_eq 64 12 2 _ _ f).trans rfl

theorem eX7_harmOfLast_27 (f : Hp) (a1 : Int32) : am_call 65 [.ref 27, .int a1] f =
  am_run 65 4 [.ref 27, .int a1, .int 0, .int 0] [] f
  := (am_ex_eq 65 5 0 _ [] f).trans rfl

theorem eX7_harmOfLast_4_27 (f : Hp) (a1 : Int32) (a2 : Int32) (a3 : Int32) : am_run 65 4 [.ref 27, .int a1, .int a2, .int a3] [] f =
  if a3 < a1 then
    am_ald f 31 4 a3 fun x1 =>
    am_ald f 31 4 a1 fun x2 =>
    am_ald f 29 256 ((x1 * (Int32.ofNat 16)) + x2) fun x3 =>
    am_ald f 30 16 ((a3 * 4) + a1) fun x4 =>
    am_run 65 4 [.ref 27, .int a1, .int (a2 + (x3 * x4)), .int (a3 + 1)] [] f
  else
    some (a2, f)
  := (am_ex_eq 65 34 4 _ _ f).trans rfl

theorem eX8_side_1 (f : Hp) (a1 : Int32) (a2 : Int32) (a3 : Int32) (a4 : Int32) : am_call 66 [.ref 1, .int a1, .int a2, .int a3, .int a4] f =
  am_cal (am_call 106 [.int a1, .int 1, .int 200] f) fun x1 g1 =>
  if x1 = 0 then
    some ((-1), g1)
  else
    am_cal (am_call 106 [.int a2, .int 0, .int 20] g1) fun x2 g2 =>
    if x2 = 0 then
      some ((-1), g2)
    else
      am_cal (am_call 106 [.int a3, .int 1, .int 500] g2) fun x3 g3 =>
      if x3 = 0 then
        some ((-1), g3)
      else
        am_cal (am_call 106 [.int a4, .int 1, .int 50] g3) fun x4 g4 =>
        if x4 = 0 then
          some ((-1), g4)
        else
          am_cal (am_call 44 [.ref 37] g4) fun x5 g5 =>
          if x5 = 0 then
            if (g5 2 7) < 9 then
              am_cal (am_call 115 [.ref 1] g5) fun _ g6 =>
              am_cal (am_call 27 [.ref 2, .int a1, .int a2, .int a3, .int a4] g6) fun x7 g7 =>
              some (x7, g7)
            else
              some ((-3), g5)
          else
            some ((-2), g5)
  := (am_ex_eq 66 39 0 _ [] f).trans rfl

theorem eX8_link_1 (f : Hp) (a1 : Int32) (a2 : Int32) (a3 : Int32) : am_call 67 [.ref 1, .int a1, .int a2, .int a3] f =
  am_cal (am_call 111 [.ref 1, .int a1] f) fun x1 g1 =>
  if x1 = 0 then
    some ((-1), g1)
  else
    am_cal (am_call 111 [.ref 1, .int a2] g1) fun x2 g2 =>
    if x2 = 0 then
      some ((-1), g2)
    else
      if a1 = a2 then
        some ((-1), g2)
      else
        am_cal (am_call 106 [.int a3, .int 0, .int 500] g2) fun x3 g3 =>
        if x3 = 0 then
          some ((-1), g3)
        else
          am_cal (am_call 44 [.ref 37] g3) fun x4 g4 =>
          if x4 = 0 then
            am_cal (am_call 115 [.ref 1] g4) fun _ g5 =>
            am_cal (am_call 28 [.ref 2, .int a1, .int a2, .int a3] g5) fun x6 g6 =>
            some (x6, g6)
          else
            some ((-2), g4)
  := (am_ex_eq 67 29 0 _ [] f).trans rfl

theorem eX8_doors_1 (f : Hp) (a1 : Int32) (a2 : Int32) : am_call 68 [.ref 1, .int a1, .int a2] f =
  am_cal (am_call 111 [.ref 1, .int a1] f) fun x1 g1 =>
  if x1 = 0 then
    some ((-1), g1)
  else
    am_cal (am_call 107 [.int a2] g1) fun x2 g2 =>
    if x2 = 0 then
      some ((-1), g2)
    else
      am_cal (am_call 31 [.ref 2, .int (1 <<< (a1 &&& 31)), .int a2] g2) fun x3 g3 =>
      some (x3, g3)
  := (am_ex_eq 68 15 0 _ [] f).trans rfl

theorem eX8_walk_1 (f : Hp) (a1 : Int32) : am_call 69 [.ref 1, .int a1] f =
  am_cal (am_call 112 [.ref 1, .int a1] f) fun x1 g1 =>
  if x1 = 0 then
    some ((-1), g1)
  else
    am_cal (am_call 34 [.ref 2, .int a1] g1) fun x2 g2 =>
    if x2 < 1000000 then
      some (x2, g2)
    else
      some ((-4), g2)
  := (am_ex_eq 69 15 0 _ [] f).trans rfl

theorem eX8_row_1 (f : Hp) (a1 : Int32) (a2 : Int32) : am_call 70 [.ref 1, .int a1, .int a2] f =
  am_cal (am_call 112 [.ref 1, .int a1] f) fun x1 g1 =>
  if x1 = 0 then
    some ((-1), g1)
  else
    if a2 < 0 then
      some ((-1), g1)
    else
      am_cal (am_call 37 [.ref 2, .int a1, .int a2] g1) fun x2 g2 =>
      some (x2, g2)
  := (am_ex_eq 70 12 0 _ [] f).trans rfl

theorem eX8_right_1 (f : Hp) (a1 : Int32) (a2 : Int32) : am_call 71 [.ref 1, .int a1, .int a2] f =
  am_cal (am_call 112 [.ref 1, .int a1] f) fun x1 g1 =>
  if x1 = 0 then
    some ((-1), g1)
  else
    am_cal (am_call 107 [.int a2] g1) fun x2 g2 =>
    if x2 = 0 then
      some ((-1), g2)
    else
      am_cal (am_call 22 [.ref 22, .int a1, .int a2] g2) fun x3 g3 =>
      if x3 = 0 then
        some (0, g3)
      else
        some (1, g3)
  := (am_ex_eq 71 16 0 _ [] f).trans rfl

theorem eX8_shaped_1 (f : Hp) (a1 : Int32) (a2 : Int32) : am_call 72 [.ref 1, .int a1, .int a2] f =
  am_cal (am_call 107 [.int a1] f) fun x1 g1 =>
  if x1 = 0 then
    some ((-1), g1)
  else
    if a2 < (-3) then
      some ((-1), g1)
    else
      am_cal (am_call 23 [.ref 22, .int a1] g1) fun _ g2 =>
      if a2 = (-3) then
        am_cal (am_call 25 [.ref 22] g2) fun x3 g3 =>
        some (x3, g3)
      else
        if (g2 22 6) = 0 then
          some ((-4), g2)
        else
          if a2 = (-1) then
            some (g2 22 6, g2)
          else
            if a2 = (-2) then
              some (g2 22 7, g2)
            else
              if a2 < (g2 22 6) then
                am_ald g2 26 9 a2 fun x4 =>
                some (x4, g2)
              else
                some ((-4), g2)
  := (am_ex_eq 72 35 0 _ [] f).trans rfl

theorem eX8_write_1 (f : Hp) (a1 : Int32) (a2 : Int64) : am_call 73 [.ref 1, .int a1, .long a2] f =
  am_cal (am_call 106 [.int a1, .int 1, .int 8] f) fun x1 g1 =>
  if x1 = 0 then
    some ((-1), g1)
  else
    if 200 < ((g1 10 1) + a1) then
      some ((-3), g1)
    else
      am_cal (am_call 39 [.ref 10, .int a1, .long a2] g1) fun _ g2 =>
      some (g2 10 1, g2)
  := (am_ex_eq 73 21 0 _ [] f).trans rfl

theorem eX8_wipe_1 (f : Hp) : am_call 74 [.ref 1] f =
  some (f 10 1, (am_up f 10 1 0))
  := (am_ex_eq 74 10 0 _ [] f).trans rfl

theorem eX8_fault_1 (f : Hp) : am_call 75 [.ref 1] f =
  am_cal (am_call 2 [.ref 12, .ref 10] f) fun x1 g1 =>
  if x1 < 0 then
    some ((-4), g1)
  else
    some (x1, g1)
  := (am_ex_eq 75 11 0 _ [] f).trans rfl

theorem eX8_force_1 (f : Hp) : am_call 76 [.ref 1] f =
  am_cal (am_call 2 [.ref 12, .ref 10] f) fun x1 g1 =>
  if x1 < 0 then
    am_cal (am_call 1 [.ref 16, .ref 12] g1) fun _ g2 =>
    am_cal (am_call 115 [.ref 1] g2) fun _ g3 =>
    some (g3 16 3, g3)
  else
    some ((-2), g1)
  := (am_ex_eq 76 17 0 _ [] f).trans rfl

theorem eX8_rule_1 (f : Hp) (a1 : Int32) (a2 : Int32) : am_call 77 [.ref 1, .int a1, .int a2] f =
  am_cal (am_call 106 [.int a1, .int 0, .int 2] f) fun x1 g1 =>
  if x1 = 0 then
    some ((-1), g1)
  else
    am_cal (am_call 107 [.int a2] g1) fun x2 g2 =>
    if x2 = 0 then
      some ((-1), g2)
    else
      am_cal (am_call 7 [.ref 16, .int a1, .int a2] g2) fun x3 g3 =>
      some (x3, g3)
  := (am_ex_eq 77 14 0 _ [] f).trans rfl

theorem eX8_why_1 (f : Hp) (a1 : Int32) (a2 : Int32) : am_call 78 [.ref 1, .int a1, .int a2] f =
  am_cal (am_call 106 [.int a1, .int 0, .int 2] f) fun x1 g1 =>
  if x1 = 0 then
    some ((-1), g1)
  else
    am_cal (am_call 107 [.int a2] g1) fun x2 g2 =>
    if x2 = 0 then
      some ((-1), g2)
    else
      am_cal (am_call 6 [.ref 16, .int a1, .int a2] g2) fun x3 g3 =>
      if x3 < 0 then
        some ((-4), g3)
      else
        some (x3, g3)
  := (am_ex_eq 78 19 0 _ [] f).trans rfl

theorem eX8_quarrel_1 (f : Hp) : am_call 79 [.ref 1] f =
  am_run 79 2 [.ref 1, .int 0, .null] [] f
  := (am_ex_eq 79 3 0 _ [] f).trans rfl

theorem eX8_quarrel_2_1 (f : Hp) (a1 : Int32) : am_run 79 2 [.ref 1, .int a1, .null] [] f =
  if a1 < (f 16 3) then
    am_run 79 17 [.ref 1, .int a1, .int (a1 + 1)] [] f
  else
    some ((-4), f)
  := (am_ex_eq 79 10 2 _ _ f).trans rfl

theorem eX8_quarrel_17_1 (f : Hp) (a1 : Int32) (a2 : Int32) : am_run 79 17 [.ref 1, .int a1, .int a2] [] f =
  if a2 < (f 16 3) then
    am_cal (am_call 8 [.ref 16, .int a1, .int a2] f) fun x1 g1 =>
    if x1 = 0 then
      am_run 79 17 [.ref 1, .int a1, .int (a2 + 1)] [] g1
    else
      some ((100 * a1) + a2, g1)
  else
    am_run 79 2 [.ref 1, .int (a1 + 1), .null] [] f
  := (am_ex_eq 79 17 17 _ _ f).trans rfl

theorem eX8_misread_1 (f : Hp) (a1 : Int32) (a2 : Int32) (a3 : Int32) : am_call 80 [.ref 1, .int a1, .int a2, .int a3] f =
  am_cal (am_call 108 [.int a1] f) fun x1 g1 =>
  if x1 = 0 then
    some ((-1), g1)
  else
    am_cal (am_call 108 [.int a2] g1) fun x2 g2 =>
    if x2 = 0 then
      some ((-1), g2)
    else
      if a1 = a2 then
        some ((-1), g2)
      else
        am_cal (am_call 106 [.int a3, .int 0, .int 99] g2) fun x3 g3 =>
        if x3 = 0 then
          some ((-1), g3)
        else
          am_cal (am_call 12 [.ref 20, .int a1, .int a2, .int a3] g3) fun x4 g4 =>
          if x4 = 0 then
            some ((-2), g4)
          else
            am_cal (am_call 55 [.ref 27] g4) fun _ g5 =>
            am_cal (am_call 13 [.ref 20, .int a1, .int a2, .int a3] g5) fun x6 g6 =>
            some (x6, g6)
  := (am_ex_eq 80 31 0 _ [] f).trans rfl

theorem eX8_read_1 (f : Hp) (a1 : Int32) (a2 : Int32) : am_call 81 [.ref 1, .int a1, .int a2] f =
  am_cal (am_call 109 [.int a1] f) fun x1 g1 =>
  if x1 = 0 then
    some ((-1), g1)
  else
    am_cal (am_call 109 [.int a2] g1) fun x2 g2 =>
    if x2 = 0 then
      some ((-1), g2)
    else
      am_cal (am_call 16 [.ref 20, .int a1, .int a2] g2) fun x3 g3 =>
      some (x3, g3)
  := (am_ex_eq 81 12 0 _ [] f).trans rfl

theorem eX8_words_1 (f : Hp) (a1 : Int32) (a2 : Int32) (a3 : Int32) : am_call 82 [.ref 1, .int a1, .int a2, .int a3] f =
  am_cal (am_call 107 [.int a1] f) fun x1 g1 =>
  if x1 = 0 then
    some ((-1), g1)
  else
    am_cal (am_call 106 [.int a2, .int 2, .int 4] g1) fun x2 g2 =>
    if x2 = 0 then
      some ((-1), g2)
    else
      if a3 < (-1) then
        some ((-1), g2)
      else
        am_cal (am_call 114 [.ref 1, .int a1] g2) fun x3 g3 =>
        if x3 = 0 then
          some ((-2), g3)
        else
          am_cal (am_call 56 [.ref 27, .int a1, .int a2] g3) fun x4 g4 =>
          if x4 = 0 then
            some ((-4), g4)
          else
            if a3 = (-1) then
              some (g4 27 11, g4)
            else
              if a3 < (g4 22 6) then
                if a3 < 4 then
                  am_ald g4 32 4 a3 fun x5 =>
                  some (x5, g4)
                else
                  some ((-4), g4)
              else
                some ((-4), g4)
  := (am_ex_eq 82 39 0 _ [] f).trans rfl

theorem eX8_who_1 (f : Hp) (a1 : Int32) (a2 : Int32) : am_call 83 [.ref 1, .int a1, .int a2] f =
  am_cal (am_call 109 [.int a1] f) fun x1 g1 =>
  if x1 = 0 then
    some ((-1), g1)
  else
    if a2 < (-1) then
      some ((-1), g1)
    else
      if a2 = (-1) then
        am_cal (am_call 85 [.ref 1, .int a1] g1) fun x2 g2 =>
        some (x2, g2)
      else
        am_run 83 27 [.ref 1, .int a1, .int a2, .int 0] [] g1
  := (am_ex_eq 83 13 0 _ [] f).trans rfl

theorem eX8_who_27_1 (f : Hp) (a1 : Int32) (a2 : Int32) (a3 : Int32) : am_run 83 27 [.ref 1, .int a1, .int a2, .int a3] [] f =
  if a3 < 36 then
    am_cal (am_call 84 [.ref 1, .int a3, .int a1] f) fun x1 g1 =>
    if x1 = 0 then
      am_run 83 27 [.ref 1, .int a1, .int a2, .int (a3 + 1)] [] g1
    else
      am_cal (am_call 86 [.ref 1, .int a3, .int a1] g1) fun x2 g2 =>
      if x2 = a2 then
        some (a3, g2)
      else
        am_run 83 27 [.ref 1, .int a1, .int a2, .int (a3 + 1)] [] g2
  else
    some ((-4), f)
  := (am_ex_eq 83 17 27 _ _ f).trans rfl

theorem eX8_mayBe_1 (f : Hp) (a1 : Int32) (a2 : Int32) : am_call 84 [.ref 1, .int a1, .int a2] f =
  am_cal (am_call 46 [.ref 37, .int a1] f) fun x1 g1 =>
  if x1 = 0 then
    am_z 0 (some (0, g1))
  else
    am_cal (am_call 16 [.ref 20, .int a1, .int a2] g1) fun x2 g2 =>
    if 0 < x2 then
      am_z 1 (some (1, g2))
    else
      am_z 0 (some (0, g2))
  := (am_ex_eq 84 14 0 _ [] f).trans rfl

theorem eX8_countOfMaybe_1 (f : Hp) (a1 : Int32) : am_call 85 [.ref 1, .int a1] f =
  am_run 85 4 [.ref 1, .int a1, .int 0, .int 0] [] f
  := (am_ex_eq 85 5 0 _ [] f).trans rfl

theorem eX8_countOfMaybe_4_1 (f : Hp) (a1 : Int32) (a2 : Int32) (a3 : Int32) : am_run 85 4 [.ref 1, .int a1, .int a2, .int a3] [] f =
  if a3 < 36 then
    am_cal (am_call 84 [.ref 1, .int a3, .int a1] f) fun x1 g1 =>
    if x1 = 0 then
      am_run 85 4 [.ref 1, .int a1, .int a2, .int (a3 + 1)] [] g1
    else
      am_run 85 4 [.ref 1, .int a1, .int (a2 + 1), .int (a3 + 1)] [] g1
  else
    some (a2, f)
  := (am_ex_eq 85 12 4 _ _ f).trans rfl

theorem eX8_rankOfMaybe_1 (f : Hp) (a1 : Int32) (a2 : Int32) : am_call 86 [.ref 1, .int a1, .int a2] f =
  am_cal (am_call 16 [.ref 20, .int a1, .int a2] f) fun x1 g1 =>
  am_run 86 16 [.ref 1, .int a1, .int a2, .int x1, .int 0, .int 0, .null] [] g1
  := (am_ex_eq 86 11 0 _ [] f).trans rfl

theorem eX8_rankOfMaybe_16_1 (f : Hp) (a1 : Int32) (a2 : Int32) (a3 : Int32) (a4 : Int32) (a5 : Int32) : am_run 86 16 [.ref 1, .int a1, .int a2, .int a3, .int a4, .int a5, .null] [] f =
  if a5 < 36 then
    am_cal (am_call 84 [.ref 1, .int a5, .int a2] f) fun x1 g1 =>
    if x1 = 0 then
      am_run 86 16 [.ref 1, .int a1, .int a2, .int a3, .int a4, .int (a5 + 1), .null] [] g1
    else
      am_cal (am_call 16 [.ref 20, .int a5, .int a2] g1) fun x2 g2 =>
      if a3 < x2 then
        am_run 86 16 [.ref 1, .int a1, .int a2, .int a3, .int (a4 + 1), .int (a5 + 1), .null] [] g2
      else
        if x2 = a3 then
          if a5 < a1 then
            am_run 86 16 [.ref 1, .int a1, .int a2, .int a3, .int (a4 + 1), .int (a5 + 1), .null] [] g2
          else
            am_run 86 16 [.ref 1, .int a1, .int a2, .int a3, .int a4, .int (a5 + 1), .null] [] g2
        else
          am_run 86 16 [.ref 1, .int a1, .int a2, .int a3, .int a4, .int (a5 + 1), .null] [] g2
  else
    some (a4, f)
  := (am_ex_eq 86 27 16 _ _ f).trans rfl

theorem eX8_give_1 (f : Hp) (a1 : Int32) (a2 : Int32) : am_call 87 [.ref 1, .int a1, .int a2] f =
  am_cal (am_call 107 [.int a1] f) fun x1 g1 =>
  if x1 = 0 then
    some ((-1), g1)
  else
    am_cal (am_call 106 [.int a2, .int 2, .int 4] g1) fun x2 g2 =>
    if x2 = 0 then
      some ((-1), g2)
    else
      if a1 < (g2 37 4) then
        some ((-2), g2)
      else
        am_cal (am_call 114 [.ref 1, .int a1] g2) fun x3 g3 =>
        if x3 = 0 then
          some ((-2), g3)
        else
          am_cal (am_call 56 [.ref 27, .int a1, .int a2] g3) fun x4 g4 =>
          if x4 = 0 then
            some ((-3), g4)
          else
            am_run 87 57 [.ref 1, .int a1, .null, .int 0] [] g4
  := (am_ex_eq 87 26 0 _ [] f).trans rfl

theorem eX8_give_57_1 (f : Hp) (a1 : Int32) (a3 : Int32) : am_run 87 57 [.ref 1, .int a1, .null, .int a3] [] f =
  if a3 < (f 22 6) then
    if a3 < 4 then
      am_ald f 26 9 a3 fun x1 =>
      am_ald f 32 4 a3 fun x2 =>
      am_cal (am_call 93 [.ref 1, .int x1, .int x2, .int a1] f) fun _ g3 =>
      am_run 87 57 [.ref 1, .int a1, .null, .int (a3 + 1)] [] g3
    else
      some ((am_up f 37 4 a1) 22 6, (am_up f 37 4 a1))
  else
    some ((am_up f 37 4 a1) 22 6, (am_up f 37 4 a1))
  := (am_ex_eq 87 24 57 _ _ f).trans rfl

theorem eX8_split_1 (f : Hp) (a1 : Int32) (a2 : Int32) : am_call 88 [.ref 1, .int a1, .int a2] f =
  am_cal (am_call 111 [.ref 1, .int a1] f) fun x1 g1 =>
  if x1 = 0 then
    some ((-1), g1)
  else
    am_cal (am_call 107 [.int a2] g1) fun x2 g2 =>
    if x2 = 0 then
      some ((-1), g2)
    else
      am_cal (am_call 44 [.ref 37] g2) fun x3 g3 =>
      if x3 = 0 then
        some ((-2), g3)
      else
        if a2 < (g3 37 4) then
          some ((-2), g3)
        else
          am_cal (am_call 47 [.ref 37, .int a1] g3) fun x4 g4 =>
          am_cal (am_call 94 [.ref 1, .int x4, .int a2] g4) fun x5 g5 =>
          if x5 = 0 then
            some ((-2), g5)
          else
            am_cal (am_call 96 [.ref 1, .int a2] g5) fun x6 g6 =>
            if x6 < 0 then
              some ((-3), g6)
            else
              am_cal (am_call 93 [.ref 1, .int (x4 ^^^ x5), .int x6, .int a2] g6) fun _ g7 =>
              some (x6, (am_up g7 37 4 a2))
  := (am_ex_eq 88 47 0 _ [] f).trans rfl

theorem eX8_ask_1 (f : Hp) (a1 : Int32) (a2 : Int32) (a3 : Int32) : am_call 89 [.ref 1, .int a1, .int a2, .int a3] f =
  am_cal (am_call 97 [.ref 1, .int a1, .int a2, .int a3] f) fun x1 g1 =>
  some (x1, g1)
  := (am_ex_eq 89 6 0 _ [] f).trans rfl

theorem eX8_pass_1 (f : Hp) (a1 : Int32) (a2 : Int32) (a3 : Int32) : am_call 90 [.ref 1, .int a1, .int a2, .int a3] f =
  am_cal (am_call 97 [.ref 1, .int a1, .int a2, .int a3] f) fun x1 g1 =>
  if x1 = (-1000000) then
    some ((-1), g1)
  else
    if x1 = (-1000002) then
      some ((-2), g1)
    else
      if x1 = (-100000) then
        some ((-2), g1)
      else
        am_cal (am_call 45 [.ref 37, .int a2] g1) fun x2 g2 =>
        am_cal (am_call 93 [.ref 1, .int (1 <<< (a1 &&& 31)), .int x2, .int a3] g2) fun _ g3 =>
        some (x2, (am_up g3 37 4 a3))
  := (am_ex_eq 90 33 0 _ [] f).trans rfl

theorem eX8_code_1 (f : Hp) (a1 : Int32) (a2 : Int32) : am_call 91 [.ref 1, .int a1, .int a2] f =
  am_cal (am_call 111 [.ref 1, .int a1] f) fun x1 g1 =>
  if x1 = 0 then
    some ((-1), g1)
  else
    am_cal (am_call 106 [.int a2, .int 0, .int 1] g1) fun x2 g2 =>
    if x2 = 0 then
      some ((-1), g2)
    else
      am_cal (am_call 45 [.ref 37, .int a1] g2) fun x3 g3 =>
      if x3 < 0 then
        some ((-4), g3)
      else
        if a2 = 0 then
          some (x3, g3)
        else
          am_cal (am_call 46 [.ref 37, .int x3] g3) fun x4 g4 =>
          some (x4, g4)
  := (am_ex_eq 91 23 0 _ [] f).trans rfl

theorem eX8_lead_1 (f : Hp) (a1 : Int32) (a2 : Int32) : am_call 92 [.ref 1, .int a1, .int a2] f =
  am_cal (am_call 109 [.int a1] f) fun x1 g1 =>
  if x1 = 0 then
    some ((-1), g1)
  else
    am_cal (am_call 107 [.int a2] g1) fun x2 g2 =>
    if x2 = 0 then
      some ((-1), g2)
    else
      if a2 < (g2 37 4) then
        some ((-2), g2)
      else
        am_cal (am_call 48 [.ref 37, .int a1, .int a2] g2) fun x3 g3 =>
        if x3 = 0 then
          some ((-4), g3)
        else
          some (x3, g3)
  := (am_ex_eq 92 22 0 _ [] f).trans rfl

theorem eX8_renameAll_1 (f : Hp) (a1 : Int32) (a2 : Int32) (a3 : Int32) : am_call 93 [.ref 1, .int a1, .int a2, .int a3] f =
  am_cal (am_call 7 [.ref 16, .int 2, .int a3] f) fun x1 g1 =>
  am_run 93 14 [.ref 1, .int a1, .int a2, .int a3, .int x1, .int 0] [] g1
  := (am_ex_eq 93 9 0 _ [] f).trans rfl

theorem eX8_renameAll_14_1 (f : Hp) (a1 : Int32) (a2 : Int32) (a3 : Int32) (a4 : Int32) (a5 : Int32) : am_run 93 14 [.ref 1, .int a1, .int a2, .int a3, .int a4, .int a5] [] f =
  if a5 < 9 then
    am_cal (am_call 110 [.int a1, .int a5] f) fun x1 g1 =>
    if x1 = 0 then
      am_run 93 14 [.ref 1, .int a1, .int a2, .int a3, .int a4, .int (a5 + 1)] [] g1
    else
      am_cal (am_call 49 [.ref 37, .int a5, .int a2, .int (a3 + a4)] g1) fun _ g2 =>
      am_run 93 14 [.ref 1, .int a1, .int a2, .int a3, .int a4, .int (a5 + 1)] [] g2
  else
    some (0, f)
  := (am_ex_eq 93 18 14 _ _ f).trans rfl

theorem eX8_bestHalf_1 (f : Hp) (a1 : Int32) (a2 : Int32) : am_call 94 [.ref 1, .int a1, .int a2] f =
  am_run 94 21 [.ref 1, .int a1, .int a2, .int (a1 &&& (-a1)), .int (a1 ^^^ (a1 &&& (-a1))), .int 0, .int 2000000000, .int (a1 ^^^ (a1 &&& (-a1))), .null, .null] [] f
  := (am_ex_eq 94 16 0 _ [] f).trans rfl

theorem eX8_bestHalf_21_1 (f : Hp) (a1 : Int32) (a2 : Int32) (a3 : Int32) (a4 : Int32) (a5 : Int32) (a6 : Int32) (a7 : Int32) : am_run 94 21 [.ref 1, .int a1, .int a2, .int a3, .int a4, .int a5, .int a6, .int a7, .null, .null] [] f =
  if a7 < 0 then
    some (a5, f)
  else
    if ((a7 &&& a4) ||| a3) = a1 then
      am_run 94 21 [.ref 1, .int a1, .int a2, .int a3, .int a4, .int a5, .int a6, .int ((a7 &&& a4) + (-1)), .null, .null] [] f
    else
      am_cal (am_call 22 [.ref 22, .int ((a7 &&& a4) ||| a3), .int a2] f) fun x1 g1 =>
      if x1 = 0 then
        am_run 94 21 [.ref 1, .int a1, .int a2, .int a3, .int a4, .int a5, .int a6, .int ((a7 &&& a4) + (-1)), .null, .null] [] g1
      else
        am_cal (am_call 22 [.ref 22, .int (a1 ^^^ ((a7 &&& a4) ||| a3)), .int a2] g1) fun x2 g2 =>
        if x2 = 0 then
          am_run 94 21 [.ref 1, .int a1, .int a2, .int a3, .int a4, .int a5, .int a6, .int ((a7 &&& a4) + (-1)), .null, .null] [] g2
        else
          am_cal (am_call 95 [.ref 1, .int ((a7 &&& a4) ||| a3), .int (a1 ^^^ ((a7 &&& a4) ||| a3)), .int a2] g2) fun x3 g3 =>
          if a6 < x3 then
            am_run 94 21 [.ref 1, .int a1, .int a2, .int a3, .int a4, .int a5, .int a6, .int ((a7 &&& a4) + (-1)), .null, .null] [] g3
          else
            am_run 94 21 [.ref 1, .int a1, .int a2, .int a3, .int a4, .int ((a7 &&& a4) ||| a3), .int x3, .int ((a7 &&& a4) + (-1)), .null, .null] [] g3
  := (am_ex_eq 94 45 21 _ _ f).trans rfl

theorem eX8_keyOfHalves_1 (f : Hp) (a1 : Int32) (a2 : Int32) (a3 : Int32) : am_call 95 [.ref 1, .int a1, .int a2, .int a3] f =
  am_cal (am_call 31 [.ref 2, .int a1, .int a3] f) fun x1 g1 =>
  am_cal (am_call 31 [.ref 2, .int a2, .int a3] g1) fun x2 g2 =>
  am_cal (am_call 34 [.ref 2, .int a1] g2) fun x3 g3 =>
  am_cal (am_call 34 [.ref 2, .int a2] g3) fun x4 g4 =>
  some ((((am_abs (x1 - x2)) * 100000) + x3) + x4, g4)
  := (am_ex_eq 95 27 0 _ [] f).trans rfl

theorem eX8_lowestFreeWord_1 (f : Hp) (a1 : Int32) : am_call 96 [.ref 1, .int a1] f =
  am_run 96 2 [.ref 1, .int a1, .int 0] [] f
  := (am_ex_eq 96 3 0 _ [] f).trans rfl

theorem eX8_lowestFreeWord_2_1 (f : Hp) (a1 : Int32) (a2 : Int32) : am_run 96 2 [.ref 1, .int a1, .int a2] [] f =
  if a2 < 36 then
    am_cal (am_call 10 [.ref 16, .int a2] f) fun x1 g1 =>
    if x1 = 0 then
      am_run 96 2 [.ref 1, .int a1, .int (a2 + 1)] [] g1
    else
      am_cal (am_call 48 [.ref 37, .int a2, .int a1] g1) fun x2 g2 =>
      if x2 = 0 then
        some (a2, g2)
      else
        am_run 96 2 [.ref 1, .int a1, .int (a2 + 1)] [] g2
  else
    some ((-1), f)
  := (am_ex_eq 96 17 2 _ _ f).trans rfl

theorem eX8_costOfAsk_1 (f : Hp) (a1 : Int32) (a2 : Int32) (a3 : Int32) : am_call 97 [.ref 1, .int a1, .int a2, .int a3] f =
  am_cal (am_call 111 [.ref 1, .int a1] f) fun x1 g1 =>
  if x1 = 0 then
    some ((-1000000), g1)
  else
    am_cal (am_call 111 [.ref 1, .int a2] g1) fun x2 g2 =>
    if x2 = 0 then
      some ((-1000000), g2)
    else
      am_cal (am_call 107 [.int a3] g2) fun x3 g3 =>
      if x3 = 0 then
        some ((-1000000), g3)
      else
        am_cal (am_call 44 [.ref 37] g3) fun x4 g4 =>
        if x4 = 0 then
          some ((-1000002), g4)
        else
          if a3 < (g4 37 4) then
            some ((-1000002), g4)
          else
            am_cal (am_call 45 [.ref 37, .int a1] g4) fun x5 g5 =>
            am_cal (am_call 45 [.ref 37, .int a2] g5) fun x6 g6 =>
            if x5 = x6 then
              some ((-1000002), g6)
            else
              am_cal (am_call 47 [.ref 37, .int a1] g6) fun x7 g7 =>
              am_cal (am_call 47 [.ref 37, .int a2] g7) fun x8 g8 =>
              am_cal (am_call 22 [.ref 22, .int (x8 ||| (1 <<< (a1 &&& 31))), .int a3] g8) fun x9 g9 =>
              if x9 = 0 then
                some ((-100000), g9)
              else
                if (x7 ^^^ (1 <<< (a1 &&& 31))) = 0 then
                  am_run 97 139 [.ref 1, .null, .null, .null, .int x7, .int x8, .int (x7 ^^^ (1 <<< (a1 &&& 31))), .int (x8 ||| (1 <<< (a1 &&& 31))), .null] [] g9
                else
                  am_cal (am_call 22 [.ref 22, .int (x7 ^^^ (1 <<< (a1 &&& 31))), .int a3] g9) fun x10 g10 =>
                  if x10 = 0 then
                    some ((-100000), g10)
                  else
                    am_run 97 139 [.ref 1, .null, .null, .null, .int x7, .int x8, .int (x7 ^^^ (1 <<< (a1 &&& 31))), .int (x8 ||| (1 <<< (a1 &&& 31))), .null] [] g10
  := (am_ex_eq 97 67 0 _ [] f).trans rfl

theorem eX8_costOfAsk_139_1 (f : Hp) (a4 : Int32) (a5 : Int32) (a6 : Int32) (a7 : Int32) : am_run 97 139 [.ref 1, .null, .null, .null, .int a4, .int a5, .int a6, .int a7, .null] [] f =
  if a6 = 0 then
    am_cal (am_call 34 [.ref 2, .int a7] f) fun x1 g1 =>
    am_cal (am_call 34 [.ref 2, .int a4] g1) fun x2 g2 =>
    am_cal (am_call 34 [.ref 2, .int a5] g2) fun x3 g3 =>
    some (((x1 + 0) - x2) - x3, g3)
  else
    am_cal (am_call 34 [.ref 2, .int a6] f) fun x4 g4 =>
    am_cal (am_call 34 [.ref 2, .int a7] g4) fun x5 g5 =>
    am_cal (am_call 34 [.ref 2, .int a4] g5) fun x6 g6 =>
    am_cal (am_call 34 [.ref 2, .int a5] g6) fun x7 g7 =>
    some (((x5 + x4) - x6) - x7, g7)
  := (am_ex_eq 97 24 139 _ _ f).trans rfl

theorem eX8_rounds_1 (f : Hp) (a1 : Int32) (a2 : Int32) (a3 : Int32) : am_call 98 [.ref 1, .int a1, .int a2, .int a3] f =
  am_cal (am_call 107 [.int a1] f) fun x1 g1 =>
  if x1 = 0 then
    some ((-1), g1)
  else
    am_cal (am_call 106 [.int a2, .int 1, .int 1000000] g1) fun x2 g2 =>
    if x2 = 0 then
      some ((-1), g2)
    else
      am_cal (am_call 106 [.int a3, .int 0, .int 1] g2) fun x3 g3 =>
      if x3 = 0 then
        some ((-1), g3)
      else
        am_cal (am_call 44 [.ref 37] g3) fun x4 g4 =>
        if x4 = 0 then
          some ((-2), g4)
        else
          am_cal (am_call 17 [.ref 33, .ref 2, .ref 37, .int a1] g4) fun _ g5 =>
          am_cal (am_call 19 [.ref 33, .int a2] g5) fun x6 g6 =>
          if x6 < 100000000 then
            if a3 = 0 then
              am_dv 1000000 (
                some (x6 / 1000000, g6))
            else
              am_dv 1000000 (
                some (x6 - x6 / 1000000 * 1000000, g6))
          else
            some ((-4), g6)
  := (am_ex_eq 98 40 0 _ [] f).trans rfl

theorem eX8_fullYear_1 (f : Hp) (a1 : Int32) (a2 : Int32) : am_call 99 [.ref 1, .int a1, .int a2] f =
  am_cal (am_call 111 [.ref 1, .int a1] f) fun x1 g1 =>
  if x1 = 0 then
    some ((-1), g1)
  else
    am_cal (am_call 107 [.int a2] g1) fun x2 g2 =>
    if x2 = 0 then
      some ((-1), g2)
    else
      am_cal (am_call 44 [.ref 37] g2) fun x3 g3 =>
      if x3 = 0 then
        some ((-2), g3)
      else
        am_cal (am_call 47 [.ref 37, .int a1] g3) fun x4 g4 =>
        am_cal (am_call 7 [.ref 16, .int 0, .int a2] g4) fun x5 g5 =>
        am_run 99 53 [.ref 1, .null, .int a2, .int x4, .int x5, .int 0] [] g5
  := (am_ex_eq 99 25 0 _ [] f).trans rfl

theorem eX8_fullYear_53_1 (f : Hp) (a2 : Int32) (a3 : Int32) (a4 : Int32) (a5 : Int32) : am_run 99 53 [.ref 1, .null, .int a2, .int a3, .int a4, .int a5] [] f =
  if 40 < a5 then
    some ((-4), f)
  else
    am_cal (am_call 31 [.ref 2, .int a3, .int (a2 + (365 * a5))] f) fun x1 g1 =>
    if a4 < x1 then
      some (a5, g1)
    else
      am_run 99 53 [.ref 1, .null, .int a2, .int a3, .int a4, .int (a5 + 1)] [] g1
  := (am_ex_eq 99 17 53 _ _ f).trans rfl

theorem eX8_edition_1 (f : Hp) : am_call 100 [.ref 1] f =
  am_cal (am_call 44 [.ref 37] f) fun x1 g1 =>
  if x1 = 0 then
    some ((-2), g1)
  else
    if (g1 37 3) < 10 then
      am_cal (am_call 52 [.ref 37] g1) fun x2 g2 =>
      some (x2, g2)
    else
      some ((-3), g1)
  := (am_ex_eq 100 13 0 _ [] f).trans rfl

theorem eX8_book_1 (f : Hp) (a1 : Int32) (a2 : Int32) : am_call 101 [.ref 1, .int a1, .int a2] f =
  am_cal (am_call 113 [.ref 1, .int a1] f) fun x1 g1 =>
  if x1 = 0 then
    some ((-1), g1)
  else
    am_cal (am_call 111 [.ref 1, .int a2] g1) fun x2 g2 =>
    if x2 = 0 then
      some ((-1), g2)
    else
      am_cal (am_call 53 [.ref 37, .int a1, .int a2] g2) fun x3 g3 =>
      some (x3, g3)
  := (am_ex_eq 101 14 0 _ [] f).trans rfl

theorem eX8_wrong_1 (f : Hp) (a1 : Int32) (a2 : Int32) : am_call 102 [.ref 1, .int a1, .int a2] f =
  am_cal (am_call 113 [.ref 1, .int a1] f) fun x1 g1 =>
  if x1 = 0 then
    some ((-1), g1)
  else
    am_cal (am_call 107 [.int a2] g1) fun x2 g2 =>
    if x2 = 0 then
      some ((-1), g2)
    else
      if a2 < (g2 37 4) then
        some ((-2), g2)
      else
        am_run 102 36 [.ref 1, .int a1, .int a2, .int 0, .int 0] [] g2
  := (am_ex_eq 102 17 0 _ [] f).trans rfl

theorem eX8_wrong_36_1 (f : Hp) (a1 : Int32) (a2 : Int32) (a3 : Int32) (a4 : Int32) : am_run 102 36 [.ref 1, .int a1, .int a2, .int a3, .int a4] [] f =
  if a4 < (f 2 7) then
    am_cal (am_call 54 [.ref 37, .int a1, .int a4, .int a2] f) fun x1 g1 =>
    if x1 = 0 then
      am_run 102 36 [.ref 1, .int a1, .int a2, .int a3, .int (a4 + 1)] [] g1
    else
      am_run 102 36 [.ref 1, .int a1, .int a2, .int (a3 ||| (1 <<< (a4 &&& 31))), .int (a4 + 1)] [] g1
  else
    some (a3, f)
  := (am_ex_eq 102 21 36 _ _ f).trans rfl

theorem eX8_keep_1 (f : Hp) : am_call 103 [.ref 1] f =
  if (f 1 10) < 2 then
    if (f 1 10) = 0 then
      am_cal (am_call 43 [.ref 42, .ref 37] f) fun _ g1 =>
      some ((am_up g1 1 10 ((g1 1 10) + 1)) 1 10, (am_up g1 1 10 ((g1 1 10) + 1)))
    else
      if (f 1 10) = 0 + 1 then
        am_cal (am_call 43 [.ref 46, .ref 37] f) fun _ g2 =>
        some ((am_up g2 1 10 ((g2 1 10) + 1)) 1 10, (am_up g2 1 10 ((g2 1 10) + 1)))
      else
        none
  else
    some ((-3), f)
  := (am_ex_eq 103 21 0 _ [] f).trans rfl

theorem eX8_back_1 (f : Hp) : am_call 104 [.ref 1] f =
  if 0 < (f 1 10) then
    if ((am_up f 1 10 ((f 1 10) - 1)) 1 10) = 0 then
      am_cal (am_call 43 [.ref 37, .ref 42] (am_up f 1 10 ((f 1 10) - 1))) fun _ g1 =>
      some (g1 1 10, g1)
    else
      if ((am_up f 1 10 ((f 1 10) - 1)) 1 10) = 0 + 1 then
        am_cal (am_call 43 [.ref 37, .ref 46] (am_up f 1 10 ((f 1 10) - 1))) fun _ g2 =>
        some (g2 1 10, g2)
      else
        none
  else
    some ((-2), f)
  := (am_ex_eq 104 20 0 _ [] f).trans rfl

theorem eX8_count_1 (f : Hp) (a1 : Int32) : am_call 105 [.ref 1, .int a1] f =
  if a1 = 0 then
    some (f 2 7, f)
  else
    if a1 = 1 then
      am_cal (am_call 29 [.ref 2] f) fun x1 g1 =>
      some (x1, g1)
    else
      if a1 = 2 then
        some (f 10 1, f)
      else
        if a1 = 3 then
          some (f 16 3, f)
        else
          if a1 = 4 then
            am_cal (am_call 50 [.ref 37] f) fun x2 g2 =>
            some (x2, g2)
          else
            if a1 = 5 then
              am_cal (am_call 51 [.ref 37] f) fun x3 g3 =>
              some (x3, g3)
            else
              if a1 = 6 then
                some (f 37 3, f)
              else
                if a1 = 7 then
                  some (f 1 10, f)
                else
                  if a1 = 8 then
                    some (f 37 4, f)
                  else
                    some ((-1), f)
  := (am_ex_eq 105 6 0 _ [] f).trans rfl

theorem eX8_within (f : Hp) (a0 : Int32) (a1 : Int32) (a2 : Int32) : am_call 106 [.int a0, .int a1, .int a2] f =
  if a0 < a1 then
    am_z 0 (some (0, f))
  else
    if a2 < a0 then
      am_z 0 (some (0, f))
    else
      am_z 1 (some (1, f))
  := (am_ex_eq 106 9 0 _ [] f).trans rfl

theorem eX8_isDay (f : Hp) (a0 : Int32) : am_call 107 [.int a0] f =
  am_cal (am_call 106 [.int a0, .int 0, .int 14600] f) fun x1 g1 =>
  am_z x1 (some (x1, g1))
  := (am_ex_eq 107 5 0 _ [] f).trans rfl

theorem eX8_isLetter (f : Hp) (a0 : Int32) : am_call 108 [.int a0] f =
  am_cal (am_call 106 [.int a0, .int 0, .int 5] f) fun x1 g1 =>
  am_z x1 (some (x1, g1))
  := (am_ex_eq 108 5 0 _ [] f).trans rfl

theorem eX8_isWord (f : Hp) (a0 : Int32) : am_call 109 [.int a0] f =
  am_cal (am_call 106 [.int a0, .int 0, .int 35] f) fun x1 g1 =>
  am_z x1 (some (x1, g1))
  := (am_ex_eq 109 5 0 _ [] f).trans rfl

theorem eX8_hasSide (f : Hp) (a0 : Int32) (a1 : Int32) : am_call 110 [.int a0, .int a1] f =
  if ((a0 >>> (a1 &&& 31)) &&& 1) = 1 then
    am_z 1 (some (1, f))
  else
    am_z 0 (some (0, f))
  := (am_ex_eq 110 10 0 _ [] f).trans rfl

theorem eX8_isSide_1 (f : Hp) (a1 : Int32) : am_call 111 [.ref 1, .int a1] f =
  am_cal (am_call 106 [.int a1, .int 0, .int ((f 2 7) - 1)] f) fun x1 g1 =>
  am_z x1 (some (x1, g1))
  := (am_ex_eq 111 9 0 _ [] f).trans rfl

theorem eX8_isShape_1 (f : Hp) (a1 : Int32) : am_call 112 [.ref 1, .int a1] f =
  am_cal (am_call 30 [.ref 2] f) fun x1 g1 =>
  am_cal (am_call 106 [.int a1, .int 1, .int x1] g1) fun x2 g2 =>
  am_z x2 (some (x2, g2))
  := (am_ex_eq 112 7 0 _ [] f).trans rfl

theorem eX8_isEdition_1 (f : Hp) (a1 : Int32) : am_call 113 [.ref 1, .int a1] f =
  am_cal (am_call 106 [.int a1, .int 0, .int ((f 37 3) - 1)] f) fun x1 g1 =>
  am_z x1 (some (x1, g1))
  := (am_ex_eq 113 9 0 _ [] f).trans rfl

theorem eX8_canBeWorded_1 (f : Hp) (a1 : Int32) : am_call 114 [.ref 1, .int a1] f =
  am_cal (am_call 23 [.ref 22, .int a1] f) fun _ g1 =>
  am_cal (am_call 106 [.int (g1 22 6), .int 1, .int 4] g1) fun x2 g2 =>
  am_z x2 (some (x2, g2))
  := (am_ex_eq 114 11 0 _ [] f).trans rfl

theorem eX8_forgetShaped_1 (f : Hp) : am_call 115 [.ref 1] f =
  am_cal (am_call 21 [.ref 22] f) fun _ g1 =>
  am_cal (am_call 55 [.ref 27] g1) fun _ g2 =>
  some (0, g2)
  := (am_ex_eq 115 7 0 _ [] f).trans rfl
