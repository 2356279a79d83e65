theorem eX9_in (f : Hp) (a0 : Int64) (a1 : Int64) (a2 : Int64) : am_call 116 [.long a0, .long a1, .long a2] f =
  if (lg_cmp a0 a1) < 0 then
    am_z 0 (some (0, f))
  else
    if 0 < (lg_cmp a0 a2) then
      am_z 0 (some (0, f))
    else
      am_z 1 (some (1, f))
  := (am_ex_eq 116 11 0 _ [] f).trans rfl

theorem eX9_has (f : Hp) (a0 : Int32) (a1 : Int32) : am_call 117 [.int a0, .int a1] f =
  if ((a0 >>> (a1 &&& 31)) &&& 1) = 1 then
    am_z 1 (some (1, f))
  else
    am_z 0 (some (0, f))
  := (am_ex_eq 117 10 0 _ [] f).trans rfl

theorem eX9_bits (f : Hp) (a0 : Int32) : am_call 118 [.int a0] f =
  am_run 118 4 [.null, .int 0, .int a0] [] f
  := (am_ex_eq 118 5 0 _ [] f).trans rfl

theorem eX9_bits_4 (f : Hp) (a1 : Int32) (a2 : Int32) : am_run 118 4 [.null, .int a1, .int a2] [] f =
  if a2 = 0 then
    some (a1, f)
  else
    am_run 118 4 [.null, .int (a1 + 1), .int (a2 &&& (a2 - 1))] [] f
  := (am_ex_eq 118 11 4 _ _ f).trans rfl

theorem eX9_isDay (f : Hp) (a0 : Int32) : am_call 119 [.int a0] f =
  am_cal (am_call 116 [.long a0.toInt64, .long 0, .long 14600] f) fun x1 g1 =>
  am_z x1 (some (x1, g1))
  := (am_ex_eq 119 6 0 _ [] f).trans rfl

theorem eX9_isSide_50 (f : Hp) (a1 : Int32) : am_call 120 [.ref 50, .int a1] f =
  am_cal (am_call 116 [.long a1.toInt64, .long 0, .long (((f 50 0) - 1).toInt64)] f) fun x1 g1 =>
  am_z x1 (some (x1, g1))
  := (am_ex_eq 120 10 0 _ [] f).trans rfl

theorem eX9_all_50 (f : Hp) : am_call 121 [.ref 50] f =
  some ((1 <<< ((f 50 0) &&& 31)) - 1, f)
  := (am_ex_eq 121 7 0 _ [] f).trans rfl

theorem eX9_isShape_50 (f : Hp) (a1 : Int32) : am_call 122 [.ref 50, .int a1] f =
  am_cal (am_call 121 [.ref 50] f) fun x1 g1 =>
  am_cal (am_call 116 [.long a1.toInt64, .long 1, .long x1.toInt64] g1) fun x2 g2 =>
  am_z x2 (some (x2, g2))
  := (am_ex_eq 122 8 0 _ [] f).trans rfl

theorem eX9_areGiven_50 (f : Hp) : am_call 123 [.ref 50] f =
  am_run 123 4 [.ref 50, .int 0, .int 0] [] f
  := (am_ex_eq 123 5 0 _ [] f).trans rfl

theorem eX9_areGiven_4_50 (f : Hp) (a1 : Int32) (a2 : Int32) : am_run 123 4 [.ref 50, .int a1, .int a2] [] f =
  if a2 < (f 50 0) then
    if a1 = 0 then
      am_ald f 60 27 a2 fun x1 =>
      if x1 < 0 then
        am_run 123 4 [.ref 50, .int 0, .int (a2 + 1)] [] f
      else
        am_run 123 4 [.ref 50, .int 1, .int (a2 + 1)] [] f
    else
      am_run 123 4 [.ref 50, .int 1, .int (a2 + 1)] [] f
  else
    am_z a1 (some (a1, f))
  := (am_ex_eq 123 17 4 _ _ f).trans rfl

theorem eX9_side_50 (f : Hp) (a1 : Int32) (a2 : Int32) (a3 : Int32) (a4 : Int32) : am_call 124 [.ref 50, .int a1, .int a2, .int a3, .int a4] f =
  am_cal (am_call 116 [.long a1.toInt64, .long 1, .long 200] f) fun x1 g1 =>
  if x1 = 0 then
    some ((-1), g1)
  else
    am_cal (am_call 116 [.long a2.toInt64, .long 0, .long 20] g1) fun x2 g2 =>
    if x2 = 0 then
      some ((-1), g2)
    else
      am_cal (am_call 116 [.long a3.toInt64, .long 1, .long 500] g2) fun x3 g3 =>
      if x3 = 0 then
        some ((-1), g3)
      else
        am_cal (am_call 116 [.long a4.toInt64, .long 1, .long 50] g3) fun x4 g4 =>
        if x4 = 0 then
          some ((-1), g4)
        else
          am_cal (am_call 123 [.ref 50] g4) fun x5 g5 =>
          if x5 = 0 then
            if (g5 50 0) = 9 then
              some ((-3), g5)
            else
              am_ast g5 51 9 (g5 50 0) a1 fun g6 =>
              am_ast g6 52 9 (g6 50 0) a2 fun g7 =>
              am_ast g7 53 9 (g7 50 0) a3 fun g8 =>
              am_ast g8 54 9 (g8 50 0) a4 fun g9 =>
              some (((am_up g9 50 0 ((g9 50 0) + 1)) 50 0) - 1, (am_up g9 50 0 ((g9 50 0) + 1)))
          else
            some ((-2), g5)
  := (am_ex_eq 124 66 0 _ [] f).trans rfl

theorem eX9_link_50 (f : Hp) (a1 : Int32) (a2 : Int32) (a3 : Int32) : am_call 125 [.ref 50, .int a1, .int a2, .int a3] f =
  am_cal (am_call 120 [.ref 50, .int a1] f) fun x1 g1 =>
  if x1 = 0 then
    some ((-1), g1)
  else
    am_cal (am_call 120 [.ref 50, .int a2] g1) fun x2 g2 =>
    if x2 = 0 then
      some ((-1), g2)
    else
      if a1 = a2 then
        some ((-1), g2)
      else
        am_cal (am_call 116 [.long a3.toInt64, .long 0, .long 500] g2) fun x3 g3 =>
        if x3 = 0 then
          some ((-1), g3)
        else
          am_cal (am_call 123 [.ref 50] g3) fun x4 g4 =>
          if x4 = 0 then
            am_ald g4 55 81 ((9 * a1) + a2) fun x5 =>
            am_ast g4 55 81 ((9 * a1) + a2) a3 fun g6 =>
            am_ast g6 55 81 ((9 * a2) + a1) a3 fun g7 =>
            some (x5, g7)
          else
            some ((-2), g4)
  := (am_ex_eq 125 49 0 _ [] f).trans rfl

theorem eX9_doorsAt_50 (f : Hp) (a1 : Int32) (a2 : Int32) : am_call 126 [.ref 50, .int a1, .int a2] f =
  am_ald f 51 9 a1 fun x1 =>
  am_ald f 52 9 a1 fun x2 =>
  am_dv 365 (
    some (x1 + (x2 * (a2 / 365)), f))
  := (am_ex_eq 126 14 0 _ [] f).trans rfl

theorem eX9_doors_50 (f : Hp) (a1 : Int32) (a2 : Int32) : am_call 127 [.ref 50, .int a1, .int a2] f =
  am_cal (am_call 120 [.ref 50, .int a1] f) fun x1 g1 =>
  if x1 = 0 then
    some ((-1), g1)
  else
    am_cal (am_call 119 [.int a2] g1) fun x2 g2 =>
    if x2 = 0 then
      some ((-1), g2)
    else
      am_cal (am_call 126 [.ref 50, .int a1, .int a2] g2) fun x3 g3 =>
      some (x3, g3)
  := (am_ex_eq 127 13 0 _ [] f).trans rfl

theorem eX9_doorsIn_50 (f : Hp) (a1 : Int32) (a2 : Int32) : am_call 128 [.ref 50, .int a1, .int a2] f =
  am_run 128 5 [.ref 50, .int a1, .int a2, .int 0, .int 0] [] f
  := (am_ex_eq 128 5 0 _ [] f).trans rfl

theorem eX9_doorsIn_5_50 (f : Hp) (a1 : Int32) (a2 : Int32) (a3 : Int32) (a4 : Int32) : am_run 128 5 [.ref 50, .int a1, .int a2, .int a3, .int a4] [] f =
  if a4 < (f 50 0) then
    am_cal (am_call 117 [.int a1, .int a4] f) fun x1 g1 =>
    if x1 = 0 then
      am_run 128 5 [.ref 50, .int a1, .int a2, .int (a3 + 0), .int (a4 + 1)] [] g1
    else
      am_cal (am_call 126 [.ref 50, .int a4, .int a2] g1) fun x2 g2 =>
      am_run 128 5 [.ref 50, .int a1, .int a2, .int (a3 + x2), .int (a4 + 1)] [] g2
  else
    some (a3, f)
  := (am_ex_eq 128 19 5 _ _ f).trans rfl

theorem eX9_layFrom_50 (f : Hp) : am_call 129 [.ref 50] f =
  am_run 129 2 [.ref 50, .int 1, .null, .null, .null, .null, .null] [] f
  := (am_ex_eq 129 3 0 _ [] f).trans rfl

theorem eX9_layFrom_2_50 (f : Hp) (a1 : Int32) : am_run 129 2 [.ref 50, .int a1, .null, .null, .null, .null, .null] [] f =
  am_cal (am_call 121 [.ref 50] f) fun x1 g1 =>
  if x1 < a1 then
    some (0, g1)
  else
    am_run 129 12 [.ref 50, .int a1, .int 0, .null, .null, .null, .null] [] g1
  := (am_ex_eq 129 7 2 _ _ f).trans rfl

theorem eX9_layFrom_12_50 (f : Hp) (a1 : Int32) (a2 : Int32) : am_run 129 12 [.ref 50, .int a1, .int a2, .null, .null, .null, .null] [] f =
  if a2 < (f 50 0) then
    if a1 = (1 <<< (a2 &&& 31)) then
      am_ast f 65 4608 ((9 * a1) + a2) 0 fun g1 =>
      am_run 129 12 [.ref 50, .int a1, .int (a2 + 1), .null, .null, .null, .null] [] g1
    else
      am_cal (am_call 117 [.int a1, .int a2] f) fun x2 g2 =>
      if x2 = 0 then
        am_ast g2 65 4608 ((9 * a1) + a2) (-4) fun g3 =>
        am_run 129 12 [.ref 50, .int a1, .int (a2 + 1), .null, .null, .null, .null] [] g3
      else
        am_run 129 55 [.ref 50, .int a1, .int a2, .int (-4), .int (a1 &&& ((1 <<< (a2 &&& 31)) ^^^ (-1))), .int 0, .null] [] g2
  else
    am_run 129 2 [.ref 50, .int (a1 + 1), .null, .null, .null, .null, .null] [] f
  := (am_ex_eq 129 27 12 _ _ f).trans rfl

theorem eX9_layFrom_55_50 (f : Hp) (a1 : Int32) (a2 : Int32) (a3 : Int32) (a4 : Int32) (a5 : Int32) : am_run 129 55 [.ref 50, .int a1, .int a2, .int a3, .int a4, .int a5, .null] [] f =
  if a5 < (f 50 0) then
    am_cal (am_call 117 [.int a4, .int a5] f) fun x1 g1 =>
    if x1 = 0 then
      am_run 129 55 [.ref 50, .int a1, .int a2, .int a3, .int a4, .int (a5 + 1), .null] [] g1
    else
      am_ald g1 55 81 ((9 * a2) + a5) fun x2 =>
      if 0 < x2 then
        am_ald g1 65 4608 ((9 * a4) + a5) fun x3 =>
        if x3 = (-4) then
          am_run 129 55 [.ref 50, .int a1, .int a2, .int a3, .int a4, .int (a5 + 1), .null] [] g1
        else
          am_ald g1 55 81 ((9 * a2) + a5) fun x4 =>
          am_ald g1 65 4608 ((9 * a4) + a5) fun x5 =>
          if a3 = (-4) then
            am_run 129 55 [.ref 50, .int a1, .int a2, .int (x4 + x5), .int a4, .int (a5 + 1), .null] [] g1
          else
            if (x4 + x5) < a3 then
              am_run 129 55 [.ref 50, .int a1, .int a2, .int (x4 + x5), .int a4, .int (a5 + 1), .null] [] g1
            else
              am_run 129 55 [.ref 50, .int a1, .int a2, .int a3, .int a4, .int (a5 + 1), .null] [] g1
      else
        am_run 129 55 [.ref 50, .int a1, .int a2, .int a3, .int a4, .int (a5 + 1), .null] [] g1
  else
    am_ast f 65 4608 ((9 * a1) + a2) a3 fun g6 =>
    am_run 129 12 [.ref 50, .int a1, .int (a2 + 1), .null, .null, .null, .null] [] g6
  := (am_ex_eq 129 57 55 _ _ f).trans rfl

theorem eX9_walkOf_50 (f : Hp) (a1 : Int32) : am_call 130 [.ref 50, .int a1] f =
  am_run 130 8 [.ref 50, .int a1, .int (-4), .int 0, .int 0, .null] [] f
  := (am_ex_eq 130 7 0 _ [] f).trans rfl

theorem eX9_walkOf_8_50 (f : Hp) (a1 : Int32) (a2 : Int32) (a3 : Int32) (a4 : Int32) : am_run 130 8 [.ref 50, .int a1, .int a2, .int a3, .int a4, .null] [] f =
  if a4 < (f 50 0) then
    am_cal (am_call 117 [.int a1, .int a4] f) fun x1 g1 =>
    if x1 = 0 then
      am_run 130 38 [.ref 50, .int a1, .int a2, .null, .int a4, .null] [.int 0, .int a3] g1
    else
      am_ald g1 53 9 a4 fun x2 =>
      am_run 130 38 [.ref 50, .int a1, .int a2, .null, .int a4, .null] [.int x2, .int a3] g1
  else
    if a2 = (-4) then
      some ((-4), f)
    else
      some (a2 + a3, f)
  := (am_ex_eq 130 15 8 _ _ f).trans rfl

theorem eX9_walkOf_38_50_s2 (f : Hp) (a1 : Int32) (a2 : Int32) (a4 : Int32) (s0 : Int32) (s1 : Int32) : am_run 130 38 [.ref 50, .int a1, .int a2, .null, .int a4, .null] [.int s0, .int s1] f =
  am_ald f 65 4608 ((9 * a1) + a4) fun x1 =>
  am_cal (am_call 117 [.int a1, .int a4] f) fun x2 g2 =>
  if x2 = 0 then
    am_run 130 8 [.ref 50, .int a1, .int a2, .int (s1 + s0), .int (a4 + 1), .null] [] g2
  else
    if x1 = (-4) then
      am_run 130 8 [.ref 50, .int a1, .int a2, .int (s1 + s0), .int (a4 + 1), .null] [] g2
    else
      if a2 = (-4) then
        am_run 130 8 [.ref 50, .int a1, .int x1, .int (s1 + s0), .int (a4 + 1), .null] [] g2
      else
        if x1 < a2 then
          am_run 130 8 [.ref 50, .int a1, .int x1, .int (s1 + s0), .int (a4 + 1), .null] [] g2
        else
          am_run 130 8 [.ref 50, .int a1, .int a2, .int (s1 + s0), .int (a4 + 1), .null] [] g2
  := (am_ex_eq 130 30 38 _ _ f).trans rfl

theorem eX9_walk_50 (f : Hp) (a1 : Int32) : am_call 131 [.ref 50, .int a1] f =
  am_cal (am_call 122 [.ref 50, .int a1] f) fun x1 g1 =>
  if x1 = 0 then
    some ((-1), g1)
  else
    am_cal (am_call 129 [.ref 50] g1) fun _ g2 =>
    am_cal (am_call 130 [.ref 50, .int a1] g2) fun x3 g3 =>
    some (x3, g3)
  := (am_ex_eq 131 10 0 _ [] f).trans rfl

theorem eX9_row_50 (f : Hp) (a1 : Int32) (a2 : Int32) : am_call 132 [.ref 50, .int a1, .int a2] f =
  am_cal (am_call 122 [.ref 50, .int a1] f) fun x1 g1 =>
  if x1 = 0 then
    some ((-1), g1)
  else
    if a2 < 0 then
      some ((-1), g1)
    else
      am_cal (am_call 129 [.ref 50] g1) fun _ g2 =>
      am_cal (am_call 130 [.ref 50, .int a1] g2) fun x3 g3 =>
      if x3 = (-4) then
        some ((-4), g3)
      else
        am_cal (am_call 118 [.int a1] g3) fun x4 g4 =>
        if a2 < x4 then
          am_run 132 48 [.ref 50, .null, .int a2, .int a1, .int (-4), .int 0, .null, .null, .null, .null, .null] [] g4
        else
          some ((-4), g4)
  := (am_ex_eq 132 24 0 _ [] f).trans rfl

theorem eX9_row_48_50 (f : Hp) (a2 : Int32) (a3 : Int32) (a4 : Int32) (a5 : Int32) : am_run 132 48 [.ref 50, .null, .int a2, .int a3, .int a4, .int a5, .null, .null, .null, .null, .null] [] f =
  if a2 < a5 then
    some (a4, f)
  else
    am_run 132 65 [.ref 50, .null, .int a2, .int a3, .int a4, .int a5, .int (-4), .int (-4), .int 0, .null, .null] [] f
  := (am_ex_eq 132 10 48 _ _ f).trans rfl

theorem eX9_row_65_50 (f : Hp) (a2 : Int32) (a3 : Int32) (a4 : Int32) (a5 : Int32) (a6 : Int32) (a7 : Int32) (a8 : Int32) : am_run 132 65 [.ref 50, .null, .int a2, .int a3, .int a4, .int a5, .int a6, .int a7, .int a8, .null, .null] [] f =
  if a8 < (f 50 0) then
    am_cal (am_call 117 [.int a3, .int a8] f) fun x1 g1 =>
    if x1 = 0 then
      am_run 132 128 [.ref 50, .null, .int a2, .int a3, .int a4, .int a5, .int a6, .int a7, .int a8, .null, .null] [.int 0] g1
    else
      am_ald g1 65 4608 ((9 * a3) + a8) fun x2 =>
      if x2 = (-4) then
        am_run 132 128 [.ref 50, .null, .int a2, .int a3, .int a4, .int a5, .int a6, .int a7, .int a8, .null, .null] [.int 0] g1
      else
        if a4 = (-4) then
          am_run 132 128 [.ref 50, .null, .int a2, .int a3, .int a4, .int a5, .int a6, .int a7, .int a8, .null, .null] [.int 1] g1
        else
          am_ald g1 55 81 ((9 * a4) + a8) fun x3 =>
          if 0 < x3 then
            am_run 132 128 [.ref 50, .null, .int a2, .int a3, .int a4, .int a5, .int a6, .int a7, .int a8, .null, .null] [.int 1] g1
          else
            am_run 132 128 [.ref 50, .null, .int a2, .int a3, .int a4, .int a5, .int a6, .int a7, .int a8, .null, .null] [.int 0] g1
  else
    am_run 132 48 [.ref 50, .null, .int a2, .int (a3 &&& ((1 <<< (a7 &&& 31)) ^^^ (-1))), .int a7, .int (a5 + 1), .null, .null, .null, .null, .null] [] f
  := (am_ex_eq 132 33 65 _ _ f).trans rfl

theorem eX9_row_128_50_s1 (f : Hp) (a2 : Int32) (a3 : Int32) (a4 : Int32) (a5 : Int32) (a6 : Int32) (a7 : Int32) (a8 : Int32) (s0 : Int32) : am_run 132 128 [.ref 50, .null, .int a2, .int a3, .int a4, .int a5, .int a6, .int a7, .int a8, .null, .null] [.int s0] f =
  if s0 = 0 then
    if s0 = 0 then
      am_run 132 65 [.ref 50, .null, .int a2, .int a3, .int a4, .int a5, .int a6, .int a7, .int (a8 + 1), .null, .null] [] f
    else
      if a6 = (-4) then
        am_run 132 65 [.ref 50, .null, .int a2, .int a3, .int a4, .int a5, .int 0, .int a8, .int (a8 + 1), .null, .null] [] f
      else
        if 0 < a6 then
          am_run 132 65 [.ref 50, .null, .int a2, .int a3, .int a4, .int a5, .int 0, .int a8, .int (a8 + 1), .null, .null] [] f
        else
          am_run 132 65 [.ref 50, .null, .int a2, .int a3, .int a4, .int a5, .int a6, .int a7, .int (a8 + 1), .null, .null] [] f
  else
    am_ald f 65 4608 ((9 * a3) + a8) fun x1 =>
    if a4 = (-4) then
      if s0 = 0 then
        am_run 132 65 [.ref 50, .null, .int a2, .int a3, .int a4, .int a5, .int a6, .int a7, .int (a8 + 1), .null, .null] [] f
      else
        if a6 = (-4) then
          am_run 132 65 [.ref 50, .null, .int a2, .int a3, .int a4, .int a5, .int (x1 + 0), .int a8, .int (a8 + 1), .null, .null] [] f
        else
          if (x1 + 0) < a6 then
            am_run 132 65 [.ref 50, .null, .int a2, .int a3, .int a4, .int a5, .int (x1 + 0), .int a8, .int (a8 + 1), .null, .null] [] f
          else
            am_run 132 65 [.ref 50, .null, .int a2, .int a3, .int a4, .int a5, .int a6, .int a7, .int (a8 + 1), .null, .null] [] f
    else
      am_ald f 55 81 ((9 * a4) + a8) fun x2 =>
      if s0 = 0 then
        am_run 132 65 [.ref 50, .null, .int a2, .int a3, .int a4, .int a5, .int a6, .int a7, .int (a8 + 1), .null, .null] [] f
      else
        if a6 = (-4) then
          am_run 132 65 [.ref 50, .null, .int a2, .int a3, .int a4, .int a5, .int (x1 + x2), .int a8, .int (a8 + 1), .null, .null] [] f
        else
          if (x1 + x2) < a6 then
            am_run 132 65 [.ref 50, .null, .int a2, .int a3, .int a4, .int a5, .int (x1 + x2), .int a8, .int (a8 + 1), .null, .null] [] f
          else
            am_run 132 65 [.ref 50, .null, .int a2, .int a3, .int a4, .int a5, .int a6, .int a7, .int (a8 + 1), .null, .null] [] f
  := (am_ex_eq 132 40 128 _ _ f).trans rfl

theorem eX9_write_50 (f : Hp) (a1 : Int32) (a2 : Int64) : am_call 133 [.ref 50, .int a1, .long a2] f =
  am_cal (am_call 116 [.long a1.toInt64, .long 1, .long 8] f) fun x1 g1 =>
  if x1 = 0 then
    some ((-1), g1)
  else
    if 200 < ((g1 50 6) + a1) then
      some ((-3), g1)
    else
      am_run 133 34 [.ref 50, .null, .long a2, .null, .int (a1 - 1)] [] g1
  := (am_ex_eq 133 17 0 _ [] f).trans rfl

theorem eX9_write_34_50 (f : Hp) (a2 : Int64) (a4 : Int32) : am_run 133 34 [.ref 50, .null, .long a2, .null, .int a4] [] f =
  if a4 < 0 then
    some (f 50 6, f)
  else
    am_ast f 56 200 (f 50 6) (((a2 >>> ((8 * a4).toInt64 &&& 63)) &&& 255).toInt32) fun g1 =>
    am_run 133 34 [.ref 50, .null, .long a2, .null, .int (a4 + (-1))] [] (am_up g1 50 6 ((g1 50 6) + 1))
  := (am_ex_eq 133 24 34 _ _ f).trans rfl

theorem eX9_wipe_50 (f : Hp) : am_call 134 [.ref 50] f =
  some (f 50 6, (am_up f 50 6 0))
  := (am_ex_eq 134 8 0 _ [] f).trans rfl

theorem eX9_number_50 (f : Hp) (a1 : Int32) : am_call 135 [.ref 50, .int a1] f =
  am_run 135 4 [.ref 50, .int a1, .int 0, .int 0] [] f
  := (am_ex_eq 135 5 0 _ [] f).trans rfl

theorem eX9_number_4_50 (f : Hp) (a1 : Int32) (a2 : Int32) (a3 : Int32) : am_run 135 4 [.ref 50, .int a1, .int a2, .int a3] [] f =
  if (f 50 18) < (f 50 6) then
    am_ald f 56 200 (f 50 18) fun x1 =>
    am_cal (am_call 116 [.long x1.toInt64, .long 48, .long 57] f) fun x2 g2 =>
    if x2 = 0 then
      am_run 135 77 [.ref 50, .int a1, .int a2, .int a3] [] g2
    else
      if a2 < 6 then
        am_ald g2 56 200 (g2 50 18) fun x3 =>
        am_run 135 4 [.ref 50, .int a1, .int (a2 + 1), .int (((10 * a3) + x3) - 48)] [] (am_up g2 50 18 ((g2 50 18) + 1))
      else
        am_run 135 77 [.ref 50, .int a1, .int a2, .int a3] [] g2
  else
    am_run 135 77 [.ref 50, .int a1, .int a2, .int a3] [] f
  := (am_ex_eq 135 39 4 _ _ f).trans rfl

theorem eX9_number_77_50 (f : Hp) (a1 : Int32) (a2 : Int32) (a3 : Int32) : am_run 135 77 [.ref 50, .int a1, .int a2, .int a3] [] f =
  am_cal (am_call 116 [.long a2.toInt64, .long 1, .long 5] f) fun x1 g1 =>
  if x1 = 0 then
    some ((-4), g1)
  else
    if (g1 50 18) = (g1 50 6) then
      some ((-4), g1)
    else
      am_ald g1 56 200 (g1 50 18) fun x2 =>
      if x2 = a1 then
        some (a3, (am_up g1 50 18 ((g1 50 18) + 1)))
      else
        some ((-4), g1)
  := (am_ex_eq 135 26 77 _ _ f).trans rfl

theorem eX9_item_50 (f : Hp) : am_call 136 [.ref 50] f =
  am_ald f 56 200 (f 50 18) fun x1 =>
  am_cal (am_call 135 [.ref 50, .int 44] (am_up f 50 18 ((f 50 18) + 1))) fun x2 g2 =>
  if ((am_up g2 50 19 x2) 50 19) = (-4) then
    am_run 136 51 [.ref 50, .int x1] [.int (-4), .ref 50] (am_up g2 50 19 x2)
  else
    am_cal (am_call 135 [.ref 50, .int 59] (am_up g2 50 19 x2)) fun x3 g3 =>
    am_run 136 51 [.ref 50, .int x1] [.int x3, .ref 50] g3
  := (am_ex_eq 136 26 0 _ [] f).trans rfl

theorem eX9_item_51_50_s2_50 (f : Hp) (a1 : Int32) (s0 : Int32) : am_run 136 51 [.ref 50, .int a1] [.int s0, .ref 50] f =
  if ((am_up f 50 20 s0) 50 20) = (-4) then
    am_z 0 (some (0, (am_up f 50 20 s0)))
  else
    if a1 = 109 then
      am_cal (am_call 116 [.long (((am_up f 50 20 s0) 50 19).toInt64), .long 1, .long 9999] (am_up f 50 20 s0)) fun x1 g1 =>
      if x1 = 0 then
        am_z 0 (some (0, g1))
      else
        am_cal (am_call 119 [.int (g1 50 20)] g1) fun x2 g2 =>
        if x2 = 0 then
          am_z 0 (some (0, g2))
        else
          am_z 1 (some (1, g2))
    else
      if a1 = 110 then
        am_cal (am_call 116 [.long (((am_up f 50 20 s0) 50 19).toInt64), .long 0, .long 5] (am_up f 50 20 s0)) fun x3 g3 =>
        if x3 = 0 then
          am_z 0 (some (0, g3))
        else
          am_cal (am_call 116 [.long ((g3 50 20).toInt64), .long 0, .long 5] g3) fun x4 g4 =>
          if x4 = 0 then
            am_z 0 (some (0, g4))
          else
            am_z 1 (some (1, g4))
      else
        if a1 = 111 then
          am_cal (am_call 116 [.long (((am_up f 50 20 s0) 50 19).toInt64), .long 0, .long 9999] (am_up f 50 20 s0)) fun x5 g5 =>
          if x5 = 0 then
            am_z 0 (some (0, g5))
          else
            am_cal (am_call 119 [.int (g5 50 20)] g5) fun x6 g6 =>
            if x6 = 0 then
              am_z 0 (some (0, g6))
            else
              am_z 1 (some (1, g6))
        else
          if a1 = 112 then
            am_z 0 (some (0, (am_up f 50 20 s0)))
          else
            if a1 = 113 then
              am_z 0 (some (0, (am_up f 50 20 s0)))
            else
              if a1 = 114 then
                am_z 0 (some (0, (am_up f 50 20 s0)))
              else
                if a1 = 115 then
                  am_cal (am_call 116 [.long (((am_up f 50 20 s0) 50 19).toInt64), .long 0, .long 8] (am_up f 50 20 s0)) fun x7 g7 =>
                  if x7 = 0 then
                    am_z 0 (some (0, g7))
                  else
                    am_cal (am_call 116 [.long ((g7 50 20).toInt64), .long 0, .long 8] g7) fun x8 g8 =>
                    if x8 = 0 then
                      am_z 0 (some (0, g8))
                    else
                      if (g8 50 19) = (g8 50 20) then
                        am_z 0 (some (0, g8))
                      else
                        am_z 1 (some (1, g8))
                else
                  if a1 = 116 then
                    am_z 0 (some (0, (am_up f 50 20 s0)))
                  else
                    if a1 = 117 then
                      am_cal (am_call 116 [.long (((am_up f 50 20 s0) 50 19).toInt64), .long 0, .long 8] (am_up f 50 20 s0)) fun x9 g9 =>
                      if x9 = 0 then
                        am_z 0 (some (0, g9))
                      else
                        am_cal (am_call 116 [.long ((g9 50 20).toInt64), .long 0, .long 8] g9) fun x10 g10 =>
                        if x10 = 0 then
                          am_z 0 (some (0, g10))
                        else
                          if (g10 50 19) = (g10 50 20) then
                            am_z 0 (some (0, g10))
                          else
                            am_z 1 (some (1, g10))
                    else
                      if a1 = 118 then
                        am_z 0 (some (0, (am_up f 50 20 s0)))
                      else
                        if a1 = 119 then
                          am_z 0 (some (0, (am_up f 50 20 s0)))
                        else
                          if a1 = 120 then
                            am_z 0 (some (0, (am_up f 50 20 s0)))
                          else
                            if a1 = 121 then
                              am_cal (am_call 116 [.long (((am_up f 50 20 s0) 50 19).toInt64), .long 0, .long 40] (am_up f 50 20 s0)) fun x11 g11 =>
                              if x11 = 0 then
                                am_z 0 (some (0, g11))
                              else
                                am_cal (am_call 119 [.int (g11 50 20)] g11) fun x12 g12 =>
                                if x12 = 0 then
                                  am_z 0 (some (0, g12))
                                else
                                  am_z 1 (some (1, g12))
                            else
                              am_z 0 (some (0, (am_up f 50 20 s0)))
  := (am_ex_eq 136 29 51 _ _ f).trans rfl

theorem eX9_readAll_50 (f : Hp) : am_call 137 [.ref 50] f =
  am_ast f 57 2 0 0 fun g1 =>
  am_run 137 12 [.ref 50, .null, .null] [] (am_up g1 50 18 0)
  := (am_ex_eq 137 9 0 _ [] f).trans rfl

theorem eX9_readAll_12_50 (f : Hp) : am_run 137 12 [.ref 50, .null, .null] [] f =
  if (f 50 18) < (f 50 6) then
    am_cal (am_call 136 [.ref 50] f) fun x1 g1 =>
    if x1 = 0 then
      some (f 50 18, g1)
    else
      am_ald g1 57 2 0 fun x2 =>
      am_ald g1 56 200 (f 50 18) fun x3 =>
      am_ast g1 58 300 (3 * x2) x3 fun g4 =>
      am_ast g4 58 300 ((3 * x2) + 1) (g4 50 19) fun g5 =>
      am_ast g5 58 300 ((3 * x2) + 2) (g5 50 20) fun g6 =>
      am_ald g6 57 2 0 fun x7 =>
      am_ast g6 57 2 0 (x7 + 1) fun g8 =>
      am_run 137 12 [.ref 50, .null, .null] [] g8
  else
    some ((-4), f)
  := (am_ex_eq 137 52 12 _ _ f).trans rfl

theorem eX9_fault_50 (f : Hp) : am_call 138 [.ref 50] f =
  am_cal (am_call 137 [.ref 50] f) fun x1 g1 =>
  some (x1, g1)
  := (am_ex_eq 138 3 0 _ [] f).trans rfl

theorem eX9_force_50 (f : Hp) : am_call 139 [.ref 50] f =
  am_cal (am_call 137 [.ref 50] f) fun x1 g1 =>
  if x1 = (-4) then
    am_ald g1 57 2 0 fun x2 =>
    am_ast g1 57 2 1 x2 fun g3 =>
    am_run 139 26 [.ref 50, .int 0] [] g3
  else
    some ((-2), g1)
  := (am_ex_eq 139 15 0 _ [] f).trans rfl

theorem eX9_force_26_50 (f : Hp) (a1 : Int32) : am_run 139 26 [.ref 50, .int a1] [] f =
  if a1 < 150 then
    am_ald f 58 300 a1 fun x1 =>
    am_ast f 58 300 (150 + a1) x1 fun g2 =>
    am_run 139 26 [.ref 50, .int (a1 + 1)] [] g2
  else
    am_ald f 57 2 1 fun x3 =>
    some (x3, f)
  := (am_ex_eq 139 16 26 _ _ f).trans rfl

theorem eX9_letterOf (f : Hp) (a0 : Int32) : am_call 140 [.int a0] f =
  if a0 = 0 then
    some (109, f)
  else
    if a0 = 1 then
      some (121, f)
    else
      some (111, f)
  := (am_ex_eq 140 8 0 _ [] f).trans rfl

theorem eX9_whyOf_50 (f : Hp) (a1 : Int32) (a2 : Int32) : am_call 141 [.ref 50, .int a1, .int a2] f =
  am_run 141 6 [.ref 50, .int a1, .int a2, .int (-4), .int 0] [] f
  := (am_ex_eq 141 5 0 _ [] f).trans rfl

theorem eX9_whyOf_6_50 (f : Hp) (a1 : Int32) (a2 : Int32) (a3 : Int32) (a4 : Int32) : am_run 141 6 [.ref 50, .int a1, .int a2, .int a3, .int a4] [] f =
  am_ald f 57 2 1 fun x1 =>
  if a4 < x1 then
    am_ald f 58 300 (150 + (3 * a4)) fun x2 =>
    am_cal (am_call 140 [.int a1] f) fun x3 g3 =>
    if x2 = x3 then
      am_ald g3 58 300 (152 + (3 * a4)) fun x4 =>
      if a2 < x4 then
        am_run 141 6 [.ref 50, .int a1, .int a2, .int a3, .int (a4 + 1)] [] g3
      else
        am_run 141 6 [.ref 50, .int a1, .int a2, .int a4, .int (a4 + 1)] [] g3
    else
      am_run 141 6 [.ref 50, .int a1, .int a2, .int a3, .int (a4 + 1)] [] g3
  else
    some (a3, f)
  := (am_ex_eq 141 33 6 _ _ f).trans rfl

theorem eX9_ruleOf_50 (f : Hp) (a1 : Int32) (a2 : Int32) : am_call 142 [.ref 50, .int a1, .int a2] f =
  am_cal (am_call 141 [.ref 50, .int a1, .int a2] f) fun x1 g1 =>
  if x1 = (-4) then
    if a1 = 0 then
      some (100, g1)
    else
      some (0, g1)
  else
    am_ald g1 58 300 (151 + (3 * x1)) fun x2 =>
    some (x2, g1)
  := (am_ex_eq 142 17 0 _ [] f).trans rfl

theorem eX9_rule_50 (f : Hp) (a1 : Int32) (a2 : Int32) : am_call 143 [.ref 50, .int a1, .int a2] f =
  am_cal (am_call 116 [.long a1.toInt64, .long 0, .long 2] f) fun x1 g1 =>
  if x1 = 0 then
    some ((-1), g1)
  else
    am_cal (am_call 119 [.int a2] g1) fun x2 g2 =>
    if x2 = 0 then
      some ((-1), g2)
    else
      am_cal (am_call 142 [.ref 50, .int a1, .int a2] g2) fun x3 g3 =>
      some (x3, g3)
  := (am_ex_eq 143 15 0 _ [] f).trans rfl

theorem eX9_why_50 (f : Hp) (a1 : Int32) (a2 : Int32) : am_call 144 [.ref 50, .int a1, .int a2] f =
  am_cal (am_call 116 [.long a1.toInt64, .long 0, .long 2] f) fun x1 g1 =>
  if x1 = 0 then
    some ((-1), g1)
  else
    am_cal (am_call 119 [.int a2] g1) fun x2 g2 =>
    if x2 = 0 then
      some ((-1), g2)
    else
      am_cal (am_call 141 [.ref 50, .int a1, .int a2] g2) fun x3 g3 =>
      some (x3, g3)
  := (am_ex_eq 144 15 0 _ [] f).trans rfl

theorem eX9_quarrels_50 (f : Hp) (a1 : Int32) (a2 : Int32) : am_call 145 [.ref 50, .int a1, .int a2] f =
  am_ald f 58 300 (150 + (3 * a1)) fun x1 =>
  am_ald f 58 300 (150 + (3 * a2)) fun x2 =>
  am_ald f 58 300 (151 + (3 * a1)) fun x3 =>
  am_ald f 58 300 (152 + (3 * a1)) fun x4 =>
  am_ald f 58 300 (151 + (3 * a2)) fun x5 =>
  am_ald f 58 300 (152 + (3 * a2)) fun x6 =>
  if x1 = x2 then
    if x1 = 109 then
      if x4 = x6 then
        if x3 = x5 then
          am_z 0 (some (0, f))
        else
          am_z 1 (some (1, f))
      else
        am_z 0 (some (0, f))
    else
      if x1 = 121 then
        if x4 = x6 then
          if x3 = x5 then
            am_z 0 (some (0, f))
          else
            am_z 1 (some (1, f))
        else
          am_z 0 (some (0, f))
      else
        if x1 = 111 then
          if x4 = x6 then
            if x3 = x5 then
              am_z 0 (some (0, f))
            else
              am_z 1 (some (1, f))
          else
            am_z 0 (some (0, f))
        else
          am_z 0 (some (0, f))
  else
    if x1 = 115 then
      if x2 = 117 then
        am_run 145 153 [.null, .null, .null, .null, .null, .int x3, .int x4, .int x5, .int x6] [] f
      else
        if x1 = 117 then
          if x2 = 115 then
            am_run 145 153 [.null, .null, .null, .null, .null, .int x3, .int x4, .int x5, .int x6] [] f
          else
            am_z 0 (some (0, f))
        else
          am_z 0 (some (0, f))
    else
      if x1 = 117 then
        if x2 = 115 then
          am_run 145 153 [.null, .null, .null, .null, .null, .int x3, .int x4, .int x5, .int x6] [] f
        else
          am_z 0 (some (0, f))
      else
        am_z 0 (some (0, f))
  := (am_ex_eq 145 75 0 _ [] f).trans rfl

theorem eX9_quarrels_153 (f : Hp) (a5 : Int32) (a6 : Int32) (a7 : Int32) (a8 : Int32) : am_run 145 153 [.null, .null, .null, .null, .null, .int a5, .int a6, .int a7, .int a8] [] f =
  if a5 = a7 then
    if a6 = a8 then
      am_z 1 (some (1, f))
    else
      if a5 = a8 then
        if a6 = a7 then
          am_z 1 (some (1, f))
        else
          am_z 0 (some (0, f))
      else
        am_z 0 (some (0, f))
  else
    if a5 = a8 then
      if a6 = a7 then
        am_z 1 (some (1, f))
      else
        am_z 0 (some (0, f))
    else
      am_z 0 (some (0, f))
  := (am_ex_eq 145 15 153 _ _ f).trans rfl

theorem eX9_quarrel_50 (f : Hp) : am_call 146 [.ref 50] f =
  am_run 146 2 [.ref 50, .int 0, .null] [] f
  := (am_ex_eq 146 3 0 _ [] f).trans rfl

theorem eX9_quarrel_2_50 (f : Hp) (a1 : Int32) : am_run 146 2 [.ref 50, .int a1, .null] [] f =
  am_ald f 57 2 1 fun x1 =>
  if a1 < x1 then
    am_run 146 16 [.ref 50, .int a1, .int (a1 + 1)] [] f
  else
    some ((-4), f)
  := (am_ex_eq 146 11 2 _ _ f).trans rfl

theorem eX9_quarrel_16_50 (f : Hp) (a1 : Int32) (a2 : Int32) : am_run 146 16 [.ref 50, .int a1, .int a2] [] f =
  am_ald f 57 2 1 fun x1 =>
  if a2 < x1 then
    am_cal (am_call 145 [.ref 50, .int a1, .int a2] f) fun x2 g2 =>
    if x2 = 0 then
      am_run 146 16 [.ref 50, .int a1, .int (a2 + 1)] [] g2
    else
      some ((100 * a1) + a2, g2)
  else
    am_run 146 2 [.ref 50, .int (a1 + 1), .null] [] f
  := (am_ex_eq 146 17 16 _ _ f).trans rfl

theorem eX9_isRight_50 (f : Hp) (a1 : Int32) (a2 : Int32) : am_call 147 [.ref 50, .int a1, .int a2] f =
  am_cal (am_call 130 [.ref 50, .int a1] f) fun x1 g1 =>
  if x1 = (-4) then
    am_run 147 45 [.ref 50, .int a1, .null, .int 0, .int 0, .null, .null, .null] [] g1
  else
    am_cal (am_call 142 [.ref 50, .int 1, .int a2] g1) fun x2 g2 =>
    am_cal (am_call 128 [.ref 50, .int a1, .int (a2 + (365 * x2))] g2) fun x3 g3 =>
    am_cal (am_call 142 [.ref 50, .int 0, .int a2] g3) fun x4 g4 =>
    if x4 < x3 then
      am_run 147 45 [.ref 50, .int a1, .null, .int 0, .int 0, .null, .null, .null] [] g4
    else
      am_run 147 45 [.ref 50, .int a1, .null, .int 1, .int 0, .null, .null, .null] [] g4
  := (am_ex_eq 147 27 0 _ [] f).trans rfl

theorem eX9_isRight_45_50 (f : Hp) (a1 : Int32) (a3 : Int32) (a4 : Int32) : am_run 147 45 [.ref 50, .int a1, .null, .int a3, .int a4, .null, .null, .null] [] f =
  am_ald f 57 2 1 fun x1 =>
  if a4 < x1 then
    if a3 = 0 then
      am_z a3 (some (a3, f))
    else
      am_ald f 58 300 (150 + (3 * a4)) fun x2 =>
      am_ald f 58 300 (151 + (3 * a4)) fun x3 =>
      am_cal (am_call 117 [.int a1, .int x3] f) fun x4 g4 =>
      am_ald g4 58 300 (152 + (3 * a4)) fun x5 =>
      am_cal (am_call 117 [.int a1, .int x5] g4) fun x6 g6 =>
      if x2 = 115 then
        if x4 = 0 then
          am_run 147 45 [.ref 50, .int a1, .null, .int 1, .int (a4 + 1), .null, .null, .null] [] g6
        else
          if x6 = 0 then
            am_run 147 45 [.ref 50, .int a1, .null, .int 1, .int (a4 + 1), .null, .null, .null] [] g6
          else
            am_run 147 45 [.ref 50, .int a1, .null, .int 0, .int (a4 + 1), .null, .null, .null] [] g6
      else
        if x2 = 117 then
          if x4 = x6 then
            am_run 147 45 [.ref 50, .int a1, .null, .int 1, .int (a4 + 1), .null, .null, .null] [] g6
          else
            am_run 147 45 [.ref 50, .int a1, .null, .int 0, .int (a4 + 1), .null, .null, .null] [] g6
        else
          am_run 147 45 [.ref 50, .int a1, .null, .int 1, .int (a4 + 1), .null, .null, .null] [] g6
  else
    am_z a3 (some (a3, f))
  := (am_ex_eq 147 54 45 _ _ f).trans rfl

theorem eX9_right_50 (f : Hp) (a1 : Int32) (a2 : Int32) : am_call 148 [.ref 50, .int a1, .int a2] f =
  am_cal (am_call 122 [.ref 50, .int a1] f) fun x1 g1 =>
  if x1 = 0 then
    some ((-1), g1)
  else
    am_cal (am_call 119 [.int a2] g1) fun x2 g2 =>
    if x2 = 0 then
      some ((-1), g2)
    else
      am_cal (am_call 129 [.ref 50] g2) fun _ g3 =>
      am_cal (am_call 147 [.ref 50, .int a1, .int a2] g3) fun x4 g4 =>
      if x4 = 0 then
        some (0, g4)
      else
        some (1, g4)
  := (am_ex_eq 148 17 0 _ [] f).trans rfl

theorem eX9_layShapes_50 (f : Hp) (a1 : Int32) : am_call 149 [.ref 50, .int a1] f =
  am_cal (am_call 129 [.ref 50] f) fun _ g1 =>
  am_ast g1 67 512 0 0 fun g2 =>
  am_ast g2 68 512 0 0 fun g3 =>
  am_run 149 20 [.ref 50, .int a1, .int 1, .null, .null, .null, .null, .null] [] g3
  := (am_ex_eq 149 15 0 _ [] f).trans rfl

theorem eX9_layShapes_20_50 (f : Hp) (a1 : Int32) (a2 : Int32) : am_run 149 20 [.ref 50, .int a1, .int a2, .null, .null, .null, .null, .null] [] f =
  am_cal (am_call 121 [.ref 50] f) fun x1 g1 =>
  if x1 < a2 then
    am_run 149 48 [.ref 50, .null, .int 1, .null, .null, .null, .null, .null] [] g1
  else
    am_cal (am_call 147 [.ref 50, .int a2, .int a1] g1) fun x2 g2 =>
    am_ast g2 66 512 a2 (x2 &&& 1) fun g3 =>
    am_run 149 20 [.ref 50, .int a1, .int (a2 + 1), .null, .null, .null, .null, .null] [] g3
  := (am_ex_eq 149 15 20 _ _ f).trans rfl

theorem eX9_layShapes_48_50 (f : Hp) (a2 : Int32) : am_run 149 48 [.ref 50, .null, .int a2, .null, .null, .null, .null, .null] [] f =
  am_cal (am_call 121 [.ref 50] f) fun x1 g1 =>
  if x1 < a2 then
    if ((am_up g1 50 25 0) 50 0) = 0 then
      am_z 0 (some (0, (am_up g1 50 25 0)))
    else
      am_cal (am_call 121 [.ref 50] (am_up g1 50 25 0)) fun x2 g2 =>
      am_ald g2 67 512 x2 fun x3 =>
      if x3 = 100 then
        am_z 0 (some (0, g2))
      else
        am_cal (am_call 121 [.ref 50] g2) fun x4 g4 =>
        am_run 149 255 [.ref 50, .null, .int x4, .null, .null, .null, .null, .null] [] g4
  else
    am_ast g1 67 512 a2 100 fun g5 =>
    am_ast g5 68 512 a2 0 fun g6 =>
    am_run 149 79 [.ref 50, .null, .int a2, .int (a2 &&& (-a2)), .int 1, .null, .null, .null] [] g6
  := (am_ex_eq 149 22 48 _ _ f).trans rfl

theorem eX9_layShapes_79_50 (f : Hp) (a2 : Int32) (a3 : Int32) (a4 : Int32) : am_run 149 79 [.ref 50, .null, .int a2, .int a3, .int a4, .null, .null, .null] [] f =
  if a2 < a4 then
    am_run 149 48 [.ref 50, .null, .int (a2 + 1), .null, .null, .null, .null, .null] [] f
  else
    if (a4 &&& (a2 ^^^ (-1))) = 0 then
      if (a4 &&& a3) = 0 then
        am_run 149 79 [.ref 50, .null, .int a2, .int a3, .int (a4 + 1), .null, .null, .null] [] f
      else
        am_ald f 66 512 a4 fun x1 =>
        if x1 = 0 then
          am_run 149 79 [.ref 50, .null, .int a2, .int a3, .int (a4 + 1), .null, .null, .null] [] f
        else
          am_ald f 67 512 (a2 &&& (a4 ^^^ (-1))) fun x2 =>
          am_cal (am_call 130 [.ref 50, .int a4] f) fun x3 g3 =>
          am_ald g3 68 512 (a2 &&& (a4 ^^^ (-1))) fun x4 =>
          if (1 + x2) < 100 then
            am_ald g3 67 512 a2 fun x5 =>
            if (1 + x2) < x5 then
              am_ast g3 67 512 a2 (1 + x2) fun g6 =>
              am_ast g6 68 512 a2 (x3 + x4) fun g7 =>
              am_ast g7 69 512 a2 a4 fun g8 =>
              am_run 149 79 [.ref 50, .null, .int a2, .int a3, .int (a4 + 1), .null, .null, .null] [] g8
            else
              am_ald g3 67 512 a2 fun x9 =>
              if (1 + x2) = x9 then
                am_ald g3 68 512 a2 fun x10 =>
                if (x3 + x4) < x10 then
                  am_ast g3 67 512 a2 (1 + x2) fun g11 =>
                  am_ast g11 68 512 a2 (x3 + x4) fun g12 =>
                  am_ast g12 69 512 a2 a4 fun g13 =>
                  am_run 149 79 [.ref 50, .null, .int a2, .int a3, .int (a4 + 1), .null, .null, .null] [] g13
                else
                  am_run 149 79 [.ref 50, .null, .int a2, .int a3, .int (a4 + 1), .null, .null, .null] [] g3
              else
                am_run 149 79 [.ref 50, .null, .int a2, .int a3, .int (a4 + 1), .null, .null, .null] [] g3
          else
            am_run 149 79 [.ref 50, .null, .int a2, .int a3, .int (a4 + 1), .null, .null, .null] [] g3
    else
      am_run 149 79 [.ref 50, .null, .int a2, .int a3, .int (a4 + 1), .null, .null, .null] [] f
  := (am_ex_eq 149 79 79 _ _ f).trans rfl

theorem eX9_layShapes_255_50 (f : Hp) (a2 : Int32) : am_run 149 255 [.ref 50, .null, .int a2, .null, .null, .null, .null, .null] [] f =
  if a2 = 0 then
    am_z 1 (some (1, f))
  else
    am_ald f 69 512 a2 fun x1 =>
    am_ast f 70 9 (f 50 25) x1 fun g2 =>
    am_ald g2 69 512 a2 fun x3 =>
    am_run 149 255 [.ref 50, .null, .int (a2 &&& (x3 ^^^ (-1))), .null, .null, .null, .null, .null] [] (am_up g2 50 25 ((g2 50 25) + 1))
  := (am_ex_eq 149 28 255 _ _ f).trans rfl

theorem eX9_bar_50 (f : Hp) : am_call 150 [.ref 50] f =
  am_run 150 2 [.ref 50, .int 0, .null, .null] [] f
  := (am_ex_eq 150 3 0 _ [] f).trans rfl

theorem eX9_bar_2_50 (f : Hp) (a1 : Int32) : am_run 150 2 [.ref 50, .int a1, .null, .null] [] f =
  if a1 < (f 50 0) then
    am_run 150 14 [.ref 50, .int a1, .int 0, .int 1] [] f
  else
    some ((-4), f)
  := (am_ex_eq 150 9 2 _ _ f).trans rfl

theorem eX9_bar_14_50 (f : Hp) (a1 : Int32) (a2 : Int32) (a3 : Int32) : am_run 150 14 [.ref 50, .int a1, .int a2, .int a3] [] f =
  am_cal (am_call 121 [.ref 50] f) fun x1 g1 =>
  if x1 < a3 then
    if a2 = 0 then
      some (a1, g1)
    else
      am_run 150 2 [.ref 50, .int (a1 + 1), .null, .null] [] g1
  else
    if a2 = 0 then
      am_cal (am_call 117 [.int a3, .int a1] g1) fun x2 g2 =>
      if x2 = 0 then
        am_run 150 14 [.ref 50, .int a1, .int 0, .int (a3 + 1)] [] g2
      else
        am_ald g2 66 512 a3 fun x3 =>
        if x3 = 0 then
          am_run 150 14 [.ref 50, .int a1, .int 0, .int (a3 + 1)] [] g2
        else
          am_run 150 14 [.ref 50, .int a1, .int 1, .int (a3 + 1)] [] g2
    else
      am_run 150 14 [.ref 50, .int a1, .int 1, .int (a3 + 1)] [] g1
  := (am_ex_eq 150 21 14 _ _ f).trans rfl

theorem eX9_shaped_50 (f : Hp) (a1 : Int32) (a2 : Int32) : am_call 151 [.ref 50, .int a1, .int a2] f =
  am_cal (am_call 119 [.int a1] f) fun x1 g1 =>
  if x1 = 0 then
    some ((-1), g1)
  else
    if a2 < (-3) then
      some ((-1), g1)
    else
      am_cal (am_call 149 [.ref 50, .int a1] g1) fun x2 g2 =>
      if a2 = (-3) then
        am_cal (am_call 150 [.ref 50] g2) fun x3 g3 =>
        some (x3, g3)
      else
        if x2 = 0 then
          some ((-4), g2)
        else
          if a2 = (-1) then
            some (g2 50 25, g2)
          else
            if a2 = (-2) then
              am_cal (am_call 121 [.ref 50] g2) fun x4 g4 =>
              am_ald g4 68 512 x4 fun x5 =>
              some (x5, g4)
            else
              if a2 < (g2 50 25) then
                am_ald g2 70 9 a2 fun x6 =>
                some (x6, g2)
              else
                some ((-4), g2)
  := (am_ex_eq 151 31 0 _ [] f).trans rfl

theorem eX9_missed_50 (f : Hp) (a1 : Int32) : am_call 152 [.ref 50, .int a1] f =
  am_run 152 4 [.ref 50, .int a1, .int 0, .int 0] [] f
  := (am_ex_eq 152 5 0 _ [] f).trans rfl

theorem eX9_missed_4_50 (f : Hp) (a1 : Int32) (a2 : Int32) (a3 : Int32) : am_run 152 4 [.ref 50, .int a1, .int a2, .int a3] [] f =
  if a3 < 6 then
    am_ald f 59 36 ((6 * a1) + a3) fun x1 =>
    am_run 152 4 [.ref 50, .int a1, .int (a2 + x1), .int (a3 + 1)] [] f
  else
    some (a2, f)
  := (am_ex_eq 152 17 4 _ _ f).trans rfl

theorem eX9_misread_50 (f : Hp) (a1 : Int32) (a2 : Int32) (a3 : Int32) : am_call 153 [.ref 50, .int a1, .int a2, .int a3] f =
  am_cal (am_call 116 [.long a1.toInt64, .long 0, .long 5] f) fun x1 g1 =>
  if x1 = 0 then
    some ((-1), g1)
  else
    am_cal (am_call 116 [.long a2.toInt64, .long 0, .long 5] g1) fun x2 g2 =>
    if x2 = 0 then
      some ((-1), g2)
    else
      if a1 = a2 then
        some ((-1), g2)
      else
        am_cal (am_call 116 [.long a3.toInt64, .long 0, .long 99] g2) fun x3 g3 =>
        if x3 = 0 then
          some ((-1), g3)
        else
          am_cal (am_call 152 [.ref 50, .int a1] g3) fun x4 g4 =>
          am_ald g4 59 36 ((6 * a1) + a2) fun x5 =>
          if 100 < ((x4 - x5) + a3) then
            some ((-2), g4)
          else
            am_ald g4 59 36 ((6 * a1) + a2) fun x6 =>
            am_ast g4 59 36 ((6 * a1) + a2) a3 fun g7 =>
            some (x6, g7)
  := (am_ex_eq 153 57 0 _ [] f).trans rfl

theorem eX9_readLetter_50 (f : Hp) (a1 : Int32) (a2 : Int32) : am_call 154 [.ref 50, .int a1, .int a2] f =
  if a1 = a2 then
    am_cal (am_call 152 [.ref 50, .int a1] f) fun x1 g1 =>
    some (100 - x1, g1)
  else
    am_ald f 59 36 ((6 * a1) + a2) fun x2 =>
    some (x2, f)
  := (am_ex_eq 154 12 0 _ [] f).trans rfl

theorem eX9_readAs_50 (f : Hp) (a1 : Int32) (a2 : Int32) : am_call 155 [.ref 50, .int a1, .int a2] f =
  am_dv 6 (
    am_dv 6 (
      am_cal (am_call 154 [.ref 50, .int (a1 / 6), .int (a2 / 6)] f) fun x1 g1 =>
      am_dv 6 (
        am_dv 6 (
          am_cal (am_call 154 [.ref 50, .int (a1 - a1 / 6 * 6), .int (a2 - a2 / 6 * 6)] g1) fun x2 g2 =>
          some (x1 * x2, g2)))))
  := (am_ex_eq 155 18 0 _ [] f).trans rfl

theorem eX9_isWord (f : Hp) (a0 : Int32) : am_call 156 [.int a0] f =
  am_cal (am_call 116 [.long a0.toInt64, .long 0, .long 35] f) fun x1 g1 =>
  am_z x1 (some (x1, g1))
  := (am_ex_eq 156 6 0 _ [] f).trans rfl

theorem eX9_read_50 (f : Hp) (a1 : Int32) (a2 : Int32) : am_call 157 [.ref 50, .int a1, .int a2] f =
  am_cal (am_call 156 [.int a1] f) fun x1 g1 =>
  if x1 = 0 then
    some ((-1), g1)
  else
    am_cal (am_call 156 [.int a2] g1) fun x2 g2 =>
    if x2 = 0 then
      some ((-1), g2)
    else
      am_cal (am_call 155 [.ref 50, .int a1, .int a2] g2) fun x3 g3 =>
      some (x3, g3)
  := (am_ex_eq 157 12 0 _ [] f).trans rfl

theorem eX9_mayStand_50 (f : Hp) (a1 : Int32) : am_call 158 [.ref 50, .int a1] f =
  am_dv 6 (
    am_dv 6 (
      am_run 158 16 [.ref 50, .null, .int (a1 / 6), .int (a1 - a1 / 6 * 6), .int 1, .int 0, .null, .null, .null] [] f))
  := (am_ex_eq 158 13 0 _ [] f).trans rfl

theorem eX9_mayStand_16_50 (f : Hp) (a2 : Int32) (a3 : Int32) (a4 : Int32) (a5 : Int32) : am_run 158 16 [.ref 50, .null, .int a2, .int a3, .int a4, .int a5, .null, .null, .null] [] f =
  am_ald f 57 2 1 fun x1 =>
  if a5 < x1 then
    am_ald f 58 300 (150 + (3 * a5)) fun x2 =>
    if x2 = 110 then
      am_run 158 50 [.ref 50, .null, .int a2, .int a3, .int a4, .int a5, .null, .null, .null] [.int 1] f
    else
      am_run 158 50 [.ref 50, .null, .int a2, .int a3, .int a4, .int a5, .null, .null, .null] [.int 0] f
  else
    am_z a4 (some (a4, f))
  := (am_ex_eq 158 19 16 _ _ f).trans rfl

theorem eX9_mayStand_50_50_s1 (f : Hp) (a2 : Int32) (a3 : Int32) (a4 : Int32) (a5 : Int32) (s0 : Int32) : am_run 158 50 [.ref 50, .null, .int a2, .int a3, .int a4, .int a5, .null, .null, .null] [.int s0] f =
  am_ald f 58 300 (151 + (3 * a5)) fun x1 =>
  am_ald f 58 300 (152 + (3 * a5)) fun x2 =>
  if a4 = 0 then
    am_run 158 16 [.ref 50, .null, .int a2, .int a3, .int 0, .int (a5 + 1), .null, .null, .null] [] f
  else
    if s0 = 0 then
      am_run 158 16 [.ref 50, .null, .int a2, .int a3, .int 1, .int (a5 + 1), .null, .null, .null] [] f
    else
      if a2 = x1 then
        if a3 = x2 then
          am_run 158 16 [.ref 50, .null, .int a2, .int a3, .int 0, .int (a5 + 1), .null, .null, .null] [] f
        else
          if a2 = x2 then
            if a3 = x1 then
              am_run 158 16 [.ref 50, .null, .int a2, .int a3, .int 0, .int (a5 + 1), .null, .null, .null] [] f
            else
              am_run 158 16 [.ref 50, .null, .int a2, .int a3, .int 1, .int (a5 + 1), .null, .null, .null] [] f
          else
            am_run 158 16 [.ref 50, .null, .int a2, .int a3, .int 1, .int (a5 + 1), .null, .null, .null] [] f
      else
        if a2 = x2 then
          if a3 = x1 then
            am_run 158 16 [.ref 50, .null, .int a2, .int a3, .int 0, .int (a5 + 1), .null, .null, .null] [] f
          else
            am_run 158 16 [.ref 50, .null, .int a2, .int a3, .int 1, .int (a5 + 1), .null, .null, .null] [] f
        else
          am_run 158 16 [.ref 50, .null, .int a2, .int a3, .int 1, .int (a5 + 1), .null, .null, .null] [] f
  := (am_ex_eq 158 41 50 _ _ f).trans rfl

theorem eX9_areLinked_50 (f : Hp) (a1 : Int32) (a2 : Int32) : am_call 159 [.ref 50, .int a1, .int a2] f =
  am_run 159 5 [.ref 50, .int a1, .int a2, .int 0, .int 0, .null] [] f
  := (am_ex_eq 159 5 0 _ [] f).trans rfl

theorem eX9_areLinked_5_50 (f : Hp) (a1 : Int32) (a2 : Int32) (a3 : Int32) (a4 : Int32) : am_run 159 5 [.ref 50, .int a1, .int a2, .int a3, .int a4, .null] [] f =
  if a4 < (f 50 0) then
    am_run 159 17 [.ref 50, .int a1, .int a2, .int a3, .int a4, .int 0] [] f
  else
    am_z a3 (some (a3, f))
  := (am_ex_eq 159 7 5 _ _ f).trans rfl

theorem eX9_areLinked_17_50 (f : Hp) (a1 : Int32) (a2 : Int32) (a3 : Int32) (a4 : Int32) (a5 : Int32) : am_run 159 17 [.ref 50, .int a1, .int a2, .int a3, .int a4, .int a5] [] f =
  if a5 < (f 50 0) then
    if a3 = 0 then
      am_cal (am_call 117 [.int a1, .int a4] f) fun x1 g1 =>
      if x1 = 0 then
        am_run 159 17 [.ref 50, .int a1, .int a2, .int 0, .int a4, .int (a5 + 1)] [] g1
      else
        am_cal (am_call 117 [.int a2, .int a5] g1) fun x2 g2 =>
        if x2 = 0 then
          am_run 159 17 [.ref 50, .int a1, .int a2, .int 0, .int a4, .int (a5 + 1)] [] g2
        else
          am_ald g2 55 81 ((9 * a4) + a5) fun x3 =>
          if 0 < x3 then
            am_run 159 17 [.ref 50, .int a1, .int a2, .int 1, .int a4, .int (a5 + 1)] [] g2
          else
            am_run 159 17 [.ref 50, .int a1, .int a2, .int 0, .int a4, .int (a5 + 1)] [] g2
    else
      am_run 159 17 [.ref 50, .int a1, .int a2, .int 1, .int a4, .int (a5 + 1)] [] f
  else
    am_run 159 5 [.ref 50, .int a1, .int a2, .int a3, .int (a4 + 1), .null] [] f
  := (am_ex_eq 159 29 17 _ _ f).trans rfl

theorem eX9_layWords_50 (f : Hp) (a1 : Int32) : am_call 160 [.ref 50, .int a1] f =
  am_run 160 10 [.ref 50, .int a1, .int 1, .int 0, .null, .null, .null, .null, .null, .null] [] (am_up f 50 27 (-4))
  := (am_ex_eq 160 8 0 _ [] f).trans rfl

theorem eX9_layWords_10_50 (f : Hp) (a1 : Int32) (a2 : Int32) (a3 : Int32) : am_run 160 10 [.ref 50, .int a1, .int a2, .int a3, .null, .null, .null, .null, .null, .null] [] f =
  if a3 < (f 50 25) then
    am_run 160 10 [.ref 50, .int a1, .int (a2 * (a1 * a1)), .int (a3 + 1), .null, .null, .null, .null, .null, .null] [] f
  else
    am_run 160 32 [.ref 50, .int a1, .int a2, .int 0, .null, .null, .null, .null, .null, .null] [] f
  := (am_ex_eq 160 13 10 _ _ f).trans rfl

theorem eX9_layWords_32_50 (f : Hp) (a1 : Int32) (a2 : Int32) (a3 : Int32) : am_run 160 32 [.ref 50, .int a1, .int a2, .int a3, .null, .null, .null, .null, .null, .null] [] f =
  if a3 < a2 then
    am_run 160 51 [.ref 50, .int a1, .int a2, .int a3, .int a3, .int 1, .int ((f 50 25) - 1), .null, .null, .null] [] f
  else
    if (f 50 27) = (-4) then
      am_z 0 (some (0, f))
    else
      am_z 1 (some (1, f))
  := (am_ex_eq 160 13 32 _ _ f).trans rfl

theorem eX9_layWords_51_50 (f : Hp) (a1 : Int32) (a2 : Int32) (a3 : Int32) (a4 : Int32) (a5 : Int32) (a6 : Int32) : am_run 160 51 [.ref 50, .int a1, .int a2, .int a3, .int a4, .int a5, .int a6, .null, .null, .null] [] f =
  if a6 < 0 then
    am_run 160 179 [.ref 50, .int a1, .int a2, .int a3, .null, .int a5, .int 0, .int 0, .null, .null] [] f
  else
    am_dv (a1 * a1) (
      am_dv (a1 * a1) (
        am_dv a1 (
          am_dv a1 (
            am_ast f 72 4 a6 ((6 * ((a4 - a4 / (a1 * a1) * (a1 * a1)) / a1)) + ((a4 - a4 / (a1 * a1) * (a1 * a1)) - (a4 - a4 / (a1 * a1) * (a1 * a1)) / a1 * a1)) fun g1 =>
            if a5 = 0 then
              am_run 160 123 [.ref 50, .int a1, .int a2, .int a3, .int (a4 / (a1 * a1)), .int 0, .int a6, .null, .int (a6 + 1), .null] [] g1
            else
              am_ald g1 72 4 a6 fun x2 =>
              am_cal (am_call 158 [.ref 50, .int x2] g1) fun x3 g3 =>
              if x3 = 0 then
                am_run 160 123 [.ref 50, .int a1, .int a2, .int a3, .int (a4 / (a1 * a1)), .int 0, .int a6, .null, .int (a6 + 1), .null] [] g3
              else
                am_run 160 123 [.ref 50, .int a1, .int a2, .int a3, .int (a4 / (a1 * a1)), .int 1, .int a6, .null, .int (a6 + 1), .null] [] g3))))
  := (am_ex_eq 160 44 51 _ _ f).trans rfl

theorem eX9_layWords_123_50 (f : Hp) (a1 : Int32) (a2 : Int32) (a3 : Int32) (a4 : Int32) (a5 : Int32) (a6 : Int32) (a8 : Int32) : am_run 160 123 [.ref 50, .int a1, .int a2, .int a3, .int a4, .int a5, .int a6, .null, .int a8, .null] [] f =
  if a8 < (f 50 25) then
    if a5 = 0 then
      am_run 160 123 [.ref 50, .int a1, .int a2, .int a3, .int a4, .int 0, .int a6, .null, .int (a8 + 1), .null] [] f
    else
      am_ald f 72 4 a8 fun x1 =>
      am_ald f 72 4 a6 fun x2 =>
      if x1 = x2 then
        am_run 160 123 [.ref 50, .int a1, .int a2, .int a3, .int a4, .int 0, .int a6, .null, .int (a8 + 1), .null] [] f
      else
        am_run 160 123 [.ref 50, .int a1, .int a2, .int a3, .int a4, .int 1, .int a6, .null, .int (a8 + 1), .null] [] f
  else
    am_run 160 51 [.ref 50, .int a1, .int a2, .int a3, .int a4, .int a5, .int (a6 + (-1)), .null, .null, .null] [] f
  := (am_ex_eq 160 21 123 _ _ f).trans rfl

theorem eX9_layWords_179_50 (f : Hp) (a1 : Int32) (a2 : Int32) (a3 : Int32) (a5 : Int32) (a6 : Int32) (a7 : Int32) : am_run 160 179 [.ref 50, .int a1, .int a2, .int a3, .null, .int a5, .int a6, .int a7, .null, .null] [] f =
  if a7 < (f 50 25) then
    if a5 = 0 then
      if a5 = 0 then
        am_run 160 32 [.ref 50, .int a1, .int a2, .int (a3 + 1), .null, .null, .null, .null, .null, .null] [] f
      else
        if (f 50 27) = (-4) then
          am_run 160 321 [.ref 50, .int a1, .int a2, .int a3, .null, .null, .null, .int 0, .null, .null] [] (am_up f 50 27 a6)
        else
          if a6 < (f 50 27) then
            am_run 160 321 [.ref 50, .int a1, .int a2, .int a3, .null, .null, .null, .int 0, .null, .null] [] (am_up f 50 27 a6)
          else
            am_run 160 32 [.ref 50, .int a1, .int a2, .int (a3 + 1), .null, .null, .null, .null, .null, .null] [] f
    else
      am_run 160 196 [.ref 50, .int a1, .int a2, .int a3, .null, .int a5, .int a6, .int a7, .int 0, .null] [] f
  else
    if a5 = 0 then
      am_run 160 32 [.ref 50, .int a1, .int a2, .int (a3 + 1), .null, .null, .null, .null, .null, .null] [] f
    else
      if (f 50 27) = (-4) then
        am_run 160 321 [.ref 50, .int a1, .int a2, .int a3, .null, .null, .null, .int 0, .null, .null] [] (am_up f 50 27 a6)
      else
        if a6 < (f 50 27) then
          am_run 160 321 [.ref 50, .int a1, .int a2, .int a3, .null, .null, .null, .int 0, .null, .null] [] (am_up f 50 27 a6)
        else
          am_run 160 32 [.ref 50, .int a1, .int a2, .int (a3 + 1), .null, .null, .null, .null, .null, .null] [] f
  := (am_ex_eq 160 22 179 _ _ f).trans rfl

theorem eX9_layWords_196_50 (f : Hp) (a1 : Int32) (a2 : Int32) (a3 : Int32) (a5 : Int32) (a6 : Int32) (a7 : Int32) (a8 : Int32) : am_run 160 196 [.ref 50, .int a1, .int a2, .int a3, .null, .int a5, .int a6, .int a7, .int a8, .null] [] f =
  if a8 < a7 then
    am_ald f 72 4 a8 fun x1 =>
    am_ald f 72 4 a7 fun x2 =>
    am_cal (am_call 155 [.ref 50, .int x1, .int x2] f) fun x3 g3 =>
    am_ald g3 72 4 a7 fun x4 =>
    am_ald g3 72 4 a8 fun x5 =>
    am_cal (am_call 155 [.ref 50, .int x4, .int x5] g3) fun x6 g6 =>
    am_ald g6 70 9 a8 fun x7 =>
    am_ald g6 70 9 a7 fun x8 =>
    am_cal (am_call 159 [.ref 50, .int x7, .int x8] g6) fun x9 g9 =>
    if x9 = 0 then
      am_run 160 196 [.ref 50, .int a1, .int a2, .int a3, .null, .int a5, .int (a6 + (x3 + x6)), .int a7, .int (a8 + 1), .null] [] g9
    else
      am_run 160 196 [.ref 50, .int a1, .int a2, .int a3, .null, .int a5, .int (a6 + (3 * (x3 + x6))), .int a7, .int (a8 + 1), .null] [] g9
  else
    am_run 160 179 [.ref 50, .int a1, .int a2, .int a3, .null, .int a5, .int a6, .int (a7 + 1), .null, .null] [] f
  := (am_ex_eq 160 46 196 _ _ f).trans rfl

theorem eX9_layWords_321_50 (f : Hp) (a1 : Int32) (a2 : Int32) (a3 : Int32) (a7 : Int32) : am_run 160 321 [.ref 50, .int a1, .int a2, .int a3, .null, .null, .null, .int a7, .null, .null] [] f =
  if a7 < 4 then
    am_ald f 72 4 a7 fun x1 =>
    am_ast f 71 4 a7 x1 fun g2 =>
    am_run 160 321 [.ref 50, .int a1, .int a2, .int a3, .null, .null, .null, .int (a7 + 1), .null, .null] [] g2
  else
    am_run 160 32 [.ref 50, .int a1, .int a2, .int (a3 + 1), .null, .null, .null, .null, .null, .null] [] f
  := (am_ex_eq 160 14 321 _ _ f).trans rfl

theorem eX9_words_50 (f : Hp) (a1 : Int32) (a2 : Int32) (a3 : Int32) : am_call 161 [.ref 50, .int a1, .int a2, .int a3] f =
  am_cal (am_call 119 [.int a1] f) fun x1 g1 =>
  if x1 = 0 then
    some ((-1), g1)
  else
    am_cal (am_call 116 [.long a2.toInt64, .long 2, .long 4] g1) fun x2 g2 =>
    if x2 = 0 then
      some ((-1), g2)
    else
      if a3 < (-1) then
        some ((-1), g2)
      else
        am_cal (am_call 149 [.ref 50, .int a1] g2) fun x3 g3 =>
        if x3 = 0 then
          some ((-2), g3)
        else
          if 4 < (g3 50 25) then
            some ((-2), g3)
          else
            am_cal (am_call 160 [.ref 50, .int a2] g3) fun x4 g4 =>
            if x4 = 0 then
              some ((-4), g4)
            else
              if a3 < 0 then
                some (g4 50 27, g4)
              else
                if a3 < (g4 50 25) then
                  am_ald g4 71 4 a3 fun x5 =>
                  some (x5, g4)
                else
                  some ((-4), g4)
  := (am_ex_eq 161 36 0 _ [] f).trans rfl

theorem eX9_isAlive_50 (f : Hp) (a1 : Int32) : am_call 162 [.ref 50, .int a1] f =
  am_run 162 4 [.ref 50, .int a1, .int 0, .int 0] [] f
  := (am_ex_eq 162 5 0 _ [] f).trans rfl

theorem eX9_isAlive_4_50 (f : Hp) (a1 : Int32) (a2 : Int32) (a3 : Int32) : am_run 162 4 [.ref 50, .int a1, .int a2, .int a3] [] f =
  if a3 < (f 50 0) then
    if a2 = 0 then
      am_ald f 60 27 a3 fun x1 =>
      if x1 = a1 then
        am_run 162 4 [.ref 50, .int a1, .int 1, .int (a3 + 1)] [] f
      else
        am_run 162 4 [.ref 50, .int a1, .int 0, .int (a3 + 1)] [] f
    else
      am_run 162 4 [.ref 50, .int a1, .int 1, .int (a3 + 1)] [] f
  else
    am_z a2 (some (a2, f))
  := (am_ex_eq 162 18 4 _ _ f).trans rfl

theorem eX9_who_50 (f : Hp) (a1 : Int32) (a2 : Int32) : am_call 163 [.ref 50, .int a1, .int a2] f =
  am_cal (am_call 156 [.int a1] f) fun x1 g1 =>
  if x1 = 0 then
    some ((-1), g1)
  else
    if a2 < (-1) then
      some ((-1), g1)
    else
      am_run 163 19 [.ref 50, .int a1, .int a2, .int 0, .int 0, .null, .null, .null, .null] [] g1
  := (am_ex_eq 163 11 0 _ [] f).trans rfl

theorem eX9_who_19_50 (f : Hp) (a1 : Int32) (a2 : Int32) (a3 : Int32) (a4 : Int32) : am_run 163 19 [.ref 50, .int a1, .int a2, .int a3, .int a4, .null, .null, .null, .null] [] f =
  if a4 < 36 then
    am_cal (am_call 155 [.ref 50, .int a4, .int a1] f) fun x1 g1 =>
    am_cal (am_call 162 [.ref 50, .int a4] g1) fun x2 g2 =>
    if x2 = 0 then
      am_run 163 19 [.ref 50, .int a1, .int a2, .int a3, .int (a4 + 1), .null, .null, .null, .null] [] g2
    else
      if 0 < x1 then
        am_run 163 55 [.ref 50, .int a1, .int a2, .int a3, .int a4, .int x1, .int 0, .int 0, .null] [] g2
      else
        am_run 163 19 [.ref 50, .int a1, .int a2, .int a3, .int (a4 + 1), .null, .null, .null, .null] [] g2
  else
    if a2 < 0 then
      some (a3, f)
    else
      some ((-4), f)
  := (am_ex_eq 163 19 19 _ _ f).trans rfl

theorem eX9_who_55_50 (f : Hp) (a1 : Int32) (a2 : Int32) (a3 : Int32) (a4 : Int32) (a5 : Int32) (a6 : Int32) (a7 : Int32) : am_run 163 55 [.ref 50, .int a1, .int a2, .int a3, .int a4, .int a5, .int a6, .int a7, .null] [] f =
  if a7 < 36 then
    am_cal (am_call 155 [.ref 50, .int a7, .int a1] f) fun x1 g1 =>
    am_cal (am_call 162 [.ref 50, .int a7] g1) fun x2 g2 =>
    if x2 = 0 then
      am_run 163 55 [.ref 50, .int a1, .int a2, .int a3, .int a4, .int a5, .int (a6 + 0), .int (a7 + 1), .null] [] g2
    else
      if a5 < x1 then
        am_run 163 55 [.ref 50, .int a1, .int a2, .int a3, .int a4, .int a5, .int (a6 + 1), .int (a7 + 1), .null] [] g2
      else
        if x1 = a5 then
          if a7 < a4 then
            am_run 163 55 [.ref 50, .int a1, .int a2, .int a3, .int a4, .int a5, .int (a6 + 1), .int (a7 + 1), .null] [] g2
          else
            am_run 163 55 [.ref 50, .int a1, .int a2, .int a3, .int a4, .int a5, .int (a6 + 0), .int (a7 + 1), .null] [] g2
        else
          am_run 163 55 [.ref 50, .int a1, .int a2, .int a3, .int a4, .int a5, .int (a6 + 0), .int (a7 + 1), .null] [] g2
  else
    if a6 = a2 then
      some (a4, f)
    else
      am_run 163 19 [.ref 50, .int a1, .int a2, .int (a3 + 1), .int (a4 + 1), .null, .null, .null, .null] [] f
  := (am_ex_eq 163 29 55 _ _ f).trans rfl

theorem eX9_codeOf_50 (f : Hp) (a1 : Int32) : am_call 164 [.ref 50, .int a1] f =
  am_run 164 4 [.ref 50, .int a1, .int 0, .int 0] [] f
  := (am_ex_eq 164 5 0 _ [] f).trans rfl

theorem eX9_codeOf_4_50 (f : Hp) (a1 : Int32) (a2 : Int32) (a3 : Int32) : am_run 164 4 [.ref 50, .int a1, .int a2, .int a3] [] f =
  if a3 < (f 50 0) then
    am_ald f 60 27 a3 fun x1 =>
    if x1 = a1 then
      am_run 164 4 [.ref 50, .int a1, .int (a2 ||| (1 <<< (a3 &&& 31))), .int (a3 + 1)] [] f
    else
      am_run 164 4 [.ref 50, .int a1, .int (a2 ||| 0), .int (a3 + 1)] [] f
  else
    some (a2, f)
  := (am_ex_eq 164 20 4 _ _ f).trans rfl

theorem eX9_get_50 (f : Hp) (a1 : Int32) (a2 : Int32) (a3 : Int32) : am_call 165 [.ref 50, .int a1, .int a2, .int a3] f =
  am_ald f 60 27 a1 fun x1 =>
  if x1 < 0 then
    am_ast f 60 27 a1 a2 fun g2 =>
    some (0, g2)
  else
    if x1 = a2 then
      am_ast f 60 27 a1 a2 fun g3 =>
      some (0, g3)
    else
      am_cal (am_call 142 [.ref 50, .int 2, .int a3] f) fun x4 g4 =>
      am_ald g4 61 972 ((9 * x1) + a1) fun x5 =>
      if x5 < (a3 + x4) then
        am_ast g4 61 972 ((9 * x1) + a1) (a3 + x4) fun g6 =>
        am_ast g6 60 27 a1 a2 fun g7 =>
        some (0, g7)
      else
        am_ald g4 61 972 ((9 * x1) + a1) fun x8 =>
        am_ast g4 61 972 ((9 * x1) + a1) x8 fun g9 =>
        am_ast g9 60 27 a1 a2 fun g10 =>
        some (0, g10)
  := (am_ex_eq 165 49 0 _ [] f).trans rfl

theorem eX9_give_50 (f : Hp) (a1 : Int32) (a2 : Int32) : am_call 166 [.ref 50, .int a1, .int a2] f =
  am_cal (am_call 119 [.int a1] f) fun x1 g1 =>
  if x1 = 0 then
    some ((-1), g1)
  else
    am_cal (am_call 116 [.long a2.toInt64, .long 2, .long 4] g1) fun x2 g2 =>
    if x2 = 0 then
      some ((-1), g2)
    else
      am_ald g2 62 3 0 fun x3 =>
      if a1 < x3 then
        some ((-2), g2)
      else
        am_cal (am_call 149 [.ref 50, .int a1] g2) fun x4 g4 =>
        if x4 = 0 then
          some ((-2), g4)
        else
          if 4 < (g4 50 25) then
            some ((-2), g4)
          else
            am_cal (am_call 160 [.ref 50, .int a2] g4) fun x5 g5 =>
            if x5 = 0 then
              some ((-3), g5)
            else
              am_run 166 65 [.ref 50, .int a1, .null, .int 0, .null] [] g5
  := (am_ex_eq 166 30 0 _ [] f).trans rfl

theorem eX9_give_65_50 (f : Hp) (a1 : Int32) (a3 : Int32) : am_run 166 65 [.ref 50, .int a1, .null, .int a3, .null] [] f =
  if a3 < (f 50 25) then
    am_run 166 76 [.ref 50, .int a1, .null, .int a3, .int 0] [] f
  else
    am_ast f 62 3 0 a1 fun g1 =>
    some (g1 50 25, g1)
  := (am_ex_eq 166 12 65 _ _ f).trans rfl

theorem eX9_give_76_50 (f : Hp) (a1 : Int32) (a3 : Int32) (a4 : Int32) : am_run 166 76 [.ref 50, .int a1, .null, .int a3, .int a4] [] f =
  if a4 < (f 50 0) then
    am_ald f 70 9 a3 fun x1 =>
    am_cal (am_call 117 [.int x1, .int a4] f) fun x2 g2 =>
    if x2 = 0 then
      am_run 166 76 [.ref 50, .int a1, .null, .int a3, .int (a4 + 1)] [] g2
    else
      am_ald g2 71 4 a3 fun x3 =>
      am_cal (am_call 165 [.ref 50, .int a4, .int x3, .int a1] g2) fun _ g4 =>
      am_run 166 76 [.ref 50, .int a1, .null, .int a3, .int (a4 + 1)] [] g4
  else
    am_run 166 65 [.ref 50, .int a1, .null, .int (a3 + 1), .null] [] f
  := (am_ex_eq 166 22 76 _ _ f).trans rfl

theorem eX9_leadOf_50 (f : Hp) (a1 : Int32) (a2 : Int32) : am_call 167 [.ref 50, .int a1, .int a2] f =
  am_run 167 5 [.ref 50, .int a1, .int a2, .int 0, .int 0, .null] [] f
  := (am_ex_eq 167 5 0 _ [] f).trans rfl

theorem eX9_leadOf_5_50 (f : Hp) (a1 : Int32) (a2 : Int32) (a3 : Int32) (a4 : Int32) : am_run 167 5 [.ref 50, .int a1, .int a2, .int a3, .int a4, .null] [] f =
  if a4 < (f 50 0) then
    am_ald f 60 27 a4 fun x1 =>
    if x1 = a1 then
      if 1 = 0 then
        am_run 167 5 [.ref 50, .int a1, .int a2, .int (a3 ||| 0), .int (a4 + 1), .null] [] f
      else
        am_ald f 60 27 a4 fun x2 =>
        am_cal (am_call 164 [.ref 50, .int x2] f) fun x3 g3 =>
        am_run 167 5 [.ref 50, .int a1, .int a2, .int (a3 ||| x3), .int (a4 + 1), .null] [] g3
    else
      am_ald f 60 27 a4 fun x4 =>
      if x4 < 0 then
        if 0 = 0 then
          am_run 167 5 [.ref 50, .int a1, .int a2, .int (a3 ||| 0), .int (a4 + 1), .null] [] f
        else
          am_ald f 60 27 a4 fun x5 =>
          am_cal (am_call 164 [.ref 50, .int x5] f) fun x6 g6 =>
          am_run 167 5 [.ref 50, .int a1, .int a2, .int (a3 ||| x6), .int (a4 + 1), .null] [] g6
      else
        am_ald f 61 972 ((9 * a1) + a4) fun x7 =>
        if x7 < a2 then
          if 0 = 0 then
            am_run 167 5 [.ref 50, .int a1, .int a2, .int (a3 ||| 0), .int (a4 + 1), .null] [] f
          else
            am_ald f 60 27 a4 fun x8 =>
            am_cal (am_call 164 [.ref 50, .int x8] f) fun x9 g9 =>
            am_run 167 5 [.ref 50, .int a1, .int a2, .int (a3 ||| x9), .int (a4 + 1), .null] [] g9
        else
          if 1 = 0 then
            am_run 167 5 [.ref 50, .int a1, .int a2, .int (a3 ||| 0), .int (a4 + 1), .null] [] f
          else
            am_ald f 60 27 a4 fun x10 =>
            am_cal (am_call 164 [.ref 50, .int x10] f) fun x11 g11 =>
            am_run 167 5 [.ref 50, .int a1, .int a2, .int (a3 ||| x11), .int (a4 + 1), .null] [] g11
  else
    some (a3, f)
  := (am_ex_eq 167 43 5 _ _ f).trans rfl

theorem eX9_size (f : Hp) (a0 : Int32) : am_call 168 [.int a0] f =
  if a0 < 0 then
    some (-a0, f)
  else
    some (a0, f)
  := (am_ex_eq 168 6 0 _ [] f).trans rfl

theorem eX9_split_50 (f : Hp) (a1 : Int32) (a2 : Int32) : am_call 169 [.ref 50, .int a1, .int a2] f =
  am_cal (am_call 120 [.ref 50, .int a1] f) fun x1 g1 =>
  if x1 = 0 then
    some ((-1), g1)
  else
    am_cal (am_call 119 [.int a2] g1) fun x2 g2 =>
    if x2 = 0 then
      some ((-1), g2)
    else
      am_ald g2 60 27 a1 fun x3 =>
      if x3 < 0 then
        some ((-2), g2)
      else
        am_ald g2 62 3 0 fun x4 =>
        if a2 < x4 then
          some ((-2), g2)
        else
          am_cal (am_call 129 [.ref 50] g2) fun _ g5 =>
          am_ald g5 60 27 a1 fun x6 =>
          am_cal (am_call 164 [.ref 50, .int x6] g5) fun x7 g7 =>
          am_run 169 72 [.ref 50, .null, .int a2, .int x7, .int (x7 &&& (-x7)), .int 0, .int 0, .int 0, .int 1, .null, .null] [] g7
  := (am_ex_eq 169 41 0 _ [] f).trans rfl

theorem eX9_split_72_50 (f : Hp) (a2 : Int32) (a3 : Int32) (a4 : Int32) (a5 : Int32) (a6 : Int32) (a7 : Int32) (a8 : Int32) : am_run 169 72 [.ref 50, .null, .int a2, .int a3, .int a4, .int a5, .int a6, .int a7, .int a8, .null, .null] [] f =
  if a8 < a3 then
    if (a8 &&& (a3 ^^^ (-1))) = 0 then
      if (a8 &&& a4) = 0 then
        am_run 169 72 [.ref 50, .null, .int a2, .int a3, .int a4, .int a5, .int a6, .int a7, .int (a8 + 1), .null, .null] [] f
      else
        am_cal (am_call 147 [.ref 50, .int a8, .int a2] f) fun x1 g1 =>
        if x1 = 0 then
          am_run 169 72 [.ref 50, .null, .int a2, .int a3, .int a4, .int a5, .int a6, .int a7, .int (a8 + 1), .null, .null] [] g1
        else
          am_cal (am_call 147 [.ref 50, .int (a3 &&& (a8 ^^^ (-1))), .int a2] g1) fun x2 g2 =>
          if x2 = 0 then
            am_run 169 72 [.ref 50, .null, .int a2, .int a3, .int a4, .int a5, .int a6, .int a7, .int (a8 + 1), .null, .null] [] g2
          else
            am_cal (am_call 128 [.ref 50, .int a8, .int a2] g2) fun x3 g3 =>
            am_cal (am_call 128 [.ref 50, .int (a3 &&& (a8 ^^^ (-1))), .int a2] g3) fun x4 g4 =>
            am_cal (am_call 168 [.int (x3 - x4)] g4) fun x5 g5 =>
            am_cal (am_call 130 [.ref 50, .int a8] g5) fun x6 g6 =>
            am_cal (am_call 130 [.ref 50, .int (a3 &&& (a8 ^^^ (-1)))] g6) fun x7 g7 =>
            if a5 = 0 then
              am_run 169 72 [.ref 50, .null, .int a2, .int a3, .int a4, .int a8, .int x5, .int (x6 + x7), .int (a8 + 1), .null, .null] [] g7
            else
              if x5 < a6 then
                am_run 169 72 [.ref 50, .null, .int a2, .int a3, .int a4, .int a8, .int x5, .int (x6 + x7), .int (a8 + 1), .null, .null] [] g7
              else
                if x5 = a6 then
                  if (x6 + x7) < a7 then
                    am_run 169 72 [.ref 50, .null, .int a2, .int a3, .int a4, .int a8, .int x5, .int (x6 + x7), .int (a8 + 1), .null, .null] [] g7
                  else
                    am_run 169 72 [.ref 50, .null, .int a2, .int a3, .int a4, .int a5, .int a6, .int a7, .int (a8 + 1), .null, .null] [] g7
                else
                  am_run 169 72 [.ref 50, .null, .int a2, .int a3, .int a4, .int a5, .int a6, .int a7, .int (a8 + 1), .null, .null] [] g7
    else
      am_run 169 72 [.ref 50, .null, .int a2, .int a3, .int a4, .int a5, .int a6, .int a7, .int (a8 + 1), .null, .null] [] f
  else
    if a5 = 0 then
      some ((-2), f)
    else
      am_run 169 217 [.ref 50, .null, .int a2, .int a3, .null, .int a5, .null, .null, .int 0, .null, .null] [] f
  := (am_ex_eq 169 74 72 _ _ f).trans rfl

theorem eX9_split_217_50 (f : Hp) (a2 : Int32) (a3 : Int32) (a5 : Int32) (a8 : Int32) : am_run 169 217 [.ref 50, .null, .int a2, .int a3, .null, .int a5, .null, .null, .int a8, .null, .null] [] f =
  if a8 < 36 then
    am_cal (am_call 158 [.ref 50, .int a8] f) fun x1 g1 =>
    if x1 = 0 then
      am_run 169 217 [.ref 50, .null, .int a2, .int a3, .null, .int a5, .null, .null, .int (a8 + 1), .null, .null] [] g1
    else
      am_cal (am_call 167 [.ref 50, .int a8, .int a2] g1) fun x2 g2 =>
      if x2 = 0 then
        if a8 = 36 then
          some ((-3), g2)
        else
          am_run 169 262 [.ref 50, .null, .int a2, .int a3, .null, .int a5, .null, .null, .int a8, .int 0, .null] [] g2
      else
        am_run 169 217 [.ref 50, .null, .int a2, .int a3, .null, .int a5, .null, .null, .int (a8 + 1), .null, .null] [] g2
  else
    if a8 = 36 then
      some ((-3), f)
    else
      am_run 169 262 [.ref 50, .null, .int a2, .int a3, .null, .int a5, .null, .null, .int a8, .int 0, .null] [] f
  := (am_ex_eq 169 18 217 _ _ f).trans rfl

theorem eX9_split_262_50 (f : Hp) (a2 : Int32) (a3 : Int32) (a5 : Int32) (a8 : Int32) (a9 : Int32) : am_run 169 262 [.ref 50, .null, .int a2, .int a3, .null, .int a5, .null, .null, .int a8, .int a9, .null] [] f =
  if a9 < (f 50 0) then
    am_cal (am_call 117 [.int (a3 &&& (a5 ^^^ (-1))), .int a9] f) fun x1 g1 =>
    if x1 = 0 then
      am_run 169 262 [.ref 50, .null, .int a2, .int a3, .null, .int a5, .null, .null, .int a8, .int (a9 + 1), .null] [] g1
    else
      am_cal (am_call 165 [.ref 50, .int a9, .int a8, .int a2] g1) fun _ g2 =>
      am_run 169 262 [.ref 50, .null, .int a2, .int a3, .null, .int a5, .null, .null, .int a8, .int (a9 + 1), .null] [] g2
  else
    am_ast f 62 3 0 a2 fun g3 =>
    some (a8, g3)
  := (am_ex_eq 169 20 262 _ _ f).trans rfl

theorem eX9_mayPass_50 (f : Hp) (a1 : Int32) (a2 : Int32) (a3 : Int32) : am_call 170 [.ref 50, .int a1, .int a2, .int a3] f =
  am_cal (am_call 129 [.ref 50] f) fun _ g1 =>
  am_ald g1 60 27 a1 fun x2 =>
  am_cal (am_call 164 [.ref 50, .int x2] g1) fun x3 g3 =>
  am_ald g3 60 27 a2 fun x4 =>
  am_cal (am_call 164 [.ref 50, .int x4] g3) fun x5 g5 =>
  am_cal (am_call 147 [.ref 50, .int (x5 ||| (1 <<< (a1 &&& 31))), .int a3] g5) fun x6 g6 =>
  if x6 = 0 then
    am_z 0 (some (0, g6))
  else
    if (x3 &&& ((1 <<< (a1 &&& 31)) ^^^ (-1))) = 0 then
      am_run 170 73 [.ref 50, .null, .null, .null, .int x3, .int x5, .int (x3 &&& ((1 <<< (a1 &&& 31)) ^^^ (-1))), .int (x5 ||| (1 <<< (a1 &&& 31)))] [] g6
    else
      am_cal (am_call 147 [.ref 50, .int (x3 &&& ((1 <<< (a1 &&& 31)) ^^^ (-1))), .int a3] g6) fun x7 g7 =>
      if x7 = 0 then
        am_z 0 (some (0, g7))
      else
        am_run 170 73 [.ref 50, .null, .null, .null, .int x3, .int x5, .int (x3 &&& ((1 <<< (a1 &&& 31)) ^^^ (-1))), .int (x5 ||| (1 <<< (a1 &&& 31)))] [] g7
  := (am_ex_eq 170 44 0 _ [] f).trans rfl

theorem eX9_mayPass_73_50 (f : Hp) (a4 : Int32) (a5 : Int32) (a6 : Int32) (a7 : Int32) : am_run 170 73 [.ref 50, .null, .null, .null, .int a4, .int a5, .int a6, .int a7] [] f =
  am_cal (am_call 130 [.ref 50, .int a7] f) fun x1 g1 =>
  if a6 = 0 then
    am_cal (am_call 130 [.ref 50, .int a4] g1) fun x2 g2 =>
    am_cal (am_call 130 [.ref 50, .int a5] g2) fun x3 g3 =>
    am_z 1 (some (1, (am_up g3 50 30 (((x1 + 0) - x2) - x3))))
  else
    am_cal (am_call 130 [.ref 50, .int a6] g1) fun x4 g4 =>
    am_cal (am_call 130 [.ref 50, .int a4] g4) fun x5 g5 =>
    am_cal (am_call 130 [.ref 50, .int a5] g5) fun x6 g6 =>
    am_z 1 (some (1, (am_up g6 50 30 (((x1 + x4) - x5) - x6))))
  := (am_ex_eq 170 21 73 _ _ f).trans rfl

theorem eX9_isAsk_50 (f : Hp) (a1 : Int32) (a2 : Int32) (a3 : Int32) : am_call 171 [.ref 50, .int a1, .int a2, .int a3] f =
  am_ald f 60 27 a1 fun x1 =>
  if x1 < 0 then
    am_z 0 (some (0, f))
  else
    am_ald f 60 27 a2 fun x2 =>
    if x2 < 0 then
      am_z 0 (some (0, f))
    else
      am_ald f 60 27 a1 fun x3 =>
      am_ald f 60 27 a2 fun x4 =>
      if x3 = x4 then
        am_z 0 (some (0, f))
      else
        am_ald f 62 3 0 fun x5 =>
        if a3 < x5 then
          am_z 0 (some (0, f))
        else
          am_z 1 (some (1, f))
  := (am_ex_eq 171 28 0 _ [] f).trans rfl

theorem eX9_ask_50 (f : Hp) (a1 : Int32) (a2 : Int32) (a3 : Int32) : am_call 172 [.ref 50, .int a1, .int a2, .int a3] f =
  am_cal (am_call 120 [.ref 50, .int a1] f) fun x1 g1 =>
  if x1 = 0 then
    some ((-1000000), g1)
  else
    am_cal (am_call 120 [.ref 50, .int a2] g1) fun x2 g2 =>
    if x2 = 0 then
      some ((-1000000), g2)
    else
      am_cal (am_call 119 [.int a3] g2) fun x3 g3 =>
      if x3 = 0 then
        some ((-1000000), g3)
      else
        am_cal (am_call 171 [.ref 50, .int a1, .int a2, .int a3] g3) fun x4 g4 =>
        if x4 = 0 then
          some ((-1000002), g4)
        else
          am_cal (am_call 170 [.ref 50, .int a1, .int a2, .int a3] g4) fun x5 g5 =>
          if x5 = 0 then
            some ((-100000), g5)
          else
            some (g5 50 30, g5)
  := (am_ex_eq 172 27 0 _ [] f).trans rfl

theorem eX9_pass_50 (f : Hp) (a1 : Int32) (a2 : Int32) (a3 : Int32) : am_call 173 [.ref 50, .int a1, .int a2, .int a3] f =
  am_cal (am_call 120 [.ref 50, .int a1] f) fun x1 g1 =>
  if x1 = 0 then
    some ((-1), g1)
  else
    am_cal (am_call 120 [.ref 50, .int a2] g1) fun x2 g2 =>
    if x2 = 0 then
      some ((-1), g2)
    else
      am_cal (am_call 119 [.int a3] g2) fun x3 g3 =>
      if x3 = 0 then
        some ((-1), g3)
      else
        am_cal (am_call 171 [.ref 50, .int a1, .int a2, .int a3] g3) fun x4 g4 =>
        if x4 = 0 then
          some ((-2), g4)
        else
          am_cal (am_call 170 [.ref 50, .int a1, .int a2, .int a3] g4) fun x5 g5 =>
          if x5 = 0 then
            some ((-2), g5)
          else
            am_ald g5 60 27 a2 fun x6 =>
            am_cal (am_call 165 [.ref 50, .int a1, .int x6, .int a3] g5) fun _ g7 =>
            am_ast g7 62 3 0 a3 fun g8 =>
            am_ald g8 60 27 a1 fun x9 =>
            some (x9, g8)
  := (am_ex_eq 173 41 0 _ [] f).trans rfl

theorem eX9_code_50 (f : Hp) (a1 : Int32) (a2 : Int32) : am_call 174 [.ref 50, .int a1, .int a2] f =
  am_cal (am_call 120 [.ref 50, .int a1] f) fun x1 g1 =>
  if x1 = 0 then
    some ((-1), g1)
  else
    am_cal (am_call 116 [.long a2.toInt64, .long 0, .long 1] g1) fun x2 g2 =>
    if x2 = 0 then
      some ((-1), g2)
    else
      am_ald g2 60 27 a1 fun x3 =>
      if x3 < 0 then
        some ((-4), g2)
      else
        if a2 = 0 then
          am_ald g2 60 27 a1 fun x4 =>
          some (x4, g2)
        else
          am_ald g2 60 27 a1 fun x5 =>
          am_cal (am_call 164 [.ref 50, .int x5] g2) fun x6 g6 =>
          some (x6, g6)
  := (am_ex_eq 174 24 0 _ [] f).trans rfl

theorem eX9_lead_50 (f : Hp) (a1 : Int32) (a2 : Int32) : am_call 175 [.ref 50, .int a1, .int a2] f =
  am_cal (am_call 156 [.int a1] f) fun x1 g1 =>
  if x1 = 0 then
    some ((-1), g1)
  else
    am_cal (am_call 119 [.int a2] g1) fun x2 g2 =>
    if x2 = 0 then
      some ((-1), g2)
    else
      am_ald g2 62 3 0 fun x3 =>
      if a2 < x3 then
        some ((-2), g2)
      else
        am_cal (am_call 167 [.ref 50, .int a1, .int a2] g2) fun x4 g4 =>
        if x4 = 0 then
          some ((-4), g4)
        else
          some (x4, g4)
  := (am_ex_eq 175 22 0 _ [] f).trans rfl

theorem eX9_layCodes_50 (f : Hp) (a1 : Int32) : am_call 176 [.ref 50, .int a1] f =
  am_run 176 7 [.ref 50, .int a1, .int 0, .null, .null] [] (am_up f 50 31 0)
  := (am_ex_eq 176 6 0 _ [] f).trans rfl

theorem eX9_layCodes_7_50 (f : Hp) (a1 : Int32) (a2 : Int32) : am_run 176 7 [.ref 50, .int a1, .int a2, .null, .null] [] f =
  if a2 < 36 then
    am_cal (am_call 164 [.ref 50, .int a2] f) fun x1 g1 =>
    if x1 = 0 then
      am_run 176 7 [.ref 50, .int a1, .int (a2 + 1), .null, .null] [] g1
    else
      am_ast g1 73 9 (g1 50 31) x1 fun g2 =>
      am_ast g2 74 9 (g2 50 31) 0 fun g3 =>
      am_run 176 46 [.ref 50, .int a1, .int a2, .int x1, .int 0] [] g3
  else
    some (0, f)
  := (am_ex_eq 176 24 7 _ _ f).trans rfl

theorem eX9_layCodes_46_50 (f : Hp) (a1 : Int32) (a2 : Int32) (a3 : Int32) (a4 : Int32) : am_run 176 46 [.ref 50, .int a1, .int a2, .int a3, .int a4] [] f =
  if a4 < (f 50 0) then
    am_ald f 74 9 (f 50 31) fun x1 =>
    am_cal (am_call 117 [.int a3, .int a4] f) fun x2 g2 =>
    if x2 = 0 then
      am_ast g2 74 9 (f 50 31) (x1 + 0) fun g3 =>
      am_run 176 46 [.ref 50, .int a1, .int a2, .int a3, .int (a4 + 1)] [] g3
    else
      am_ald g2 54 9 a4 fun x4 =>
      am_cal (am_call 126 [.ref 50, .int a4, .int a1] g2) fun x5 g5 =>
      am_ast g5 74 9 (f 50 31) (x1 + (x4 * x5)) fun g6 =>
      am_run 176 46 [.ref 50, .int a1, .int a2, .int a3, .int (a4 + 1)] [] g6
  else
    am_run 176 7 [.ref 50, .int a1, .int (a2 + 1), .null, .null] [] (am_up f 50 31 ((f 50 31) + 1))
  := (am_ex_eq 176 29 46 _ _ f).trans rfl

theorem eX9_weightOf_50 (f : Hp) (a1 : Int32) : am_call 177 [.ref 50, .int a1] f =
  am_run 177 4 [.ref 50, .int a1, .int 0, .int 0] [] f
  := (am_ex_eq 177 5 0 _ [] f).trans rfl

theorem eX9_weightOf_4_50 (f : Hp) (a1 : Int32) (a2 : Int32) (a3 : Int32) : am_run 177 4 [.ref 50, .int a1, .int a2, .int a3] [] f =
  if a3 < (f 50 31) then
    am_cal (am_call 117 [.int a1, .int a3] f) fun x1 g1 =>
    if x1 = 0 then
      am_run 177 4 [.ref 50, .int a1, .int (a2 + 0), .int (a3 + 1)] [] g1
    else
      am_ald g1 74 9 a3 fun x2 =>
      am_run 177 4 [.ref 50, .int a1, .int (a2 + x2), .int (a3 + 1)] [] g1
  else
    some (a2, f)
  := (am_ex_eq 177 19 4 _ _ f).trans rfl

theorem eX9_rounds_50 (f : Hp) (a1 : Int32) (a2 : Int32) (a3 : Int32) : am_call 178 [.ref 50, .int a1, .int a2, .int a3] f =
  am_cal (am_call 119 [.int a1] f) fun x1 g1 =>
  if x1 = 0 then
    some ((-1), g1)
  else
    am_cal (am_call 116 [.long a2.toInt64, .long 1, .long 1000000] g1) fun x2 g2 =>
    if x2 = 0 then
      some ((-1), g2)
    else
      am_cal (am_call 116 [.long a3.toInt64, .long 0, .long 1] g2) fun x3 g3 =>
      if x3 = 0 then
        some ((-1), g3)
      else
        am_cal (am_call 123 [.ref 50] g3) fun x4 g4 =>
        if x4 = 0 then
          some ((-2), g4)
        else
          am_cal (am_call 176 [.ref 50, .int a1] g4) fun _ g5 =>
          am_ast g5 75 512 0 0 fun g6 =>
          am_ast g6 76 512 0 0 fun g7 =>
          am_run 178 63 [.ref 50, .null, .int a2, .int a3, .int 1, .null, .null, .null, .null] [] g7
  := (am_ex_eq 178 34 0 _ [] f).trans rfl

theorem eX9_rounds_63_50 (f : Hp) (a2 : Int32) (a3 : Int32) (a4 : Int32) : am_run 178 63 [.ref 50, .null, .int a2, .int a3, .int a4, .null, .null, .null, .null] [] f =
  if a4 < (1 <<< ((f 50 31) &&& 31)) then
    am_ast f 75 512 a4 100 fun g1 =>
    am_ast g1 76 512 a4 0 fun g2 =>
    am_run 178 102 [.ref 50, .null, .int a2, .int a3, .int a4, .int (a4 &&& (-a4)), .int 1, .null, .null] [] g2
  else
    am_ald f 75 512 ((1 <<< ((f 50 31) &&& 31)) - 1) fun x3 =>
    if x3 = 100 then
      some ((-4), f)
    else
      if a3 = 0 then
        am_ald f 75 512 ((1 <<< ((f 50 31) &&& 31)) - 1) fun x4 =>
        some (x4, f)
      else
        am_ald f 76 512 ((1 <<< ((f 50 31) &&& 31)) - 1) fun x5 =>
        some (x5, f)
  := (am_ex_eq 178 27 63 _ _ f).trans rfl

theorem eX9_rounds_102_50 (f : Hp) (a2 : Int32) (a3 : Int32) (a4 : Int32) (a5 : Int32) (a6 : Int32) : am_run 178 102 [.ref 50, .null, .int a2, .int a3, .int a4, .int a5, .int a6, .null, .null] [] f =
  if a4 < a6 then
    am_run 178 63 [.ref 50, .null, .int a2, .int a3, .int (a4 + 1), .null, .null, .null, .null] [] f
  else
    if (a6 &&& (a4 ^^^ (-1))) = 0 then
      if (a6 &&& a5) = 0 then
        am_run 178 102 [.ref 50, .null, .int a2, .int a3, .int a4, .int a5, .int (a6 + 1), .null, .null] [] f
      else
        am_cal (am_call 177 [.ref 50, .int a6] f) fun x1 g1 =>
        if a2 < x1 then
          am_run 178 102 [.ref 50, .null, .int a2, .int a3, .int a4, .int a5, .int (a6 + 1), .null, .null] [] g1
        else
          am_ald g1 75 512 (a4 &&& (a6 ^^^ (-1))) fun x2 =>
          if x2 < 100 then
            am_ald g1 75 512 (a4 &&& (a6 ^^^ (-1))) fun x3 =>
            am_cal (am_call 177 [.ref 50, .int a6] g1) fun x4 g4 =>
            am_ald g4 76 512 (a4 &&& (a6 ^^^ (-1))) fun x5 =>
            if x5 < x4 then
              am_cal (am_call 177 [.ref 50, .int a6] g4) fun x6 g6 =>
              am_run 178 212 [.ref 50, .null, .int a2, .int a3, .int a4, .int a5, .int a6, .int (1 + x3), .null] [.int x6] g6
            else
              am_ald g4 76 512 (a4 &&& (a6 ^^^ (-1))) fun x7 =>
              am_run 178 212 [.ref 50, .null, .int a2, .int a3, .int a4, .int a5, .int a6, .int (1 + x3), .null] [.int x7] g4
          else
            am_run 178 102 [.ref 50, .null, .int a2, .int a3, .int a4, .int a5, .int (a6 + 1), .null, .null] [] g1
    else
      am_run 178 102 [.ref 50, .null, .int a2, .int a3, .int a4, .int a5, .int (a6 + 1), .null, .null] [] f
  := (am_ex_eq 178 60 102 _ _ f).trans rfl

theorem eX9_rounds_212_50_s1 (f : Hp) (a2 : Int32) (a3 : Int32) (a4 : Int32) (a5 : Int32) (a6 : Int32) (a7 : Int32) (s0 : Int32) : am_run 178 212 [.ref 50, .null, .int a2, .int a3, .int a4, .int a5, .int a6, .int a7, .null] [.int s0] f =
  am_ald f 75 512 a4 fun x1 =>
  if a7 < x1 then
    am_ast f 75 512 a4 a7 fun g2 =>
    am_ast g2 76 512 a4 s0 fun g3 =>
    am_run 178 102 [.ref 50, .null, .int a2, .int a3, .int a4, .int a5, .int (a6 + 1), .null, .null] [] g3
  else
    am_ald f 75 512 a4 fun x4 =>
    if a7 = x4 then
      am_ald f 76 512 a4 fun x5 =>
      if s0 < x5 then
        am_ast f 75 512 a4 a7 fun g6 =>
        am_ast g6 76 512 a4 s0 fun g7 =>
        am_run 178 102 [.ref 50, .null, .int a2, .int a3, .int a4, .int a5, .int (a6 + 1), .null, .null] [] g7
      else
        am_run 178 102 [.ref 50, .null, .int a2, .int a3, .int a4, .int a5, .int (a6 + 1), .null, .null] [] f
    else
      am_run 178 102 [.ref 50, .null, .int a2, .int a3, .int a4, .int a5, .int (a6 + 1), .null, .null] [] f
  := (am_ex_eq 178 32 212 _ _ f).trans rfl

theorem eX9_fullYear_50 (f : Hp) (a1 : Int32) (a2 : Int32) : am_call 179 [.ref 50, .int a1, .int a2] f =
  am_cal (am_call 120 [.ref 50, .int a1] f) fun x1 g1 =>
  if x1 = 0 then
    some ((-1), g1)
  else
    am_cal (am_call 119 [.int a2] g1) fun x2 g2 =>
    if x2 = 0 then
      some ((-1), g2)
    else
      am_ald g2 60 27 a1 fun x3 =>
      if x3 < 0 then
        some ((-2), g2)
      else
        am_run 179 31 [.ref 50, .int a1, .int a2, .int 0] [] g2
  := (am_ex_eq 179 15 0 _ [] f).trans rfl

theorem eX9_fullYear_31_50 (f : Hp) (a1 : Int32) (a2 : Int32) (a3 : Int32) : am_run 179 31 [.ref 50, .int a1, .int a2, .int a3] [] f =
  if 40 < a3 then
    some ((-4), f)
  else
    am_ald f 60 27 a1 fun x1 =>
    am_cal (am_call 164 [.ref 50, .int x1] f) fun x2 g2 =>
    am_cal (am_call 128 [.ref 50, .int x2, .int (a2 + (365 * a3))] g2) fun x3 g3 =>
    am_cal (am_call 142 [.ref 50, .int 0, .int a2] g3) fun x4 g4 =>
    if x4 < x3 then
      some (a3, g4)
    else
      am_run 179 31 [.ref 50, .int a1, .int a2, .int (a3 + 1)] [] g4
  := (am_ex_eq 179 24 31 _ _ f).trans rfl

theorem eX9_edition_50 (f : Hp) : am_call 180 [.ref 50] f =
  am_cal (am_call 123 [.ref 50] f) fun x1 g1 =>
  if x1 = 0 then
    some ((-2), g1)
  else
    am_ald g1 63 3 0 fun x2 =>
    if x2 = 10 then
      some ((-3), g1)
    else
      am_run 180 26 [.ref 50, .int 0] [] g1
  := (am_ex_eq 180 12 0 _ [] f).trans rfl

theorem eX9_edition_26_50 (f : Hp) (a1 : Int32) : am_run 180 26 [.ref 50, .int a1] [] f =
  if a1 < 9 then
    am_ald f 63 3 0 fun x1 =>
    am_ald f 60 27 a1 fun x2 =>
    am_ast f 64 270 ((9 * x1) + a1) x2 fun g3 =>
    am_run 180 26 [.ref 50, .int (a1 + 1)] [] g3
  else
    am_ald f 63 3 0 fun x4 =>
    am_ast f 63 3 0 (x4 + 1) fun g5 =>
    am_ald g5 63 3 0 fun x6 =>
    some (x6 - 1, g5)
  := (am_ex_eq 180 21 26 _ _ f).trans rfl

theorem eX9_book_50 (f : Hp) (a1 : Int32) (a2 : Int32) : am_call 181 [.ref 50, .int a1, .int a2] f =
  am_ald f 63 3 0 fun x1 =>
  am_cal (am_call 116 [.long a1.toInt64, .long 0, .long ((x1 - 1).toInt64)] f) fun x2 g2 =>
  if x2 = 0 then
    some ((-1), g2)
  else
    am_cal (am_call 120 [.ref 50, .int a2] g2) fun x3 g3 =>
    if x3 = 0 then
      some ((-1), g3)
    else
      am_ald g3 64 270 ((9 * a1) + a2) fun x4 =>
      if x4 < 0 then
        some ((-4), g3)
      else
        some (x4, g3)
  := (am_ex_eq 181 30 0 _ [] f).trans rfl

theorem eX9_wrong_50 (f : Hp) (a1 : Int32) (a2 : Int32) : am_call 182 [.ref 50, .int a1, .int a2] f =
  am_ald f 63 3 0 fun x1 =>
  am_cal (am_call 116 [.long a1.toInt64, .long 0, .long ((x1 - 1).toInt64)] f) fun x2 g2 =>
  if x2 = 0 then
    some ((-1), g2)
  else
    am_cal (am_call 119 [.int a2] g2) fun x3 g3 =>
    if x3 = 0 then
      some ((-1), g3)
    else
      am_ald g3 62 3 0 fun x4 =>
      if a2 < x4 then
        some ((-2), g3)
      else
        am_run 182 45 [.ref 50, .int a1, .int a2, .int 0, .int 0, .null, .null] [] g3
  := (am_ex_eq 182 26 0 _ [] f).trans rfl

theorem eX9_wrong_45_50 (f : Hp) (a1 : Int32) (a2 : Int32) (a3 : Int32) (a4 : Int32) : am_run 182 45 [.ref 50, .int a1, .int a2, .int a3, .int a4, .null, .null] [] f =
  if a4 < (f 50 0) then
    am_ald f 64 270 ((9 * a1) + a4) fun x1 =>
    if x1 < 0 then
      am_ald f 60 27 a4 fun x2 =>
      if x2 = x1 then
        am_run 182 45 [.ref 50, .int a1, .int a2, .int (a3 ||| 0), .int (a4 + 1), .null, .null] [] f
      else
        if 0 = 0 then
          am_run 182 45 [.ref 50, .int a1, .int a2, .int (a3 ||| (1 <<< (a4 &&& 31))), .int (a4 + 1), .null, .null] [] f
        else
          am_run 182 45 [.ref 50, .int a1, .int a2, .int (a3 ||| 0), .int (a4 + 1), .null, .null] [] f
    else
      am_cal (am_call 167 [.ref 50, .int x1, .int a2] f) fun x3 g3 =>
      am_cal (am_call 117 [.int x3, .int a4] g3) fun x4 g4 =>
      if x4 = 0 then
        am_ald g4 60 27 a4 fun x5 =>
        if x5 = x1 then
          am_run 182 45 [.ref 50, .int a1, .int a2, .int (a3 ||| 0), .int (a4 + 1), .null, .null] [] g4
        else
          if 0 = 0 then
            am_run 182 45 [.ref 50, .int a1, .int a2, .int (a3 ||| (1 <<< (a4 &&& 31))), .int (a4 + 1), .null, .null] [] g4
          else
            am_run 182 45 [.ref 50, .int a1, .int a2, .int (a3 ||| 0), .int (a4 + 1), .null, .null] [] g4
      else
        am_ald g4 60 27 a4 fun x6 =>
        if x6 = x1 then
          am_run 182 45 [.ref 50, .int a1, .int a2, .int (a3 ||| 0), .int (a4 + 1), .null, .null] [] g4
        else
          if 1 = 0 then
            am_run 182 45 [.ref 50, .int a1, .int a2, .int (a3 ||| (1 <<< (a4 &&& 31))), .int (a4 + 1), .null, .null] [] g4
          else
            am_run 182 45 [.ref 50, .int a1, .int a2, .int (a3 ||| 0), .int (a4 + 1), .null, .null] [] g4
  else
    some (a3, f)
  := (am_ex_eq 182 43 45 _ _ f).trans rfl

theorem eX9_copy_50 (f : Hp) (a1 : Int32) (a2 : Int32) : am_call 183 [.ref 50, .int a1, .int a2] f =
  am_run 183 2 [.ref 50, .int a1, .int a2, .int 0] [] f
  := (am_ex_eq 183 3 0 _ [] f).trans rfl

theorem eX9_copy_2_50 (f : Hp) (a1 : Int32) (a2 : Int32) (a3 : Int32) : am_run 183 2 [.ref 50, .int a1, .int a2, .int a3] [] f =
  if a3 < 9 then
    am_ald f 60 27 ((9 * a1) + a3) fun x1 =>
    am_ast f 60 27 ((9 * a2) + a3) x1 fun g2 =>
    am_run 183 2 [.ref 50, .int a1, .int a2, .int (a3 + 1)] [] g2
  else
    am_run 183 38 [.ref 50, .int a1, .int a2, .int 0] [] f
  := (am_ex_eq 183 22 2 _ _ f).trans rfl

theorem eX9_copy_38_50 (f : Hp) (a1 : Int32) (a2 : Int32) (a3 : Int32) : am_run 183 38 [.ref 50, .int a1, .int a2, .int a3] [] f =
  if a3 < 324 then
    am_ald f 61 972 ((324 * a1) + a3) fun x1 =>
    am_ast f 61 972 ((324 * a2) + a3) x1 fun g2 =>
    am_run 183 38 [.ref 50, .int a1, .int a2, .int (a3 + 1)] [] g2
  else
    am_run 183 77 [.ref 50, .int a1, .int a2, .int 0] [] f
  := (am_ex_eq 183 22 38 _ _ f).trans rfl

theorem eX9_copy_77_50 (f : Hp) (a1 : Int32) (a2 : Int32) (a3 : Int32) : am_run 183 77 [.ref 50, .int a1, .int a2, .int a3] [] f =
  if a3 < 90 then
    am_ald f 64 270 ((90 * a1) + a3) fun x1 =>
    am_ast f 64 270 ((90 * a2) + a3) x1 fun g2 =>
    am_run 183 77 [.ref 50, .int a1, .int a2, .int (a3 + 1)] [] g2
  else
    am_ald f 62 3 a1 fun x3 =>
    am_ast f 62 3 a2 x3 fun g4 =>
    am_ald g4 63 3 a1 fun x5 =>
    am_ast g4 63 3 a2 x5 fun g6 =>
    some (0, g6)
  := (am_ex_eq 183 22 77 _ _ f).trans rfl

theorem eX9_keep_50 (f : Hp) : am_call 184 [.ref 50] f =
  if (f 50 16) = 2 then
    some ((-3), f)
  else
    am_cal (am_call 183 [.ref 50, .int 0, .int (1 + (f 50 16))] f) fun _ g1 =>
    some ((am_up g1 50 16 ((g1 50 16) + 1)) 50 16, (am_up g1 50 16 ((g1 50 16) + 1)))
  := (am_ex_eq 184 20 0 _ [] f).trans rfl

theorem eX9_back_50 (f : Hp) : am_call 185 [.ref 50] f =
  if (f 50 16) = 0 then
    some ((-2), f)
  else
    am_cal (am_call 183 [.ref 50, .int (1 + ((am_up f 50 16 ((f 50 16) - 1)) 50 16)), .int 0] (am_up f 50 16 ((f 50 16) - 1))) fun _ g1 =>
    some (g1 50 16, g1)
  := (am_ex_eq 185 19 0 _ [] f).trans rfl

theorem eX9_count_50 (f : Hp) (a1 : Int32) : am_call 186 [.ref 50, .int a1] f =
  if a1 = 0 then
    some (f 50 0, f)
  else
    if a1 = 1 then
      am_run 186 59 [.ref 50, .null, .int 0, .int 0, .null] [] f
    else
      if a1 = 2 then
        some (f 50 6, f)
      else
        if a1 = 3 then
          am_ald f 57 2 1 fun x1 =>
          some (x1, f)
        else
          if a1 = 4 then
            am_run 186 125 [.ref 50, .null, .int 0, .int 0, .null] [] f
          else
            if a1 = 5 then
              am_run 186 157 [.ref 50, .null, .int 0, .int 0, .null] [] f
            else
              if a1 = 6 then
                am_ald f 63 3 0 fun x2 =>
                some (x2, f)
              else
                if a1 = 7 then
                  some (f 50 16, f)
                else
                  if a1 = 8 then
                    am_ald f 62 3 0 fun x3 =>
                    some (x3, f)
                  else
                    some ((-1), f)
  := (am_ex_eq 186 9 0 _ [] f).trans rfl

theorem eX9_count_59_50 (f : Hp) (a2 : Int32) (a3 : Int32) : am_run 186 59 [.ref 50, .null, .int a2, .int a3, .null] [] f =
  if a3 < 9 then
    am_run 186 68 [.ref 50, .null, .int a2, .int a3, .int 0] [] f
  else
    some (a2, f)
  := (am_ex_eq 186 6 59 _ _ f).trans rfl

theorem eX9_count_68_50 (f : Hp) (a2 : Int32) (a3 : Int32) (a4 : Int32) : am_run 186 68 [.ref 50, .null, .int a2, .int a3, .int a4] [] f =
  if a4 < a3 then
    am_ald f 55 81 ((9 * a3) + a4) fun x1 =>
    if 0 < x1 then
      am_run 186 68 [.ref 50, .null, .int (a2 + 1), .int a3, .int (a4 + 1)] [] f
    else
      am_run 186 68 [.ref 50, .null, .int (a2 + 0), .int a3, .int (a4 + 1)] [] f
  else
    am_run 186 59 [.ref 50, .null, .int a2, .int (a3 + 1), .null] [] f
  := (am_ex_eq 186 20 68 _ _ f).trans rfl

theorem eX9_count_125_50 (f : Hp) (a2 : Int32) (a3 : Int32) : am_run 186 125 [.ref 50, .null, .int a2, .int a3, .null] [] f =
  if a3 < 36 then
    am_cal (am_call 162 [.ref 50, .int a3] f) fun x1 g1 =>
    if x1 = 0 then
      am_run 186 125 [.ref 50, .null, .int (a2 + 0), .int (a3 + 1), .null] [] g1
    else
      am_run 186 125 [.ref 50, .null, .int (a2 + 1), .int (a3 + 1), .null] [] g1
  else
    some (a2, f)
  := (am_ex_eq 186 15 125 _ _ f).trans rfl

theorem eX9_count_157_50 (f : Hp) (a2 : Int32) (a3 : Int32) : am_run 186 157 [.ref 50, .null, .int a2, .int a3, .null] [] f =
  if a3 < 36 then
    am_cal (am_call 123 [.ref 50] f) fun x1 g1 =>
    if x1 = 0 then
      am_run 186 157 [.ref 50, .null, .int (a2 + 0), .int (a3 + 1), .null] [] g1
    else
      am_cal (am_call 162 [.ref 50, .int a3] g1) fun x2 g2 =>
      if x2 = 0 then
        am_ald g2 62 3 0 fun x3 =>
        am_cal (am_call 167 [.ref 50, .int a3, .int x3] g2) fun x4 g4 =>
        if x4 = 0 then
          am_run 186 157 [.ref 50, .null, .int (a2 + 0), .int (a3 + 1), .null] [] g4
        else
          am_run 186 157 [.ref 50, .null, .int (a2 + 1), .int (a3 + 1), .null] [] g4
      else
        am_run 186 157 [.ref 50, .null, .int (a2 + 0), .int (a3 + 1), .null] [] g2
  else
    some (a2, f)
  := (am_ex_eq 186 26 157 _ _ f).trans rfl
