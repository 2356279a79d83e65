theorem eL_law_16_0_1_50 (f : Hp) : am_run 187 16 [.ref 0, .ref 1, .ref 50, .null] [] f =
  am_run 187 18 [.ref 0, .ref 1, .ref 50, .int 0] [] f
  := (am_ex_eq 187 3 16 _ _ f).trans rfl

theorem eL_law_18_0_1_50 (f : Hp) (a3 : Int32) : am_run 187 18 [.ref 0, .ref 1, .ref 50, .int a3] [] f =
  if ((f 77 0) - 5) < a3 then
    am_z 1 (some (1, f))
  else
    am_ald f 0 ((f 77 0).toNatClampNeg) a3 fun x1 =>
    if (x1 &&& 31) = 0 then
      am_ald f 0 ((f 77 0).toNatClampNeg) (a3 + 1) fun x2 =>
      am_ald f 0 ((f 77 0).toNatClampNeg) (a3 + 2) fun x3 =>
      am_ald f 0 ((f 77 0).toNatClampNeg) (a3 + 3) fun x4 =>
      am_ald f 0 ((f 77 0).toNatClampNeg) (a3 + 4) fun x5 =>
      am_cal (am_call 66 [.ref 1, .int x2, .int x3, .int x4, .int x5] f) fun x6 g6 =>
      am_ald g6 0 ((g6 77 0).toNatClampNeg) (a3 + 1) fun x7 =>
      am_ald g6 0 ((g6 77 0).toNatClampNeg) (a3 + 2) fun x8 =>
      am_ald g6 0 ((g6 77 0).toNatClampNeg) (a3 + 3) fun x9 =>
      am_ald g6 0 ((g6 77 0).toNatClampNeg) (a3 + 4) fun x10 =>
      am_cal (am_call 124 [.ref 50, .int x7, .int x8, .int x9, .int x10] g6) fun x11 g11 =>
      if x6 = x11 then
        am_run 187 18 [.ref 0, .ref 1, .ref 50, .int (a3 + 5)] [] g11
      else
        am_z 0 (some (0, g11))
    else
      if (x1 &&& 31) = 1 then
        am_ald f 0 ((f 77 0).toNatClampNeg) (a3 + 1) fun x12 =>
        am_ald f 0 ((f 77 0).toNatClampNeg) (a3 + 2) fun x13 =>
        am_ald f 0 ((f 77 0).toNatClampNeg) (a3 + 3) fun x14 =>
        am_cal (am_call 67 [.ref 1, .int x12, .int x13, .int x14] f) fun x15 g15 =>
        am_ald g15 0 ((g15 77 0).toNatClampNeg) (a3 + 1) fun x16 =>
        am_ald g15 0 ((g15 77 0).toNatClampNeg) (a3 + 2) fun x17 =>
        am_ald g15 0 ((g15 77 0).toNatClampNeg) (a3 + 3) fun x18 =>
        am_cal (am_call 125 [.ref 50, .int x16, .int x17, .int x18] g15) fun x19 g19 =>
        if x15 = x19 then
          am_run 187 18 [.ref 0, .ref 1, .ref 50, .int (a3 + 5)] [] g19
        else
          am_z 0 (some (0, g19))
      else
        if (x1 &&& 31) = 2 then
          am_ald f 0 ((f 77 0).toNatClampNeg) (a3 + 1) fun x20 =>
          am_ald f 0 ((f 77 0).toNatClampNeg) (a3 + 2) fun x21 =>
          am_cal (am_call 68 [.ref 1, .int x20, .int x21] f) fun x22 g22 =>
          am_ald g22 0 ((g22 77 0).toNatClampNeg) (a3 + 1) fun x23 =>
          am_ald g22 0 ((g22 77 0).toNatClampNeg) (a3 + 2) fun x24 =>
          am_cal (am_call 127 [.ref 50, .int x23, .int x24] g22) fun x25 g25 =>
          if x22 = x25 then
            am_run 187 18 [.ref 0, .ref 1, .ref 50, .int (a3 + 5)] [] g25
          else
            am_z 0 (some (0, g25))
        else
          if (x1 &&& 31) = 3 then
            am_ald f 0 ((f 77 0).toNatClampNeg) (a3 + 1) fun x26 =>
            am_cal (am_call 69 [.ref 1, .int x26] f) fun x27 g27 =>
            am_ald g27 0 ((g27 77 0).toNatClampNeg) (a3 + 1) fun x28 =>
            am_cal (am_call 131 [.ref 50, .int x28] g27) fun x29 g29 =>
            if x27 = x29 then
              am_run 187 18 [.ref 0, .ref 1, .ref 50, .int (a3 + 5)] [] g29
            else
              am_z 0 (some (0, g29))
          else
            if (x1 &&& 31) = 4 then
              am_ald f 0 ((f 77 0).toNatClampNeg) (a3 + 1) fun x30 =>
              am_ald f 0 ((f 77 0).toNatClampNeg) (a3 + 2) fun x31 =>
              am_cal (am_call 70 [.ref 1, .int x30, .int x31] f) fun x32 g32 =>
              am_ald g32 0 ((g32 77 0).toNatClampNeg) (a3 + 1) fun x33 =>
              am_ald g32 0 ((g32 77 0).toNatClampNeg) (a3 + 2) fun x34 =>
              am_cal (am_call 132 [.ref 50, .int x33, .int x34] g32) fun x35 g35 =>
              if x32 = x35 then
                am_run 187 18 [.ref 0, .ref 1, .ref 50, .int (a3 + 5)] [] g35
              else
                am_z 0 (some (0, g35))
            else
              if (x1 &&& 31) = 5 then
                am_ald f 0 ((f 77 0).toNatClampNeg) (a3 + 1) fun x36 =>
                am_ald f 0 ((f 77 0).toNatClampNeg) (a3 + 2) fun x37 =>
                am_cal (am_call 71 [.ref 1, .int x36, .int x37] f) fun x38 g38 =>
                am_ald g38 0 ((g38 77 0).toNatClampNeg) (a3 + 1) fun x39 =>
                am_ald g38 0 ((g38 77 0).toNatClampNeg) (a3 + 2) fun x40 =>
                am_cal (am_call 148 [.ref 50, .int x39, .int x40] g38) fun x41 g41 =>
                if x38 = x41 then
                  am_run 187 18 [.ref 0, .ref 1, .ref 50, .int (a3 + 5)] [] g41
                else
                  am_z 0 (some (0, g41))
              else
                if (x1 &&& 31) = 6 then
                  am_ald f 0 ((f 77 0).toNatClampNeg) (a3 + 1) fun x42 =>
                  am_ald f 0 ((f 77 0).toNatClampNeg) (a3 + 2) fun x43 =>
                  am_cal (am_call 72 [.ref 1, .int x42, .int x43] f) fun x44 g44 =>
                  am_ald g44 0 ((g44 77 0).toNatClampNeg) (a3 + 1) fun x45 =>
                  am_ald g44 0 ((g44 77 0).toNatClampNeg) (a3 + 2) fun x46 =>
                  am_cal (am_call 151 [.ref 50, .int x45, .int x46] g44) fun x47 g47 =>
                  if x44 = x47 then
                    am_run 187 18 [.ref 0, .ref 1, .ref 50, .int (a3 + 5)] [] g47
                  else
                    am_z 0 (some (0, g47))
                else
                  if (x1 &&& 31) = 7 then
                    am_ald f 0 ((f 77 0).toNatClampNeg) (a3 + 1) fun x48 =>
                    am_ald f 0 ((f 77 0).toNatClampNeg) (a3 + 2) fun x49 =>
                    am_ald f 0 ((f 77 0).toNatClampNeg) (a3 + 3) fun x50 =>
                    am_cal (am_call 73 [.ref 1, .int x48, .long ((x49.toInt64 <<< ((32 : Int32).toInt64 &&& 63)) ||| (x50.toInt64 &&& 4294967295))] f) fun x51 g51 =>
                    am_ald g51 0 ((g51 77 0).toNatClampNeg) (a3 + 1) fun x52 =>
                    am_ald g51 0 ((g51 77 0).toNatClampNeg) (a3 + 2) fun x53 =>
                    am_ald g51 0 ((g51 77 0).toNatClampNeg) (a3 + 3) fun x54 =>
                    am_cal (am_call 133 [.ref 50, .int x52, .long ((x53.toInt64 <<< ((32 : Int32).toInt64 &&& 63)) ||| (x54.toInt64 &&& 4294967295))] g51) fun x55 g55 =>
                    if x51 = x55 then
                      am_run 187 18 [.ref 0, .ref 1, .ref 50, .int (a3 + 5)] [] g55
                    else
                      am_z 0 (some (0, g55))
                  else
                    if (x1 &&& 31) = 8 then
                      am_cal (am_call 74 [.ref 1] f) fun x56 g56 =>
                      am_cal (am_call 134 [.ref 50] g56) fun x57 g57 =>
                      if x56 = x57 then
                        am_run 187 18 [.ref 0, .ref 1, .ref 50, .int (a3 + 5)] [] g57
                      else
                        am_z 0 (some (0, g57))
                    else
                      if (x1 &&& 31) = 9 then
                        am_cal (am_call 75 [.ref 1] f) fun x58 g58 =>
                        am_cal (am_call 138 [.ref 50] g58) fun x59 g59 =>
                        if x58 = x59 then
                          am_run 187 18 [.ref 0, .ref 1, .ref 50, .int (a3 + 5)] [] g59
                        else
                          am_z 0 (some (0, g59))
                      else
                        if (x1 &&& 31) = 10 then
                          am_cal (am_call 76 [.ref 1] f) fun x60 g60 =>
                          am_cal (am_call 139 [.ref 50] g60) fun x61 g61 =>
                          if x60 = x61 then
                            am_run 187 18 [.ref 0, .ref 1, .ref 50, .int (a3 + 5)] [] g61
                          else
                            am_z 0 (some (0, g61))
                        else
                          if (x1 &&& 31) = 11 then
                            am_ald f 0 ((f 77 0).toNatClampNeg) (a3 + 1) fun x62 =>
                            am_ald f 0 ((f 77 0).toNatClampNeg) (a3 + 2) fun x63 =>
                            am_cal (am_call 77 [.ref 1, .int x62, .int x63] f) fun x64 g64 =>
                            am_ald g64 0 ((g64 77 0).toNatClampNeg) (a3 + 1) fun x65 =>
                            am_ald g64 0 ((g64 77 0).toNatClampNeg) (a3 + 2) fun x66 =>
                            am_cal (am_call 143 [.ref 50, .int x65, .int x66] g64) fun x67 g67 =>
                            if x64 = x67 then
                              am_run 187 18 [.ref 0, .ref 1, .ref 50, .int (a3 + 5)] [] g67
                            else
                              am_z 0 (some (0, g67))
                          else
                            if (x1 &&& 31) = 12 then
                              am_ald f 0 ((f 77 0).toNatClampNeg) (a3 + 1) fun x68 =>
                              am_ald f 0 ((f 77 0).toNatClampNeg) (a3 + 2) fun x69 =>
                              am_cal (am_call 78 [.ref 1, .int x68, .int x69] f) fun x70 g70 =>
                              am_ald g70 0 ((g70 77 0).toNatClampNeg) (a3 + 1) fun x71 =>
                              am_ald g70 0 ((g70 77 0).toNatClampNeg) (a3 + 2) fun x72 =>
                              am_cal (am_call 144 [.ref 50, .int x71, .int x72] g70) fun x73 g73 =>
                              if x70 = x73 then
                                am_run 187 18 [.ref 0, .ref 1, .ref 50, .int (a3 + 5)] [] g73
                              else
                                am_z 0 (some (0, g73))
                            else
                              if (x1 &&& 31) = 13 then
                                am_cal (am_call 79 [.ref 1] f) fun x74 g74 =>
                                am_cal (am_call 146 [.ref 50] g74) fun x75 g75 =>
                                if x74 = x75 then
                                  am_run 187 18 [.ref 0, .ref 1, .ref 50, .int (a3 + 5)] [] g75
                                else
                                  am_z 0 (some (0, g75))
                              else
                                if (x1 &&& 31) = 14 then
                                  am_ald f 0 ((f 77 0).toNatClampNeg) (a3 + 1) fun x76 =>
                                  am_ald f 0 ((f 77 0).toNatClampNeg) (a3 + 2) fun x77 =>
                                  am_ald f 0 ((f 77 0).toNatClampNeg) (a3 + 3) fun x78 =>
                                  am_cal (am_call 80 [.ref 1, .int x76, .int x77, .int x78] f) fun x79 g79 =>
                                  am_ald g79 0 ((g79 77 0).toNatClampNeg) (a3 + 1) fun x80 =>
                                  am_ald g79 0 ((g79 77 0).toNatClampNeg) (a3 + 2) fun x81 =>
                                  am_ald g79 0 ((g79 77 0).toNatClampNeg) (a3 + 3) fun x82 =>
                                  am_cal (am_call 153 [.ref 50, .int x80, .int x81, .int x82] g79) fun x83 g83 =>
                                  if x79 = x83 then
                                    am_run 187 18 [.ref 0, .ref 1, .ref 50, .int (a3 + 5)] [] g83
                                  else
                                    am_z 0 (some (0, g83))
                                else
                                  if (x1 &&& 31) = 15 then
                                    am_ald f 0 ((f 77 0).toNatClampNeg) (a3 + 1) fun x84 =>
                                    am_ald f 0 ((f 77 0).toNatClampNeg) (a3 + 2) fun x85 =>
                                    am_cal (am_call 81 [.ref 1, .int x84, .int x85] f) fun x86 g86 =>
                                    am_ald g86 0 ((g86 77 0).toNatClampNeg) (a3 + 1) fun x87 =>
                                    am_ald g86 0 ((g86 77 0).toNatClampNeg) (a3 + 2) fun x88 =>
                                    am_cal (am_call 157 [.ref 50, .int x87, .int x88] g86) fun x89 g89 =>
                                    if x86 = x89 then
                                      am_run 187 18 [.ref 0, .ref 1, .ref 50, .int (a3 + 5)] [] g89
                                    else
                                      am_z 0 (some (0, g89))
                                  else
                                    if (x1 &&& 31) = 16 then
                                      am_ald f 0 ((f 77 0).toNatClampNeg) (a3 + 1) fun x90 =>
                                      am_ald f 0 ((f 77 0).toNatClampNeg) (a3 + 2) fun x91 =>
                                      am_ald f 0 ((f 77 0).toNatClampNeg) (a3 + 3) fun x92 =>
                                      am_cal (am_call 82 [.ref 1, .int x90, .int x91, .int x92] f) fun x93 g93 =>
                                      am_ald g93 0 ((g93 77 0).toNatClampNeg) (a3 + 1) fun x94 =>
                                      am_ald g93 0 ((g93 77 0).toNatClampNeg) (a3 + 2) fun x95 =>
                                      am_ald g93 0 ((g93 77 0).toNatClampNeg) (a3 + 3) fun x96 =>
                                      am_cal (am_call 161 [.ref 50, .int x94, .int x95, .int x96] g93) fun x97 g97 =>
                                      if x93 = x97 then
                                        am_run 187 18 [.ref 0, .ref 1, .ref 50, .int (a3 + 5)] [] g97
                                      else
                                        am_z 0 (some (0, g97))
                                    else
                                      if (x1 &&& 31) = 17 then
                                        am_ald f 0 ((f 77 0).toNatClampNeg) (a3 + 1) fun x98 =>
                                        am_ald f 0 ((f 77 0).toNatClampNeg) (a3 + 2) fun x99 =>
                                        am_cal (am_call 83 [.ref 1, .int x98, .int x99] f) fun x100 g100 =>
                                        am_ald g100 0 ((g100 77 0).toNatClampNeg) (a3 + 1) fun x101 =>
                                        am_ald g100 0 ((g100 77 0).toNatClampNeg) (a3 + 2) fun x102 =>
                                        am_cal (am_call 163 [.ref 50, .int x101, .int x102] g100) fun x103 g103 =>
                                        if x100 = x103 then
                                          am_run 187 18 [.ref 0, .ref 1, .ref 50, .int (a3 + 5)] [] g103
                                        else
                                          am_z 0 (some (0, g103))
                                      else
                                        if (x1 &&& 31) = 18 then
                                          am_ald f 0 ((f 77 0).toNatClampNeg) (a3 + 1) fun x104 =>
                                          am_ald f 0 ((f 77 0).toNatClampNeg) (a3 + 2) fun x105 =>
                                          am_cal (am_call 87 [.ref 1, .int x104, .int x105] f) fun x106 g106 =>
                                          am_ald g106 0 ((g106 77 0).toNatClampNeg) (a3 + 1) fun x107 =>
                                          am_ald g106 0 ((g106 77 0).toNatClampNeg) (a3 + 2) fun x108 =>
                                          am_cal (am_call 166 [.ref 50, .int x107, .int x108] g106) fun x109 g109 =>
                                          if x106 = x109 then
                                            am_run 187 18 [.ref 0, .ref 1, .ref 50, .int (a3 + 5)] [] g109
                                          else
                                            am_z 0 (some (0, g109))
                                        else
                                          if (x1 &&& 31) = 19 then
                                            am_ald f 0 ((f 77 0).toNatClampNeg) (a3 + 1) fun x110 =>
                                            am_ald f 0 ((f 77 0).toNatClampNeg) (a3 + 2) fun x111 =>
                                            am_cal (am_call 88 [.ref 1, .int x110, .int x111] f) fun x112 g112 =>
                                            am_ald g112 0 ((g112 77 0).toNatClampNeg) (a3 + 1) fun x113 =>
                                            am_ald g112 0 ((g112 77 0).toNatClampNeg) (a3 + 2) fun x114 =>
                                            am_cal (am_call 169 [.ref 50, .int x113, .int x114] g112) fun x115 g115 =>
                                            if x112 = x115 then
                                              am_run 187 18 [.ref 0, .ref 1, .ref 50, .int (a3 + 5)] [] g115
                                            else
                                              am_z 0 (some (0, g115))
                                          else
                                            if (x1 &&& 31) = 20 then
                                              am_ald f 0 ((f 77 0).toNatClampNeg) (a3 + 1) fun x116 =>
                                              am_ald f 0 ((f 77 0).toNatClampNeg) (a3 + 2) fun x117 =>
                                              am_ald f 0 ((f 77 0).toNatClampNeg) (a3 + 3) fun x118 =>
                                              am_cal (am_call 89 [.ref 1, .int x116, .int x117, .int x118] f) fun x119 g119 =>
                                              am_ald g119 0 ((g119 77 0).toNatClampNeg) (a3 + 1) fun x120 =>
                                              am_ald g119 0 ((g119 77 0).toNatClampNeg) (a3 + 2) fun x121 =>
                                              am_ald g119 0 ((g119 77 0).toNatClampNeg) (a3 + 3) fun x122 =>
                                              am_cal (am_call 172 [.ref 50, .int x120, .int x121, .int x122] g119) fun x123 g123 =>
                                              if x119 = x123 then
                                                am_run 187 18 [.ref 0, .ref 1, .ref 50, .int (a3 + 5)] [] g123
                                              else
                                                am_z 0 (some (0, g123))
                                            else
                                              if (x1 &&& 31) = 21 then
                                                am_ald f 0 ((f 77 0).toNatClampNeg) (a3 + 1) fun x124 =>
                                                am_ald f 0 ((f 77 0).toNatClampNeg) (a3 + 2) fun x125 =>
                                                am_ald f 0 ((f 77 0).toNatClampNeg) (a3 + 3) fun x126 =>
                                                am_cal (am_call 90 [.ref 1, .int x124, .int x125, .int x126] f) fun x127 g127 =>
                                                am_ald g127 0 ((g127 77 0).toNatClampNeg) (a3 + 1) fun x128 =>
                                                am_ald g127 0 ((g127 77 0).toNatClampNeg) (a3 + 2) fun x129 =>
                                                am_ald g127 0 ((g127 77 0).toNatClampNeg) (a3 + 3) fun x130 =>
                                                am_cal (am_call 173 [.ref 50, .int x128, .int x129, .int x130] g127) fun x131 g131 =>
                                                if x127 = x131 then
                                                  am_run 187 18 [.ref 0, .ref 1, .ref 50, .int (a3 + 5)] [] g131
                                                else
                                                  am_z 0 (some (0, g131))
                                              else
                                                if (x1 &&& 31) = 22 then
                                                  am_ald f 0 ((f 77 0).toNatClampNeg) (a3 + 1) fun x132 =>
                                                  am_ald f 0 ((f 77 0).toNatClampNeg) (a3 + 2) fun x133 =>
                                                  am_cal (am_call 91 [.ref 1, .int x132, .int x133] f) fun x134 g134 =>
                                                  am_ald g134 0 ((g134 77 0).toNatClampNeg) (a3 + 1) fun x135 =>
                                                  am_ald g134 0 ((g134 77 0).toNatClampNeg) (a3 + 2) fun x136 =>
                                                  am_cal (am_call 174 [.ref 50, .int x135, .int x136] g134) fun x137 g137 =>
                                                  if x134 = x137 then
                                                    am_run 187 18 [.ref 0, .ref 1, .ref 50, .int (a3 + 5)] [] g137
                                                  else
                                                    am_z 0 (some (0, g137))
                                                else
                                                  if (x1 &&& 31) = 23 then
                                                    am_ald f 0 ((f 77 0).toNatClampNeg) (a3 + 1) fun x138 =>
                                                    am_ald f 0 ((f 77 0).toNatClampNeg) (a3 + 2) fun x139 =>
                                                    am_cal (am_call 92 [.ref 1, .int x138, .int x139] f) fun x140 g140 =>
                                                    am_ald g140 0 ((g140 77 0).toNatClampNeg) (a3 + 1) fun x141 =>
                                                    am_ald g140 0 ((g140 77 0).toNatClampNeg) (a3 + 2) fun x142 =>
                                                    am_cal (am_call 175 [.ref 50, .int x141, .int x142] g140) fun x143 g143 =>
                                                    if x140 = x143 then
                                                      am_run 187 18 [.ref 0, .ref 1, .ref 50, .int (a3 + 5)] [] g143
                                                    else
                                                      am_z 0 (some (0, g143))
                                                  else
                                                    if (x1 &&& 31) = 24 then
                                                      am_ald f 0 ((f 77 0).toNatClampNeg) (a3 + 1) fun x144 =>
                                                      am_ald f 0 ((f 77 0).toNatClampNeg) (a3 + 2) fun x145 =>
                                                      am_ald f 0 ((f 77 0).toNatClampNeg) (a3 + 3) fun x146 =>
                                                      am_cal (am_call 98 [.ref 1, .int x144, .int x145, .int x146] f) fun x147 g147 =>
                                                      am_ald g147 0 ((g147 77 0).toNatClampNeg) (a3 + 1) fun x148 =>
                                                      am_ald g147 0 ((g147 77 0).toNatClampNeg) (a3 + 2) fun x149 =>
                                                      am_ald g147 0 ((g147 77 0).toNatClampNeg) (a3 + 3) fun x150 =>
                                                      am_cal (am_call 178 [.ref 50, .int x148, .int x149, .int x150] g147) fun x151 g151 =>
                                                      if x147 = x151 then
                                                        am_run 187 18 [.ref 0, .ref 1, .ref 50, .int (a3 + 5)] [] g151
                                                      else
                                                        am_z 0 (some (0, g151))
                                                    else
                                                      if (x1 &&& 31) = 25 then
                                                        am_ald f 0 ((f 77 0).toNatClampNeg) (a3 + 1) fun x152 =>
                                                        am_ald f 0 ((f 77 0).toNatClampNeg) (a3 + 2) fun x153 =>
                                                        am_cal (am_call 99 [.ref 1, .int x152, .int x153] f) fun x154 g154 =>
                                                        am_ald g154 0 ((g154 77 0).toNatClampNeg) (a3 + 1) fun x155 =>
                                                        am_ald g154 0 ((g154 77 0).toNatClampNeg) (a3 + 2) fun x156 =>
                                                        am_cal (am_call 179 [.ref 50, .int x155, .int x156] g154) fun x157 g157 =>
                                                        if x154 = x157 then
                                                          am_run 187 18 [.ref 0, .ref 1, .ref 50, .int (a3 + 5)] [] g157
                                                        else
                                                          am_z 0 (some (0, g157))
                                                      else
                                                        if (x1 &&& 31) = 26 then
                                                          am_cal (am_call 100 [.ref 1] f) fun x158 g158 =>
                                                          am_cal (am_call 180 [.ref 50] g158) fun x159 g159 =>
                                                          if x158 = x159 then
                                                            am_run 187 18 [.ref 0, .ref 1, .ref 50, .int (a3 + 5)] [] g159
                                                          else
                                                            am_z 0 (some (0, g159))
                                                        else
                                                          if (x1 &&& 31) = 27 then
                                                            am_ald f 0 ((f 77 0).toNatClampNeg) (a3 + 1) fun x160 =>
                                                            am_ald f 0 ((f 77 0).toNatClampNeg) (a3 + 2) fun x161 =>
                                                            am_cal (am_call 101 [.ref 1, .int x160, .int x161] f) fun x162 g162 =>
                                                            am_ald g162 0 ((g162 77 0).toNatClampNeg) (a3 + 1) fun x163 =>
                                                            am_ald g162 0 ((g162 77 0).toNatClampNeg) (a3 + 2) fun x164 =>
                                                            am_cal (am_call 181 [.ref 50, .int x163, .int x164] g162) fun x165 g165 =>
                                                            if x162 = x165 then
                                                              am_run 187 18 [.ref 0, .ref 1, .ref 50, .int (a3 + 5)] [] g165
                                                            else
                                                              am_z 0 (some (0, g165))
                                                          else
                                                            if (x1 &&& 31) = 28 then
                                                              am_ald f 0 ((f 77 0).toNatClampNeg) (a3 + 1) fun x166 =>
                                                              am_ald f 0 ((f 77 0).toNatClampNeg) (a3 + 2) fun x167 =>
                                                              am_cal (am_call 102 [.ref 1, .int x166, .int x167] f) fun x168 g168 =>
                                                              am_ald g168 0 ((g168 77 0).toNatClampNeg) (a3 + 1) fun x169 =>
                                                              am_ald g168 0 ((g168 77 0).toNatClampNeg) (a3 + 2) fun x170 =>
                                                              am_cal (am_call 182 [.ref 50, .int x169, .int x170] g168) fun x171 g171 =>
                                                              if x168 = x171 then
                                                                am_run 187 18 [.ref 0, .ref 1, .ref 50, .int (a3 + 5)] [] g171
                                                              else
                                                                am_z 0 (some (0, g171))
                                                            else
                                                              if (x1 &&& 31) = 29 then
                                                                am_cal (am_call 103 [.ref 1] f) fun x172 g172 =>
                                                                am_cal (am_call 184 [.ref 50] g172) fun x173 g173 =>
                                                                if x172 = x173 then
                                                                  am_run 187 18 [.ref 0, .ref 1, .ref 50, .int (a3 + 5)] [] g173
                                                                else
                                                                  am_z 0 (some (0, g173))
                                                              else
                                                                if (x1 &&& 31) = 30 then
                                                                  am_cal (am_call 104 [.ref 1] f) fun x174 g174 =>
                                                                  am_cal (am_call 185 [.ref 50] g174) fun x175 g175 =>
                                                                  if x174 = x175 then
                                                                    am_run 187 18 [.ref 0, .ref 1, .ref 50, .int (a3 + 5)] [] g175
                                                                  else
                                                                    am_z 0 (some (0, g175))
                                                                else
                                                                  if (x1 &&& 31) = 31 then
                                                                    am_ald f 0 ((f 77 0).toNatClampNeg) (a3 + 1) fun x176 =>
                                                                    am_cal (am_call 105 [.ref 1, .int x176] f) fun x177 g177 =>
                                                                    am_ald g177 0 ((g177 77 0).toNatClampNeg) (a3 + 1) fun x178 =>
                                                                    am_cal (am_call 186 [.ref 50, .int x178] g177) fun x179 g179 =>
                                                                    if x177 = x179 then
                                                                      am_run 187 18 [.ref 0, .ref 1, .ref 50, .int (a3 + 5)] [] g179
                                                                    else
                                                                      am_z 0 (some (0, g179))
                                                                  else
                                                                    am_run 187 18 [.ref 0, .ref 1, .ref 50, .int (a3 + 5)] [] f
  := (am_ex_eq 187 64 18 _ _ f).trans rfl
