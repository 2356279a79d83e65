set_option maxRecDepth 100000 in
set_option maxHeartbeats 4000000 in
theorem am_lw_0 : am_p187_0.all (fun ch => ch.all (fun z => am_okb (yL_law, code, 4, some .boolean, 8, 2, 1, 0, 0, 0, 0) z.1 z.2)) = true := by decide +kernel
set_option maxRecDepth 100000 in
set_option maxHeartbeats 4000000 in
theorem am_lw_1 : am_p187_1.all (fun ch => ch.all (fun z => am_okb (yL_law, code, 4, some .boolean, 8, 2, 1, 0, 0, 0, 0) z.1 z.2)) = true := by decide +kernel
set_option maxRecDepth 100000 in
set_option maxHeartbeats 4000000 in
theorem am_lw_2 : am_p187_2.all (fun ch => ch.all (fun z => am_okb (yL_law, code, 4, some .boolean, 8, 2, 1, 0, 0, 0, 0) z.1 z.2)) = true := by decide +kernel
set_option maxRecDepth 100000 in
set_option maxHeartbeats 4000000 in
theorem am_lw_3 : am_p187_3.all (fun ch => ch.all (fun z => am_okb (yL_law, code, 4, some .boolean, 8, 2, 1, 0, 0, 0, 0) z.1 z.2)) = true := by decide +kernel
set_option maxRecDepth 100000 in
set_option maxHeartbeats 4000000 in
theorem am_lw_4 : am_p187_4.all (fun ch => ch.all (fun z => am_okb (yL_law, code, 4, some .boolean, 8, 2, 1, 0, 0, 0, 0) z.1 z.2)) = true := by decide +kernel
set_option maxRecDepth 100000 in
set_option maxHeartbeats 4000000 in
theorem am_lw_5 : am_p187_5.all (fun ch => ch.all (fun z => am_okb (yL_law, code, 4, some .boolean, 8, 2, 1, 0, 0, 0, 0) z.1 z.2)) = true := by decide +kernel
set_option maxRecDepth 100000 in
set_option maxHeartbeats 4000000 in
theorem am_lw_6 : am_p187_6.all (fun ch => ch.all (fun z => am_okb (yL_law, code, 4, some .boolean, 8, 2, 1, 0, 0, 0, 0) z.1 z.2)) = true := by decide +kernel
set_option maxRecDepth 100000 in
set_option maxHeartbeats 4000000 in
theorem am_lw_7 : am_p187_7.all (fun ch => ch.all (fun z => am_okb (yL_law, code, 4, some .boolean, 8, 2, 1, 0, 0, 0, 0) z.1 z.2)) = true := by decide +kernel
set_option maxRecDepth 100000 in
set_option maxHeartbeats 4000000 in
theorem am_lw_8 : am_p187_8.all (fun ch => ch.all (fun z => am_okb (yL_law, code, 4, some .boolean, 8, 2, 1, 0, 0, 0, 0) z.1 z.2)) = true := by decide +kernel
set_option maxRecDepth 100000 in
set_option maxHeartbeats 4000000 in
theorem am_lw_9 : am_p187_9.all (fun ch => ch.all (fun z => am_okb (yL_law, code, 4, some .boolean, 8, 2, 1, 0, 0, 0, 0) z.1 z.2)) = true := by decide +kernel
theorem am_lw_t : am_mth 187 = some am_p187 := rfl
theorem am_lw_i : am_inf 187 = some (yL_law, code, 4, some .boolean, 8, 2, 1, 0, 0, 0, 0) := rfl
theorem am_lw_w : am_iwok (yL_law, code, 4, some .boolean, 8, 2, 1, 0, 0, 0, 0) = true := by decide +kernel
theorem am_chk_187 : am_chk 187 = true := by
  simp only [am_chk, am_lw_t, am_lw_i, am_lw_w, am_p187, List.all_append, Bool.and_eq_true, Bool.true_and, am_lw_0, am_lw_1, am_lw_2, am_lw_3, am_lw_4, am_lw_5, am_lw_6, am_lw_7, am_lw_8, am_lw_9]
  decide
theorem am_chk_all : ∀ m : Nat, 0 < m → m < 190 → am_chk m = true
  | 0, h, _ => absurd h (Nat.lt_irrefl 0)
  | 1, _, _ => am_chk_1
  | 2, _, _ => am_chk_2
  | 3, _, _ => am_chk_3
  | 4, _, _ => am_chk_4
  | 5, _, _ => am_chk_5
  | 6, _, _ => am_chk_6
  | 7, _, _ => am_chk_7
  | 8, _, _ => am_chk_8
  | 9, _, _ => am_chk_9
  | 10, _, _ => am_chk_10
  | 11, _, _ => am_chk_11
  | 12, _, _ => am_chk_12
  | 13, _, _ => am_chk_13
  | 14, _, _ => am_chk_14
  | 15, _, _ => am_chk_15
  | 16, _, _ => am_chk_16
  | 17, _, _ => am_chk_17
  | 18, _, _ => am_chk_18
  | 19, _, _ => am_chk_19
  | 20, _, _ => am_chk_20
  | 21, _, _ => am_chk_21
  | 22, _, _ => am_chk_22
  | 23, _, _ => am_chk_23
  | 24, _, _ => am_chk_24
  | 25, _, _ => am_chk_25
  | 26, _, _ => am_chk_26
  | 27, _, _ => am_chk_27
  | 28, _, _ => am_chk_28
  | 29, _, _ => am_chk_29
  | 30, _, _ => am_chk_30
  | 31, _, _ => am_chk_31
  | 32, _, _ => am_chk_32
  | 33, _, _ => am_chk_33
  | 34, _, _ => am_chk_34
  | 35, _, _ => am_chk_35
  | 36, _, _ => am_chk_36
  | 37, _, _ => am_chk_37
  | 38, _, _ => am_chk_38
  | 39, _, _ => am_chk_39
  | 40, _, _ => am_chk_40
  | 41, _, _ => am_chk_41
  | 42, _, _ => am_chk_42
  | 43, _, _ => am_chk_43
  | 44, _, _ => am_chk_44
  | 45, _, _ => am_chk_45
  | 46, _, _ => am_chk_46
  | 47, _, _ => am_chk_47
  | 48, _, _ => am_chk_48
  | 49, _, _ => am_chk_49
  | 50, _, _ => am_chk_50
  | 51, _, _ => am_chk_51
  | 52, _, _ => am_chk_52
  | 53, _, _ => am_chk_53
  | 54, _, _ => am_chk_54
  | 55, _, _ => am_chk_55
  | 56, _, _ => am_chk_56
  | 57, _, _ => am_chk_57
  | 58, _, _ => am_chk_58
  | 59, _, _ => am_chk_59
  | 60, _, _ => am_chk_60
  | 61, _, _ => am_chk_61
  | 62, _, _ => am_chk_62
  | 63, _, _ => am_chk_63
  | 64, _, _ => am_chk_64
  | 65, _, _ => am_chk_65
  | 66, _, _ => am_chk_66
  | 67, _, _ => am_chk_67
  | 68, _, _ => am_chk_68
  | 69, _, _ => am_chk_69
  | 70, _, _ => am_chk_70
  | 71, _, _ => am_chk_71
  | 72, _, _ => am_chk_72
  | 73, _, _ => am_chk_73
  | 74, _, _ => am_chk_74
  | 75, _, _ => am_chk_75
  | 76, _, _ => am_chk_76
  | 77, _, _ => am_chk_77
  | 78, _, _ => am_chk_78
  | 79, _, _ => am_chk_79
  | 80, _, _ => am_chk_80
  | 81, _, _ => am_chk_81
  | 82, _, _ => am_chk_82
  | 83, _, _ => am_chk_83
  | 84, _, _ => am_chk_84
  | 85, _, _ => am_chk_85
  | 86, _, _ => am_chk_86
  | 87, _, _ => am_chk_87
  | 88, _, _ => am_chk_88
  | 89, _, _ => am_chk_89
  | 90, _, _ => am_chk_90
  | 91, _, _ => am_chk_91
  | 92, _, _ => am_chk_92
  | 93, _, _ => am_chk_93
  | 94, _, _ => am_chk_94
  | 95, _, _ => am_chk_95
  | 96, _, _ => am_chk_96
  | 97, _, _ => am_chk_97
  | 98, _, _ => am_chk_98
  | 99, _, _ => am_chk_99
  | 100, _, _ => am_chk_100
  | 101, _, _ => am_chk_101
  | 102, _, _ => am_chk_102
  | 103, _, _ => am_chk_103
  | 104, _, _ => am_chk_104
  | 105, _, _ => am_chk_105
  | 106, _, _ => am_chk_106
  | 107, _, _ => am_chk_107
  | 108, _, _ => am_chk_108
  | 109, _, _ => am_chk_109
  | 110, _, _ => am_chk_110
  | 111, _, _ => am_chk_111
  | 112, _, _ => am_chk_112
  | 113, _, _ => am_chk_113
  | 114, _, _ => am_chk_114
  | 115, _, _ => am_chk_115
  | 116, _, _ => am_chk_116
  | 117, _, _ => am_chk_117
  | 118, _, _ => am_chk_118
  | 119, _, _ => am_chk_119
  | 120, _, _ => am_chk_120
  | 121, _, _ => am_chk_121
  | 122, _, _ => am_chk_122
  | 123, _, _ => am_chk_123
  | 124, _, _ => am_chk_124
  | 125, _, _ => am_chk_125
  | 126, _, _ => am_chk_126
  | 127, _, _ => am_chk_127
  | 128, _, _ => am_chk_128
  | 129, _, _ => am_chk_129
  | 130, _, _ => am_chk_130
  | 131, _, _ => am_chk_131
  | 132, _, _ => am_chk_132
  | 133, _, _ => am_chk_133
  | 134, _, _ => am_chk_134
  | 135, _, _ => am_chk_135
  | 136, _, _ => am_chk_136
  | 137, _, _ => am_chk_137
  | 138, _, _ => am_chk_138
  | 139, _, _ => am_chk_139
  | 140, _, _ => am_chk_140
  | 141, _, _ => am_chk_141
  | 142, _, _ => am_chk_142
  | 143, _, _ => am_chk_143
  | 144, _, _ => am_chk_144
  | 145, _, _ => am_chk_145
  | 146, _, _ => am_chk_146
  | 147, _, _ => am_chk_147
  | 148, _, _ => am_chk_148
  | 149, _, _ => am_chk_149
  | 150, _, _ => am_chk_150
  | 151, _, _ => am_chk_151
  | 152, _, _ => am_chk_152
  | 153, _, _ => am_chk_153
  | 154, _, _ => am_chk_154
  | 155, _, _ => am_chk_155
  | 156, _, _ => am_chk_156
  | 157, _, _ => am_chk_157
  | 158, _, _ => am_chk_158
  | 159, _, _ => am_chk_159
  | 160, _, _ => am_chk_160
  | 161, _, _ => am_chk_161
  | 162, _, _ => am_chk_162
  | 163, _, _ => am_chk_163
  | 164, _, _ => am_chk_164
  | 165, _, _ => am_chk_165
  | 166, _, _ => am_chk_166
  | 167, _, _ => am_chk_167
  | 168, _, _ => am_chk_168
  | 169, _, _ => am_chk_169
  | 170, _, _ => am_chk_170
  | 171, _, _ => am_chk_171
  | 172, _, _ => am_chk_172
  | 173, _, _ => am_chk_173
  | 174, _, _ => am_chk_174
  | 175, _, _ => am_chk_175
  | 176, _, _ => am_chk_176
  | 177, _, _ => am_chk_177
  | 178, _, _ => am_chk_178
  | 179, _, _ => am_chk_179
  | 180, _, _ => am_chk_180
  | 181, _, _ => am_chk_181
  | 182, _, _ => am_chk_182
  | 183, _, _ => am_chk_183
  | 184, _, _ => am_chk_184
  | 185, _, _ => am_chk_185
  | 186, _, _ => am_chk_186
  | 187, _, _ => am_chk_187
  | 188, _, _ => am_chk_188
  | 189, _, _ => am_chk_189
  | n + 190, _, h => absurd h (by omega)
