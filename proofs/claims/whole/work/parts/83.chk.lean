theorem ck_0 : chkY 0 = true := by decide +kernel
theorem ck_1 : chkY 1 = true := by decide +kernel
theorem ck_2 : chkY 2 = true := by decide +kernel
theorem ck_3 : chkY 3 = true := by decide +kernel
theorem ck_4 : chkY 4 = true := by decide +kernel
theorem ck_5 : chkY 5 = true := by decide +kernel
theorem ck_6 : chkY 6 = true := by decide +kernel
theorem ck_7 : chkY 7 = true := by decide +kernel
theorem ck_8 : chkY 8 = true := by decide +kernel
theorem ck_9 : chkY 9 = true := by decide +kernel
theorem ck_10 : chkY 10 = true := by decide +kernel
theorem ck_11 : chkY 11 = true := by decide +kernel
theorem ck_12 : chkY 12 = true := by decide +kernel
theorem ck_13 : chkY 13 = true := by decide +kernel
theorem ck_14 : chkY 14 = true := by decide +kernel
theorem ck_15 : chkY 15 = true := by decide +kernel
theorem ck_16 : chkY 16 = true := by decide +kernel
theorem ck_17 : chkY 17 = true := by decide +kernel
theorem ck_18 : chkY 18 = true := by decide +kernel
theorem ck_19 : chkY 19 = true := by decide +kernel
theorem ck_20 : chkY 20 = true := by decide +kernel
theorem ck_21 : chkY 21 = true := by decide +kernel
theorem ck_22 : chkY 22 = true := by decide +kernel
theorem ck_23 : chkY 23 = true := by decide +kernel
theorem ck_24 : chkY 24 = true := by decide +kernel
theorem ck_25 : chkY 25 = true := by decide +kernel
theorem ck_26 : chkY 26 = true := by decide +kernel
theorem ck_27 : chkY 27 = true := by decide +kernel
theorem ck_28 : chkY 28 = true := by decide +kernel
theorem ck_29 : chkY 29 = true := by decide +kernel
theorem ck_30 : chkY 30 = true := by decide +kernel
theorem ck_31 : chkY 31 = true := by decide +kernel
theorem ck_32 : chkY 32 = true := by decide +kernel
theorem ck_33 : chkY 33 = true := by decide +kernel
theorem ck_34 : chkY 34 = true := by decide +kernel
theorem ck_35 : chkY 35 = true := by decide +kernel
theorem ck_36 : chkY 36 = true := by decide +kernel
theorem ck_37 : chkY 37 = true := by decide +kernel
theorem ck_38 : chkY 38 = true := by decide +kernel
theorem ck_39 : chkY 39 = true := by decide +kernel
theorem ck_40 : chkY 40 = true := by decide +kernel
theorem ck_41 : chkY 41 = true := by decide +kernel
theorem ck_42 : chkY 42 = true := by decide +kernel
theorem ck_43 : chkY 43 = true := by decide +kernel
theorem ck_44 : chkY 44 = true := by decide +kernel
theorem ck_45 : chkY 45 = true := by decide +kernel
theorem ck_46 : chkY 46 = true := by decide +kernel
theorem ck_47 : chkY 47 = true := by decide +kernel
theorem ck_48 : chkY 48 = true := by decide +kernel
theorem ck_49 : chkY 49 = true := by decide +kernel
theorem ck_50 : chkY 50 = true := by decide +kernel
theorem ck_51 : chkY 51 = true := by decide +kernel
theorem ck_52 : chkY 52 = true := by decide +kernel
theorem ck_53 : chkY 53 = true := by decide +kernel
theorem ck_54 : chkY 54 = true := by decide +kernel
theorem ck_55 : chkY 55 = true := by decide +kernel
theorem ck_56 : chkY 56 = true := by decide +kernel
theorem ck_57 : chkY 57 = true := by decide +kernel
theorem ck_58 : chkY 58 = true := by decide +kernel
theorem ck_59 : chkY 59 = true := by decide +kernel
theorem ck_60 : chkY 60 = true := by decide +kernel
theorem ck_61 : chkY 61 = true := by decide +kernel
theorem ck_62 : chkY 62 = true := by decide +kernel
theorem ck_63 : chkY 63 = true := by decide +kernel
theorem ck_64 : chkY 64 = true := by decide +kernel
theorem ck_65 : chkY 65 = true := by decide +kernel
theorem ck_66 : chkY 66 = true := by decide +kernel
theorem ck_67 : chkY 67 = true := by decide +kernel
theorem ck_68 : chkY 68 = true := by decide +kernel
theorem ck_69 : chkY 69 = true := by decide +kernel
theorem ck_70 : chkY 70 = true := by decide +kernel
theorem ck_71 : chkY 71 = true := by decide +kernel
theorem ck_72 : chkY 72 = true := by decide +kernel
theorem ck_73 : chkY 73 = true := by decide +kernel
theorem ck_74 : chkY 74 = true := by decide +kernel
theorem ck_75 : chkY 75 = true := by decide +kernel
theorem ck_76 : chkY 76 = true := by decide +kernel
theorem ck_77 : chkY 77 = true := by decide +kernel
theorem ck_78 : chkY 78 = true := by decide +kernel
theorem ck_79 : chkY 79 = true := by decide +kernel
theorem ck_80 : chkY 80 = true := by decide +kernel
theorem ck_81 : chkY 81 = true := by decide +kernel
theorem ck_82 : chkY 82 = true := by decide +kernel
theorem ck_83 : chkY 83 = true := by decide +kernel
theorem ck_84 : chkY 84 = true := by decide +kernel
theorem ck_85 : chkY 85 = true := by decide +kernel
theorem ck_86 : chkY 86 = true := by decide +kernel
theorem ck_87 : chkY 87 = true := by decide +kernel
theorem ck_88 : chkY 88 = true := by decide +kernel
theorem ck_89 : chkY 89 = true := by decide +kernel
theorem ck_90 : chkY 90 = true := by decide +kernel
theorem ck_91 : chkY 91 = true := by decide +kernel
theorem ck_92 : chkY 92 = true := by decide +kernel
theorem ck_93 : chkY 93 = true := by decide +kernel
theorem ck_94 : chkY 94 = true := by decide +kernel
theorem ck_95 : chkY 95 = true := by decide +kernel
theorem ck_96 : chkY 96 = true := by decide +kernel
theorem ck_97 : chkY 97 = true := by decide +kernel
theorem ck_98 : chkY 98 = true := by decide +kernel
theorem ck_99 : chkY 99 = true := by decide +kernel
theorem ck_100 : chkY 100 = true := by decide +kernel
theorem ck_101 : chkY 101 = true := by decide +kernel
theorem ck_102 : chkY 102 = true := by decide +kernel
theorem ck_103 : chkY 103 = true := by decide +kernel
theorem ck_104 : chkY 104 = true := by decide +kernel
theorem ck_105 : chkY 105 = true := by decide +kernel
theorem ck_106 : chkY 106 = true := by decide +kernel
theorem ck_107 : chkY 107 = true := by decide +kernel
theorem ck_108 : chkY 108 = true := by decide +kernel
theorem ck_109 : chkY 109 = true := by decide +kernel
theorem ck_110 : chkY 110 = true := by decide +kernel
theorem ck_111 : chkY 111 = true := by decide +kernel
theorem ck_112 : chkY 112 = true := by decide +kernel
theorem ck_113 : chkY 113 = true := by decide +kernel
theorem ck_114 : chkY 114 = true := by decide +kernel
theorem ck_115 : chkY 115 = true := by decide +kernel
theorem ck_116 : chkY 116 = true := by decide +kernel
theorem ck_117 : chkY 117 = true := by decide +kernel
theorem ck_118 : chkY 118 = true := by decide +kernel
theorem ck_119 : chkY 119 = true := by decide +kernel
theorem ck_120 : chkY 120 = true := by decide +kernel
theorem ck_121 : chkY 121 = true := by decide +kernel
theorem ck_122 : chkY 122 = true := by decide +kernel
theorem ck_123 : chkY 123 = true := by decide +kernel
theorem ck_124 : chkY 124 = true := by decide +kernel
theorem ck_125 : chkY 125 = true := by decide +kernel
theorem ck_126 : chkY 126 = true := by decide +kernel
theorem ck_127 : chkY 127 = true := by decide +kernel
theorem ck_128 : chkY 128 = true := by decide +kernel
theorem ck_129 : chkY 129 = true := by decide +kernel
theorem ck_130 : chkY 130 = true := by decide +kernel
theorem ck_131 : chkY 131 = true := by decide +kernel
theorem ck_132 : chkY 132 = true := by decide +kernel
theorem ck_133 : chkY 133 = true := by decide +kernel
theorem ck_134 : chkY 134 = true := by decide +kernel
theorem ck_135 : chkY 135 = true := by decide +kernel
theorem ck_136 : chkY 136 = true := by decide +kernel
theorem ck_137 : chkY 137 = true := by decide +kernel
theorem ck_138 : chkY 138 = true := by decide +kernel
theorem ck_139 : chkY 139 = true := by decide +kernel
theorem ck_140 : chkY 140 = true := by decide +kernel
theorem ck_141 : chkY 141 = true := by decide +kernel
theorem ck_142 : chkY 142 = true := by decide +kernel
theorem ck_143 : chkY 143 = true := by decide +kernel
theorem ck_144 : chkY 144 = true := by decide +kernel
theorem ck_145 : chkY 145 = true := by decide +kernel
theorem ck_146 : chkY 146 = true := by decide +kernel
theorem ck_147 : chkY 147 = true := by decide +kernel
theorem ck_148 : chkY 148 = true := by decide +kernel
theorem ck_149 : chkY 149 = true := by decide +kernel
theorem ck_150 : chkY 150 = true := by decide +kernel
theorem ck_151 : chkY 151 = true := by decide +kernel
theorem ck_152 : chkY 152 = true := by decide +kernel
theorem ck_153 : chkY 153 = true := by decide +kernel
theorem ck_154 : chkY 154 = true := by decide +kernel
theorem ck_155 : chkY 155 = true := by decide +kernel
theorem ck_156 : chkY 156 = true := by decide +kernel
theorem ck_157 : chkY 157 = true := by decide +kernel
theorem ck_158 : chkY 158 = true := by decide +kernel
theorem ck_159 : chkY 159 = true := by decide +kernel
theorem ck_160 : chkY 160 = true := by decide +kernel
theorem ck_161 : chkY 161 = true := by decide +kernel
theorem ck_162 : chkY 162 = true := by decide +kernel
theorem ck_163 : chkY 163 = true := by decide +kernel
theorem ck_164 : chkY 164 = true := by decide +kernel
theorem ck_165 : chkY 165 = true := by decide +kernel
theorem ck_166 : chkY 166 = true := by decide +kernel
theorem ck_167 : chkY 167 = true := by decide +kernel
theorem ck_168 : chkY 168 = true := by decide +kernel
theorem ck_169 : chkY 169 = true := by decide +kernel
theorem ck_170 : chkY 170 = true := by decide +kernel
theorem ck_171 : chkY 171 = true := by decide +kernel
theorem ck_172 : chkY 172 = true := by decide +kernel
theorem ck_173 : chkY 173 = true := by decide +kernel
theorem ck_174 : chkY 174 = true := by decide +kernel
theorem ck_175 : chkY 175 = true := by decide +kernel
theorem ck_176 : chkY 176 = true := by decide +kernel
theorem ck_177 : chkY 177 = true := by decide +kernel
theorem ck_178 : chkY 178 = true := by decide +kernel
theorem ck_179 : chkY 179 = true := by decide +kernel
theorem ck_180 : chkY 180 = true := by decide +kernel
theorem ck_181 : chkY 181 = true := by decide +kernel
theorem ck_182 : chkY 182 = true := by decide +kernel
theorem ck_183 : chkY 183 = true := by decide +kernel
theorem ck_184 : chkY 184 = true := by decide +kernel
theorem ck_185 : chkY 185 = true := by decide +kernel
theorem ck_186 : chkY 186 = true := by decide +kernel
theorem ck_187 : chkY 187 = true := by decide +kernel
theorem ck_188 : chkY 188 = true := by decide +kernel
theorem ck_189 : chkY 189 = true := by decide +kernel
theorem ck_190 : chkY 190 = true := by decide +kernel
theorem ck_191 : chkY 191 = true := by decide +kernel
theorem ck_192 : chkY 192 = true := by decide +kernel
theorem ck_193 : chkY 193 = true := by decide +kernel
theorem ck_194 : chkY 194 = true := by decide +kernel
theorem ck_195 : chkY 195 = true := by decide +kernel
theorem ck_196 : chkY 196 = true := by decide +kernel
theorem ck_197 : chkY 197 = true := by decide +kernel
theorem ck_198 : chkY 198 = true := by decide +kernel
theorem ck_199 : chkY 199 = true := by decide +kernel
theorem chkAll : ∀ y : Nat, y < 200 → chkY y = true := fun y hy => match y, hy with
  | 0, _ => ck_0
  | 1, _ => ck_1
  | 2, _ => ck_2
  | 3, _ => ck_3
  | 4, _ => ck_4
  | 5, _ => ck_5
  | 6, _ => ck_6
  | 7, _ => ck_7
  | 8, _ => ck_8
  | 9, _ => ck_9
  | 10, _ => ck_10
  | 11, _ => ck_11
  | 12, _ => ck_12
  | 13, _ => ck_13
  | 14, _ => ck_14
  | 15, _ => ck_15
  | 16, _ => ck_16
  | 17, _ => ck_17
  | 18, _ => ck_18
  | 19, _ => ck_19
  | 20, _ => ck_20
  | 21, _ => ck_21
  | 22, _ => ck_22
  | 23, _ => ck_23
  | 24, _ => ck_24
  | 25, _ => ck_25
  | 26, _ => ck_26
  | 27, _ => ck_27
  | 28, _ => ck_28
  | 29, _ => ck_29
  | 30, _ => ck_30
  | 31, _ => ck_31
  | 32, _ => ck_32
  | 33, _ => ck_33
  | 34, _ => ck_34
  | 35, _ => ck_35
  | 36, _ => ck_36
  | 37, _ => ck_37
  | 38, _ => ck_38
  | 39, _ => ck_39
  | 40, _ => ck_40
  | 41, _ => ck_41
  | 42, _ => ck_42
  | 43, _ => ck_43
  | 44, _ => ck_44
  | 45, _ => ck_45
  | 46, _ => ck_46
  | 47, _ => ck_47
  | 48, _ => ck_48
  | 49, _ => ck_49
  | 50, _ => ck_50
  | 51, _ => ck_51
  | 52, _ => ck_52
  | 53, _ => ck_53
  | 54, _ => ck_54
  | 55, _ => ck_55
  | 56, _ => ck_56
  | 57, _ => ck_57
  | 58, _ => ck_58
  | 59, _ => ck_59
  | 60, _ => ck_60
  | 61, _ => ck_61
  | 62, _ => ck_62
  | 63, _ => ck_63
  | 64, _ => ck_64
  | 65, _ => ck_65
  | 66, _ => ck_66
  | 67, _ => ck_67
  | 68, _ => ck_68
  | 69, _ => ck_69
  | 70, _ => ck_70
  | 71, _ => ck_71
  | 72, _ => ck_72
  | 73, _ => ck_73
  | 74, _ => ck_74
  | 75, _ => ck_75
  | 76, _ => ck_76
  | 77, _ => ck_77
  | 78, _ => ck_78
  | 79, _ => ck_79
  | 80, _ => ck_80
  | 81, _ => ck_81
  | 82, _ => ck_82
  | 83, _ => ck_83
  | 84, _ => ck_84
  | 85, _ => ck_85
  | 86, _ => ck_86
  | 87, _ => ck_87
  | 88, _ => ck_88
  | 89, _ => ck_89
  | 90, _ => ck_90
  | 91, _ => ck_91
  | 92, _ => ck_92
  | 93, _ => ck_93
  | 94, _ => ck_94
  | 95, _ => ck_95
  | 96, _ => ck_96
  | 97, _ => ck_97
  | 98, _ => ck_98
  | 99, _ => ck_99
  | 100, _ => ck_100
  | 101, _ => ck_101
  | 102, _ => ck_102
  | 103, _ => ck_103
  | 104, _ => ck_104
  | 105, _ => ck_105
  | 106, _ => ck_106
  | 107, _ => ck_107
  | 108, _ => ck_108
  | 109, _ => ck_109
  | 110, _ => ck_110
  | 111, _ => ck_111
  | 112, _ => ck_112
  | 113, _ => ck_113
  | 114, _ => ck_114
  | 115, _ => ck_115
  | 116, _ => ck_116
  | 117, _ => ck_117
  | 118, _ => ck_118
  | 119, _ => ck_119
  | 120, _ => ck_120
  | 121, _ => ck_121
  | 122, _ => ck_122
  | 123, _ => ck_123
  | 124, _ => ck_124
  | 125, _ => ck_125
  | 126, _ => ck_126
  | 127, _ => ck_127
  | 128, _ => ck_128
  | 129, _ => ck_129
  | 130, _ => ck_130
  | 131, _ => ck_131
  | 132, _ => ck_132
  | 133, _ => ck_133
  | 134, _ => ck_134
  | 135, _ => ck_135
  | 136, _ => ck_136
  | 137, _ => ck_137
  | 138, _ => ck_138
  | 139, _ => ck_139
  | 140, _ => ck_140
  | 141, _ => ck_141
  | 142, _ => ck_142
  | 143, _ => ck_143
  | 144, _ => ck_144
  | 145, _ => ck_145
  | 146, _ => ck_146
  | 147, _ => ck_147
  | 148, _ => ck_148
  | 149, _ => ck_149
  | 150, _ => ck_150
  | 151, _ => ck_151
  | 152, _ => ck_152
  | 153, _ => ck_153
  | 154, _ => ck_154
  | 155, _ => ck_155
  | 156, _ => ck_156
  | 157, _ => ck_157
  | 158, _ => ck_158
  | 159, _ => ck_159
  | 160, _ => ck_160
  | 161, _ => ck_161
  | 162, _ => ck_162
  | 163, _ => ck_163
  | 164, _ => ck_164
  | 165, _ => ck_165
  | 166, _ => ck_166
  | 167, _ => ck_167
  | 168, _ => ck_168
  | 169, _ => ck_169
  | 170, _ => ck_170
  | 171, _ => ck_171
  | 172, _ => ck_172
  | 173, _ => ck_173
  | 174, _ => ck_174
  | 175, _ => ck_175
  | 176, _ => ck_176
  | 177, _ => ck_177
  | 178, _ => ck_178
  | 179, _ => ck_179
  | 180, _ => ck_180
  | 181, _ => ck_181
  | 182, _ => ck_182
  | 183, _ => ck_183
  | 184, _ => ck_184
  | 185, _ => ck_185
  | 186, _ => ck_186
  | 187, _ => ck_187
  | 188, _ => ck_188
  | 189, _ => ck_189
  | 190, _ => ck_190
  | 191, _ => ck_191
  | 192, _ => ck_192
  | 193, _ => ck_193
  | 194, _ => ck_194
  | 195, _ => ck_195
  | 196, _ => ck_196
  | 197, _ => ck_197
  | 198, _ => ck_198
  | 199, _ => ck_199
  | n + 200, h => absurd h (by omega)
theorem mo_0 : (List.range 20).all (fun i => mOk (0 + i)) = true := by decide +kernel
theorem mo_1 : (List.range 20).all (fun i => mOk (20 + i)) = true := by decide +kernel
theorem mo_2 : (List.range 20).all (fun i => mOk (40 + i)) = true := by decide +kernel
theorem mo_3 : (List.range 20).all (fun i => mOk (60 + i)) = true := by decide +kernel
theorem mo_4 : (List.range 20).all (fun i => mOk (80 + i)) = true := by decide +kernel
theorem mo_5 : (List.range 20).all (fun i => mOk (100 + i)) = true := by decide +kernel
theorem mo_6 : (List.range 20).all (fun i => mOk (120 + i)) = true := by decide +kernel
theorem mo_7 : (List.range 20).all (fun i => mOk (140 + i)) = true := by decide +kernel
theorem mo_8 : (List.range 20).all (fun i => mOk (160 + i)) = true := by decide +kernel
theorem mo_9 : (List.range 20).all (fun i => mOk (180 + i)) = true := by decide +kernel
theorem mAll (y : Nat) (hy : y < 200) : mOk y = true := by
  by_cases h0 : y < 20
  · have := List.all_eq_true.mp mo_0 (y - 0) (List.mem_range.mpr (by omega))
    rwa [show 0 + (y - 0) = y by omega] at this
  by_cases h1 : y < 40
  · have := List.all_eq_true.mp mo_1 (y - 20) (List.mem_range.mpr (by omega))
    rwa [show 20 + (y - 20) = y by omega] at this
  by_cases h2 : y < 60
  · have := List.all_eq_true.mp mo_2 (y - 40) (List.mem_range.mpr (by omega))
    rwa [show 40 + (y - 40) = y by omega] at this
  by_cases h3 : y < 80
  · have := List.all_eq_true.mp mo_3 (y - 60) (List.mem_range.mpr (by omega))
    rwa [show 60 + (y - 60) = y by omega] at this
  by_cases h4 : y < 100
  · have := List.all_eq_true.mp mo_4 (y - 80) (List.mem_range.mpr (by omega))
    rwa [show 80 + (y - 80) = y by omega] at this
  by_cases h5 : y < 120
  · have := List.all_eq_true.mp mo_5 (y - 100) (List.mem_range.mpr (by omega))
    rwa [show 100 + (y - 100) = y by omega] at this
  by_cases h6 : y < 140
  · have := List.all_eq_true.mp mo_6 (y - 120) (List.mem_range.mpr (by omega))
    rwa [show 120 + (y - 120) = y by omega] at this
  by_cases h7 : y < 160
  · have := List.all_eq_true.mp mo_7 (y - 140) (List.mem_range.mpr (by omega))
    rwa [show 140 + (y - 140) = y by omega] at this
  by_cases h8 : y < 180
  · have := List.all_eq_true.mp mo_8 (y - 160) (List.mem_range.mpr (by omega))
    rwa [show 160 + (y - 160) = y by omega] at this
  by_cases h9 : y < 200
  · have := List.all_eq_true.mp mo_9 (y - 180) (List.mem_range.mpr (by omega))
    rwa [show 180 + (y - 180) = y by omega] at this
  omega
