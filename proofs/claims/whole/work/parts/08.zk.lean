theorem zk_0 : okMt 0 = true := by decide +kernel
theorem zk_1 : okMt 1 = true := by decide +kernel
theorem zk_2 : okMt 2 = true := by decide +kernel
theorem zk_3 : okMt 3 = true := by decide +kernel
theorem zk_4 : okMt 4 = true := by decide +kernel
theorem zk_5 : okMt 5 = true := by decide +kernel
theorem zk_6 : okMt 6 = true := by decide +kernel
theorem zk_7 : okMt 7 = true := by decide +kernel
theorem zk_8 : okMt 8 = true := by decide +kernel
theorem zk_9 : okMt 9 = true := by decide +kernel
theorem zk_10 : okMt 10 = true := by decide +kernel
theorem zk_11 : okMt 11 = true := by decide +kernel
theorem zk_12 : okMt 12 = true := by decide +kernel
theorem zk_13 : okMt 13 = true := by decide +kernel
theorem zk_14 : okMt 14 = true := by decide +kernel
theorem zk_15 : okMt 15 = true := by decide +kernel
theorem zk_16 : okMt 16 = true := by decide +kernel
theorem zk_17 : okMt 17 = true := by decide +kernel
theorem zk_18 : okMt 18 = true := by decide +kernel
theorem zk_19 : okMt 19 = true := by decide +kernel
theorem zk_20 : okMt 20 = true := by decide +kernel
theorem zk_21 : okMt 21 = true := by decide +kernel
theorem zk_22 : okMt 22 = true := by decide +kernel
theorem zk_23 : okMt 23 = true := by decide +kernel
theorem zk_24 : okMt 24 = true := by decide +kernel
theorem zk_25 : okMt 25 = true := by decide +kernel
theorem zk_26 : okMt 26 = true := by decide +kernel
theorem zk_27 : okMt 27 = true := by decide +kernel
theorem zk_28 : okMt 28 = true := by decide +kernel
theorem zk_29 : okMt 29 = true := by decide +kernel
theorem zk_30 : okMt 30 = true := by decide +kernel
theorem zk_31 : okMt 31 = true := by decide +kernel
theorem zk_32 : okMt 32 = true := by decide +kernel
theorem zk_33 : okMt 33 = true := by decide +kernel
theorem zk_34 : okMt 34 = true := by decide +kernel
theorem zk_35 : okMt 35 = true := by decide +kernel
theorem zk_36 : okMt 36 = true := by decide +kernel
theorem zk_37 : okMt 37 = true := by decide +kernel
theorem zk_38 : okMt 38 = true := by decide +kernel
theorem zk_39 : okMt 39 = true := by decide +kernel
theorem zk_40 : okMt 40 = true := by decide +kernel
theorem zk_41 : okMt 41 = true := by decide +kernel
theorem zk_42 : okMt 42 = true := by decide +kernel
theorem zk_43 : okMt 43 = true := by decide +kernel
theorem zk_44 : okMt 44 = true := by decide +kernel
theorem zk_45 : okMt 45 = true := by decide +kernel
theorem zk_46 : okMt 46 = true := by decide +kernel
theorem zk_47 : okMt 47 = true := by decide +kernel
theorem zk_48 : okMt 48 = true := by decide +kernel
theorem zk_49 : okMt 49 = true := by decide +kernel
theorem zk_50 : okMt 50 = true := by decide +kernel
theorem zk_51 : okMt 51 = true := by decide +kernel
theorem zk_52 : okMt 52 = true := by decide +kernel
theorem zk_53 : okMt 53 = true := by decide +kernel
theorem zk_54 : okMt 54 = true := by decide +kernel
theorem zk_55 : okMt 55 = true := by decide +kernel
theorem zk_56 : okMt 56 = true := by decide +kernel
theorem zk_57 : okMt 57 = true := by decide +kernel
theorem zk_58 : okMt 58 = true := by decide +kernel
theorem zk_59 : okMt 59 = true := by decide +kernel
theorem zk_60 : okMt 60 = true := by decide +kernel
theorem zk_61 : okMt 61 = true := by decide +kernel
theorem zk_62 : okMt 62 = true := by decide +kernel
theorem zk_63 : okMt 63 = true := by decide +kernel
theorem zk_64 : okMt 64 = true := by decide +kernel
theorem zk_65 : okMt 65 = true := by decide +kernel
theorem zk_66 : okMt 66 = true := by decide +kernel
theorem zk_67 : okMt 67 = true := by decide +kernel
theorem zk_68 : okMt 68 = true := by decide +kernel
theorem zk_69 : okMt 69 = true := by decide +kernel
theorem zk_70 : okMt 70 = true := by decide +kernel
theorem zk_71 : okMt 71 = true := by decide +kernel
theorem zk_72 : okMt 72 = true := by decide +kernel
theorem zk_73 : okMt 73 = true := by decide +kernel
theorem zk_74 : okMt 74 = true := by decide +kernel
theorem zk_75 : okMt 75 = true := by decide +kernel
theorem zk_76 : okMt 76 = true := by decide +kernel
theorem zk_77 : okMt 77 = true := by decide +kernel
theorem zk_78 : okMt 78 = true := by decide +kernel
theorem zk_79 : okMt 79 = true := by decide +kernel
theorem zk_80 : okMt 80 = true := by decide +kernel
theorem zk_81 : okMt 81 = true := by decide +kernel
theorem zk_82 : okMt 82 = true := by decide +kernel
theorem zk_83 : okMt 83 = true := by decide +kernel
theorem zk_84 : okMt 84 = true := by decide +kernel
theorem zk_85 : okMt 85 = true := by decide +kernel
theorem zk_86 : okMt 86 = true := by decide +kernel
theorem zk_87 : okMt 87 = true := by decide +kernel
theorem zk_88 : okMt 88 = true := by decide +kernel
theorem zk_89 : okMt 89 = true := by decide +kernel
theorem zk_90 : okMt 90 = true := by decide +kernel
theorem zk_91 : okMt 91 = true := by decide +kernel
theorem zk_92 : okMt 92 = true := by decide +kernel
theorem zk_93 : okMt 93 = true := by decide +kernel
theorem zk_94 : okMt 94 = true := by decide +kernel
theorem zk_95 : okMt 95 = true := by decide +kernel
theorem zk_96 : okMt 96 = true := by decide +kernel
theorem zk_97 : okMt 97 = true := by decide +kernel
theorem zk_98 : okMt 98 = true := by decide +kernel
theorem zk_99 : okMt 99 = true := by decide +kernel
theorem zk_100 : okMt 100 = true := by decide +kernel
theorem zk_101 : okMt 101 = true := by decide +kernel
theorem zk_102 : okMt 102 = true := by decide +kernel
theorem zk_103 : okMt 103 = true := by decide +kernel
theorem zk_104 : okMt 104 = true := by decide +kernel
theorem zk_105 : okMt 105 = true := by decide +kernel
theorem zk_106 : okMt 106 = true := by decide +kernel
theorem zk_107 : okMt 107 = true := by decide +kernel
theorem zk_108 : okMt 108 = true := by decide +kernel
theorem zk_109 : okMt 109 = true := by decide +kernel
theorem zk_110 : okMt 110 = true := by decide +kernel
theorem zk_111 : okMt 111 = true := by decide +kernel
theorem zk_112 : okMt 112 = true := by decide +kernel
theorem zk_113 : okMt 113 = true := by decide +kernel
theorem zk_114 : okMt 114 = true := by decide +kernel
theorem zk_115 : okMt 115 = true := by decide +kernel
theorem zk_116 : okMt 116 = true := by decide +kernel
theorem zk_117 : okMt 117 = true := by decide +kernel
theorem zk_118 : okMt 118 = true := by decide +kernel
theorem zk_119 : okMt 119 = true := by decide +kernel
theorem zk_120 : okMt 120 = true := by decide +kernel
theorem zk_121 : okMt 121 = true := by decide +kernel
theorem zk_122 : okMt 122 = true := by decide +kernel
theorem zk_123 : okMt 123 = true := by decide +kernel
theorem zk_124 : okMt 124 = true := by decide +kernel
theorem zk_125 : okMt 125 = true := by decide +kernel
theorem zk_126 : okMt 126 = true := by decide +kernel
theorem zk_127 : okMt 127 = true := by decide +kernel
theorem zk_128 : okMt 128 = true := by decide +kernel
theorem zk_129 : okMt 129 = true := by decide +kernel
theorem zk_130 : okMt 130 = true := by decide +kernel
theorem zk_131 : okMt 131 = true := by decide +kernel
theorem zk_132 : okMt 132 = true := by decide +kernel
theorem zk_133 : okMt 133 = true := by decide +kernel
theorem zk_134 : okMt 134 = true := by decide +kernel
theorem zk_135 : okMt 135 = true := by decide +kernel
theorem zk_136 : okMt 136 = true := by decide +kernel
theorem zk_137 : okMt 137 = true := by decide +kernel
theorem zk_138 : okMt 138 = true := by decide +kernel
theorem zk_139 : okMt 139 = true := by decide +kernel
theorem zk_140 : okMt 140 = true := by decide +kernel
theorem zk_141 : okMt 141 = true := by decide +kernel
theorem zk_142 : okMt 142 = true := by decide +kernel
theorem zk_143 : okMt 143 = true := by decide +kernel
theorem zk_144 : okMt 144 = true := by decide +kernel
theorem zk_145 : okMt 145 = true := by decide +kernel
theorem zk_146 : okMt 146 = true := by decide +kernel
theorem zk_147 : okMt 147 = true := by decide +kernel
theorem zk_148 : okMt 148 = true := by decide +kernel
theorem zk_149 : okMt 149 = true := by decide +kernel
theorem zk_150 : okMt 150 = true := by decide +kernel
theorem zk_151 : okMt 151 = true := by decide +kernel
theorem zk_152 : okMt 152 = true := by decide +kernel
theorem zk_153 : okMt 153 = true := by decide +kernel
theorem zk_154 : okMt 154 = true := by decide +kernel
theorem zk_155 : okMt 155 = true := by decide +kernel
theorem zk_156 : okMt 156 = true := by decide +kernel
theorem zk_157 : okMt 157 = true := by decide +kernel
theorem zk_158 : okMt 158 = true := by decide +kernel
theorem zk_159 : okMt 159 = true := by decide +kernel
theorem zk_160 : okMt 160 = true := by decide +kernel
theorem zk_161 : okMt 161 = true := by decide +kernel
theorem zk_162 : okMt 162 = true := by decide +kernel
theorem zk_163 : okMt 163 = true := by decide +kernel
theorem zk_164 : okMt 164 = true := by decide +kernel
theorem zk_165 : okMt 165 = true := by decide +kernel
theorem zk_166 : okMt 166 = true := by decide +kernel
theorem zk_167 : okMt 167 = true := by decide +kernel
theorem zk_168 : okMt 168 = true := by decide +kernel
theorem zk_169 : okMt 169 = true := by decide +kernel
theorem zk_170 : okMt 170 = true := by decide +kernel
theorem zk_171 : okMt 171 = true := by decide +kernel
theorem zk_172 : okMt 172 = true := by decide +kernel
theorem zk_173 : okMt 173 = true := by decide +kernel
theorem zk_174 : okMt 174 = true := by decide +kernel
theorem zk_175 : okMt 175 = true := by decide +kernel
theorem zk_176 : okMt 176 = true := by decide +kernel
theorem zk_177 : okMt 177 = true := by decide +kernel
theorem zk_178 : okMt 178 = true := by decide +kernel
theorem zk_179 : okMt 179 = true := by decide +kernel
theorem zk_180 : okMt 180 = true := by decide +kernel
theorem zk_181 : okMt 181 = true := by decide +kernel
theorem zk_182 : okMt 182 = true := by decide +kernel
theorem zk_183 : okMt 183 = true := by decide +kernel
theorem zk_184 : okMt 184 = true := by decide +kernel
theorem zk_185 : okMt 185 = true := by decide +kernel
theorem zk_186 : okMt 186 = true := by decide +kernel
theorem zk_187 : okMt 187 = true := by decide +kernel
theorem zk_188 : okMt 188 = true := by decide +kernel
theorem zk_189 : okMt 189 = true := by decide +kernel
theorem zk_190 : okMt 190 = true := by decide +kernel
theorem zk_191 : okMt 191 = true := by decide +kernel
theorem zk_192 : okMt 192 = true := by decide +kernel
theorem zk_193 : okMt 193 = true := by decide +kernel
theorem zk_194 : okMt 194 = true := by decide +kernel
theorem zk_195 : okMt 195 = true := by decide +kernel
theorem zk_196 : okMt 196 = true := by decide +kernel
theorem zk_197 : okMt 197 = true := by decide +kernel
theorem zk_198 : okMt 198 = true := by decide +kernel
theorem zk_199 : okMt 199 = true := by decide +kernel
theorem zk_200 : okMt 200 = true := by decide +kernel
theorem zk_201 : okMt 201 = true := by decide +kernel
theorem zk_202 : okMt 202 = true := by decide +kernel
theorem zk_203 : okMt 203 = true := by decide +kernel
theorem zk_204 : okMt 204 = true := by decide +kernel
theorem zk_205 : okMt 205 = true := by decide +kernel
theorem zk_206 : okMt 206 = true := by decide +kernel
theorem zk_207 : okMt 207 = true := by decide +kernel
theorem zk_208 : okMt 208 = true := by decide +kernel
theorem zk_209 : okMt 209 = true := by decide +kernel
theorem zk_210 : okMt 210 = true := by decide +kernel
theorem zk_211 : okMt 211 = true := by decide +kernel
theorem zk_212 : okMt 212 = true := by decide +kernel
theorem zk_213 : okMt 213 = true := by decide +kernel
theorem zk_214 : okMt 214 = true := by decide +kernel
theorem zk_215 : okMt 215 = true := by decide +kernel
theorem zk_216 : okMt 216 = true := by decide +kernel
theorem zk_217 : okMt 217 = true := by decide +kernel
theorem zk_all : ∀ mi, mi < 218 → okMt mi = true := by
  intro mi h
  match mi, h with
  | 0, _ => exact zk_0
  | 1, _ => exact zk_1
  | 2, _ => exact zk_2
  | 3, _ => exact zk_3
  | 4, _ => exact zk_4
  | 5, _ => exact zk_5
  | 6, _ => exact zk_6
  | 7, _ => exact zk_7
  | 8, _ => exact zk_8
  | 9, _ => exact zk_9
  | 10, _ => exact zk_10
  | 11, _ => exact zk_11
  | 12, _ => exact zk_12
  | 13, _ => exact zk_13
  | 14, _ => exact zk_14
  | 15, _ => exact zk_15
  | 16, _ => exact zk_16
  | 17, _ => exact zk_17
  | 18, _ => exact zk_18
  | 19, _ => exact zk_19
  | 20, _ => exact zk_20
  | 21, _ => exact zk_21
  | 22, _ => exact zk_22
  | 23, _ => exact zk_23
  | 24, _ => exact zk_24
  | 25, _ => exact zk_25
  | 26, _ => exact zk_26
  | 27, _ => exact zk_27
  | 28, _ => exact zk_28
  | 29, _ => exact zk_29
  | 30, _ => exact zk_30
  | 31, _ => exact zk_31
  | 32, _ => exact zk_32
  | 33, _ => exact zk_33
  | 34, _ => exact zk_34
  | 35, _ => exact zk_35
  | 36, _ => exact zk_36
  | 37, _ => exact zk_37
  | 38, _ => exact zk_38
  | 39, _ => exact zk_39
  | 40, _ => exact zk_40
  | 41, _ => exact zk_41
  | 42, _ => exact zk_42
  | 43, _ => exact zk_43
  | 44, _ => exact zk_44
  | 45, _ => exact zk_45
  | 46, _ => exact zk_46
  | 47, _ => exact zk_47
  | 48, _ => exact zk_48
  | 49, _ => exact zk_49
  | 50, _ => exact zk_50
  | 51, _ => exact zk_51
  | 52, _ => exact zk_52
  | 53, _ => exact zk_53
  | 54, _ => exact zk_54
  | 55, _ => exact zk_55
  | 56, _ => exact zk_56
  | 57, _ => exact zk_57
  | 58, _ => exact zk_58
  | 59, _ => exact zk_59
  | 60, _ => exact zk_60
  | 61, _ => exact zk_61
  | 62, _ => exact zk_62
  | 63, _ => exact zk_63
  | 64, _ => exact zk_64
  | 65, _ => exact zk_65
  | 66, _ => exact zk_66
  | 67, _ => exact zk_67
  | 68, _ => exact zk_68
  | 69, _ => exact zk_69
  | 70, _ => exact zk_70
  | 71, _ => exact zk_71
  | 72, _ => exact zk_72
  | 73, _ => exact zk_73
  | 74, _ => exact zk_74
  | 75, _ => exact zk_75
  | 76, _ => exact zk_76
  | 77, _ => exact zk_77
  | 78, _ => exact zk_78
  | 79, _ => exact zk_79
  | 80, _ => exact zk_80
  | 81, _ => exact zk_81
  | 82, _ => exact zk_82
  | 83, _ => exact zk_83
  | 84, _ => exact zk_84
  | 85, _ => exact zk_85
  | 86, _ => exact zk_86
  | 87, _ => exact zk_87
  | 88, _ => exact zk_88
  | 89, _ => exact zk_89
  | 90, _ => exact zk_90
  | 91, _ => exact zk_91
  | 92, _ => exact zk_92
  | 93, _ => exact zk_93
  | 94, _ => exact zk_94
  | 95, _ => exact zk_95
  | 96, _ => exact zk_96
  | 97, _ => exact zk_97
  | 98, _ => exact zk_98
  | 99, _ => exact zk_99
  | 100, _ => exact zk_100
  | 101, _ => exact zk_101
  | 102, _ => exact zk_102
  | 103, _ => exact zk_103
  | 104, _ => exact zk_104
  | 105, _ => exact zk_105
  | 106, _ => exact zk_106
  | 107, _ => exact zk_107
  | 108, _ => exact zk_108
  | 109, _ => exact zk_109
  | 110, _ => exact zk_110
  | 111, _ => exact zk_111
  | 112, _ => exact zk_112
  | 113, _ => exact zk_113
  | 114, _ => exact zk_114
  | 115, _ => exact zk_115
  | 116, _ => exact zk_116
  | 117, _ => exact zk_117
  | 118, _ => exact zk_118
  | 119, _ => exact zk_119
  | 120, _ => exact zk_120
  | 121, _ => exact zk_121
  | 122, _ => exact zk_122
  | 123, _ => exact zk_123
  | 124, _ => exact zk_124
  | 125, _ => exact zk_125
  | 126, _ => exact zk_126
  | 127, _ => exact zk_127
  | 128, _ => exact zk_128
  | 129, _ => exact zk_129
  | 130, _ => exact zk_130
  | 131, _ => exact zk_131
  | 132, _ => exact zk_132
  | 133, _ => exact zk_133
  | 134, _ => exact zk_134
  | 135, _ => exact zk_135
  | 136, _ => exact zk_136
  | 137, _ => exact zk_137
  | 138, _ => exact zk_138
  | 139, _ => exact zk_139
  | 140, _ => exact zk_140
  | 141, _ => exact zk_141
  | 142, _ => exact zk_142
  | 143, _ => exact zk_143
  | 144, _ => exact zk_144
  | 145, _ => exact zk_145
  | 146, _ => exact zk_146
  | 147, _ => exact zk_147
  | 148, _ => exact zk_148
  | 149, _ => exact zk_149
  | 150, _ => exact zk_150
  | 151, _ => exact zk_151
  | 152, _ => exact zk_152
  | 153, _ => exact zk_153
  | 154, _ => exact zk_154
  | 155, _ => exact zk_155
  | 156, _ => exact zk_156
  | 157, _ => exact zk_157
  | 158, _ => exact zk_158
  | 159, _ => exact zk_159
  | 160, _ => exact zk_160
  | 161, _ => exact zk_161
  | 162, _ => exact zk_162
  | 163, _ => exact zk_163
  | 164, _ => exact zk_164
  | 165, _ => exact zk_165
  | 166, _ => exact zk_166
  | 167, _ => exact zk_167
  | 168, _ => exact zk_168
  | 169, _ => exact zk_169
  | 170, _ => exact zk_170
  | 171, _ => exact zk_171
  | 172, _ => exact zk_172
  | 173, _ => exact zk_173
  | 174, _ => exact zk_174
  | 175, _ => exact zk_175
  | 176, _ => exact zk_176
  | 177, _ => exact zk_177
  | 178, _ => exact zk_178
  | 179, _ => exact zk_179
  | 180, _ => exact zk_180
  | 181, _ => exact zk_181
  | 182, _ => exact zk_182
  | 183, _ => exact zk_183
  | 184, _ => exact zk_184
  | 185, _ => exact zk_185
  | 186, _ => exact zk_186
  | 187, _ => exact zk_187
  | 188, _ => exact zk_188
  | 189, _ => exact zk_189
  | 190, _ => exact zk_190
  | 191, _ => exact zk_191
  | 192, _ => exact zk_192
  | 193, _ => exact zk_193
  | 194, _ => exact zk_194
  | 195, _ => exact zk_195
  | 196, _ => exact zk_196
  | 197, _ => exact zk_197
  | 198, _ => exact zk_198
  | 199, _ => exact zk_199
  | 200, _ => exact zk_200
  | 201, _ => exact zk_201
  | 202, _ => exact zk_202
  | 203, _ => exact zk_203
  | 204, _ => exact zk_204
  | 205, _ => exact zk_205
  | 206, _ => exact zk_206
  | 207, _ => exact zk_207
  | 208, _ => exact zk_208
  | 209, _ => exact zk_209
  | 210, _ => exact zk_210
  | 211, _ => exact zk_211
  | 212, _ => exact zk_212
  | 213, _ => exact zk_213
  | 214, _ => exact zk_214
  | 215, _ => exact zk_215
  | 216, _ => exact zk_216
  | 217, _ => exact zk_217
  | n + 218, h => omega
