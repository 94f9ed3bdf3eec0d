/-! THE CONSTRUCTORS: the cells as they are made, one by one -/
def rP (X : Nat × (Nat → Int32)) (i : Nat) : rS := (rK0.take i, fun _ _ => none, true, X.1, X.2)
theorem kP {X : Nat × (Nat → Int32)} {i k : Nat} {kd : rKd} (h : (rK0.take i)[k]? = some kd) : (rP X i).1[k]? = some kd := h
theorem lP {X : Nat × (Nat → Int32)} {i n : Nat} (h : (rK0.take i).length = n) : (rP X i).1.length = n := h
theorem sP {X : Nat × (Nat → Int32)} {i j : Nat} {l : List rKd} (h : rK0.take j = rK0.take i ++ l) : rP X j = ((rP X i).1 ++ l, (rP X i).2) := by
  unfold rP
  rw [h]
theorem gPr {X : Nat × (Nat → Int32)} {i ci k j r : Nat} {v : rV} (hty : (∃ n, rtab ci j = .object n) ∨ ∃ t, rtab ci j = .array t) (h : v.2.2 k j = some r) : rVal (rtab ci j) (rP X i).2.1 v k j = .ref r := by
  rcases hty with ⟨n, e⟩ | ⟨n, e⟩ <;> rw [e] <;> simp [rVal, rRef, rP, h, va_rf]
theorem wk_133 : Cond.classLink RL 8 "RingDrop" ∈ rtbl := rtbl_at 133 (by decide +kernel) (by decide +kernel)
theorem wk_134 : Cond.instantiable "RingDrop" 17 ∈ rtbl := rtbl_at 134 (by decide +kernel) (by decide +kernel)
theorem wk_113 : Cond.initialized "RingDrop" ∈ rtbl := rtbl_at 113 (by decide +kernel) (by decide +kernel)
theorem wk_141 : Cond.classLink RX7 9 "RingDrop$Tape" ∈ rtbl := rtbl_at 141 (by decide +kernel) (by decide +kernel)
theorem wk_142 : Cond.instantiable "RingDrop$Tape" 2 ∈ rtbl := rtbl_at 142 (by decide +kernel) (by decide +kernel)
theorem wk_114 : Cond.initialized "RingDrop$Tape" ∈ rtbl := rtbl_at 114 (by decide +kernel) (by decide +kernel)
theorem wk_157 : Cond.arrayClass .int ∈ rtbl := rtbl_at 157 (by decide +kernel) (by decide +kernel)
theorem wk_158 : Cond.classLink RX7 16 "RingDrop$FormulaReade\x72" ∈ rtbl := rtbl_at 158 (by decide +kernel) (by decide +kernel)
theorem wk_159 : Cond.instantiable "RingDrop$FormulaReade\x72" 4 ∈ rtbl := rtbl_at 159 (by decide +kernel) (by decide +kernel)
theorem wk_115 : Cond.initialized "RingDrop$FormulaReade\x72" ∈ rtbl := rtbl_at 115 (by decide +kernel) (by decide +kernel)
theorem wk_164 : Cond.classLink RX3 9 "RingDrop$Formula" ∈ rtbl := rtbl_at 164 (by decide +kernel) (by decide +kernel)
theorem wk_165 : Cond.instantiable "RingDrop$Formula" 3 ∈ rtbl := rtbl_at 165 (by decide +kernel) (by decide +kernel)
theorem wk_116 : Cond.initialized "RingDrop$Formula" ∈ rtbl := rtbl_at 116 (by decide +kernel) (by decide +kernel)
theorem wk_197 : Cond.classLink RX7 25 "RingDrop$DropReade\x72" ∈ rtbl := rtbl_at 197 (by decide +kernel) (by decide +kernel)
theorem wk_198 : Cond.instantiable "RingDrop$DropReade\x72" 4 ∈ rtbl := rtbl_at 198 (by decide +kernel) (by decide +kernel)
theorem wk_117 : Cond.initialized "RingDrop$DropReade\x72" ∈ rtbl := rtbl_at 117 (by decide +kernel) (by decide +kernel)
theorem wk_217 : Cond.classLink RX7 32 "RingDrop$Shelf" ∈ rtbl := rtbl_at 217 (by decide +kernel) (by decide +kernel)
theorem wk_218 : Cond.instantiable "RingDrop$Shelf" 2 ∈ rtbl := rtbl_at 218 (by decide +kernel) (by decide +kernel)
theorem wk_118 : Cond.initialized "RingDrop$Shelf" ∈ rtbl := rtbl_at 118 (by decide +kernel) (by decide +kernel)
theorem wk_223 : Cond.classLink RX4 9 "RingDrop$Formula" ∈ rtbl := rtbl_at 223 (by decide +kernel) (by decide +kernel)
theorem wk_234 : Cond.classLink RX7 42 "[[I" ∈ rtbl := rtbl_at 234 (by decide +kernel) (by decide +kernel)
theorem wk_236 : Cond.classLink RX7 60 "RingDrop$Strip" ∈ rtbl := rtbl_at 236 (by decide +kernel) (by decide +kernel)
theorem wk_237 : Cond.instantiable "RingDrop$Strip" 20 ∈ rtbl := rtbl_at 237 (by decide +kernel) (by decide +kernel)
theorem wk_119 : Cond.initialized "RingDrop$Strip" ∈ rtbl := rtbl_at 119 (by decide +kernel) (by decide +kernel)
theorem wk_253 : Cond.classLink RX5 29 "[[I" ∈ rtbl := rtbl_at 253 (by decide +kernel) (by decide +kernel)
theorem wk_254 : Cond.classLink RX5 46 "RingDrop$Body" ∈ rtbl := rtbl_at 254 (by decide +kernel) (by decide +kernel)
theorem wk_256 : Cond.instantiable "RingDrop$Body" 5 ∈ rtbl := rtbl_at 256 (by decide +kernel) (by decide +kernel)
theorem wk_121 : Cond.initialized "RingDrop$Body" ∈ rtbl := rtbl_at 121 (by decide +kernel) (by decide +kernel)
theorem wk_1122 : Cond.classLink RL 16 "RingDropModel" ∈ rtbl := rtbl_at 1122 (by decide +kernel) (by decide +kernel)
theorem wk_1123 : Cond.instantiable "RingDropModel" 44 ∈ rtbl := rtbl_at 1123 (by decide +kernel) (by decide +kernel)
theorem wk_122 : Cond.initialized "RingDropModel" ∈ rtbl := rtbl_at 122 (by decide +kernel) (by decide +kernel)
theorem wk_1753 : Cond.arrayClass .long ∈ rtbl := rtbl_at 1753 (by decide +kernel) (by decide +kernel)
def vc_0 : rV := (fun _ _ => 0, fun _ _ => 0, fun _ _ => none)
def vc_1 : rV := rD vc_0 0
def vc_2 : rV := rD vc_1 1
def vc_3 : rV := rD vc_2 2
def vc_4 : rV := rR vc_3 1 0 (some 2)
def vc_5 : rV := rR vc_4 0 0 (some 1)
def vc_6 : rV := rD vc_5 3
def vc_7 : rV := rD vc_6 4
def vc_8 : rV := rD vc_7 5
def vc_9 : rV := rR vc_8 4 0 (some 5)
def vc_10 : rV := rD vc_9 6
def vc_11 : rV := rR vc_10 4 1 (some 6)
def vc_12 : rV := rR vc_11 3 1 (some 4)
def vc_13 : rV := rR vc_12 3 2 (some 1000010)
def vc_14 : rV := rR vc_13 3 0 (some 1)
def vc_15 : rV := rR vc_14 0 1 (some 3)
def vc_16 : rV := rD vc_15 7
def vc_17 : rV := rD vc_16 8
def vc_18 : rV := rR vc_17 7 1 (some 8)
def vc_19 : rV := rR vc_18 7 0 (some 1)
def vc_20 : rV := rR vc_19 0 2 (some 7)
def vc_21 : rV := rD vc_20 9
def vc_22 : rV := rD vc_21 10
def vc_23 : rV := rR vc_22 9 0 (some 10)
def vc_24 : rV := rD vc_23 11
def vc_25 : rV := rD vc_24 12
def vc_26 : rV := rR vc_25 11 0 (some 12)
def vc_27 : rV := rD vc_26 13
def vc_28 : rV := rR vc_27 11 1 (some 13)
def vc_29 : rV := rR vc_28 10 0 (some 11)
def vc_30 : rV := rD vc_29 14
def vc_31 : rV := rD vc_30 15
def vc_32 : rV := rR vc_31 14 0 (some 15)
def vc_33 : rV := rD vc_32 16
def vc_34 : rV := rR vc_33 14 1 (some 16)
def vc_35 : rV := rR vc_34 10 1 (some 14)
def vc_36 : rV := rD vc_35 17
def vc_37 : rV := rD vc_36 18
def vc_38 : rV := rR vc_37 17 0 (some 18)
def vc_39 : rV := rD vc_38 19
def vc_40 : rV := rR vc_39 17 1 (some 19)
def vc_41 : rV := rR vc_40 10 2 (some 17)
def vc_42 : rV := rD vc_41 20
def vc_43 : rV := rD vc_42 21
def vc_44 : rV := rR vc_43 20 0 (some 21)
def vc_45 : rV := rD vc_44 22
def vc_46 : rV := rR vc_45 20 1 (some 22)
def vc_47 : rV := rR vc_46 10 3 (some 20)
def vc_48 : rV := rR vc_47 0 3 (some 9)
def vc_49 : rV := rD vc_48 23
def vc_50 : rV := rD vc_49 24
def vc_51 : rV := rR vc_50 23 0 (some 24)
def vc_52 : rV := rD vc_51 25
def vc_53 : rV := rD vc_52 26
def vc_54 : rV := rR vc_53 25 0 (some 26)
def vc_55 : rV := rD vc_54 27
def vc_56 : rV := rR vc_55 25 1 (some 27)
def vc_57 : rV := rR vc_56 24 0 (some 25)
def vc_58 : rV := rD vc_57 28
def vc_59 : rV := rD vc_58 29
def vc_60 : rV := rR vc_59 28 0 (some 29)
def vc_61 : rV := rD vc_60 30
def vc_62 : rV := rR vc_61 28 1 (some 30)
def vc_63 : rV := rR vc_62 24 1 (some 28)
def vc_64 : rV := rD vc_63 31
def vc_65 : rV := rD vc_64 32
def vc_66 : rV := rR vc_65 31 0 (some 32)
def vc_67 : rV := rD vc_66 33
def vc_68 : rV := rR vc_67 31 1 (some 33)
def vc_69 : rV := rR vc_68 24 2 (some 31)
def vc_70 : rV := rD vc_69 34
def vc_71 : rV := rD vc_70 35
def vc_72 : rV := rR vc_71 34 0 (some 35)
def vc_73 : rV := rD vc_72 36
def vc_74 : rV := rR vc_73 34 1 (some 36)
def vc_75 : rV := rR vc_74 24 3 (some 34)
def vc_76 : rV := rR vc_75 0 4 (some 23)
def vc_77 : rV := rMn vc_76 37 12
def vc_78 : rV := rR vc_77 0 5 (some 37)
def vc_79 : rV := rD vc_78 50
def vc_80 : rV := rR vc_79 0 6 (some 50)
def vc_81 : rV := rD vc_80 51
def vc_82 : rV := rR vc_81 0 7 (some 51)
def vc_83 : rV := rMn vc_82 52 6
def vc_84 : rV := rR vc_83 0 8 (some 52)
def vc_85 : rV := rD vc_84 59
def vc_86 : rV := rR vc_85 0 9 (some 59)
def vc_87 : rV := rD vc_86 60
def vc_88 : rV := rD vc_87 61
def vc_89 : rV := rR vc_88 60 0 (some 61)
def vc_90 : rV := rD vc_89 62
def vc_91 : rV := rR vc_90 60 1 (some 62)
def vc_92 : rV := rD vc_91 63
def vc_93 : rV := rR vc_92 60 2 (some 63)
def vc_94 : rV := rMn vc_93 64 2
def vc_95 : rV := rR vc_94 60 4 (some 64)
def vc_96 : rV := rMn vc_95 67 2
def vc_97 : rV := rR vc_96 60 5 (some 67)
def vc_98 : rV := rD vc_97 70
def vc_99 : rV := rR vc_98 60 6 (some 70)
def vc_100 : rV := rD vc_99 71
def vc_101 : rV := rR vc_100 60 7 (some 71)
def vc_102 : rV := rD vc_101 72
def vc_103 : rV := rR vc_102 60 8 (some 72)
def vc_104 : rV := rD vc_103 73
def vc_105 : rV := rR vc_104 60 9 (some 73)
def vc_106 : rV := rD vc_105 74
def vc_107 : rV := rD vc_106 75
def vc_108 : rV := rR vc_107 74 0 (some 75)
def vc_109 : rV := rR vc_108 73 0 (some 74)
def vc_110 : rV := rD vc_109 76
def vc_111 : rV := rD vc_110 77
def vc_112 : rV := rR vc_111 76 0 (some 77)
def vc_113 : rV := rR vc_112 73 1 (some 76)
def vc_114 : rV := rD vc_113 78
def vc_115 : rV := rD vc_114 79
def vc_116 : rV := rR vc_115 78 0 (some 79)
def vc_117 : rV := rR vc_116 73 2 (some 78)
def vc_118 : rV := rD vc_117 80
def vc_119 : rV := rD vc_118 81
def vc_120 : rV := rR vc_119 80 0 (some 81)
def vc_121 : rV := rR vc_120 73 3 (some 80)
def vc_122 : rV := rD vc_121 82
def vc_123 : rV := rD vc_122 83
def vc_124 : rV := rR vc_123 82 0 (some 83)
def vc_125 : rV := rR vc_124 73 4 (some 82)
def vc_126 : rV := rD vc_125 84
def vc_127 : rV := rD vc_126 85
def vc_128 : rV := rR vc_127 84 0 (some 85)
def vc_129 : rV := rR vc_128 73 5 (some 84)
def vc_130 : rV := rD vc_129 86
def vc_131 : rV := rD vc_130 87
def vc_132 : rV := rR vc_131 86 0 (some 87)
def vc_133 : rV := rR vc_132 73 6 (some 86)
def vc_134 : rV := rD vc_133 88
def vc_135 : rV := rD vc_134 89
def vc_136 : rV := rR vc_135 88 0 (some 89)
def vc_137 : rV := rR vc_136 73 7 (some 88)
def vc_138 : rV := rD vc_137 90
def vc_139 : rV := rD vc_138 91
def vc_140 : rV := rR vc_139 90 0 (some 91)
def vc_141 : rV := rR vc_140 73 8 (some 90)
def vc_142 : rV := rD vc_141 92
def vc_143 : rV := rD vc_142 93
def vc_144 : rV := rR vc_143 92 0 (some 93)
def vc_145 : rV := rR vc_144 73 9 (some 92)
def vc_146 : rV := rD vc_145 94
def vc_147 : rV := rD vc_146 95
def vc_148 : rV := rR vc_147 94 0 (some 95)
def vc_149 : rV := rR vc_148 73 10 (some 94)
def vc_150 : rV := rD vc_149 96
def vc_151 : rV := rD vc_150 97
def vc_152 : rV := rR vc_151 96 0 (some 97)
def vc_153 : rV := rR vc_152 73 11 (some 96)
def vc_154 : rV := rR vc_153 0 10 (some 60)
def vc_155 : rV := rD vc_154 98
def vc_156 : rV := rD vc_155 99
def vc_157 : rV := rR vc_156 98 0 (some 99)
def vc_158 : rV := rD vc_157 100
def vc_159 : rV := rR vc_158 98 1 (some 100)
def vc_160 : rV := rD vc_159 101
def vc_161 : rV := rR vc_160 98 2 (some 101)
def vc_162 : rV := rMn vc_161 102 2
def vc_163 : rV := rR vc_162 98 4 (some 102)
def vc_164 : rV := rMn vc_163 105 2
def vc_165 : rV := rR vc_164 98 5 (some 105)
def vc_166 : rV := rD vc_165 108
def vc_167 : rV := rR vc_166 98 6 (some 108)
def vc_168 : rV := rD vc_167 109
def vc_169 : rV := rR vc_168 98 7 (some 109)
def vc_170 : rV := rD vc_169 110
def vc_171 : rV := rR vc_170 98 8 (some 110)
def vc_172 : rV := rD vc_171 111
def vc_173 : rV := rR vc_172 98 9 (some 111)
def vc_174 : rV := rD vc_173 112
def vc_175 : rV := rD vc_174 113
def vc_176 : rV := rR vc_175 112 0 (some 113)
def vc_177 : rV := rR vc_176 111 0 (some 112)
def vc_178 : rV := rD vc_177 114
def vc_179 : rV := rD vc_178 115
def vc_180 : rV := rR vc_179 114 0 (some 115)
def vc_181 : rV := rR vc_180 111 1 (some 114)
def vc_182 : rV := rD vc_181 116
def vc_183 : rV := rD vc_182 117
def vc_184 : rV := rR vc_183 116 0 (some 117)
def vc_185 : rV := rR vc_184 111 2 (some 116)
def vc_186 : rV := rD vc_185 118
def vc_187 : rV := rD vc_186 119
def vc_188 : rV := rR vc_187 118 0 (some 119)
def vc_189 : rV := rR vc_188 111 3 (some 118)
def vc_190 : rV := rD vc_189 120
def vc_191 : rV := rD vc_190 121
def vc_192 : rV := rR vc_191 120 0 (some 121)
def vc_193 : rV := rR vc_192 111 4 (some 120)
def vc_194 : rV := rD vc_193 122
def vc_195 : rV := rD vc_194 123
def vc_196 : rV := rR vc_195 122 0 (some 123)
def vc_197 : rV := rR vc_196 111 5 (some 122)
def vc_198 : rV := rD vc_197 124
def vc_199 : rV := rD vc_198 125
def vc_200 : rV := rR vc_199 124 0 (some 125)
def vc_201 : rV := rR vc_200 111 6 (some 124)
def vc_202 : rV := rD vc_201 126
def vc_203 : rV := rD vc_202 127
def vc_204 : rV := rR vc_203 126 0 (some 127)
def vc_205 : rV := rR vc_204 111 7 (some 126)
def vc_206 : rV := rD vc_205 128
def vc_207 : rV := rD vc_206 129
def vc_208 : rV := rR vc_207 128 0 (some 129)
def vc_209 : rV := rR vc_208 111 8 (some 128)
def vc_210 : rV := rD vc_209 130
def vc_211 : rV := rD vc_210 131
def vc_212 : rV := rR vc_211 130 0 (some 131)
def vc_213 : rV := rR vc_212 111 9 (some 130)
def vc_214 : rV := rD vc_213 132
def vc_215 : rV := rD vc_214 133
def vc_216 : rV := rR vc_215 132 0 (some 133)
def vc_217 : rV := rR vc_216 111 10 (some 132)
def vc_218 : rV := rD vc_217 134
def vc_219 : rV := rD vc_218 135
def vc_220 : rV := rR vc_219 134 0 (some 135)
def vc_221 : rV := rR vc_220 111 11 (some 134)
def vc_222 : rV := rR vc_221 0 11 (some 98)
def vc_223 : rV := rD vc_222 136
def vc_224 : rV := rD vc_223 137
def vc_225 : rV := rR vc_224 136 0 (some 137)
def vc_226 : rV := rD vc_225 138
def vc_227 : rV := rR vc_226 136 1 (some 138)
def vc_228 : rV := rD vc_227 139
def vc_229 : rV := rR vc_228 136 2 (some 139)
def vc_230 : rV := rMn vc_229 140 2
def vc_231 : rV := rR vc_230 136 4 (some 140)
def vc_232 : rV := rMn vc_231 143 2
def vc_233 : rV := rR vc_232 136 5 (some 143)
def vc_234 : rV := rD vc_233 146
def vc_235 : rV := rR vc_234 136 6 (some 146)
def vc_236 : rV := rD vc_235 147
def vc_237 : rV := rR vc_236 136 7 (some 147)
def vc_238 : rV := rD vc_237 148
def vc_239 : rV := rR vc_238 136 8 (some 148)
def vc_240 : rV := rD vc_239 149
def vc_241 : rV := rR vc_240 136 9 (some 149)
def vc_242 : rV := rD vc_241 150
def vc_243 : rV := rD vc_242 151
def vc_244 : rV := rR vc_243 150 0 (some 151)
def vc_245 : rV := rR vc_244 149 0 (some 150)
def vc_246 : rV := rD vc_245 152
def vc_247 : rV := rD vc_246 153
def vc_248 : rV := rR vc_247 152 0 (some 153)
def vc_249 : rV := rR vc_248 149 1 (some 152)
def vc_250 : rV := rD vc_249 154
def vc_251 : rV := rD vc_250 155
def vc_252 : rV := rR vc_251 154 0 (some 155)
def vc_253 : rV := rR vc_252 149 2 (some 154)
def vc_254 : rV := rD vc_253 156
def vc_255 : rV := rD vc_254 157
def vc_256 : rV := rR vc_255 156 0 (some 157)
def vc_257 : rV := rR vc_256 149 3 (some 156)
def vc_258 : rV := rD vc_257 158
def vc_259 : rV := rD vc_258 159
def vc_260 : rV := rR vc_259 158 0 (some 159)
def vc_261 : rV := rR vc_260 149 4 (some 158)
def vc_262 : rV := rD vc_261 160
def vc_263 : rV := rD vc_262 161
def vc_264 : rV := rR vc_263 160 0 (some 161)
def vc_265 : rV := rR vc_264 149 5 (some 160)
def vc_266 : rV := rD vc_265 162
def vc_267 : rV := rD vc_266 163
def vc_268 : rV := rR vc_267 162 0 (some 163)
def vc_269 : rV := rR vc_268 149 6 (some 162)
def vc_270 : rV := rD vc_269 164
def vc_271 : rV := rD vc_270 165
def vc_272 : rV := rR vc_271 164 0 (some 165)
def vc_273 : rV := rR vc_272 149 7 (some 164)
def vc_274 : rV := rD vc_273 166
def vc_275 : rV := rD vc_274 167
def vc_276 : rV := rR vc_275 166 0 (some 167)
def vc_277 : rV := rR vc_276 149 8 (some 166)
def vc_278 : rV := rD vc_277 168
def vc_279 : rV := rD vc_278 169
def vc_280 : rV := rR vc_279 168 0 (some 169)
def vc_281 : rV := rR vc_280 149 9 (some 168)
def vc_282 : rV := rD vc_281 170
def vc_283 : rV := rD vc_282 171
def vc_284 : rV := rR vc_283 170 0 (some 171)
def vc_285 : rV := rR vc_284 149 10 (some 170)
def vc_286 : rV := rD vc_285 172
def vc_287 : rV := rD vc_286 173
def vc_288 : rV := rR vc_287 172 0 (some 173)
def vc_289 : rV := rR vc_288 149 11 (some 172)
def vc_290 : rV := rR vc_289 0 12 (some 136)
def vc_291 : rV := rI vc_290 0 15 (3 : Int32)
def vc_292 : rV := rI vc_291 50 0 (1 : Int32)
def vc_293 : rV := rI vc_292 50 1 (1 : Int32)
def vc_294 : rV := rI vc_293 50 2 (1 : Int32)
def vc_295 : rV := rI vc_294 50 3 (1 : Int32)
def vc_296 : rV := rI vc_295 50 4 (1 : Int32)
def vc_297 : rV := rI vc_296 50 5 (1 : Int32)
def vc_298 : rV := rI vc_297 50 6 (1 : Int32)
def vc_299 : rV := rI vc_298 50 7 (1 : Int32)
def vc_300 : rV := rI vc_299 50 8 (1 : Int32)
def vc_301 : rV := rI vc_300 50 9 (1 : Int32)
def vc_302 : rV := rI vc_301 50 10 (1 : Int32)
def vc_303 : rV := rI vc_302 50 11 (1 : Int32)
def vc_304 : rV := rD vc_303 174
def vc_305 : rV := rD vc_304 175
def vc_306 : rV := rR vc_305 174 1 (some 175)
def vc_307 : rV := rD vc_306 176
def vc_308 : rV := rR vc_307 174 6 (some 176)
def vc_309 : rV := rD vc_308 177
def vc_310 : rV := rR vc_309 174 7 (some 177)
def vc_311 : rV := rD vc_310 178
def vc_312 : rV := rR vc_311 174 8 (some 178)
def vc_313 : rV := rD vc_312 179
def vc_314 : rV := rR vc_313 174 9 (some 179)
def vc_315 : rV := rD vc_314 180
def vc_316 : rV := rR vc_315 174 10 (some 180)
def vc_317 : rV := rD vc_316 181
def vc_318 : rV := rR vc_317 174 11 (some 181)
def vc_319 : rV := rD vc_318 182
def vc_320 : rV := rR vc_319 174 12 (some 182)
def vc_321 : rV := rD vc_320 183
def vc_322 : rV := rR vc_321 174 17 (some 183)
def vc_323 : rV := rD vc_322 184
def vc_324 : rV := rR vc_323 174 18 (some 184)
def vc_325 : rV := rD vc_324 185
def vc_326 : rV := rR vc_325 174 19 (some 185)
def vc_327 : rV := rD vc_326 186
def vc_328 : rV := rR vc_327 174 20 (some 186)
def vc_329 : rV := rI vc_328 174 23 (3 : Int32)
def vc_330 : rV := rD vc_329 187
def vc_331 : rV := rR vc_330 174 24 (some 187)
def vc_332 : rV := rD vc_331 188
def vc_333 : rV := rR vc_332 174 25 (some 188)
def vc_334 : rV := rD vc_333 189
def vc_335 : rV := rR vc_334 174 26 (some 189)
def vc_336 : rV := rD vc_335 190
def vc_337 : rV := rR vc_336 174 31 (some 190)
def vc_338 : rV := rD vc_337 191
def vc_339 : rV := rR vc_338 174 32 (some 191)
def vc_340 : rV := rD vc_339 192
def vc_341 : rV := rR vc_340 174 33 (some 192)
def vc_342 : rV := rD vc_341 193
def vc_343 : rV := rR vc_342 174 35 (some 193)
def vc_344 : rV := rD vc_343 194
def vc_345 : rV := rR vc_344 174 36 (some 194)
def vc_346 : rV := rD vc_345 195
def vc_347 : rV := rR vc_346 174 40 (some 195)
def vc_348 : rV := rD vc_347 196
def vc_349 : rV := rR vc_348 174 42 (some 196)
def vc_350 : rV := rD vc_349 197
set_option maxRecDepth 20000 in
theorem nX6_init_2 {X : Nat × (Nat → Int32)} : EvM mX6_init 1 1 160 [.ref 1] (rP X 2) vc_2 (fun o S' v' => o = none ∧ S' = rP X 3 ∧ v' = vc_4) := by
  refine evm_of (by decide +kernel) (fun G => Nat.le_of_ble_eq_true rfl) ?_
  show Ev mX6_init 1 1 160 0 [(0, .ref 1)] [] (rP X 2) vc_2 _
  refine e_aload_n dX6_init_0 rfl ?_
  refine e_objinit dX6_init_1 wmX6_3 wobjim wobjcode (Nat.le_of_ble_eq_true rfl) (by decide) ?_
  refine e_aload_n dX6_init_4 rfl ?_
  refine e_sipush (x := (160 : Int32)) dX6_init_5 (by decide) ?_
  refine e_newa (N := 160) (ty := .int) (n := 2) (S' := rP X 3) (v' := vc_3) (bc' := 0) (bs' := 0) rfl (Or.inl rfl) dX6_init_8 wk_157 rfl rfl (lP (by decide +kernel)) (by decide) (by decide) (by decide) (Nat.le_of_ble_eq_true rfl) rfl rfl (sP (by decide +kernel)) rfl ?_
  refine e_putR (j := 0) dX6_init_10 (kP (kd := .inr 6) (by decide +kernel)) rc6 (by decide) wfX6_9 (Or.inr ⟨rfl, rfl, rfl⟩) (Or.inr ⟨_, rfl⟩) rfl ?_
  refine e_nameV (v1 := vc_4) rfl ?_
  exact e_ret dX6_init_13 rfl ⟨rfl, rfl, rfl⟩
set_option maxRecDepth 20000 in
theorem nX2_init_5 {X : Nat × (Nat → Int32)} : EvM mX2_init 1 2 194 [.ref 4] (rP X 5) vc_7 (fun o S' v' => o = none ∧ S' = rP X 7 ∧ v' = vc_11) := by
  refine evm_of (by decide +kernel) (fun G => Nat.le_of_ble_eq_true rfl) ?_
  show Ev mX2_init 1 2 194 0 [(0, .ref 4)] [] (rP X 5) vc_7 _
  refine e_aload_n dX2_init_0 rfl ?_
  refine e_objinit dX2_init_1 wmX2_3 wobjim wobjcode (Nat.le_of_ble_eq_true rfl) (by decide) ?_
  refine e_aload_n dX2_init_4 rfl ?_
  refine e_sipush (x := (162 : Int32)) dX2_init_5 (by decide) ?_
  refine e_newa (N := 162) (ty := .int) (n := 5) (S' := rP X 6) (v' := vc_8) (bc' := 1) (bs' := 32) rfl (Or.inl rfl) dX2_init_8 wk_157 rfl rfl (lP (by decide +kernel)) (by decide) (by decide) (by decide) (Nat.le_of_ble_eq_true rfl) rfl rfl (sP (by decide +kernel)) rfl ?_
  refine e_putR (j := 0) dX2_init_10 (kP (kd := .inr 2) (by decide +kernel)) rc2 (by decide) wfX2_9 (Or.inr ⟨rfl, rfl, rfl⟩) (Or.inr ⟨_, rfl⟩) rfl ?_
  refine e_nameV (v1 := vc_9) rfl ?_
  refine e_aload_n dX2_init_13 rfl ?_
  refine e_bipush (x := (32 : Int32)) dX2_init_14 (by decide) ?_
  refine e_newa (N := 32) (ty := .int) (n := 6) (S' := rP X 7) (v' := vc_10) (bc' := 0) (bs' := 0) rfl (Or.inl rfl) dX2_init_16 wk_157 rfl rfl (lP (by decide +kernel)) (by decide) (by decide) (by decide) (Nat.le_of_ble_eq_true rfl) rfl rfl (sP (by decide +kernel)) rfl ?_
  refine e_putR (j := 1) dX2_init_18 (kP (kd := .inr 2) (by decide +kernel)) rc2 (by decide) wfX2_15 (Or.inr ⟨rfl, rfl, rfl⟩) (Or.inr ⟨_, rfl⟩) rfl ?_
  refine e_nameV (v1 := vc_11) rfl ?_
  exact e_ret dX2_init_21 rfl ⟨rfl, rfl, rfl⟩
set_option maxRecDepth 20000 in
theorem nX3_init_4 {X : Nat × (Nat → Int32)} : EvM mX3_init 2 3 197 [.ref 3, .ref 1] (rP X 4) vc_6 (fun o S' v' => o = none ∧ S' = rP X 7 ∧ v' = vc_14) := by
  refine evm_of (by decide +kernel) (fun G => Nat.le_of_ble_eq_true rfl) ?_
  show Ev mX3_init 2 3 197 0 [(0, .ref 3), (1, .ref 1)] [] (rP X 4) vc_6 _
  refine e_aload_n dX3_init_0 rfl ?_
  refine e_objinit dX3_init_1 wmX3_3 wobjim wobjcode (Nat.le_of_ble_eq_true rfl) (by decide) ?_
  refine e_aload_n dX3_init_4 rfl ?_
  refine e_new (ci := 2) (n := 4) (S' := rP X 5) (v' := vc_7) (bc' := 2) (bs' := 194) dX3_init_5 rc2 wk_164 wk_165 wk_116 (by decide) rfl rfl (lP (by decide +kernel)) (by decide) rfl rfl (sP (by decide +kernel)) rfl ?_
  refine e_dup dX3_init_8 rfl ?_
  refine e_callIN (M' := mX2_init) [] rfl rfl dX3_init_9 rfl wmX3_11 imX2_init lkX2_init (Nat.le_of_ble_eq_true rfl) (nX2_init_5.mono (by decide)) (by decide) (by decide) (fun r S' v' hp => ?_)
  obtain ⟨rfl, rfl, rfl⟩ := hp
  refine ⟨rfl, ?_⟩
  refine e_putR (j := 1) dX3_init_12 (kP (kd := .inr 3) (by decide +kernel)) rc3 (by decide) wfX3_12 (Or.inr ⟨rfl, rfl, rfl⟩) (Or.inl ⟨_, rfl⟩) rfl ?_
  refine e_nameV (v1 := vc_12) rfl ?_
  refine e_aload_n dX3_init_15 rfl ?_
  refine e_ldcS0 dX3_init_16 rfl ?_
  refine e_putR (j := 2) dX3_init_18 (kP (kd := .inr 3) (by decide +kernel)) rc3 (by decide) wfX3_20 (Or.inl rfl) (Or.inl ⟨_, rfl⟩) rfl ?_
  refine e_nameV (v1 := vc_13) rfl ?_
  refine e_aload_n dX3_init_21 rfl ?_
  refine e_aload_n dX3_init_22 rfl ?_
  refine e_putR (j := 0) dX3_init_23 (kP (kd := .inr 3) (by decide +kernel)) rc3 (by decide) wfX3_24 (Or.inr ⟨rfl, rfl, rfl⟩) (Or.inl ⟨_, rfl⟩) rfl ?_
  refine e_nameV (v1 := vc_14) rfl ?_
  exact e_ret dX3_init_26 rfl ⟨rfl, rfl, rfl⟩
set_option maxRecDepth 20000 in
theorem nX1_init_8 {X : Nat × (Nat → Int32)} : EvM mX1_init 1 1 12 [.ref 7, .ref 1] (rP X 8) vc_16 (fun o S' v' => o = none ∧ S' = rP X 9 ∧ v' = vc_19) := by
  refine evm_of (by decide +kernel) (fun G => Nat.le_of_ble_eq_true rfl) ?_
  show Ev mX1_init 1 1 12 0 [(0, .ref 7), (1, .ref 1)] [] (rP X 8) vc_16 _
  refine e_aload_n dX1_init_0 rfl ?_
  refine e_objinit dX1_init_1 wmX1_3 wobjim wobjcode (Nat.le_of_ble_eq_true rfl) (by decide) ?_
  refine e_aload_n dX1_init_4 rfl ?_
  refine e_bipush (x := (12 : Int32)) dX1_init_5 (by decide) ?_
  refine e_newa (N := 12) (ty := .int) (n := 8) (S' := rP X 9) (v' := vc_17) (bc' := 0) (bs' := 0) rfl (Or.inl rfl) dX1_init_7 wk_157 rfl rfl (lP (by decide +kernel)) (by decide) (by decide) (by decide) (Nat.le_of_ble_eq_true rfl) rfl rfl (sP (by decide +kernel)) rfl ?_
  refine e_putR (j := 1) dX1_init_9 (kP (kd := .inr 1) (by decide +kernel)) rc1 (by decide) wfX1_9 (Or.inr ⟨rfl, rfl, rfl⟩) (Or.inr ⟨_, rfl⟩) rfl ?_
  refine e_nameV (v1 := vc_18) rfl ?_
  refine e_aload_n dX1_init_12 rfl ?_
  refine e_aload_n dX1_init_13 rfl ?_
  refine e_putR (j := 0) dX1_init_14 (kP (kd := .inr 1) (by decide +kernel)) rc1 (by decide) wfX1_15 (Or.inr ⟨rfl, rfl, rfl⟩) (Or.inl ⟨_, rfl⟩) rfl ?_
  refine e_nameV (v1 := vc_19) rfl ?_
  exact e_ret dX1_init_17 rfl ⟨rfl, rfl, rfl⟩
set_option maxRecDepth 20000 in
theorem nX2_init_12 {X : Nat × (Nat → Int32)} : EvM mX2_init 1 2 194 [.ref 11] (rP X 12) vc_24 (fun o S' v' => o = none ∧ S' = rP X 14 ∧ v' = vc_28) := by
  refine evm_of (by decide +kernel) (fun G => Nat.le_of_ble_eq_true rfl) ?_
  show Ev mX2_init 1 2 194 0 [(0, .ref 11)] [] (rP X 12) vc_24 _
  refine e_aload_n dX2_init_0 rfl ?_
  refine e_objinit dX2_init_1 wmX2_3 wobjim wobjcode (Nat.le_of_ble_eq_true rfl) (by decide) ?_
  refine e_aload_n dX2_init_4 rfl ?_
  refine e_sipush (x := (162 : Int32)) dX2_init_5 (by decide) ?_
  refine e_newa (N := 162) (ty := .int) (n := 12) (S' := rP X 13) (v' := vc_25) (bc' := 1) (bs' := 32) rfl (Or.inl rfl) dX2_init_8 wk_157 rfl rfl (lP (by decide +kernel)) (by decide) (by decide) (by decide) (Nat.le_of_ble_eq_true rfl) rfl rfl (sP (by decide +kernel)) rfl ?_
  refine e_putR (j := 0) dX2_init_10 (kP (kd := .inr 2) (by decide +kernel)) rc2 (by decide) wfX2_9 (Or.inr ⟨rfl, rfl, rfl⟩) (Or.inr ⟨_, rfl⟩) rfl ?_
  refine e_nameV (v1 := vc_26) rfl ?_
  refine e_aload_n dX2_init_13 rfl ?_
  refine e_bipush (x := (32 : Int32)) dX2_init_14 (by decide) ?_
  refine e_newa (N := 32) (ty := .int) (n := 13) (S' := rP X 14) (v' := vc_27) (bc' := 0) (bs' := 0) rfl (Or.inl rfl) dX2_init_16 wk_157 rfl rfl (lP (by decide +kernel)) (by decide) (by decide) (by decide) (Nat.le_of_ble_eq_true rfl) rfl rfl (sP (by decide +kernel)) rfl ?_
  refine e_putR (j := 1) dX2_init_18 (kP (kd := .inr 2) (by decide +kernel)) rc2 (by decide) wfX2_15 (Or.inr ⟨rfl, rfl, rfl⟩) (Or.inr ⟨_, rfl⟩) rfl ?_
  refine e_nameV (v1 := vc_28) rfl ?_
  exact e_ret dX2_init_21 rfl ⟨rfl, rfl, rfl⟩
set_option maxRecDepth 20000 in
theorem nX2_init_15 {X : Nat × (Nat → Int32)} : EvM mX2_init 1 2 194 [.ref 14] (rP X 15) vc_30 (fun o S' v' => o = none ∧ S' = rP X 17 ∧ v' = vc_34) := by
  refine evm_of (by decide +kernel) (fun G => Nat.le_of_ble_eq_true rfl) ?_
  show Ev mX2_init 1 2 194 0 [(0, .ref 14)] [] (rP X 15) vc_30 _
  refine e_aload_n dX2_init_0 rfl ?_
  refine e_objinit dX2_init_1 wmX2_3 wobjim wobjcode (Nat.le_of_ble_eq_true rfl) (by decide) ?_
  refine e_aload_n dX2_init_4 rfl ?_
  refine e_sipush (x := (162 : Int32)) dX2_init_5 (by decide) ?_
  refine e_newa (N := 162) (ty := .int) (n := 15) (S' := rP X 16) (v' := vc_31) (bc' := 1) (bs' := 32) rfl (Or.inl rfl) dX2_init_8 wk_157 rfl rfl (lP (by decide +kernel)) (by decide) (by decide) (by decide) (Nat.le_of_ble_eq_true rfl) rfl rfl (sP (by decide +kernel)) rfl ?_
  refine e_putR (j := 0) dX2_init_10 (kP (kd := .inr 2) (by decide +kernel)) rc2 (by decide) wfX2_9 (Or.inr ⟨rfl, rfl, rfl⟩) (Or.inr ⟨_, rfl⟩) rfl ?_
  refine e_nameV (v1 := vc_32) rfl ?_
  refine e_aload_n dX2_init_13 rfl ?_
  refine e_bipush (x := (32 : Int32)) dX2_init_14 (by decide) ?_
  refine e_newa (N := 32) (ty := .int) (n := 16) (S' := rP X 17) (v' := vc_33) (bc' := 0) (bs' := 0) rfl (Or.inl rfl) dX2_init_16 wk_157 rfl rfl (lP (by decide +kernel)) (by decide) (by decide) (by decide) (Nat.le_of_ble_eq_true rfl) rfl rfl (sP (by decide +kernel)) rfl ?_
  refine e_putR (j := 1) dX2_init_18 (kP (kd := .inr 2) (by decide +kernel)) rc2 (by decide) wfX2_15 (Or.inr ⟨rfl, rfl, rfl⟩) (Or.inr ⟨_, rfl⟩) rfl ?_
  refine e_nameV (v1 := vc_34) rfl ?_
  exact e_ret dX2_init_21 rfl ⟨rfl, rfl, rfl⟩
set_option maxRecDepth 20000 in
theorem nX2_init_18 {X : Nat × (Nat → Int32)} : EvM mX2_init 1 2 194 [.ref 17] (rP X 18) vc_36 (fun o S' v' => o = none ∧ S' = rP X 20 ∧ v' = vc_40) := by
  refine evm_of (by decide +kernel) (fun G => Nat.le_of_ble_eq_true rfl) ?_
  show Ev mX2_init 1 2 194 0 [(0, .ref 17)] [] (rP X 18) vc_36 _
  refine e_aload_n dX2_init_0 rfl ?_
  refine e_objinit dX2_init_1 wmX2_3 wobjim wobjcode (Nat.le_of_ble_eq_true rfl) (by decide) ?_
  refine e_aload_n dX2_init_4 rfl ?_
  refine e_sipush (x := (162 : Int32)) dX2_init_5 (by decide) ?_
  refine e_newa (N := 162) (ty := .int) (n := 18) (S' := rP X 19) (v' := vc_37) (bc' := 1) (bs' := 32) rfl (Or.inl rfl) dX2_init_8 wk_157 rfl rfl (lP (by decide +kernel)) (by decide) (by decide) (by decide) (Nat.le_of_ble_eq_true rfl) rfl rfl (sP (by decide +kernel)) rfl ?_
  refine e_putR (j := 0) dX2_init_10 (kP (kd := .inr 2) (by decide +kernel)) rc2 (by decide) wfX2_9 (Or.inr ⟨rfl, rfl, rfl⟩) (Or.inr ⟨_, rfl⟩) rfl ?_
  refine e_nameV (v1 := vc_38) rfl ?_
  refine e_aload_n dX2_init_13 rfl ?_
  refine e_bipush (x := (32 : Int32)) dX2_init_14 (by decide) ?_
  refine e_newa (N := 32) (ty := .int) (n := 19) (S' := rP X 20) (v' := vc_39) (bc' := 0) (bs' := 0) rfl (Or.inl rfl) dX2_init_16 wk_157 rfl rfl (lP (by decide +kernel)) (by decide) (by decide) (by decide) (Nat.le_of_ble_eq_true rfl) rfl rfl (sP (by decide +kernel)) rfl ?_
  refine e_putR (j := 1) dX2_init_18 (kP (kd := .inr 2) (by decide +kernel)) rc2 (by decide) wfX2_15 (Or.inr ⟨rfl, rfl, rfl⟩) (Or.inr ⟨_, rfl⟩) rfl ?_
  refine e_nameV (v1 := vc_40) rfl ?_
  exact e_ret dX2_init_21 rfl ⟨rfl, rfl, rfl⟩
set_option maxRecDepth 20000 in
theorem nX2_init_21 {X : Nat × (Nat → Int32)} : EvM mX2_init 1 2 194 [.ref 20] (rP X 21) vc_42 (fun o S' v' => o = none ∧ S' = rP X 23 ∧ v' = vc_46) := by
  refine evm_of (by decide +kernel) (fun G => Nat.le_of_ble_eq_true rfl) ?_
  show Ev mX2_init 1 2 194 0 [(0, .ref 20)] [] (rP X 21) vc_42 _
  refine e_aload_n dX2_init_0 rfl ?_
  refine e_objinit dX2_init_1 wmX2_3 wobjim wobjcode (Nat.le_of_ble_eq_true rfl) (by decide) ?_
  refine e_aload_n dX2_init_4 rfl ?_
  refine e_sipush (x := (162 : Int32)) dX2_init_5 (by decide) ?_
  refine e_newa (N := 162) (ty := .int) (n := 21) (S' := rP X 22) (v' := vc_43) (bc' := 1) (bs' := 32) rfl (Or.inl rfl) dX2_init_8 wk_157 rfl rfl (lP (by decide +kernel)) (by decide) (by decide) (by decide) (Nat.le_of_ble_eq_true rfl) rfl rfl (sP (by decide +kernel)) rfl ?_
  refine e_putR (j := 0) dX2_init_10 (kP (kd := .inr 2) (by decide +kernel)) rc2 (by decide) wfX2_9 (Or.inr ⟨rfl, rfl, rfl⟩) (Or.inr ⟨_, rfl⟩) rfl ?_
  refine e_nameV (v1 := vc_44) rfl ?_
  refine e_aload_n dX2_init_13 rfl ?_
  refine e_bipush (x := (32 : Int32)) dX2_init_14 (by decide) ?_
  refine e_newa (N := 32) (ty := .int) (n := 22) (S' := rP X 23) (v' := vc_45) (bc' := 0) (bs' := 0) rfl (Or.inl rfl) dX2_init_16 wk_157 rfl rfl (lP (by decide +kernel)) (by decide) (by decide) (by decide) (Nat.le_of_ble_eq_true rfl) rfl rfl (sP (by decide +kernel)) rfl ?_
  refine e_putR (j := 1) dX2_init_18 (kP (kd := .inr 2) (by decide +kernel)) rc2 (by decide) wfX2_15 (Or.inr ⟨rfl, rfl, rfl⟩) (Or.inr ⟨_, rfl⟩) rfl ?_
  refine e_nameV (v1 := vc_46) rfl ?_
  exact e_ret dX2_init_21 rfl ⟨rfl, rfl, rfl⟩
set_option maxRecDepth 20000 in
theorem nX4_init_10 {X : Nat × (Nat → Int32)} : EvM mX4_init 2 13 792 [.ref 9] (rP X 10) vc_21 (fun o S' v' => o = none ∧ S' = rP X 23 ∧ v' = vc_47) := by
  refine evm_of (by decide +kernel) (fun G => Nat.le_of_ble_eq_true rfl) ?_
  show Ev mX4_init 2 13 792 0 [(0, .ref 9)] [] (rP X 10) vc_21 _
  refine e_aload_n dX4_init_0 rfl ?_
  refine e_objinit dX4_init_1 wmX4_3 wobjim wobjcode (Nat.le_of_ble_eq_true rfl) (by decide) ?_
  refine e_aload_n dX4_init_4 rfl ?_
  refine e_iconst (x := (4 : Int32)) dX4_init_5 (by decide) ?_
  refine e_anew (N := 4) (n := 10) (S' := rP X 11) (v' := vc_22) (bc' := 12) (bs' := 788) dX4_init_6 wk_223 (Or.inl rfl) rfl rfl (lP (by decide +kernel)) (by decide) (by decide) (by decide) (Nat.le_of_ble_eq_true rfl) rfl rfl (sP (by decide +kernel)) rfl ?_
  refine e_putR (j := 0) dX4_init_9 (kP (kd := .inr 4) (by decide +kernel)) rc4 (by decide) wfX4_11 (Or.inr ⟨rfl, rfl, rfl⟩) (Or.inr ⟨_, rfl⟩) rfl ?_
  refine e_nameV (v1 := vc_23) rfl ?_
  refine e_iconst (x := (0 : Int32)) dX4_init_12 (by decide) ?_
  refine e_istore_n (lv' := [(1, .int (0 : Int32)), (0, .ref 9)]) dX4_init_13 (by decide) rfl ?_
  refine e_iload_n dX4_init_14 rfl ?_
  refine e_aload_n dX4_init_15 rfl ?_
  refine e_get (w := .ref 10) (j := 0) dX4_init_16 (kP (kd := .inr 4) (by decide +kernel)) rc4 (by decide) wfX4_11 (gPr (Or.inr ⟨_, rfl⟩) (by decide +kernel)) ?_
  refine e_alenJ (x := (4 : Int32)) dX4_init_19 (kP (kd := .inl (4, .object "RingDrop$Formula")) (by decide +kernel)) (Or.inr (Or.inr rfl)) (by decide) ?_
  refine e_icmp_ge (tgt := 42) dX4_init_20 (by decide) (fun c => absurd c (by decide)) (fun _ => ?_)
  refine e_aload_n dX4_init_23 rfl ?_
  refine e_get (w := .ref 10) (j := 0) dX4_init_24 (kP (kd := .inr 4) (by decide +kernel)) rc4 (by decide) wfX4_11 (gPr (Or.inr ⟨_, rfl⟩) (by decide +kernel)) ?_
  refine e_iload_n dX4_init_27 rfl ?_
  refine e_new (ci := 2) (n := 11) (S' := rP X 12) (v' := vc_24) (bc' := 11) (bs' := 785) dX4_init_28 rc2 wk_223 wk_165 wk_116 (by decide) rfl rfl (lP (by decide +kernel)) (by decide) rfl rfl (sP (by decide +kernel)) rfl ?_
  refine e_dup dX4_init_31 rfl ?_
  refine e_callIN (M' := mX2_init) [] rfl rfl dX4_init_32 rfl wmX4_17 imX2_init lkX2_init (Nat.le_of_ble_eq_true rfl) (nX2_init_12.mono (by decide)) (by decide) (by decide) (fun r S' v' hp => ?_)
  obtain ⟨rfl, rfl, rfl⟩ := hp
  refine ⟨rfl, ?_⟩
  refine e_aastJ (j := 0) dX4_init_35 (kP (kd := .inl (4, .object "RingDrop$Formula")) (by decide +kernel)) (kP (kd := .inr 2) (by decide +kernel)) rc2 (by decide) (by decide) (by decide) rfl ?_
  refine e_nameV (v1 := vc_29) rfl ?_
  refine e_iinc (lv' := [(1, .int (1 : Int32)), (0, .ref 9)]) dX4_init_36 rfl (by decide) (by decide) rfl ?_
  refine e_goto (tgt := 14) dX4_init_39 (by decide) ?_
  refine e_iload_n dX4_init_14 rfl ?_
  refine e_aload_n dX4_init_15 rfl ?_
  refine e_get (w := .ref 10) (j := 0) dX4_init_16 (kP (kd := .inr 4) (by decide +kernel)) rc4 (by decide) wfX4_11 (gPr (Or.inr ⟨_, rfl⟩) (by decide +kernel)) ?_
  refine e_alenJ (x := (4 : Int32)) dX4_init_19 (kP (kd := .inl (4, .object "RingDrop$Formula")) (by decide +kernel)) (Or.inr (Or.inr rfl)) (by decide) ?_
  refine e_icmp_ge (tgt := 42) dX4_init_20 (by decide) (fun c => absurd c (by decide)) (fun _ => ?_)
  refine e_aload_n dX4_init_23 rfl ?_
  refine e_get (w := .ref 10) (j := 0) dX4_init_24 (kP (kd := .inr 4) (by decide +kernel)) rc4 (by decide) wfX4_11 (gPr (Or.inr ⟨_, rfl⟩) (by decide +kernel)) ?_
  refine e_iload_n dX4_init_27 rfl ?_
  refine e_new (ci := 2) (n := 14) (S' := rP X 15) (v' := vc_30) (bc' := 8) (bs' := 588) dX4_init_28 rc2 wk_223 wk_165 wk_116 (by decide) rfl rfl (lP (by decide +kernel)) (by decide) rfl rfl (sP (by decide +kernel)) rfl ?_
  refine e_dup dX4_init_31 rfl ?_
  refine e_callIN (M' := mX2_init) [] rfl rfl dX4_init_32 rfl wmX4_17 imX2_init lkX2_init (Nat.le_of_ble_eq_true rfl) (nX2_init_15.mono (by decide)) (by decide) (by decide) (fun r S' v' hp => ?_)
  obtain ⟨rfl, rfl, rfl⟩ := hp
  refine ⟨rfl, ?_⟩
  refine e_aastJ (j := 1) dX4_init_35 (kP (kd := .inl (4, .object "RingDrop$Formula")) (by decide +kernel)) (kP (kd := .inr 2) (by decide +kernel)) rc2 (by decide) (by decide) (by decide) rfl ?_
  refine e_nameV (v1 := vc_35) rfl ?_
  refine e_iinc (lv' := [(1, .int (2 : Int32)), (0, .ref 9)]) dX4_init_36 rfl (by decide) (by decide) rfl ?_
  refine e_goto (tgt := 14) dX4_init_39 (by decide) ?_
  refine e_iload_n dX4_init_14 rfl ?_
  refine e_aload_n dX4_init_15 rfl ?_
  refine e_get (w := .ref 10) (j := 0) dX4_init_16 (kP (kd := .inr 4) (by decide +kernel)) rc4 (by decide) wfX4_11 (gPr (Or.inr ⟨_, rfl⟩) (by decide +kernel)) ?_
  refine e_alenJ (x := (4 : Int32)) dX4_init_19 (kP (kd := .inl (4, .object "RingDrop$Formula")) (by decide +kernel)) (Or.inr (Or.inr rfl)) (by decide) ?_
  refine e_icmp_ge (tgt := 42) dX4_init_20 (by decide) (fun c => absurd c (by decide)) (fun _ => ?_)
  refine e_aload_n dX4_init_23 rfl ?_
  refine e_get (w := .ref 10) (j := 0) dX4_init_24 (kP (kd := .inr 4) (by decide +kernel)) rc4 (by decide) wfX4_11 (gPr (Or.inr ⟨_, rfl⟩) (by decide +kernel)) ?_
  refine e_iload_n dX4_init_27 rfl ?_
  refine e_new (ci := 2) (n := 17) (S' := rP X 18) (v' := vc_36) (bc' := 5) (bs' := 391) dX4_init_28 rc2 wk_223 wk_165 wk_116 (by decide) rfl rfl (lP (by decide +kernel)) (by decide) rfl rfl (sP (by decide +kernel)) rfl ?_
  refine e_dup dX4_init_31 rfl ?_
  refine e_callIN (M' := mX2_init) [] rfl rfl dX4_init_32 rfl wmX4_17 imX2_init lkX2_init (Nat.le_of_ble_eq_true rfl) (nX2_init_18.mono (by decide)) (by decide) (by decide) (fun r S' v' hp => ?_)
  obtain ⟨rfl, rfl, rfl⟩ := hp
  refine ⟨rfl, ?_⟩
  refine e_aastJ (j := 2) dX4_init_35 (kP (kd := .inl (4, .object "RingDrop$Formula")) (by decide +kernel)) (kP (kd := .inr 2) (by decide +kernel)) rc2 (by decide) (by decide) (by decide) rfl ?_
  refine e_nameV (v1 := vc_41) rfl ?_
  refine e_iinc (lv' := [(1, .int (3 : Int32)), (0, .ref 9)]) dX4_init_36 rfl (by decide) (by decide) rfl ?_
  refine e_goto (tgt := 14) dX4_init_39 (by decide) ?_
  refine e_iload_n dX4_init_14 rfl ?_
  refine e_aload_n dX4_init_15 rfl ?_
  refine e_get (w := .ref 10) (j := 0) dX4_init_16 (kP (kd := .inr 4) (by decide +kernel)) rc4 (by decide) wfX4_11 (gPr (Or.inr ⟨_, rfl⟩) (by decide +kernel)) ?_
  refine e_alenJ (x := (4 : Int32)) dX4_init_19 (kP (kd := .inl (4, .object "RingDrop$Formula")) (by decide +kernel)) (Or.inr (Or.inr rfl)) (by decide) ?_
  refine e_icmp_ge (tgt := 42) dX4_init_20 (by decide) (fun c => absurd c (by decide)) (fun _ => ?_)
  refine e_aload_n dX4_init_23 rfl ?_
  refine e_get (w := .ref 10) (j := 0) dX4_init_24 (kP (kd := .inr 4) (by decide +kernel)) rc4 (by decide) wfX4_11 (gPr (Or.inr ⟨_, rfl⟩) (by decide +kernel)) ?_
  refine e_iload_n dX4_init_27 rfl ?_
  refine e_new (ci := 2) (n := 20) (S' := rP X 21) (v' := vc_42) (bc' := 2) (bs' := 194) dX4_init_28 rc2 wk_223 wk_165 wk_116 (by decide) rfl rfl (lP (by decide +kernel)) (by decide) rfl rfl (sP (by decide +kernel)) rfl ?_
  refine e_dup dX4_init_31 rfl ?_
  refine e_callIN (M' := mX2_init) [] rfl rfl dX4_init_32 rfl wmX4_17 imX2_init lkX2_init (Nat.le_of_ble_eq_true rfl) (nX2_init_21.mono (by decide)) (by decide) (by decide) (fun r S' v' hp => ?_)
  obtain ⟨rfl, rfl, rfl⟩ := hp
  refine ⟨rfl, ?_⟩
  refine e_aastJ (j := 3) dX4_init_35 (kP (kd := .inl (4, .object "RingDrop$Formula")) (by decide +kernel)) (kP (kd := .inr 2) (by decide +kernel)) rc2 (by decide) (by decide) (by decide) rfl ?_
  refine e_nameV (v1 := vc_47) rfl ?_
  refine e_iinc (lv' := [(1, .int (4 : Int32)), (0, .ref 9)]) dX4_init_36 rfl (by decide) (by decide) rfl ?_
  refine e_goto (tgt := 14) dX4_init_39 (by decide) ?_
  refine e_iload_n dX4_init_14 rfl ?_
  refine e_aload_n dX4_init_15 rfl ?_
  refine e_get (w := .ref 10) (j := 0) dX4_init_16 (kP (kd := .inr 4) (by decide +kernel)) rc4 (by decide) wfX4_11 (gPr (Or.inr ⟨_, rfl⟩) (by decide +kernel)) ?_
  refine e_alenJ (x := (4 : Int32)) dX4_init_19 (kP (kd := .inl (4, .object "RingDrop$Formula")) (by decide +kernel)) (Or.inr (Or.inr rfl)) (by decide) ?_
  refine e_icmp_ge (tgt := 42) dX4_init_20 (by decide) (fun _ => ?_) (fun c => absurd (by decide) c)
  exact e_ret dX4_init_42 rfl ⟨rfl, rfl, rfl⟩
set_option maxRecDepth 20000 in
theorem nX2_init_26 {X : Nat × (Nat → Int32)} : EvM mX2_init 1 2 194 [.ref 25] (rP X 26) vc_52 (fun o S' v' => o = none ∧ S' = rP X 28 ∧ v' = vc_56) := by
  refine evm_of (by decide +kernel) (fun G => Nat.le_of_ble_eq_true rfl) ?_
  show Ev mX2_init 1 2 194 0 [(0, .ref 25)] [] (rP X 26) vc_52 _
  refine e_aload_n dX2_init_0 rfl ?_
  refine e_objinit dX2_init_1 wmX2_3 wobjim wobjcode (Nat.le_of_ble_eq_true rfl) (by decide) ?_
  refine e_aload_n dX2_init_4 rfl ?_
  refine e_sipush (x := (162 : Int32)) dX2_init_5 (by decide) ?_
  refine e_newa (N := 162) (ty := .int) (n := 26) (S' := rP X 27) (v' := vc_53) (bc' := 1) (bs' := 32) rfl (Or.inl rfl) dX2_init_8 wk_157 rfl rfl (lP (by decide +kernel)) (by decide) (by decide) (by decide) (Nat.le_of_ble_eq_true rfl) rfl rfl (sP (by decide +kernel)) rfl ?_
  refine e_putR (j := 0) dX2_init_10 (kP (kd := .inr 2) (by decide +kernel)) rc2 (by decide) wfX2_9 (Or.inr ⟨rfl, rfl, rfl⟩) (Or.inr ⟨_, rfl⟩) rfl ?_
  refine e_nameV (v1 := vc_54) rfl ?_
  refine e_aload_n dX2_init_13 rfl ?_
  refine e_bipush (x := (32 : Int32)) dX2_init_14 (by decide) ?_
  refine e_newa (N := 32) (ty := .int) (n := 27) (S' := rP X 28) (v' := vc_55) (bc' := 0) (bs' := 0) rfl (Or.inl rfl) dX2_init_16 wk_157 rfl rfl (lP (by decide +kernel)) (by decide) (by decide) (by decide) (Nat.le_of_ble_eq_true rfl) rfl rfl (sP (by decide +kernel)) rfl ?_
  refine e_putR (j := 1) dX2_init_18 (kP (kd := .inr 2) (by decide +kernel)) rc2 (by decide) wfX2_15 (Or.inr ⟨rfl, rfl, rfl⟩) (Or.inr ⟨_, rfl⟩) rfl ?_
  refine e_nameV (v1 := vc_56) rfl ?_
  exact e_ret dX2_init_21 rfl ⟨rfl, rfl, rfl⟩
set_option maxRecDepth 20000 in
theorem nX2_init_29 {X : Nat × (Nat → Int32)} : EvM mX2_init 1 2 194 [.ref 28] (rP X 29) vc_58 (fun o S' v' => o = none ∧ S' = rP X 31 ∧ v' = vc_62) := by
  refine evm_of (by decide +kernel) (fun G => Nat.le_of_ble_eq_true rfl) ?_
  show Ev mX2_init 1 2 194 0 [(0, .ref 28)] [] (rP X 29) vc_58 _
  refine e_aload_n dX2_init_0 rfl ?_
  refine e_objinit dX2_init_1 wmX2_3 wobjim wobjcode (Nat.le_of_ble_eq_true rfl) (by decide) ?_
  refine e_aload_n dX2_init_4 rfl ?_
  refine e_sipush (x := (162 : Int32)) dX2_init_5 (by decide) ?_
  refine e_newa (N := 162) (ty := .int) (n := 29) (S' := rP X 30) (v' := vc_59) (bc' := 1) (bs' := 32) rfl (Or.inl rfl) dX2_init_8 wk_157 rfl rfl (lP (by decide +kernel)) (by decide) (by decide) (by decide) (Nat.le_of_ble_eq_true rfl) rfl rfl (sP (by decide +kernel)) rfl ?_
  refine e_putR (j := 0) dX2_init_10 (kP (kd := .inr 2) (by decide +kernel)) rc2 (by decide) wfX2_9 (Or.inr ⟨rfl, rfl, rfl⟩) (Or.inr ⟨_, rfl⟩) rfl ?_
  refine e_nameV (v1 := vc_60) rfl ?_
  refine e_aload_n dX2_init_13 rfl ?_
  refine e_bipush (x := (32 : Int32)) dX2_init_14 (by decide) ?_
  refine e_newa (N := 32) (ty := .int) (n := 30) (S' := rP X 31) (v' := vc_61) (bc' := 0) (bs' := 0) rfl (Or.inl rfl) dX2_init_16 wk_157 rfl rfl (lP (by decide +kernel)) (by decide) (by decide) (by decide) (Nat.le_of_ble_eq_true rfl) rfl rfl (sP (by decide +kernel)) rfl ?_
  refine e_putR (j := 1) dX2_init_18 (kP (kd := .inr 2) (by decide +kernel)) rc2 (by decide) wfX2_15 (Or.inr ⟨rfl, rfl, rfl⟩) (Or.inr ⟨_, rfl⟩) rfl ?_
  refine e_nameV (v1 := vc_62) rfl ?_
  exact e_ret dX2_init_21 rfl ⟨rfl, rfl, rfl⟩
set_option maxRecDepth 20000 in
theorem nX2_init_32 {X : Nat × (Nat → Int32)} : EvM mX2_init 1 2 194 [.ref 31] (rP X 32) vc_64 (fun o S' v' => o = none ∧ S' = rP X 34 ∧ v' = vc_68) := by
  refine evm_of (by decide +kernel) (fun G => Nat.le_of_ble_eq_true rfl) ?_
  show Ev mX2_init 1 2 194 0 [(0, .ref 31)] [] (rP X 32) vc_64 _
  refine e_aload_n dX2_init_0 rfl ?_
  refine e_objinit dX2_init_1 wmX2_3 wobjim wobjcode (Nat.le_of_ble_eq_true rfl) (by decide) ?_
  refine e_aload_n dX2_init_4 rfl ?_
  refine e_sipush (x := (162 : Int32)) dX2_init_5 (by decide) ?_
  refine e_newa (N := 162) (ty := .int) (n := 32) (S' := rP X 33) (v' := vc_65) (bc' := 1) (bs' := 32) rfl (Or.inl rfl) dX2_init_8 wk_157 rfl rfl (lP (by decide +kernel)) (by decide) (by decide) (by decide) (Nat.le_of_ble_eq_true rfl) rfl rfl (sP (by decide +kernel)) rfl ?_
  refine e_putR (j := 0) dX2_init_10 (kP (kd := .inr 2) (by decide +kernel)) rc2 (by decide) wfX2_9 (Or.inr ⟨rfl, rfl, rfl⟩) (Or.inr ⟨_, rfl⟩) rfl ?_
  refine e_nameV (v1 := vc_66) rfl ?_
  refine e_aload_n dX2_init_13 rfl ?_
  refine e_bipush (x := (32 : Int32)) dX2_init_14 (by decide) ?_
  refine e_newa (N := 32) (ty := .int) (n := 33) (S' := rP X 34) (v' := vc_67) (bc' := 0) (bs' := 0) rfl (Or.inl rfl) dX2_init_16 wk_157 rfl rfl (lP (by decide +kernel)) (by decide) (by decide) (by decide) (Nat.le_of_ble_eq_true rfl) rfl rfl (sP (by decide +kernel)) rfl ?_
  refine e_putR (j := 1) dX2_init_18 (kP (kd := .inr 2) (by decide +kernel)) rc2 (by decide) wfX2_15 (Or.inr ⟨rfl, rfl, rfl⟩) (Or.inr ⟨_, rfl⟩) rfl ?_
  refine e_nameV (v1 := vc_68) rfl ?_
  exact e_ret dX2_init_21 rfl ⟨rfl, rfl, rfl⟩
set_option maxRecDepth 20000 in
theorem nX2_init_35 {X : Nat × (Nat → Int32)} : EvM mX2_init 1 2 194 [.ref 34] (rP X 35) vc_70 (fun o S' v' => o = none ∧ S' = rP X 37 ∧ v' = vc_74) := by
  refine evm_of (by decide +kernel) (fun G => Nat.le_of_ble_eq_true rfl) ?_
  show Ev mX2_init 1 2 194 0 [(0, .ref 34)] [] (rP X 35) vc_70 _
  refine e_aload_n dX2_init_0 rfl ?_
  refine e_objinit dX2_init_1 wmX2_3 wobjim wobjcode (Nat.le_of_ble_eq_true rfl) (by decide) ?_
  refine e_aload_n dX2_init_4 rfl ?_
  refine e_sipush (x := (162 : Int32)) dX2_init_5 (by decide) ?_
  refine e_newa (N := 162) (ty := .int) (n := 35) (S' := rP X 36) (v' := vc_71) (bc' := 1) (bs' := 32) rfl (Or.inl rfl) dX2_init_8 wk_157 rfl rfl (lP (by decide +kernel)) (by decide) (by decide) (by decide) (Nat.le_of_ble_eq_true rfl) rfl rfl (sP (by decide +kernel)) rfl ?_
  refine e_putR (j := 0) dX2_init_10 (kP (kd := .inr 2) (by decide +kernel)) rc2 (by decide) wfX2_9 (Or.inr ⟨rfl, rfl, rfl⟩) (Or.inr ⟨_, rfl⟩) rfl ?_
  refine e_nameV (v1 := vc_72) rfl ?_
  refine e_aload_n dX2_init_13 rfl ?_
  refine e_bipush (x := (32 : Int32)) dX2_init_14 (by decide) ?_
  refine e_newa (N := 32) (ty := .int) (n := 36) (S' := rP X 37) (v' := vc_73) (bc' := 0) (bs' := 0) rfl (Or.inl rfl) dX2_init_16 wk_157 rfl rfl (lP (by decide +kernel)) (by decide) (by decide) (by decide) (Nat.le_of_ble_eq_true rfl) rfl rfl (sP (by decide +kernel)) rfl ?_
  refine e_putR (j := 1) dX2_init_18 (kP (kd := .inr 2) (by decide +kernel)) rc2 (by decide) wfX2_15 (Or.inr ⟨rfl, rfl, rfl⟩) (Or.inr ⟨_, rfl⟩) rfl ?_
  refine e_nameV (v1 := vc_74) rfl ?_
  exact e_ret dX2_init_21 rfl ⟨rfl, rfl, rfl⟩
set_option maxRecDepth 20000 in
theorem nX4_init_24 {X : Nat × (Nat → Int32)} : EvM mX4_init 2 13 792 [.ref 23] (rP X 24) vc_49 (fun o S' v' => o = none ∧ S' = rP X 37 ∧ v' = vc_75) := by
  refine evm_of (by decide +kernel) (fun G => Nat.le_of_ble_eq_true rfl) ?_
  show Ev mX4_init 2 13 792 0 [(0, .ref 23)] [] (rP X 24) vc_49 _
  refine e_aload_n dX4_init_0 rfl ?_
  refine e_objinit dX4_init_1 wmX4_3 wobjim wobjcode (Nat.le_of_ble_eq_true rfl) (by decide) ?_
  refine e_aload_n dX4_init_4 rfl ?_
  refine e_iconst (x := (4 : Int32)) dX4_init_5 (by decide) ?_
  refine e_anew (N := 4) (n := 24) (S' := rP X 25) (v' := vc_50) (bc' := 12) (bs' := 788) dX4_init_6 wk_223 (Or.inl rfl) rfl rfl (lP (by decide +kernel)) (by decide) (by decide) (by decide) (Nat.le_of_ble_eq_true rfl) rfl rfl (sP (by decide +kernel)) rfl ?_
  refine e_putR (j := 0) dX4_init_9 (kP (kd := .inr 4) (by decide +kernel)) rc4 (by decide) wfX4_11 (Or.inr ⟨rfl, rfl, rfl⟩) (Or.inr ⟨_, rfl⟩) rfl ?_
  refine e_nameV (v1 := vc_51) rfl ?_
  refine e_iconst (x := (0 : Int32)) dX4_init_12 (by decide) ?_
  refine e_istore_n (lv' := [(1, .int (0 : Int32)), (0, .ref 23)]) dX4_init_13 (by decide) rfl ?_
  refine e_iload_n dX4_init_14 rfl ?_
  refine e_aload_n dX4_init_15 rfl ?_
  refine e_get (w := .ref 24) (j := 0) dX4_init_16 (kP (kd := .inr 4) (by decide +kernel)) rc4 (by decide) wfX4_11 (gPr (Or.inr ⟨_, rfl⟩) (by decide +kernel)) ?_
  refine e_alenJ (x := (4 : Int32)) dX4_init_19 (kP (kd := .inl (4, .object "RingDrop$Formula")) (by decide +kernel)) (Or.inr (Or.inr rfl)) (by decide) ?_
  refine e_icmp_ge (tgt := 42) dX4_init_20 (by decide) (fun c => absurd c (by decide)) (fun _ => ?_)
  refine e_aload_n dX4_init_23 rfl ?_
  refine e_get (w := .ref 24) (j := 0) dX4_init_24 (kP (kd := .inr 4) (by decide +kernel)) rc4 (by decide) wfX4_11 (gPr (Or.inr ⟨_, rfl⟩) (by decide +kernel)) ?_
  refine e_iload_n dX4_init_27 rfl ?_
  refine e_new (ci := 2) (n := 25) (S' := rP X 26) (v' := vc_52) (bc' := 11) (bs' := 785) dX4_init_28 rc2 wk_223 wk_165 wk_116 (by decide) rfl rfl (lP (by decide +kernel)) (by decide) rfl rfl (sP (by decide +kernel)) rfl ?_
  refine e_dup dX4_init_31 rfl ?_
  refine e_callIN (M' := mX2_init) [] rfl rfl dX4_init_32 rfl wmX4_17 imX2_init lkX2_init (Nat.le_of_ble_eq_true rfl) (nX2_init_26.mono (by decide)) (by decide) (by decide) (fun r S' v' hp => ?_)
  obtain ⟨rfl, rfl, rfl⟩ := hp
  refine ⟨rfl, ?_⟩
  refine e_aastJ (j := 0) dX4_init_35 (kP (kd := .inl (4, .object "RingDrop$Formula")) (by decide +kernel)) (kP (kd := .inr 2) (by decide +kernel)) rc2 (by decide) (by decide) (by decide) rfl ?_
  refine e_nameV (v1 := vc_57) rfl ?_
  refine e_iinc (lv' := [(1, .int (1 : Int32)), (0, .ref 23)]) dX4_init_36 rfl (by decide) (by decide) rfl ?_
  refine e_goto (tgt := 14) dX4_init_39 (by decide) ?_
  refine e_iload_n dX4_init_14 rfl ?_
  refine e_aload_n dX4_init_15 rfl ?_
  refine e_get (w := .ref 24) (j := 0) dX4_init_16 (kP (kd := .inr 4) (by decide +kernel)) rc4 (by decide) wfX4_11 (gPr (Or.inr ⟨_, rfl⟩) (by decide +kernel)) ?_
  refine e_alenJ (x := (4 : Int32)) dX4_init_19 (kP (kd := .inl (4, .object "RingDrop$Formula")) (by decide +kernel)) (Or.inr (Or.inr rfl)) (by decide) ?_
  refine e_icmp_ge (tgt := 42) dX4_init_20 (by decide) (fun c => absurd c (by decide)) (fun _ => ?_)
  refine e_aload_n dX4_init_23 rfl ?_
  refine e_get (w := .ref 24) (j := 0) dX4_init_24 (kP (kd := .inr 4) (by decide +kernel)) rc4 (by decide) wfX4_11 (gPr (Or.inr ⟨_, rfl⟩) (by decide +kernel)) ?_
  refine e_iload_n dX4_init_27 rfl ?_
  refine e_new (ci := 2) (n := 28) (S' := rP X 29) (v' := vc_58) (bc' := 8) (bs' := 588) dX4_init_28 rc2 wk_223 wk_165 wk_116 (by decide) rfl rfl (lP (by decide +kernel)) (by decide) rfl rfl (sP (by decide +kernel)) rfl ?_
  refine e_dup dX4_init_31 rfl ?_
  refine e_callIN (M' := mX2_init) [] rfl rfl dX4_init_32 rfl wmX4_17 imX2_init lkX2_init (Nat.le_of_ble_eq_true rfl) (nX2_init_29.mono (by decide)) (by decide) (by decide) (fun r S' v' hp => ?_)
  obtain ⟨rfl, rfl, rfl⟩ := hp
  refine ⟨rfl, ?_⟩
  refine e_aastJ (j := 1) dX4_init_35 (kP (kd := .inl (4, .object "RingDrop$Formula")) (by decide +kernel)) (kP (kd := .inr 2) (by decide +kernel)) rc2 (by decide) (by decide) (by decide) rfl ?_
  refine e_nameV (v1 := vc_63) rfl ?_
  refine e_iinc (lv' := [(1, .int (2 : Int32)), (0, .ref 23)]) dX4_init_36 rfl (by decide) (by decide) rfl ?_
  refine e_goto (tgt := 14) dX4_init_39 (by decide) ?_
  refine e_iload_n dX4_init_14 rfl ?_
  refine e_aload_n dX4_init_15 rfl ?_
  refine e_get (w := .ref 24) (j := 0) dX4_init_16 (kP (kd := .inr 4) (by decide +kernel)) rc4 (by decide) wfX4_11 (gPr (Or.inr ⟨_, rfl⟩) (by decide +kernel)) ?_
  refine e_alenJ (x := (4 : Int32)) dX4_init_19 (kP (kd := .inl (4, .object "RingDrop$Formula")) (by decide +kernel)) (Or.inr (Or.inr rfl)) (by decide) ?_
  refine e_icmp_ge (tgt := 42) dX4_init_20 (by decide) (fun c => absurd c (by decide)) (fun _ => ?_)
  refine e_aload_n dX4_init_23 rfl ?_
  refine e_get (w := .ref 24) (j := 0) dX4_init_24 (kP (kd := .inr 4) (by decide +kernel)) rc4 (by decide) wfX4_11 (gPr (Or.inr ⟨_, rfl⟩) (by decide +kernel)) ?_
  refine e_iload_n dX4_init_27 rfl ?_
  refine e_new (ci := 2) (n := 31) (S' := rP X 32) (v' := vc_64) (bc' := 5) (bs' := 391) dX4_init_28 rc2 wk_223 wk_165 wk_116 (by decide) rfl rfl (lP (by decide +kernel)) (by decide) rfl rfl (sP (by decide +kernel)) rfl ?_
  refine e_dup dX4_init_31 rfl ?_
  refine e_callIN (M' := mX2_init) [] rfl rfl dX4_init_32 rfl wmX4_17 imX2_init lkX2_init (Nat.le_of_ble_eq_true rfl) (nX2_init_32.mono (by decide)) (by decide) (by decide) (fun r S' v' hp => ?_)
  obtain ⟨rfl, rfl, rfl⟩ := hp
  refine ⟨rfl, ?_⟩
  refine e_aastJ (j := 2) dX4_init_35 (kP (kd := .inl (4, .object "RingDrop$Formula")) (by decide +kernel)) (kP (kd := .inr 2) (by decide +kernel)) rc2 (by decide) (by decide) (by decide) rfl ?_
  refine e_nameV (v1 := vc_69) rfl ?_
  refine e_iinc (lv' := [(1, .int (3 : Int32)), (0, .ref 23)]) dX4_init_36 rfl (by decide) (by decide) rfl ?_
  refine e_goto (tgt := 14) dX4_init_39 (by decide) ?_
  refine e_iload_n dX4_init_14 rfl ?_
  refine e_aload_n dX4_init_15 rfl ?_
  refine e_get (w := .ref 24) (j := 0) dX4_init_16 (kP (kd := .inr 4) (by decide +kernel)) rc4 (by decide) wfX4_11 (gPr (Or.inr ⟨_, rfl⟩) (by decide +kernel)) ?_
  refine e_alenJ (x := (4 : Int32)) dX4_init_19 (kP (kd := .inl (4, .object "RingDrop$Formula")) (by decide +kernel)) (Or.inr (Or.inr rfl)) (by decide) ?_
  refine e_icmp_ge (tgt := 42) dX4_init_20 (by decide) (fun c => absurd c (by decide)) (fun _ => ?_)
  refine e_aload_n dX4_init_23 rfl ?_
  refine e_get (w := .ref 24) (j := 0) dX4_init_24 (kP (kd := .inr 4) (by decide +kernel)) rc4 (by decide) wfX4_11 (gPr (Or.inr ⟨_, rfl⟩) (by decide +kernel)) ?_
  refine e_iload_n dX4_init_27 rfl ?_
  refine e_new (ci := 2) (n := 34) (S' := rP X 35) (v' := vc_70) (bc' := 2) (bs' := 194) dX4_init_28 rc2 wk_223 wk_165 wk_116 (by decide) rfl rfl (lP (by decide +kernel)) (by decide) rfl rfl (sP (by decide +kernel)) rfl ?_
  refine e_dup dX4_init_31 rfl ?_
  refine e_callIN (M' := mX2_init) [] rfl rfl dX4_init_32 rfl wmX4_17 imX2_init lkX2_init (Nat.le_of_ble_eq_true rfl) (nX2_init_35.mono (by decide)) (by decide) (by decide) (fun r S' v' hp => ?_)
  obtain ⟨rfl, rfl, rfl⟩ := hp
  refine ⟨rfl, ?_⟩
  refine e_aastJ (j := 3) dX4_init_35 (kP (kd := .inl (4, .object "RingDrop$Formula")) (by decide +kernel)) (kP (kd := .inr 2) (by decide +kernel)) rc2 (by decide) (by decide) (by decide) rfl ?_
  refine e_nameV (v1 := vc_75) rfl ?_
  refine e_iinc (lv' := [(1, .int (4 : Int32)), (0, .ref 23)]) dX4_init_36 rfl (by decide) (by decide) rfl ?_
  refine e_goto (tgt := 14) dX4_init_39 (by decide) ?_
  refine e_iload_n dX4_init_14 rfl ?_
  refine e_aload_n dX4_init_15 rfl ?_
  refine e_get (w := .ref 24) (j := 0) dX4_init_16 (kP (kd := .inr 4) (by decide +kernel)) rc4 (by decide) wfX4_11 (gPr (Or.inr ⟨_, rfl⟩) (by decide +kernel)) ?_
  refine e_alenJ (x := (4 : Int32)) dX4_init_19 (kP (kd := .inl (4, .object "RingDrop$Formula")) (by decide +kernel)) (Or.inr (Or.inr rfl)) (by decide) ?_
  refine e_icmp_ge (tgt := 42) dX4_init_20 (by decide) (fun _ => ?_) (fun c => absurd (by decide) c)
  exact e_ret dX4_init_42 rfl ⟨rfl, rfl, rfl⟩
set_option maxRecDepth 20000 in
theorem nX0_init_75 {X : Nat × (Nat → Int32)} : EvM mX0_init 1 1 12 [.ref 74] (rP X 75) vc_106 (fun o S' v' => o = none ∧ S' = rP X 76 ∧ v' = vc_108) := by
  refine evm_of (by decide +kernel) (fun G => Nat.le_of_ble_eq_true rfl) ?_
  show Ev mX0_init 1 1 12 0 [(0, .ref 74)] [] (rP X 75) vc_106 _
  refine e_aload_n dX0_init_0 rfl ?_
  refine e_objinit dX0_init_1 wmX0_3 wobjim wobjcode (Nat.le_of_ble_eq_true rfl) (by decide) ?_
  refine e_aload_n dX0_init_4 rfl ?_
  refine e_bipush (x := (12 : Int32)) dX0_init_5 (by decide) ?_
  refine e_newa (N := 12) (ty := .int) (n := 75) (S' := rP X 76) (v' := vc_107) (bc' := 0) (bs' := 0) rfl (Or.inl rfl) dX0_init_7 wk_157 rfl rfl (lP (by decide +kernel)) (by decide) (by decide) (by decide) (Nat.le_of_ble_eq_true rfl) rfl rfl (sP (by decide +kernel)) rfl ?_
  refine e_putR (j := 0) dX0_init_9 (kP (kd := .inr 0) (by decide +kernel)) rc0 (by decide) wfX0_9 (Or.inr ⟨rfl, rfl, rfl⟩) (Or.inr ⟨_, rfl⟩) rfl ?_
  refine e_nameV (v1 := vc_108) rfl ?_
  exact e_ret dX0_init_12 rfl ⟨rfl, rfl, rfl⟩
set_option maxRecDepth 20000 in
theorem nX0_init_77 {X : Nat × (Nat → Int32)} : EvM mX0_init 1 1 12 [.ref 76] (rP X 77) vc_110 (fun o S' v' => o = none ∧ S' = rP X 78 ∧ v' = vc_112) := by
  refine evm_of (by decide +kernel) (fun G => Nat.le_of_ble_eq_true rfl) ?_
  show Ev mX0_init 1 1 12 0 [(0, .ref 76)] [] (rP X 77) vc_110 _
  refine e_aload_n dX0_init_0 rfl ?_
  refine e_objinit dX0_init_1 wmX0_3 wobjim wobjcode (Nat.le_of_ble_eq_true rfl) (by decide) ?_
  refine e_aload_n dX0_init_4 rfl ?_
  refine e_bipush (x := (12 : Int32)) dX0_init_5 (by decide) ?_
  refine e_newa (N := 12) (ty := .int) (n := 77) (S' := rP X 78) (v' := vc_111) (bc' := 0) (bs' := 0) rfl (Or.inl rfl) dX0_init_7 wk_157 rfl rfl (lP (by decide +kernel)) (by decide) (by decide) (by decide) (Nat.le_of_ble_eq_true rfl) rfl rfl (sP (by decide +kernel)) rfl ?_
  refine e_putR (j := 0) dX0_init_9 (kP (kd := .inr 0) (by decide +kernel)) rc0 (by decide) wfX0_9 (Or.inr ⟨rfl, rfl, rfl⟩) (Or.inr ⟨_, rfl⟩) rfl ?_
  refine e_nameV (v1 := vc_112) rfl ?_
  exact e_ret dX0_init_12 rfl ⟨rfl, rfl, rfl⟩
set_option maxRecDepth 20000 in
theorem nX0_init_79 {X : Nat × (Nat → Int32)} : EvM mX0_init 1 1 12 [.ref 78] (rP X 79) vc_114 (fun o S' v' => o = none ∧ S' = rP X 80 ∧ v' = vc_116) := by
  refine evm_of (by decide +kernel) (fun G => Nat.le_of_ble_eq_true rfl) ?_
  show Ev mX0_init 1 1 12 0 [(0, .ref 78)] [] (rP X 79) vc_114 _
  refine e_aload_n dX0_init_0 rfl ?_
  refine e_objinit dX0_init_1 wmX0_3 wobjim wobjcode (Nat.le_of_ble_eq_true rfl) (by decide) ?_
  refine e_aload_n dX0_init_4 rfl ?_
  refine e_bipush (x := (12 : Int32)) dX0_init_5 (by decide) ?_
  refine e_newa (N := 12) (ty := .int) (n := 79) (S' := rP X 80) (v' := vc_115) (bc' := 0) (bs' := 0) rfl (Or.inl rfl) dX0_init_7 wk_157 rfl rfl (lP (by decide +kernel)) (by decide) (by decide) (by decide) (Nat.le_of_ble_eq_true rfl) rfl rfl (sP (by decide +kernel)) rfl ?_
  refine e_putR (j := 0) dX0_init_9 (kP (kd := .inr 0) (by decide +kernel)) rc0 (by decide) wfX0_9 (Or.inr ⟨rfl, rfl, rfl⟩) (Or.inr ⟨_, rfl⟩) rfl ?_
  refine e_nameV (v1 := vc_116) rfl ?_
  exact e_ret dX0_init_12 rfl ⟨rfl, rfl, rfl⟩
set_option maxRecDepth 20000 in
theorem nX0_init_81 {X : Nat × (Nat → Int32)} : EvM mX0_init 1 1 12 [.ref 80] (rP X 81) vc_118 (fun o S' v' => o = none ∧ S' = rP X 82 ∧ v' = vc_120) := by
  refine evm_of (by decide +kernel) (fun G => Nat.le_of_ble_eq_true rfl) ?_
  show Ev mX0_init 1 1 12 0 [(0, .ref 80)] [] (rP X 81) vc_118 _
  refine e_aload_n dX0_init_0 rfl ?_
  refine e_objinit dX0_init_1 wmX0_3 wobjim wobjcode (Nat.le_of_ble_eq_true rfl) (by decide) ?_
  refine e_aload_n dX0_init_4 rfl ?_
  refine e_bipush (x := (12 : Int32)) dX0_init_5 (by decide) ?_
  refine e_newa (N := 12) (ty := .int) (n := 81) (S' := rP X 82) (v' := vc_119) (bc' := 0) (bs' := 0) rfl (Or.inl rfl) dX0_init_7 wk_157 rfl rfl (lP (by decide +kernel)) (by decide) (by decide) (by decide) (Nat.le_of_ble_eq_true rfl) rfl rfl (sP (by decide +kernel)) rfl ?_
  refine e_putR (j := 0) dX0_init_9 (kP (kd := .inr 0) (by decide +kernel)) rc0 (by decide) wfX0_9 (Or.inr ⟨rfl, rfl, rfl⟩) (Or.inr ⟨_, rfl⟩) rfl ?_
  refine e_nameV (v1 := vc_120) rfl ?_
  exact e_ret dX0_init_12 rfl ⟨rfl, rfl, rfl⟩
set_option maxRecDepth 20000 in
theorem nX0_init_83 {X : Nat × (Nat → Int32)} : EvM mX0_init 1 1 12 [.ref 82] (rP X 83) vc_122 (fun o S' v' => o = none ∧ S' = rP X 84 ∧ v' = vc_124) := by
  refine evm_of (by decide +kernel) (fun G => Nat.le_of_ble_eq_true rfl) ?_
  show Ev mX0_init 1 1 12 0 [(0, .ref 82)] [] (rP X 83) vc_122 _
  refine e_aload_n dX0_init_0 rfl ?_
  refine e_objinit dX0_init_1 wmX0_3 wobjim wobjcode (Nat.le_of_ble_eq_true rfl) (by decide) ?_
  refine e_aload_n dX0_init_4 rfl ?_
  refine e_bipush (x := (12 : Int32)) dX0_init_5 (by decide) ?_
  refine e_newa (N := 12) (ty := .int) (n := 83) (S' := rP X 84) (v' := vc_123) (bc' := 0) (bs' := 0) rfl (Or.inl rfl) dX0_init_7 wk_157 rfl rfl (lP (by decide +kernel)) (by decide) (by decide) (by decide) (Nat.le_of_ble_eq_true rfl) rfl rfl (sP (by decide +kernel)) rfl ?_
  refine e_putR (j := 0) dX0_init_9 (kP (kd := .inr 0) (by decide +kernel)) rc0 (by decide) wfX0_9 (Or.inr ⟨rfl, rfl, rfl⟩) (Or.inr ⟨_, rfl⟩) rfl ?_
  refine e_nameV (v1 := vc_124) rfl ?_
  exact e_ret dX0_init_12 rfl ⟨rfl, rfl, rfl⟩
set_option maxRecDepth 20000 in
theorem nX0_init_85 {X : Nat × (Nat → Int32)} : EvM mX0_init 1 1 12 [.ref 84] (rP X 85) vc_126 (fun o S' v' => o = none ∧ S' = rP X 86 ∧ v' = vc_128) := by
  refine evm_of (by decide +kernel) (fun G => Nat.le_of_ble_eq_true rfl) ?_
  show Ev mX0_init 1 1 12 0 [(0, .ref 84)] [] (rP X 85) vc_126 _
  refine e_aload_n dX0_init_0 rfl ?_
  refine e_objinit dX0_init_1 wmX0_3 wobjim wobjcode (Nat.le_of_ble_eq_true rfl) (by decide) ?_
  refine e_aload_n dX0_init_4 rfl ?_
  refine e_bipush (x := (12 : Int32)) dX0_init_5 (by decide) ?_
  refine e_newa (N := 12) (ty := .int) (n := 85) (S' := rP X 86) (v' := vc_127) (bc' := 0) (bs' := 0) rfl (Or.inl rfl) dX0_init_7 wk_157 rfl rfl (lP (by decide +kernel)) (by decide) (by decide) (by decide) (Nat.le_of_ble_eq_true rfl) rfl rfl (sP (by decide +kernel)) rfl ?_
  refine e_putR (j := 0) dX0_init_9 (kP (kd := .inr 0) (by decide +kernel)) rc0 (by decide) wfX0_9 (Or.inr ⟨rfl, rfl, rfl⟩) (Or.inr ⟨_, rfl⟩) rfl ?_
  refine e_nameV (v1 := vc_128) rfl ?_
  exact e_ret dX0_init_12 rfl ⟨rfl, rfl, rfl⟩
set_option maxRecDepth 20000 in
theorem nX0_init_87 {X : Nat × (Nat → Int32)} : EvM mX0_init 1 1 12 [.ref 86] (rP X 87) vc_130 (fun o S' v' => o = none ∧ S' = rP X 88 ∧ v' = vc_132) := by
  refine evm_of (by decide +kernel) (fun G => Nat.le_of_ble_eq_true rfl) ?_
  show Ev mX0_init 1 1 12 0 [(0, .ref 86)] [] (rP X 87) vc_130 _
  refine e_aload_n dX0_init_0 rfl ?_
  refine e_objinit dX0_init_1 wmX0_3 wobjim wobjcode (Nat.le_of_ble_eq_true rfl) (by decide) ?_
  refine e_aload_n dX0_init_4 rfl ?_
  refine e_bipush (x := (12 : Int32)) dX0_init_5 (by decide) ?_
  refine e_newa (N := 12) (ty := .int) (n := 87) (S' := rP X 88) (v' := vc_131) (bc' := 0) (bs' := 0) rfl (Or.inl rfl) dX0_init_7 wk_157 rfl rfl (lP (by decide +kernel)) (by decide) (by decide) (by decide) (Nat.le_of_ble_eq_true rfl) rfl rfl (sP (by decide +kernel)) rfl ?_
  refine e_putR (j := 0) dX0_init_9 (kP (kd := .inr 0) (by decide +kernel)) rc0 (by decide) wfX0_9 (Or.inr ⟨rfl, rfl, rfl⟩) (Or.inr ⟨_, rfl⟩) rfl ?_
  refine e_nameV (v1 := vc_132) rfl ?_
  exact e_ret dX0_init_12 rfl ⟨rfl, rfl, rfl⟩
set_option maxRecDepth 20000 in
theorem nX0_init_89 {X : Nat × (Nat → Int32)} : EvM mX0_init 1 1 12 [.ref 88] (rP X 89) vc_134 (fun o S' v' => o = none ∧ S' = rP X 90 ∧ v' = vc_136) := by
  refine evm_of (by decide +kernel) (fun G => Nat.le_of_ble_eq_true rfl) ?_
  show Ev mX0_init 1 1 12 0 [(0, .ref 88)] [] (rP X 89) vc_134 _
  refine e_aload_n dX0_init_0 rfl ?_
  refine e_objinit dX0_init_1 wmX0_3 wobjim wobjcode (Nat.le_of_ble_eq_true rfl) (by decide) ?_
  refine e_aload_n dX0_init_4 rfl ?_
  refine e_bipush (x := (12 : Int32)) dX0_init_5 (by decide) ?_
  refine e_newa (N := 12) (ty := .int) (n := 89) (S' := rP X 90) (v' := vc_135) (bc' := 0) (bs' := 0) rfl (Or.inl rfl) dX0_init_7 wk_157 rfl rfl (lP (by decide +kernel)) (by decide) (by decide) (by decide) (Nat.le_of_ble_eq_true rfl) rfl rfl (sP (by decide +kernel)) rfl ?_
  refine e_putR (j := 0) dX0_init_9 (kP (kd := .inr 0) (by decide +kernel)) rc0 (by decide) wfX0_9 (Or.inr ⟨rfl, rfl, rfl⟩) (Or.inr ⟨_, rfl⟩) rfl ?_
  refine e_nameV (v1 := vc_136) rfl ?_
  exact e_ret dX0_init_12 rfl ⟨rfl, rfl, rfl⟩
set_option maxRecDepth 20000 in
theorem nX0_init_91 {X : Nat × (Nat → Int32)} : EvM mX0_init 1 1 12 [.ref 90] (rP X 91) vc_138 (fun o S' v' => o = none ∧ S' = rP X 92 ∧ v' = vc_140) := by
  refine evm_of (by decide +kernel) (fun G => Nat.le_of_ble_eq_true rfl) ?_
  show Ev mX0_init 1 1 12 0 [(0, .ref 90)] [] (rP X 91) vc_138 _
  refine e_aload_n dX0_init_0 rfl ?_
  refine e_objinit dX0_init_1 wmX0_3 wobjim wobjcode (Nat.le_of_ble_eq_true rfl) (by decide) ?_
  refine e_aload_n dX0_init_4 rfl ?_
  refine e_bipush (x := (12 : Int32)) dX0_init_5 (by decide) ?_
  refine e_newa (N := 12) (ty := .int) (n := 91) (S' := rP X 92) (v' := vc_139) (bc' := 0) (bs' := 0) rfl (Or.inl rfl) dX0_init_7 wk_157 rfl rfl (lP (by decide +kernel)) (by decide) (by decide) (by decide) (Nat.le_of_ble_eq_true rfl) rfl rfl (sP (by decide +kernel)) rfl ?_
  refine e_putR (j := 0) dX0_init_9 (kP (kd := .inr 0) (by decide +kernel)) rc0 (by decide) wfX0_9 (Or.inr ⟨rfl, rfl, rfl⟩) (Or.inr ⟨_, rfl⟩) rfl ?_
  refine e_nameV (v1 := vc_140) rfl ?_
  exact e_ret dX0_init_12 rfl ⟨rfl, rfl, rfl⟩
set_option maxRecDepth 20000 in
theorem nX0_init_93 {X : Nat × (Nat → Int32)} : EvM mX0_init 1 1 12 [.ref 92] (rP X 93) vc_142 (fun o S' v' => o = none ∧ S' = rP X 94 ∧ v' = vc_144) := by
  refine evm_of (by decide +kernel) (fun G => Nat.le_of_ble_eq_true rfl) ?_
  show Ev mX0_init 1 1 12 0 [(0, .ref 92)] [] (rP X 93) vc_142 _
  refine e_aload_n dX0_init_0 rfl ?_
  refine e_objinit dX0_init_1 wmX0_3 wobjim wobjcode (Nat.le_of_ble_eq_true rfl) (by decide) ?_
  refine e_aload_n dX0_init_4 rfl ?_
  refine e_bipush (x := (12 : Int32)) dX0_init_5 (by decide) ?_
  refine e_newa (N := 12) (ty := .int) (n := 93) (S' := rP X 94) (v' := vc_143) (bc' := 0) (bs' := 0) rfl (Or.inl rfl) dX0_init_7 wk_157 rfl rfl (lP (by decide +kernel)) (by decide) (by decide) (by decide) (Nat.le_of_ble_eq_true rfl) rfl rfl (sP (by decide +kernel)) rfl ?_
  refine e_putR (j := 0) dX0_init_9 (kP (kd := .inr 0) (by decide +kernel)) rc0 (by decide) wfX0_9 (Or.inr ⟨rfl, rfl, rfl⟩) (Or.inr ⟨_, rfl⟩) rfl ?_
  refine e_nameV (v1 := vc_144) rfl ?_
  exact e_ret dX0_init_12 rfl ⟨rfl, rfl, rfl⟩
set_option maxRecDepth 20000 in
theorem nX0_init_95 {X : Nat × (Nat → Int32)} : EvM mX0_init 1 1 12 [.ref 94] (rP X 95) vc_146 (fun o S' v' => o = none ∧ S' = rP X 96 ∧ v' = vc_148) := by
  refine evm_of (by decide +kernel) (fun G => Nat.le_of_ble_eq_true rfl) ?_
  show Ev mX0_init 1 1 12 0 [(0, .ref 94)] [] (rP X 95) vc_146 _
  refine e_aload_n dX0_init_0 rfl ?_
  refine e_objinit dX0_init_1 wmX0_3 wobjim wobjcode (Nat.le_of_ble_eq_true rfl) (by decide) ?_
  refine e_aload_n dX0_init_4 rfl ?_
  refine e_bipush (x := (12 : Int32)) dX0_init_5 (by decide) ?_
  refine e_newa (N := 12) (ty := .int) (n := 95) (S' := rP X 96) (v' := vc_147) (bc' := 0) (bs' := 0) rfl (Or.inl rfl) dX0_init_7 wk_157 rfl rfl (lP (by decide +kernel)) (by decide) (by decide) (by decide) (Nat.le_of_ble_eq_true rfl) rfl rfl (sP (by decide +kernel)) rfl ?_
  refine e_putR (j := 0) dX0_init_9 (kP (kd := .inr 0) (by decide +kernel)) rc0 (by decide) wfX0_9 (Or.inr ⟨rfl, rfl, rfl⟩) (Or.inr ⟨_, rfl⟩) rfl ?_
  refine e_nameV (v1 := vc_148) rfl ?_
  exact e_ret dX0_init_12 rfl ⟨rfl, rfl, rfl⟩
set_option maxRecDepth 20000 in
theorem nX0_init_97 {X : Nat × (Nat → Int32)} : EvM mX0_init 1 1 12 [.ref 96] (rP X 97) vc_150 (fun o S' v' => o = none ∧ S' = rP X 98 ∧ v' = vc_152) := by
  refine evm_of (by decide +kernel) (fun G => Nat.le_of_ble_eq_true rfl) ?_
  show Ev mX0_init 1 1 12 0 [(0, .ref 96)] [] (rP X 97) vc_150 _
  refine e_aload_n dX0_init_0 rfl ?_
  refine e_objinit dX0_init_1 wmX0_3 wobjim wobjcode (Nat.le_of_ble_eq_true rfl) (by decide) ?_
  refine e_aload_n dX0_init_4 rfl ?_
  refine e_bipush (x := (12 : Int32)) dX0_init_5 (by decide) ?_
  refine e_newa (N := 12) (ty := .int) (n := 97) (S' := rP X 98) (v' := vc_151) (bc' := 0) (bs' := 0) rfl (Or.inl rfl) dX0_init_7 wk_157 rfl rfl (lP (by decide +kernel)) (by decide) (by decide) (by decide) (Nat.le_of_ble_eq_true rfl) rfl rfl (sP (by decide +kernel)) rfl ?_
  refine e_putR (j := 0) dX0_init_9 (kP (kd := .inr 0) (by decide +kernel)) rc0 (by decide) wfX0_9 (Or.inr ⟨rfl, rfl, rfl⟩) (Or.inr ⟨_, rfl⟩) rfl ?_
  refine e_nameV (v1 := vc_152) rfl ?_
  exact e_ret dX0_init_12 rfl ⟨rfl, rfl, rfl⟩
set_option maxRecDepth 20000 in
theorem nX5_init_61 {X : Nat × (Nat → Int32)} : EvM mX5_init 10 37 539 [.ref 60] (rP X 61) vc_87 (fun o S' v' => o = none ∧ S' = rP X 98 ∧ v' = vc_153) := by
  refine evm_of (by decide +kernel) (fun G => Nat.le_of_ble_eq_true rfl) ?_
  show Ev mX5_init 10 37 539 0 [(0, .ref 60)] [] (rP X 61) vc_87 _
  refine e_aload_n dX5_init_0 rfl ?_
  refine e_objinit dX5_init_1 wmX5_3 wobjim wobjcode (Nat.le_of_ble_eq_true rfl) (by decide) ?_
  refine e_aload_n dX5_init_4 rfl ?_
  refine e_bipush (x := (24 : Int32)) dX5_init_5 (by decide) ?_
  refine e_newa (N := 24) (ty := .int) (n := 61) (S' := rP X 62) (v' := vc_88) (bc' := 36) (bs' := 515) rfl (Or.inl rfl) dX5_init_7 wk_157 rfl rfl (lP (by decide +kernel)) (by decide) (by decide) (by decide) (Nat.le_of_ble_eq_true rfl) rfl rfl (sP (by decide +kernel)) rfl ?_
  refine e_putR (j := 0) dX5_init_9 (kP (kd := .inr 5) (by decide +kernel)) rc5 (by decide) wfX5_9 (Or.inr ⟨rfl, rfl, rfl⟩) (Or.inr ⟨_, rfl⟩) rfl ?_
  refine e_nameV (v1 := vc_89) rfl ?_
  refine e_aload_n dX5_init_12 rfl ?_
  refine e_bipush (x := (24 : Int32)) dX5_init_13 (by decide) ?_
  refine e_newa (N := 24) (ty := .int) (n := 62) (S' := rP X 63) (v' := vc_90) (bc' := 35) (bs' := 491) rfl (Or.inl rfl) dX5_init_15 wk_157 rfl rfl (lP (by decide +kernel)) (by decide) (by decide) (by decide) (Nat.le_of_ble_eq_true rfl) rfl rfl (sP (by decide +kernel)) rfl ?_
  refine e_putR (j := 1) dX5_init_17 (kP (kd := .inr 5) (by decide +kernel)) rc5 (by decide) wfX5_15 (Or.inr ⟨rfl, rfl, rfl⟩) (Or.inr ⟨_, rfl⟩) rfl ?_
  refine e_nameV (v1 := vc_91) rfl ?_
  refine e_aload_n dX5_init_20 rfl ?_
  refine e_ldcS1 dX5_init_21 rfl ?_
  refine e_strlenJ (i := 0) (x := (7 : Int32)) (by decide) dX5_init_23 wmX5_20 (by decide) (Nat.le_of_ble_eq_true rfl) (by decide) ?_
  refine e_newa (N := 7) (ty := .int) (n := 63) (S' := rP X 64) (v' := vc_92) (bc' := 34) (bs' := 484) rfl (Or.inl rfl) dX5_init_26 wk_157 rfl rfl (lP (by decide +kernel)) (by decide) (by decide) (by decide) (Nat.le_of_ble_eq_true rfl) rfl rfl (sP (by decide +kernel)) rfl ?_
  refine e_putR (j := 2) dX5_init_28 (kP (kd := .inr 5) (by decide +kernel)) rc5 (by decide) wfX5_26 (Or.inr ⟨rfl, rfl, rfl⟩) (Or.inr ⟨_, rfl⟩) rfl ?_
  refine e_nameV (v1 := vc_93) rfl ?_
  refine e_aload_n dX5_init_31 rfl ?_
  refine e_iconst (x := (2 : Int32)) dX5_init_32 (by decide) ?_
  refine e_bipush (x := (24 : Int32)) dX5_init_33 (by decide) ?_
  refine e_mnew (N := 2) (K := 24) (n := 64) (S' := rP X 67) (v' := vc_94) (bc' := 31) (bs' := 434) dX5_init_35 wk_253 wk_157 rfl rfl (lP (by decide +kernel)) (by decide) (by decide) (by decide) (by decide) (by decide) (Nat.le_of_ble_eq_true rfl) (Nat.le_of_ble_eq_true rfl) rfl rfl (sP (by decide +kernel)) rfl ?_
  refine e_putR (j := 4) dX5_init_39 (kP (kd := .inr 5) (by decide +kernel)) rc5 (by decide) wfX5_31 (Or.inr ⟨rfl, rfl, rfl⟩) (Or.inr ⟨_, rfl⟩) rfl ?_
  refine e_nameV (v1 := vc_95) rfl ?_
  refine e_aload_n dX5_init_42 rfl ?_
  refine e_iconst (x := (2 : Int32)) dX5_init_43 (by decide) ?_
  refine e_bipush (x := (24 : Int32)) dX5_init_44 (by decide) ?_
  refine e_mnew (N := 2) (K := 24) (n := 67) (S' := rP X 70) (v' := vc_96) (bc' := 28) (bs' := 384) dX5_init_46 wk_253 wk_157 rfl rfl (lP (by decide +kernel)) (by decide) (by decide) (by decide) (by decide) (by decide) (Nat.le_of_ble_eq_true rfl) (Nat.le_of_ble_eq_true rfl) rfl rfl (sP (by decide +kernel)) rfl ?_
  refine e_putR (j := 5) dX5_init_50 (kP (kd := .inr 5) (by decide +kernel)) rc5 (by decide) wfX5_34 (Or.inr ⟨rfl, rfl, rfl⟩) (Or.inr ⟨_, rfl⟩) rfl ?_
  refine e_nameV (v1 := vc_97) rfl ?_
  refine e_aload_n dX5_init_53 rfl ?_
  refine e_bipush (x := (24 : Int32)) dX5_init_54 (by decide) ?_
  refine e_newa (N := 24) (ty := .int) (n := 70) (S' := rP X 71) (v' := vc_98) (bc' := 27) (bs' := 360) rfl (Or.inl rfl) dX5_init_56 wk_157 rfl rfl (lP (by decide +kernel)) (by decide) (by decide) (by decide) (Nat.le_of_ble_eq_true rfl) rfl rfl (sP (by decide +kernel)) rfl ?_
  refine e_putR (j := 6) dX5_init_58 (kP (kd := .inr 5) (by decide +kernel)) rc5 (by decide) wfX5_37 (Or.inr ⟨rfl, rfl, rfl⟩) (Or.inr ⟨_, rfl⟩) rfl ?_
  refine e_nameV (v1 := vc_99) rfl ?_
  refine e_aload_n dX5_init_61 rfl ?_
  refine e_bipush (x := (24 : Int32)) dX5_init_62 (by decide) ?_
  refine e_newa (N := 24) (ty := .int) (n := 71) (S' := rP X 72) (v' := vc_100) (bc' := 26) (bs' := 336) rfl (Or.inl rfl) dX5_init_64 wk_157 rfl rfl (lP (by decide +kernel)) (by decide) (by decide) (by decide) (Nat.le_of_ble_eq_true rfl) rfl rfl (sP (by decide +kernel)) rfl ?_
  refine e_putR (j := 7) dX5_init_66 (kP (kd := .inr 5) (by decide +kernel)) rc5 (by decide) wfX5_40 (Or.inr ⟨rfl, rfl, rfl⟩) (Or.inr ⟨_, rfl⟩) rfl ?_
  refine e_nameV (v1 := vc_101) rfl ?_
  refine e_aload_n dX5_init_69 rfl ?_
  refine e_bipush (x := (120 : Int32)) dX5_init_70 (by decide) ?_
  refine e_newa (N := 120) (ty := .int) (n := 72) (S' := rP X 73) (v' := vc_102) (bc' := 25) (bs' := 216) rfl (Or.inl rfl) dX5_init_72 wk_157 rfl rfl (lP (by decide +kernel)) (by decide) (by decide) (by decide) (Nat.le_of_ble_eq_true rfl) rfl rfl (sP (by decide +kernel)) rfl ?_
  refine e_putR (j := 8) dX5_init_74 (kP (kd := .inr 5) (by decide +kernel)) rc5 (by decide) wfX5_43 (Or.inr ⟨rfl, rfl, rfl⟩) (Or.inr ⟨_, rfl⟩) rfl ?_
  refine e_nameV (v1 := vc_103) rfl ?_
  refine e_aload_n dX5_init_77 rfl ?_
  refine e_bipush (x := (12 : Int32)) dX5_init_78 (by decide) ?_
  refine e_anew (N := 12) (n := 73) (S' := rP X 74) (v' := vc_104) (bc' := 24) (bs' := 204) dX5_init_80 wk_254 (Or.inr rfl) rfl rfl (lP (by decide +kernel)) (by decide) (by decide) (by decide) (Nat.le_of_ble_eq_true rfl) rfl rfl (sP (by decide +kernel)) rfl ?_
  refine e_putR (j := 9) dX5_init_83 (kP (kd := .inr 5) (by decide +kernel)) rc5 (by decide) wfX5_48 (Or.inr ⟨rfl, rfl, rfl⟩) (Or.inr ⟨_, rfl⟩) rfl ?_
  refine e_nameV (v1 := vc_105) rfl ?_
  refine e_iconst (x := (0 : Int32)) dX5_init_86 (by decide) ?_
  refine e_istore_n (lv' := [(1, .int (0 : Int32)), (0, .ref 60)]) dX5_init_87 (by decide) rfl ?_
  refine e_iload_n dX5_init_88 rfl ?_
  refine e_aload_n dX5_init_89 rfl ?_
  refine e_get (w := .ref 73) (j := 9) dX5_init_90 (kP (kd := .inr 5) (by decide +kernel)) rc5 (by decide) wfX5_48 (gPr (Or.inr ⟨_, rfl⟩) (by decide +kernel)) ?_
  refine e_alenJ (x := (12 : Int32)) dX5_init_93 (kP (kd := .inl (12, .object "RingDrop$Body")) (by decide +kernel)) (Or.inr (Or.inr rfl)) (by decide) ?_
  refine e_icmp_ge (tgt := 116) dX5_init_94 (by decide) (fun c => absurd c (by decide)) (fun _ => ?_)
  refine e_aload_n dX5_init_97 rfl ?_
  refine e_get (w := .ref 73) (j := 9) dX5_init_98 (kP (kd := .inr 5) (by decide +kernel)) rc5 (by decide) wfX5_48 (gPr (Or.inr ⟨_, rfl⟩) (by decide +kernel)) ?_
  refine e_iload_n dX5_init_101 rfl ?_
  refine e_new (ci := 0) (n := 74) (S' := rP X 75) (v' := vc_106) (bc' := 23) (bs' := 199) dX5_init_102 rc0 wk_254 wk_256 wk_121 (by decide) rfl rfl (lP (by decide +kernel)) (by decide) rfl rfl (sP (by decide +kernel)) rfl ?_
  refine e_dup dX5_init_105 rfl ?_
  refine e_callIN (M' := mX0_init) [] rfl rfl dX5_init_106 rfl wmX5_52 imX0_init lkX0_init (Nat.le_of_ble_eq_true rfl) (nX0_init_75.mono (by decide)) (by decide) (by decide) (fun r S' v' hp => ?_)
  obtain ⟨rfl, rfl, rfl⟩ := hp
  refine ⟨rfl, ?_⟩
  refine e_aastJ (j := 0) dX5_init_109 (kP (kd := .inl (12, .object "RingDrop$Body")) (by decide +kernel)) (kP (kd := .inr 0) (by decide +kernel)) rc0 (by decide) (by decide) (by decide) rfl ?_
  refine e_nameV (v1 := vc_109) rfl ?_
  refine e_iinc (lv' := [(1, .int (1 : Int32)), (0, .ref 60)]) dX5_init_110 rfl (by decide) (by decide) rfl ?_
  refine e_goto (tgt := 88) dX5_init_113 (by decide) ?_
  refine e_iload_n dX5_init_88 rfl ?_
  refine e_aload_n dX5_init_89 rfl ?_
  refine e_get (w := .ref 73) (j := 9) dX5_init_90 (kP (kd := .inr 5) (by decide +kernel)) rc5 (by decide) wfX5_48 (gPr (Or.inr ⟨_, rfl⟩) (by decide +kernel)) ?_
  refine e_alenJ (x := (12 : Int32)) dX5_init_93 (kP (kd := .inl (12, .object "RingDrop$Body")) (by decide +kernel)) (Or.inr (Or.inr rfl)) (by decide) ?_
  refine e_icmp_ge (tgt := 116) dX5_init_94 (by decide) (fun c => absurd c (by decide)) (fun _ => ?_)
  refine e_aload_n dX5_init_97 rfl ?_
  refine e_get (w := .ref 73) (j := 9) dX5_init_98 (kP (kd := .inr 5) (by decide +kernel)) rc5 (by decide) wfX5_48 (gPr (Or.inr ⟨_, rfl⟩) (by decide +kernel)) ?_
  refine e_iload_n dX5_init_101 rfl ?_
  refine e_new (ci := 0) (n := 76) (S' := rP X 77) (v' := vc_110) (bc' := 21) (bs' := 182) dX5_init_102 rc0 wk_254 wk_256 wk_121 (by decide) rfl rfl (lP (by decide +kernel)) (by decide) rfl rfl (sP (by decide +kernel)) rfl ?_
  refine e_dup dX5_init_105 rfl ?_
  refine e_callIN (M' := mX0_init) [] rfl rfl dX5_init_106 rfl wmX5_52 imX0_init lkX0_init (Nat.le_of_ble_eq_true rfl) (nX0_init_77.mono (by decide)) (by decide) (by decide) (fun r S' v' hp => ?_)
  obtain ⟨rfl, rfl, rfl⟩ := hp
  refine ⟨rfl, ?_⟩
  refine e_aastJ (j := 1) dX5_init_109 (kP (kd := .inl (12, .object "RingDrop$Body")) (by decide +kernel)) (kP (kd := .inr 0) (by decide +kernel)) rc0 (by decide) (by decide) (by decide) rfl ?_
  refine e_nameV (v1 := vc_113) rfl ?_
  refine e_iinc (lv' := [(1, .int (2 : Int32)), (0, .ref 60)]) dX5_init_110 rfl (by decide) (by decide) rfl ?_
  refine e_goto (tgt := 88) dX5_init_113 (by decide) ?_
  refine e_iload_n dX5_init_88 rfl ?_
  refine e_aload_n dX5_init_89 rfl ?_
  refine e_get (w := .ref 73) (j := 9) dX5_init_90 (kP (kd := .inr 5) (by decide +kernel)) rc5 (by decide) wfX5_48 (gPr (Or.inr ⟨_, rfl⟩) (by decide +kernel)) ?_
  refine e_alenJ (x := (12 : Int32)) dX5_init_93 (kP (kd := .inl (12, .object "RingDrop$Body")) (by decide +kernel)) (Or.inr (Or.inr rfl)) (by decide) ?_
  refine e_icmp_ge (tgt := 116) dX5_init_94 (by decide) (fun c => absurd c (by decide)) (fun _ => ?_)
  refine e_aload_n dX5_init_97 rfl ?_
  refine e_get (w := .ref 73) (j := 9) dX5_init_98 (kP (kd := .inr 5) (by decide +kernel)) rc5 (by decide) wfX5_48 (gPr (Or.inr ⟨_, rfl⟩) (by decide +kernel)) ?_
  refine e_iload_n dX5_init_101 rfl ?_
  refine e_new (ci := 0) (n := 78) (S' := rP X 79) (v' := vc_114) (bc' := 19) (bs' := 165) dX5_init_102 rc0 wk_254 wk_256 wk_121 (by decide) rfl rfl (lP (by decide +kernel)) (by decide) rfl rfl (sP (by decide +kernel)) rfl ?_
  refine e_dup dX5_init_105 rfl ?_
  refine e_callIN (M' := mX0_init) [] rfl rfl dX5_init_106 rfl wmX5_52 imX0_init lkX0_init (Nat.le_of_ble_eq_true rfl) (nX0_init_79.mono (by decide)) (by decide) (by decide) (fun r S' v' hp => ?_)
  obtain ⟨rfl, rfl, rfl⟩ := hp
  refine ⟨rfl, ?_⟩
  refine e_aastJ (j := 2) dX5_init_109 (kP (kd := .inl (12, .object "RingDrop$Body")) (by decide +kernel)) (kP (kd := .inr 0) (by decide +kernel)) rc0 (by decide) (by decide) (by decide) rfl ?_
  refine e_nameV (v1 := vc_117) rfl ?_
  refine e_iinc (lv' := [(1, .int (3 : Int32)), (0, .ref 60)]) dX5_init_110 rfl (by decide) (by decide) rfl ?_
  refine e_goto (tgt := 88) dX5_init_113 (by decide) ?_
  refine e_iload_n dX5_init_88 rfl ?_
  refine e_aload_n dX5_init_89 rfl ?_
  refine e_get (w := .ref 73) (j := 9) dX5_init_90 (kP (kd := .inr 5) (by decide +kernel)) rc5 (by decide) wfX5_48 (gPr (Or.inr ⟨_, rfl⟩) (by decide +kernel)) ?_
  refine e_alenJ (x := (12 : Int32)) dX5_init_93 (kP (kd := .inl (12, .object "RingDrop$Body")) (by decide +kernel)) (Or.inr (Or.inr rfl)) (by decide) ?_
  refine e_icmp_ge (tgt := 116) dX5_init_94 (by decide) (fun c => absurd c (by decide)) (fun _ => ?_)
  refine e_aload_n dX5_init_97 rfl ?_
  refine e_get (w := .ref 73) (j := 9) dX5_init_98 (kP (kd := .inr 5) (by decide +kernel)) rc5 (by decide) wfX5_48 (gPr (Or.inr ⟨_, rfl⟩) (by decide +kernel)) ?_
  refine e_iload_n dX5_init_101 rfl ?_
  refine e_new (ci := 0) (n := 80) (S' := rP X 81) (v' := vc_118) (bc' := 17) (bs' := 148) dX5_init_102 rc0 wk_254 wk_256 wk_121 (by decide) rfl rfl (lP (by decide +kernel)) (by decide) rfl rfl (sP (by decide +kernel)) rfl ?_
  refine e_dup dX5_init_105 rfl ?_
  refine e_callIN (M' := mX0_init) [] rfl rfl dX5_init_106 rfl wmX5_52 imX0_init lkX0_init (Nat.le_of_ble_eq_true rfl) (nX0_init_81.mono (by decide)) (by decide) (by decide) (fun r S' v' hp => ?_)
  obtain ⟨rfl, rfl, rfl⟩ := hp
  refine ⟨rfl, ?_⟩
  refine e_aastJ (j := 3) dX5_init_109 (kP (kd := .inl (12, .object "RingDrop$Body")) (by decide +kernel)) (kP (kd := .inr 0) (by decide +kernel)) rc0 (by decide) (by decide) (by decide) rfl ?_
  refine e_nameV (v1 := vc_121) rfl ?_
  refine e_iinc (lv' := [(1, .int (4 : Int32)), (0, .ref 60)]) dX5_init_110 rfl (by decide) (by decide) rfl ?_
  refine e_goto (tgt := 88) dX5_init_113 (by decide) ?_
  refine e_iload_n dX5_init_88 rfl ?_
  refine e_aload_n dX5_init_89 rfl ?_
  refine e_get (w := .ref 73) (j := 9) dX5_init_90 (kP (kd := .inr 5) (by decide +kernel)) rc5 (by decide) wfX5_48 (gPr (Or.inr ⟨_, rfl⟩) (by decide +kernel)) ?_
  refine e_alenJ (x := (12 : Int32)) dX5_init_93 (kP (kd := .inl (12, .object "RingDrop$Body")) (by decide +kernel)) (Or.inr (Or.inr rfl)) (by decide) ?_
  refine e_icmp_ge (tgt := 116) dX5_init_94 (by decide) (fun c => absurd c (by decide)) (fun _ => ?_)
  refine e_aload_n dX5_init_97 rfl ?_
  refine e_get (w := .ref 73) (j := 9) dX5_init_98 (kP (kd := .inr 5) (by decide +kernel)) rc5 (by decide) wfX5_48 (gPr (Or.inr ⟨_, rfl⟩) (by decide +kernel)) ?_
  refine e_iload_n dX5_init_101 rfl ?_
  refine e_new (ci := 0) (n := 82) (S' := rP X 83) (v' := vc_122) (bc' := 15) (bs' := 131) dX5_init_102 rc0 wk_254 wk_256 wk_121 (by decide) rfl rfl (lP (by decide +kernel)) (by decide) rfl rfl (sP (by decide +kernel)) rfl ?_
  refine e_dup dX5_init_105 rfl ?_
  refine e_callIN (M' := mX0_init) [] rfl rfl dX5_init_106 rfl wmX5_52 imX0_init lkX0_init (Nat.le_of_ble_eq_true rfl) (nX0_init_83.mono (by decide)) (by decide) (by decide) (fun r S' v' hp => ?_)
  obtain ⟨rfl, rfl, rfl⟩ := hp
  refine ⟨rfl, ?_⟩
  refine e_aastJ (j := 4) dX5_init_109 (kP (kd := .inl (12, .object "RingDrop$Body")) (by decide +kernel)) (kP (kd := .inr 0) (by decide +kernel)) rc0 (by decide) (by decide) (by decide) rfl ?_
  refine e_nameV (v1 := vc_125) rfl ?_
  refine e_iinc (lv' := [(1, .int (5 : Int32)), (0, .ref 60)]) dX5_init_110 rfl (by decide) (by decide) rfl ?_
  refine e_goto (tgt := 88) dX5_init_113 (by decide) ?_
  refine e_iload_n dX5_init_88 rfl ?_
  refine e_aload_n dX5_init_89 rfl ?_
  refine e_get (w := .ref 73) (j := 9) dX5_init_90 (kP (kd := .inr 5) (by decide +kernel)) rc5 (by decide) wfX5_48 (gPr (Or.inr ⟨_, rfl⟩) (by decide +kernel)) ?_
  refine e_alenJ (x := (12 : Int32)) dX5_init_93 (kP (kd := .inl (12, .object "RingDrop$Body")) (by decide +kernel)) (Or.inr (Or.inr rfl)) (by decide) ?_
  refine e_icmp_ge (tgt := 116) dX5_init_94 (by decide) (fun c => absurd c (by decide)) (fun _ => ?_)
  refine e_aload_n dX5_init_97 rfl ?_
  refine e_get (w := .ref 73) (j := 9) dX5_init_98 (kP (kd := .inr 5) (by decide +kernel)) rc5 (by decide) wfX5_48 (gPr (Or.inr ⟨_, rfl⟩) (by decide +kernel)) ?_
  refine e_iload_n dX5_init_101 rfl ?_
  refine e_new (ci := 0) (n := 84) (S' := rP X 85) (v' := vc_126) (bc' := 13) (bs' := 114) dX5_init_102 rc0 wk_254 wk_256 wk_121 (by decide) rfl rfl (lP (by decide +kernel)) (by decide) rfl rfl (sP (by decide +kernel)) rfl ?_
  refine e_dup dX5_init_105 rfl ?_
  refine e_callIN (M' := mX0_init) [] rfl rfl dX5_init_106 rfl wmX5_52 imX0_init lkX0_init (Nat.le_of_ble_eq_true rfl) (nX0_init_85.mono (by decide)) (by decide) (by decide) (fun r S' v' hp => ?_)
  obtain ⟨rfl, rfl, rfl⟩ := hp
  refine ⟨rfl, ?_⟩
  refine e_aastJ (j := 5) dX5_init_109 (kP (kd := .inl (12, .object "RingDrop$Body")) (by decide +kernel)) (kP (kd := .inr 0) (by decide +kernel)) rc0 (by decide) (by decide) (by decide) rfl ?_
  refine e_nameV (v1 := vc_129) rfl ?_
  refine e_iinc (lv' := [(1, .int (6 : Int32)), (0, .ref 60)]) dX5_init_110 rfl (by decide) (by decide) rfl ?_
  refine e_goto (tgt := 88) dX5_init_113 (by decide) ?_
  refine e_iload_n dX5_init_88 rfl ?_
  refine e_aload_n dX5_init_89 rfl ?_
  refine e_get (w := .ref 73) (j := 9) dX5_init_90 (kP (kd := .inr 5) (by decide +kernel)) rc5 (by decide) wfX5_48 (gPr (Or.inr ⟨_, rfl⟩) (by decide +kernel)) ?_
  refine e_alenJ (x := (12 : Int32)) dX5_init_93 (kP (kd := .inl (12, .object "RingDrop$Body")) (by decide +kernel)) (Or.inr (Or.inr rfl)) (by decide) ?_
  refine e_icmp_ge (tgt := 116) dX5_init_94 (by decide) (fun c => absurd c (by decide)) (fun _ => ?_)
  refine e_aload_n dX5_init_97 rfl ?_
  refine e_get (w := .ref 73) (j := 9) dX5_init_98 (kP (kd := .inr 5) (by decide +kernel)) rc5 (by decide) wfX5_48 (gPr (Or.inr ⟨_, rfl⟩) (by decide +kernel)) ?_
  refine e_iload_n dX5_init_101 rfl ?_
  refine e_new (ci := 0) (n := 86) (S' := rP X 87) (v' := vc_130) (bc' := 11) (bs' := 97) dX5_init_102 rc0 wk_254 wk_256 wk_121 (by decide) rfl rfl (lP (by decide +kernel)) (by decide) rfl rfl (sP (by decide +kernel)) rfl ?_
  refine e_dup dX5_init_105 rfl ?_
  refine e_callIN (M' := mX0_init) [] rfl rfl dX5_init_106 rfl wmX5_52 imX0_init lkX0_init (Nat.le_of_ble_eq_true rfl) (nX0_init_87.mono (by decide)) (by decide) (by decide) (fun r S' v' hp => ?_)
  obtain ⟨rfl, rfl, rfl⟩ := hp
  refine ⟨rfl, ?_⟩
  refine e_aastJ (j := 6) dX5_init_109 (kP (kd := .inl (12, .object "RingDrop$Body")) (by decide +kernel)) (kP (kd := .inr 0) (by decide +kernel)) rc0 (by decide) (by decide) (by decide) rfl ?_
  refine e_nameV (v1 := vc_133) rfl ?_
  refine e_iinc (lv' := [(1, .int (7 : Int32)), (0, .ref 60)]) dX5_init_110 rfl (by decide) (by decide) rfl ?_
  refine e_goto (tgt := 88) dX5_init_113 (by decide) ?_
  refine e_iload_n dX5_init_88 rfl ?_
  refine e_aload_n dX5_init_89 rfl ?_
  refine e_get (w := .ref 73) (j := 9) dX5_init_90 (kP (kd := .inr 5) (by decide +kernel)) rc5 (by decide) wfX5_48 (gPr (Or.inr ⟨_, rfl⟩) (by decide +kernel)) ?_
  refine e_alenJ (x := (12 : Int32)) dX5_init_93 (kP (kd := .inl (12, .object "RingDrop$Body")) (by decide +kernel)) (Or.inr (Or.inr rfl)) (by decide) ?_
  refine e_icmp_ge (tgt := 116) dX5_init_94 (by decide) (fun c => absurd c (by decide)) (fun _ => ?_)
  refine e_aload_n dX5_init_97 rfl ?_
  refine e_get (w := .ref 73) (j := 9) dX5_init_98 (kP (kd := .inr 5) (by decide +kernel)) rc5 (by decide) wfX5_48 (gPr (Or.inr ⟨_, rfl⟩) (by decide +kernel)) ?_
  refine e_iload_n dX5_init_101 rfl ?_
  refine e_new (ci := 0) (n := 88) (S' := rP X 89) (v' := vc_134) (bc' := 9) (bs' := 80) dX5_init_102 rc0 wk_254 wk_256 wk_121 (by decide) rfl rfl (lP (by decide +kernel)) (by decide) rfl rfl (sP (by decide +kernel)) rfl ?_
  refine e_dup dX5_init_105 rfl ?_
  refine e_callIN (M' := mX0_init) [] rfl rfl dX5_init_106 rfl wmX5_52 imX0_init lkX0_init (Nat.le_of_ble_eq_true rfl) (nX0_init_89.mono (by decide)) (by decide) (by decide) (fun r S' v' hp => ?_)
  obtain ⟨rfl, rfl, rfl⟩ := hp
  refine ⟨rfl, ?_⟩
  refine e_aastJ (j := 7) dX5_init_109 (kP (kd := .inl (12, .object "RingDrop$Body")) (by decide +kernel)) (kP (kd := .inr 0) (by decide +kernel)) rc0 (by decide) (by decide) (by decide) rfl ?_
  refine e_nameV (v1 := vc_137) rfl ?_
  refine e_iinc (lv' := [(1, .int (8 : Int32)), (0, .ref 60)]) dX5_init_110 rfl (by decide) (by decide) rfl ?_
  refine e_goto (tgt := 88) dX5_init_113 (by decide) ?_
  refine e_iload_n dX5_init_88 rfl ?_
  refine e_aload_n dX5_init_89 rfl ?_
  refine e_get (w := .ref 73) (j := 9) dX5_init_90 (kP (kd := .inr 5) (by decide +kernel)) rc5 (by decide) wfX5_48 (gPr (Or.inr ⟨_, rfl⟩) (by decide +kernel)) ?_
  refine e_alenJ (x := (12 : Int32)) dX5_init_93 (kP (kd := .inl (12, .object "RingDrop$Body")) (by decide +kernel)) (Or.inr (Or.inr rfl)) (by decide) ?_
  refine e_icmp_ge (tgt := 116) dX5_init_94 (by decide) (fun c => absurd c (by decide)) (fun _ => ?_)
  refine e_aload_n dX5_init_97 rfl ?_
  refine e_get (w := .ref 73) (j := 9) dX5_init_98 (kP (kd := .inr 5) (by decide +kernel)) rc5 (by decide) wfX5_48 (gPr (Or.inr ⟨_, rfl⟩) (by decide +kernel)) ?_
  refine e_iload_n dX5_init_101 rfl ?_
  refine e_new (ci := 0) (n := 90) (S' := rP X 91) (v' := vc_138) (bc' := 7) (bs' := 63) dX5_init_102 rc0 wk_254 wk_256 wk_121 (by decide) rfl rfl (lP (by decide +kernel)) (by decide) rfl rfl (sP (by decide +kernel)) rfl ?_
  refine e_dup dX5_init_105 rfl ?_
  refine e_callIN (M' := mX0_init) [] rfl rfl dX5_init_106 rfl wmX5_52 imX0_init lkX0_init (Nat.le_of_ble_eq_true rfl) (nX0_init_91.mono (by decide)) (by decide) (by decide) (fun r S' v' hp => ?_)
  obtain ⟨rfl, rfl, rfl⟩ := hp
  refine ⟨rfl, ?_⟩
  refine e_aastJ (j := 8) dX5_init_109 (kP (kd := .inl (12, .object "RingDrop$Body")) (by decide +kernel)) (kP (kd := .inr 0) (by decide +kernel)) rc0 (by decide) (by decide) (by decide) rfl ?_
  refine e_nameV (v1 := vc_141) rfl ?_
  refine e_iinc (lv' := [(1, .int (9 : Int32)), (0, .ref 60)]) dX5_init_110 rfl (by decide) (by decide) rfl ?_
  refine e_goto (tgt := 88) dX5_init_113 (by decide) ?_
  refine e_iload_n dX5_init_88 rfl ?_
  refine e_aload_n dX5_init_89 rfl ?_
  refine e_get (w := .ref 73) (j := 9) dX5_init_90 (kP (kd := .inr 5) (by decide +kernel)) rc5 (by decide) wfX5_48 (gPr (Or.inr ⟨_, rfl⟩) (by decide +kernel)) ?_
  refine e_alenJ (x := (12 : Int32)) dX5_init_93 (kP (kd := .inl (12, .object "RingDrop$Body")) (by decide +kernel)) (Or.inr (Or.inr rfl)) (by decide) ?_
  refine e_icmp_ge (tgt := 116) dX5_init_94 (by decide) (fun c => absurd c (by decide)) (fun _ => ?_)
  refine e_aload_n dX5_init_97 rfl ?_
  refine e_get (w := .ref 73) (j := 9) dX5_init_98 (kP (kd := .inr 5) (by decide +kernel)) rc5 (by decide) wfX5_48 (gPr (Or.inr ⟨_, rfl⟩) (by decide +kernel)) ?_
  refine e_iload_n dX5_init_101 rfl ?_
  refine e_new (ci := 0) (n := 92) (S' := rP X 93) (v' := vc_142) (bc' := 5) (bs' := 46) dX5_init_102 rc0 wk_254 wk_256 wk_121 (by decide) rfl rfl (lP (by decide +kernel)) (by decide) rfl rfl (sP (by decide +kernel)) rfl ?_
  refine e_dup dX5_init_105 rfl ?_
  refine e_callIN (M' := mX0_init) [] rfl rfl dX5_init_106 rfl wmX5_52 imX0_init lkX0_init (Nat.le_of_ble_eq_true rfl) (nX0_init_93.mono (by decide)) (by decide) (by decide) (fun r S' v' hp => ?_)
  obtain ⟨rfl, rfl, rfl⟩ := hp
  refine ⟨rfl, ?_⟩
  refine e_aastJ (j := 9) dX5_init_109 (kP (kd := .inl (12, .object "RingDrop$Body")) (by decide +kernel)) (kP (kd := .inr 0) (by decide +kernel)) rc0 (by decide) (by decide) (by decide) rfl ?_
  refine e_nameV (v1 := vc_145) rfl ?_
  refine e_iinc (lv' := [(1, .int (10 : Int32)), (0, .ref 60)]) dX5_init_110 rfl (by decide) (by decide) rfl ?_
  refine e_goto (tgt := 88) dX5_init_113 (by decide) ?_
  refine e_iload_n dX5_init_88 rfl ?_
  refine e_aload_n dX5_init_89 rfl ?_
  refine e_get (w := .ref 73) (j := 9) dX5_init_90 (kP (kd := .inr 5) (by decide +kernel)) rc5 (by decide) wfX5_48 (gPr (Or.inr ⟨_, rfl⟩) (by decide +kernel)) ?_
  refine e_alenJ (x := (12 : Int32)) dX5_init_93 (kP (kd := .inl (12, .object "RingDrop$Body")) (by decide +kernel)) (Or.inr (Or.inr rfl)) (by decide) ?_
  refine e_icmp_ge (tgt := 116) dX5_init_94 (by decide) (fun c => absurd c (by decide)) (fun _ => ?_)
  refine e_aload_n dX5_init_97 rfl ?_
  refine e_get (w := .ref 73) (j := 9) dX5_init_98 (kP (kd := .inr 5) (by decide +kernel)) rc5 (by decide) wfX5_48 (gPr (Or.inr ⟨_, rfl⟩) (by decide +kernel)) ?_
  refine e_iload_n dX5_init_101 rfl ?_
  refine e_new (ci := 0) (n := 94) (S' := rP X 95) (v' := vc_146) (bc' := 3) (bs' := 29) dX5_init_102 rc0 wk_254 wk_256 wk_121 (by decide) rfl rfl (lP (by decide +kernel)) (by decide) rfl rfl (sP (by decide +kernel)) rfl ?_
  refine e_dup dX5_init_105 rfl ?_
  refine e_callIN (M' := mX0_init) [] rfl rfl dX5_init_106 rfl wmX5_52 imX0_init lkX0_init (Nat.le_of_ble_eq_true rfl) (nX0_init_95.mono (by decide)) (by decide) (by decide) (fun r S' v' hp => ?_)
  obtain ⟨rfl, rfl, rfl⟩ := hp
  refine ⟨rfl, ?_⟩
  refine e_aastJ (j := 10) dX5_init_109 (kP (kd := .inl (12, .object "RingDrop$Body")) (by decide +kernel)) (kP (kd := .inr 0) (by decide +kernel)) rc0 (by decide) (by decide) (by decide) rfl ?_
  refine e_nameV (v1 := vc_149) rfl ?_
  refine e_iinc (lv' := [(1, .int (11 : Int32)), (0, .ref 60)]) dX5_init_110 rfl (by decide) (by decide) rfl ?_
  refine e_goto (tgt := 88) dX5_init_113 (by decide) ?_
  refine e_iload_n dX5_init_88 rfl ?_
  refine e_aload_n dX5_init_89 rfl ?_
  refine e_get (w := .ref 73) (j := 9) dX5_init_90 (kP (kd := .inr 5) (by decide +kernel)) rc5 (by decide) wfX5_48 (gPr (Or.inr ⟨_, rfl⟩) (by decide +kernel)) ?_
  refine e_alenJ (x := (12 : Int32)) dX5_init_93 (kP (kd := .inl (12, .object "RingDrop$Body")) (by decide +kernel)) (Or.inr (Or.inr rfl)) (by decide) ?_
  refine e_icmp_ge (tgt := 116) dX5_init_94 (by decide) (fun c => absurd c (by decide)) (fun _ => ?_)
  refine e_aload_n dX5_init_97 rfl ?_
  refine e_get (w := .ref 73) (j := 9) dX5_init_98 (kP (kd := .inr 5) (by decide +kernel)) rc5 (by decide) wfX5_48 (gPr (Or.inr ⟨_, rfl⟩) (by decide +kernel)) ?_
  refine e_iload_n dX5_init_101 rfl ?_
  refine e_new (ci := 0) (n := 96) (S' := rP X 97) (v' := vc_150) (bc' := 1) (bs' := 12) dX5_init_102 rc0 wk_254 wk_256 wk_121 (by decide) rfl rfl (lP (by decide +kernel)) (by decide) rfl rfl (sP (by decide +kernel)) rfl ?_
  refine e_dup dX5_init_105 rfl ?_
  refine e_callIN (M' := mX0_init) [] rfl rfl dX5_init_106 rfl wmX5_52 imX0_init lkX0_init (Nat.le_of_ble_eq_true rfl) (nX0_init_97.mono (by decide)) (by decide) (by decide) (fun r S' v' hp => ?_)
  obtain ⟨rfl, rfl, rfl⟩ := hp
  refine ⟨rfl, ?_⟩
  refine e_aastJ (j := 11) dX5_init_109 (kP (kd := .inl (12, .object "RingDrop$Body")) (by decide +kernel)) (kP (kd := .inr 0) (by decide +kernel)) rc0 (by decide) (by decide) (by decide) rfl ?_
  refine e_nameV (v1 := vc_153) rfl ?_
  refine e_iinc (lv' := [(1, .int (12 : Int32)), (0, .ref 60)]) dX5_init_110 rfl (by decide) (by decide) rfl ?_
  refine e_goto (tgt := 88) dX5_init_113 (by decide) ?_
  refine e_iload_n dX5_init_88 rfl ?_
  refine e_aload_n dX5_init_89 rfl ?_
  refine e_get (w := .ref 73) (j := 9) dX5_init_90 (kP (kd := .inr 5) (by decide +kernel)) rc5 (by decide) wfX5_48 (gPr (Or.inr ⟨_, rfl⟩) (by decide +kernel)) ?_
  refine e_alenJ (x := (12 : Int32)) dX5_init_93 (kP (kd := .inl (12, .object "RingDrop$Body")) (by decide +kernel)) (Or.inr (Or.inr rfl)) (by decide) ?_
  refine e_icmp_ge (tgt := 116) dX5_init_94 (by decide) (fun _ => ?_) (fun c => absurd (by decide) c)
  exact e_ret dX5_init_116 rfl ⟨rfl, rfl, rfl⟩
set_option maxRecDepth 20000 in
theorem nX0_init_113 {X : Nat × (Nat → Int32)} : EvM mX0_init 1 1 12 [.ref 112] (rP X 113) vc_174 (fun o S' v' => o = none ∧ S' = rP X 114 ∧ v' = vc_176) := by
  refine evm_of (by decide +kernel) (fun G => Nat.le_of_ble_eq_true rfl) ?_
  show Ev mX0_init 1 1 12 0 [(0, .ref 112)] [] (rP X 113) vc_174 _
  refine e_aload_n dX0_init_0 rfl ?_
  refine e_objinit dX0_init_1 wmX0_3 wobjim wobjcode (Nat.le_of_ble_eq_true rfl) (by decide) ?_
  refine e_aload_n dX0_init_4 rfl ?_
  refine e_bipush (x := (12 : Int32)) dX0_init_5 (by decide) ?_
  refine e_newa (N := 12) (ty := .int) (n := 113) (S' := rP X 114) (v' := vc_175) (bc' := 0) (bs' := 0) rfl (Or.inl rfl) dX0_init_7 wk_157 rfl rfl (lP (by decide +kernel)) (by decide) (by decide) (by decide) (Nat.le_of_ble_eq_true rfl) rfl rfl (sP (by decide +kernel)) rfl ?_
  refine e_putR (j := 0) dX0_init_9 (kP (kd := .inr 0) (by decide +kernel)) rc0 (by decide) wfX0_9 (Or.inr ⟨rfl, rfl, rfl⟩) (Or.inr ⟨_, rfl⟩) rfl ?_
  refine e_nameV (v1 := vc_176) rfl ?_
  exact e_ret dX0_init_12 rfl ⟨rfl, rfl, rfl⟩
set_option maxRecDepth 20000 in
theorem nX0_init_115 {X : Nat × (Nat → Int32)} : EvM mX0_init 1 1 12 [.ref 114] (rP X 115) vc_178 (fun o S' v' => o = none ∧ S' = rP X 116 ∧ v' = vc_180) := by
  refine evm_of (by decide +kernel) (fun G => Nat.le_of_ble_eq_true rfl) ?_
  show Ev mX0_init 1 1 12 0 [(0, .ref 114)] [] (rP X 115) vc_178 _
  refine e_aload_n dX0_init_0 rfl ?_
  refine e_objinit dX0_init_1 wmX0_3 wobjim wobjcode (Nat.le_of_ble_eq_true rfl) (by decide) ?_
  refine e_aload_n dX0_init_4 rfl ?_
  refine e_bipush (x := (12 : Int32)) dX0_init_5 (by decide) ?_
  refine e_newa (N := 12) (ty := .int) (n := 115) (S' := rP X 116) (v' := vc_179) (bc' := 0) (bs' := 0) rfl (Or.inl rfl) dX0_init_7 wk_157 rfl rfl (lP (by decide +kernel)) (by decide) (by decide) (by decide) (Nat.le_of_ble_eq_true rfl) rfl rfl (sP (by decide +kernel)) rfl ?_
  refine e_putR (j := 0) dX0_init_9 (kP (kd := .inr 0) (by decide +kernel)) rc0 (by decide) wfX0_9 (Or.inr ⟨rfl, rfl, rfl⟩) (Or.inr ⟨_, rfl⟩) rfl ?_
  refine e_nameV (v1 := vc_180) rfl ?_
  exact e_ret dX0_init_12 rfl ⟨rfl, rfl, rfl⟩
set_option maxRecDepth 20000 in
theorem nX0_init_117 {X : Nat × (Nat → Int32)} : EvM mX0_init 1 1 12 [.ref 116] (rP X 117) vc_182 (fun o S' v' => o = none ∧ S' = rP X 118 ∧ v' = vc_184) := by
  refine evm_of (by decide +kernel) (fun G => Nat.le_of_ble_eq_true rfl) ?_
  show Ev mX0_init 1 1 12 0 [(0, .ref 116)] [] (rP X 117) vc_182 _
  refine e_aload_n dX0_init_0 rfl ?_
  refine e_objinit dX0_init_1 wmX0_3 wobjim wobjcode (Nat.le_of_ble_eq_true rfl) (by decide) ?_
  refine e_aload_n dX0_init_4 rfl ?_
  refine e_bipush (x := (12 : Int32)) dX0_init_5 (by decide) ?_
  refine e_newa (N := 12) (ty := .int) (n := 117) (S' := rP X 118) (v' := vc_183) (bc' := 0) (bs' := 0) rfl (Or.inl rfl) dX0_init_7 wk_157 rfl rfl (lP (by decide +kernel)) (by decide) (by decide) (by decide) (Nat.le_of_ble_eq_true rfl) rfl rfl (sP (by decide +kernel)) rfl ?_
  refine e_putR (j := 0) dX0_init_9 (kP (kd := .inr 0) (by decide +kernel)) rc0 (by decide) wfX0_9 (Or.inr ⟨rfl, rfl, rfl⟩) (Or.inr ⟨_, rfl⟩) rfl ?_
  refine e_nameV (v1 := vc_184) rfl ?_
  exact e_ret dX0_init_12 rfl ⟨rfl, rfl, rfl⟩
set_option maxRecDepth 20000 in
theorem nX0_init_119 {X : Nat × (Nat → Int32)} : EvM mX0_init 1 1 12 [.ref 118] (rP X 119) vc_186 (fun o S' v' => o = none ∧ S' = rP X 120 ∧ v' = vc_188) := by
  refine evm_of (by decide +kernel) (fun G => Nat.le_of_ble_eq_true rfl) ?_
  show Ev mX0_init 1 1 12 0 [(0, .ref 118)] [] (rP X 119) vc_186 _
  refine e_aload_n dX0_init_0 rfl ?_
  refine e_objinit dX0_init_1 wmX0_3 wobjim wobjcode (Nat.le_of_ble_eq_true rfl) (by decide) ?_
  refine e_aload_n dX0_init_4 rfl ?_
  refine e_bipush (x := (12 : Int32)) dX0_init_5 (by decide) ?_
  refine e_newa (N := 12) (ty := .int) (n := 119) (S' := rP X 120) (v' := vc_187) (bc' := 0) (bs' := 0) rfl (Or.inl rfl) dX0_init_7 wk_157 rfl rfl (lP (by decide +kernel)) (by decide) (by decide) (by decide) (Nat.le_of_ble_eq_true rfl) rfl rfl (sP (by decide +kernel)) rfl ?_
  refine e_putR (j := 0) dX0_init_9 (kP (kd := .inr 0) (by decide +kernel)) rc0 (by decide) wfX0_9 (Or.inr ⟨rfl, rfl, rfl⟩) (Or.inr ⟨_, rfl⟩) rfl ?_
  refine e_nameV (v1 := vc_188) rfl ?_
  exact e_ret dX0_init_12 rfl ⟨rfl, rfl, rfl⟩
set_option maxRecDepth 20000 in
theorem nX0_init_121 {X : Nat × (Nat → Int32)} : EvM mX0_init 1 1 12 [.ref 120] (rP X 121) vc_190 (fun o S' v' => o = none ∧ S' = rP X 122 ∧ v' = vc_192) := by
  refine evm_of (by decide +kernel) (fun G => Nat.le_of_ble_eq_true rfl) ?_
  show Ev mX0_init 1 1 12 0 [(0, .ref 120)] [] (rP X 121) vc_190 _
  refine e_aload_n dX0_init_0 rfl ?_
  refine e_objinit dX0_init_1 wmX0_3 wobjim wobjcode (Nat.le_of_ble_eq_true rfl) (by decide) ?_
  refine e_aload_n dX0_init_4 rfl ?_
  refine e_bipush (x := (12 : Int32)) dX0_init_5 (by decide) ?_
  refine e_newa (N := 12) (ty := .int) (n := 121) (S' := rP X 122) (v' := vc_191) (bc' := 0) (bs' := 0) rfl (Or.inl rfl) dX0_init_7 wk_157 rfl rfl (lP (by decide +kernel)) (by decide) (by decide) (by decide) (Nat.le_of_ble_eq_true rfl) rfl rfl (sP (by decide +kernel)) rfl ?_
  refine e_putR (j := 0) dX0_init_9 (kP (kd := .inr 0) (by decide +kernel)) rc0 (by decide) wfX0_9 (Or.inr ⟨rfl, rfl, rfl⟩) (Or.inr ⟨_, rfl⟩) rfl ?_
  refine e_nameV (v1 := vc_192) rfl ?_
  exact e_ret dX0_init_12 rfl ⟨rfl, rfl, rfl⟩
set_option maxRecDepth 20000 in
theorem nX0_init_123 {X : Nat × (Nat → Int32)} : EvM mX0_init 1 1 12 [.ref 122] (rP X 123) vc_194 (fun o S' v' => o = none ∧ S' = rP X 124 ∧ v' = vc_196) := by
  refine evm_of (by decide +kernel) (fun G => Nat.le_of_ble_eq_true rfl) ?_
  show Ev mX0_init 1 1 12 0 [(0, .ref 122)] [] (rP X 123) vc_194 _
  refine e_aload_n dX0_init_0 rfl ?_
  refine e_objinit dX0_init_1 wmX0_3 wobjim wobjcode (Nat.le_of_ble_eq_true rfl) (by decide) ?_
  refine e_aload_n dX0_init_4 rfl ?_
  refine e_bipush (x := (12 : Int32)) dX0_init_5 (by decide) ?_
  refine e_newa (N := 12) (ty := .int) (n := 123) (S' := rP X 124) (v' := vc_195) (bc' := 0) (bs' := 0) rfl (Or.inl rfl) dX0_init_7 wk_157 rfl rfl (lP (by decide +kernel)) (by decide) (by decide) (by decide) (Nat.le_of_ble_eq_true rfl) rfl rfl (sP (by decide +kernel)) rfl ?_
  refine e_putR (j := 0) dX0_init_9 (kP (kd := .inr 0) (by decide +kernel)) rc0 (by decide) wfX0_9 (Or.inr ⟨rfl, rfl, rfl⟩) (Or.inr ⟨_, rfl⟩) rfl ?_
  refine e_nameV (v1 := vc_196) rfl ?_
  exact e_ret dX0_init_12 rfl ⟨rfl, rfl, rfl⟩
set_option maxRecDepth 20000 in
theorem nX0_init_125 {X : Nat × (Nat → Int32)} : EvM mX0_init 1 1 12 [.ref 124] (rP X 125) vc_198 (fun o S' v' => o = none ∧ S' = rP X 126 ∧ v' = vc_200) := by
  refine evm_of (by decide +kernel) (fun G => Nat.le_of_ble_eq_true rfl) ?_
  show Ev mX0_init 1 1 12 0 [(0, .ref 124)] [] (rP X 125) vc_198 _
  refine e_aload_n dX0_init_0 rfl ?_
  refine e_objinit dX0_init_1 wmX0_3 wobjim wobjcode (Nat.le_of_ble_eq_true rfl) (by decide) ?_
  refine e_aload_n dX0_init_4 rfl ?_
  refine e_bipush (x := (12 : Int32)) dX0_init_5 (by decide) ?_
  refine e_newa (N := 12) (ty := .int) (n := 125) (S' := rP X 126) (v' := vc_199) (bc' := 0) (bs' := 0) rfl (Or.inl rfl) dX0_init_7 wk_157 rfl rfl (lP (by decide +kernel)) (by decide) (by decide) (by decide) (Nat.le_of_ble_eq_true rfl) rfl rfl (sP (by decide +kernel)) rfl ?_
  refine e_putR (j := 0) dX0_init_9 (kP (kd := .inr 0) (by decide +kernel)) rc0 (by decide) wfX0_9 (Or.inr ⟨rfl, rfl, rfl⟩) (Or.inr ⟨_, rfl⟩) rfl ?_
  refine e_nameV (v1 := vc_200) rfl ?_
  exact e_ret dX0_init_12 rfl ⟨rfl, rfl, rfl⟩
set_option maxRecDepth 20000 in
theorem nX0_init_127 {X : Nat × (Nat → Int32)} : EvM mX0_init 1 1 12 [.ref 126] (rP X 127) vc_202 (fun o S' v' => o = none ∧ S' = rP X 128 ∧ v' = vc_204) := by
  refine evm_of (by decide +kernel) (fun G => Nat.le_of_ble_eq_true rfl) ?_
  show Ev mX0_init 1 1 12 0 [(0, .ref 126)] [] (rP X 127) vc_202 _
  refine e_aload_n dX0_init_0 rfl ?_
  refine e_objinit dX0_init_1 wmX0_3 wobjim wobjcode (Nat.le_of_ble_eq_true rfl) (by decide) ?_
  refine e_aload_n dX0_init_4 rfl ?_
  refine e_bipush (x := (12 : Int32)) dX0_init_5 (by decide) ?_
  refine e_newa (N := 12) (ty := .int) (n := 127) (S' := rP X 128) (v' := vc_203) (bc' := 0) (bs' := 0) rfl (Or.inl rfl) dX0_init_7 wk_157 rfl rfl (lP (by decide +kernel)) (by decide) (by decide) (by decide) (Nat.le_of_ble_eq_true rfl) rfl rfl (sP (by decide +kernel)) rfl ?_
  refine e_putR (j := 0) dX0_init_9 (kP (kd := .inr 0) (by decide +kernel)) rc0 (by decide) wfX0_9 (Or.inr ⟨rfl, rfl, rfl⟩) (Or.inr ⟨_, rfl⟩) rfl ?_
  refine e_nameV (v1 := vc_204) rfl ?_
  exact e_ret dX0_init_12 rfl ⟨rfl, rfl, rfl⟩
set_option maxRecDepth 20000 in
theorem nX0_init_129 {X : Nat × (Nat → Int32)} : EvM mX0_init 1 1 12 [.ref 128] (rP X 129) vc_206 (fun o S' v' => o = none ∧ S' = rP X 130 ∧ v' = vc_208) := by
  refine evm_of (by decide +kernel) (fun G => Nat.le_of_ble_eq_true rfl) ?_
  show Ev mX0_init 1 1 12 0 [(0, .ref 128)] [] (rP X 129) vc_206 _
  refine e_aload_n dX0_init_0 rfl ?_
  refine e_objinit dX0_init_1 wmX0_3 wobjim wobjcode (Nat.le_of_ble_eq_true rfl) (by decide) ?_
  refine e_aload_n dX0_init_4 rfl ?_
  refine e_bipush (x := (12 : Int32)) dX0_init_5 (by decide) ?_
  refine e_newa (N := 12) (ty := .int) (n := 129) (S' := rP X 130) (v' := vc_207) (bc' := 0) (bs' := 0) rfl (Or.inl rfl) dX0_init_7 wk_157 rfl rfl (lP (by decide +kernel)) (by decide) (by decide) (by decide) (Nat.le_of_ble_eq_true rfl) rfl rfl (sP (by decide +kernel)) rfl ?_
  refine e_putR (j := 0) dX0_init_9 (kP (kd := .inr 0) (by decide +kernel)) rc0 (by decide) wfX0_9 (Or.inr ⟨rfl, rfl, rfl⟩) (Or.inr ⟨_, rfl⟩) rfl ?_
  refine e_nameV (v1 := vc_208) rfl ?_
  exact e_ret dX0_init_12 rfl ⟨rfl, rfl, rfl⟩
set_option maxRecDepth 20000 in
theorem nX0_init_131 {X : Nat × (Nat → Int32)} : EvM mX0_init 1 1 12 [.ref 130] (rP X 131) vc_210 (fun o S' v' => o = none ∧ S' = rP X 132 ∧ v' = vc_212) := by
  refine evm_of (by decide +kernel) (fun G => Nat.le_of_ble_eq_true rfl) ?_
  show Ev mX0_init 1 1 12 0 [(0, .ref 130)] [] (rP X 131) vc_210 _
  refine e_aload_n dX0_init_0 rfl ?_
  refine e_objinit dX0_init_1 wmX0_3 wobjim wobjcode (Nat.le_of_ble_eq_true rfl) (by decide) ?_
  refine e_aload_n dX0_init_4 rfl ?_
  refine e_bipush (x := (12 : Int32)) dX0_init_5 (by decide) ?_
  refine e_newa (N := 12) (ty := .int) (n := 131) (S' := rP X 132) (v' := vc_211) (bc' := 0) (bs' := 0) rfl (Or.inl rfl) dX0_init_7 wk_157 rfl rfl (lP (by decide +kernel)) (by decide) (by decide) (by decide) (Nat.le_of_ble_eq_true rfl) rfl rfl (sP (by decide +kernel)) rfl ?_
  refine e_putR (j := 0) dX0_init_9 (kP (kd := .inr 0) (by decide +kernel)) rc0 (by decide) wfX0_9 (Or.inr ⟨rfl, rfl, rfl⟩) (Or.inr ⟨_, rfl⟩) rfl ?_
  refine e_nameV (v1 := vc_212) rfl ?_
  exact e_ret dX0_init_12 rfl ⟨rfl, rfl, rfl⟩
set_option maxRecDepth 20000 in
theorem nX0_init_133 {X : Nat × (Nat → Int32)} : EvM mX0_init 1 1 12 [.ref 132] (rP X 133) vc_214 (fun o S' v' => o = none ∧ S' = rP X 134 ∧ v' = vc_216) := by
  refine evm_of (by decide +kernel) (fun G => Nat.le_of_ble_eq_true rfl) ?_
  show Ev mX0_init 1 1 12 0 [(0, .ref 132)] [] (rP X 133) vc_214 _
  refine e_aload_n dX0_init_0 rfl ?_
  refine e_objinit dX0_init_1 wmX0_3 wobjim wobjcode (Nat.le_of_ble_eq_true rfl) (by decide) ?_
  refine e_aload_n dX0_init_4 rfl ?_
  refine e_bipush (x := (12 : Int32)) dX0_init_5 (by decide) ?_
  refine e_newa (N := 12) (ty := .int) (n := 133) (S' := rP X 134) (v' := vc_215) (bc' := 0) (bs' := 0) rfl (Or.inl rfl) dX0_init_7 wk_157 rfl rfl (lP (by decide +kernel)) (by decide) (by decide) (by decide) (Nat.le_of_ble_eq_true rfl) rfl rfl (sP (by decide +kernel)) rfl ?_
  refine e_putR (j := 0) dX0_init_9 (kP (kd := .inr 0) (by decide +kernel)) rc0 (by decide) wfX0_9 (Or.inr ⟨rfl, rfl, rfl⟩) (Or.inr ⟨_, rfl⟩) rfl ?_
  refine e_nameV (v1 := vc_216) rfl ?_
  exact e_ret dX0_init_12 rfl ⟨rfl, rfl, rfl⟩
set_option maxRecDepth 20000 in
theorem nX0_init_135 {X : Nat × (Nat → Int32)} : EvM mX0_init 1 1 12 [.ref 134] (rP X 135) vc_218 (fun o S' v' => o = none ∧ S' = rP X 136 ∧ v' = vc_220) := by
  refine evm_of (by decide +kernel) (fun G => Nat.le_of_ble_eq_true rfl) ?_
  show Ev mX0_init 1 1 12 0 [(0, .ref 134)] [] (rP X 135) vc_218 _
  refine e_aload_n dX0_init_0 rfl ?_
  refine e_objinit dX0_init_1 wmX0_3 wobjim wobjcode (Nat.le_of_ble_eq_true rfl) (by decide) ?_
  refine e_aload_n dX0_init_4 rfl ?_
  refine e_bipush (x := (12 : Int32)) dX0_init_5 (by decide) ?_
  refine e_newa (N := 12) (ty := .int) (n := 135) (S' := rP X 136) (v' := vc_219) (bc' := 0) (bs' := 0) rfl (Or.inl rfl) dX0_init_7 wk_157 rfl rfl (lP (by decide +kernel)) (by decide) (by decide) (by decide) (Nat.le_of_ble_eq_true rfl) rfl rfl (sP (by decide +kernel)) rfl ?_
  refine e_putR (j := 0) dX0_init_9 (kP (kd := .inr 0) (by decide +kernel)) rc0 (by decide) wfX0_9 (Or.inr ⟨rfl, rfl, rfl⟩) (Or.inr ⟨_, rfl⟩) rfl ?_
  refine e_nameV (v1 := vc_220) rfl ?_
  exact e_ret dX0_init_12 rfl ⟨rfl, rfl, rfl⟩
set_option maxRecDepth 20000 in
theorem nX5_init_99 {X : Nat × (Nat → Int32)} : EvM mX5_init 10 37 539 [.ref 98] (rP X 99) vc_155 (fun o S' v' => o = none ∧ S' = rP X 136 ∧ v' = vc_221) := by
  refine evm_of (by decide +kernel) (fun G => Nat.le_of_ble_eq_true rfl) ?_
  show Ev mX5_init 10 37 539 0 [(0, .ref 98)] [] (rP X 99) vc_155 _
  refine e_aload_n dX5_init_0 rfl ?_
  refine e_objinit dX5_init_1 wmX5_3 wobjim wobjcode (Nat.le_of_ble_eq_true rfl) (by decide) ?_
  refine e_aload_n dX5_init_4 rfl ?_
  refine e_bipush (x := (24 : Int32)) dX5_init_5 (by decide) ?_
  refine e_newa (N := 24) (ty := .int) (n := 99) (S' := rP X 100) (v' := vc_156) (bc' := 36) (bs' := 515) rfl (Or.inl rfl) dX5_init_7 wk_157 rfl rfl (lP (by decide +kernel)) (by decide) (by decide) (by decide) (Nat.le_of_ble_eq_true rfl) rfl rfl (sP (by decide +kernel)) rfl ?_
  refine e_putR (j := 0) dX5_init_9 (kP (kd := .inr 5) (by decide +kernel)) rc5 (by decide) wfX5_9 (Or.inr ⟨rfl, rfl, rfl⟩) (Or.inr ⟨_, rfl⟩) rfl ?_
  refine e_nameV (v1 := vc_157) rfl ?_
  refine e_aload_n dX5_init_12 rfl ?_
  refine e_bipush (x := (24 : Int32)) dX5_init_13 (by decide) ?_
  refine e_newa (N := 24) (ty := .int) (n := 100) (S' := rP X 101) (v' := vc_158) (bc' := 35) (bs' := 491) rfl (Or.inl rfl) dX5_init_15 wk_157 rfl rfl (lP (by decide +kernel)) (by decide) (by decide) (by decide) (Nat.le_of_ble_eq_true rfl) rfl rfl (sP (by decide +kernel)) rfl ?_
  refine e_putR (j := 1) dX5_init_17 (kP (kd := .inr 5) (by decide +kernel)) rc5 (by decide) wfX5_15 (Or.inr ⟨rfl, rfl, rfl⟩) (Or.inr ⟨_, rfl⟩) rfl ?_
  refine e_nameV (v1 := vc_159) rfl ?_
  refine e_aload_n dX5_init_20 rfl ?_
  refine e_ldcS1 dX5_init_21 rfl ?_
  refine e_strlenJ (i := 0) (x := (7 : Int32)) (by decide) dX5_init_23 wmX5_20 (by decide) (Nat.le_of_ble_eq_true rfl) (by decide) ?_
  refine e_newa (N := 7) (ty := .int) (n := 101) (S' := rP X 102) (v' := vc_160) (bc' := 34) (bs' := 484) rfl (Or.inl rfl) dX5_init_26 wk_157 rfl rfl (lP (by decide +kernel)) (by decide) (by decide) (by decide) (Nat.le_of_ble_eq_true rfl) rfl rfl (sP (by decide +kernel)) rfl ?_
  refine e_putR (j := 2) dX5_init_28 (kP (kd := .inr 5) (by decide +kernel)) rc5 (by decide) wfX5_26 (Or.inr ⟨rfl, rfl, rfl⟩) (Or.inr ⟨_, rfl⟩) rfl ?_
  refine e_nameV (v1 := vc_161) rfl ?_
  refine e_aload_n dX5_init_31 rfl ?_
  refine e_iconst (x := (2 : Int32)) dX5_init_32 (by decide) ?_
  refine e_bipush (x := (24 : Int32)) dX5_init_33 (by decide) ?_
  refine e_mnew (N := 2) (K := 24) (n := 102) (S' := rP X 105) (v' := vc_162) (bc' := 31) (bs' := 434) dX5_init_35 wk_253 wk_157 rfl rfl (lP (by decide +kernel)) (by decide) (by decide) (by decide) (by decide) (by decide) (Nat.le_of_ble_eq_true rfl) (Nat.le_of_ble_eq_true rfl) rfl rfl (sP (by decide +kernel)) rfl ?_
  refine e_putR (j := 4) dX5_init_39 (kP (kd := .inr 5) (by decide +kernel)) rc5 (by decide) wfX5_31 (Or.inr ⟨rfl, rfl, rfl⟩) (Or.inr ⟨_, rfl⟩) rfl ?_
  refine e_nameV (v1 := vc_163) rfl ?_
  refine e_aload_n dX5_init_42 rfl ?_
  refine e_iconst (x := (2 : Int32)) dX5_init_43 (by decide) ?_
  refine e_bipush (x := (24 : Int32)) dX5_init_44 (by decide) ?_
  refine e_mnew (N := 2) (K := 24) (n := 105) (S' := rP X 108) (v' := vc_164) (bc' := 28) (bs' := 384) dX5_init_46 wk_253 wk_157 rfl rfl (lP (by decide +kernel)) (by decide) (by decide) (by decide) (by decide) (by decide) (Nat.le_of_ble_eq_true rfl) (Nat.le_of_ble_eq_true rfl) rfl rfl (sP (by decide +kernel)) rfl ?_
  refine e_putR (j := 5) dX5_init_50 (kP (kd := .inr 5) (by decide +kernel)) rc5 (by decide) wfX5_34 (Or.inr ⟨rfl, rfl, rfl⟩) (Or.inr ⟨_, rfl⟩) rfl ?_
  refine e_nameV (v1 := vc_165) rfl ?_
  refine e_aload_n dX5_init_53 rfl ?_
  refine e_bipush (x := (24 : Int32)) dX5_init_54 (by decide) ?_
  refine e_newa (N := 24) (ty := .int) (n := 108) (S' := rP X 109) (v' := vc_166) (bc' := 27) (bs' := 360) rfl (Or.inl rfl) dX5_init_56 wk_157 rfl rfl (lP (by decide +kernel)) (by decide) (by decide) (by decide) (Nat.le_of_ble_eq_true rfl) rfl rfl (sP (by decide +kernel)) rfl ?_
  refine e_putR (j := 6) dX5_init_58 (kP (kd := .inr 5) (by decide +kernel)) rc5 (by decide) wfX5_37 (Or.inr ⟨rfl, rfl, rfl⟩) (Or.inr ⟨_, rfl⟩) rfl ?_
  refine e_nameV (v1 := vc_167) rfl ?_
  refine e_aload_n dX5_init_61 rfl ?_
  refine e_bipush (x := (24 : Int32)) dX5_init_62 (by decide) ?_
  refine e_newa (N := 24) (ty := .int) (n := 109) (S' := rP X 110) (v' := vc_168) (bc' := 26) (bs' := 336) rfl (Or.inl rfl) dX5_init_64 wk_157 rfl rfl (lP (by decide +kernel)) (by decide) (by decide) (by decide) (Nat.le_of_ble_eq_true rfl) rfl rfl (sP (by decide +kernel)) rfl ?_
  refine e_putR (j := 7) dX5_init_66 (kP (kd := .inr 5) (by decide +kernel)) rc5 (by decide) wfX5_40 (Or.inr ⟨rfl, rfl, rfl⟩) (Or.inr ⟨_, rfl⟩) rfl ?_
  refine e_nameV (v1 := vc_169) rfl ?_
  refine e_aload_n dX5_init_69 rfl ?_
  refine e_bipush (x := (120 : Int32)) dX5_init_70 (by decide) ?_
  refine e_newa (N := 120) (ty := .int) (n := 110) (S' := rP X 111) (v' := vc_170) (bc' := 25) (bs' := 216) rfl (Or.inl rfl) dX5_init_72 wk_157 rfl rfl (lP (by decide +kernel)) (by decide) (by decide) (by decide) (Nat.le_of_ble_eq_true rfl) rfl rfl (sP (by decide +kernel)) rfl ?_
  refine e_putR (j := 8) dX5_init_74 (kP (kd := .inr 5) (by decide +kernel)) rc5 (by decide) wfX5_43 (Or.inr ⟨rfl, rfl, rfl⟩) (Or.inr ⟨_, rfl⟩) rfl ?_
  refine e_nameV (v1 := vc_171) rfl ?_
  refine e_aload_n dX5_init_77 rfl ?_
  refine e_bipush (x := (12 : Int32)) dX5_init_78 (by decide) ?_
  refine e_anew (N := 12) (n := 111) (S' := rP X 112) (v' := vc_172) (bc' := 24) (bs' := 204) dX5_init_80 wk_254 (Or.inr rfl) rfl rfl (lP (by decide +kernel)) (by decide) (by decide) (by decide) (Nat.le_of_ble_eq_true rfl) rfl rfl (sP (by decide +kernel)) rfl ?_
  refine e_putR (j := 9) dX5_init_83 (kP (kd := .inr 5) (by decide +kernel)) rc5 (by decide) wfX5_48 (Or.inr ⟨rfl, rfl, rfl⟩) (Or.inr ⟨_, rfl⟩) rfl ?_
  refine e_nameV (v1 := vc_173) rfl ?_
  refine e_iconst (x := (0 : Int32)) dX5_init_86 (by decide) ?_
  refine e_istore_n (lv' := [(1, .int (0 : Int32)), (0, .ref 98)]) dX5_init_87 (by decide) rfl ?_
  refine e_iload_n dX5_init_88 rfl ?_
  refine e_aload_n dX5_init_89 rfl ?_
  refine e_get (w := .ref 111) (j := 9) dX5_init_90 (kP (kd := .inr 5) (by decide +kernel)) rc5 (by decide) wfX5_48 (gPr (Or.inr ⟨_, rfl⟩) (by decide +kernel)) ?_
  refine e_alenJ (x := (12 : Int32)) dX5_init_93 (kP (kd := .inl (12, .object "RingDrop$Body")) (by decide +kernel)) (Or.inr (Or.inr rfl)) (by decide) ?_
  refine e_icmp_ge (tgt := 116) dX5_init_94 (by decide) (fun c => absurd c (by decide)) (fun _ => ?_)
  refine e_aload_n dX5_init_97 rfl ?_
  refine e_get (w := .ref 111) (j := 9) dX5_init_98 (kP (kd := .inr 5) (by decide +kernel)) rc5 (by decide) wfX5_48 (gPr (Or.inr ⟨_, rfl⟩) (by decide +kernel)) ?_
  refine e_iload_n dX5_init_101 rfl ?_
  refine e_new (ci := 0) (n := 112) (S' := rP X 113) (v' := vc_174) (bc' := 23) (bs' := 199) dX5_init_102 rc0 wk_254 wk_256 wk_121 (by decide) rfl rfl (lP (by decide +kernel)) (by decide) rfl rfl (sP (by decide +kernel)) rfl ?_
  refine e_dup dX5_init_105 rfl ?_
  refine e_callIN (M' := mX0_init) [] rfl rfl dX5_init_106 rfl wmX5_52 imX0_init lkX0_init (Nat.le_of_ble_eq_true rfl) (nX0_init_113.mono (by decide)) (by decide) (by decide) (fun r S' v' hp => ?_)
  obtain ⟨rfl, rfl, rfl⟩ := hp
  refine ⟨rfl, ?_⟩
  refine e_aastJ (j := 0) dX5_init_109 (kP (kd := .inl (12, .object "RingDrop$Body")) (by decide +kernel)) (kP (kd := .inr 0) (by decide +kernel)) rc0 (by decide) (by decide) (by decide) rfl ?_
  refine e_nameV (v1 := vc_177) rfl ?_
  refine e_iinc (lv' := [(1, .int (1 : Int32)), (0, .ref 98)]) dX5_init_110 rfl (by decide) (by decide) rfl ?_
  refine e_goto (tgt := 88) dX5_init_113 (by decide) ?_
  refine e_iload_n dX5_init_88 rfl ?_
  refine e_aload_n dX5_init_89 rfl ?_
  refine e_get (w := .ref 111) (j := 9) dX5_init_90 (kP (kd := .inr 5) (by decide +kernel)) rc5 (by decide) wfX5_48 (gPr (Or.inr ⟨_, rfl⟩) (by decide +kernel)) ?_
  refine e_alenJ (x := (12 : Int32)) dX5_init_93 (kP (kd := .inl (12, .object "RingDrop$Body")) (by decide +kernel)) (Or.inr (Or.inr rfl)) (by decide) ?_
  refine e_icmp_ge (tgt := 116) dX5_init_94 (by decide) (fun c => absurd c (by decide)) (fun _ => ?_)
  refine e_aload_n dX5_init_97 rfl ?_
  refine e_get (w := .ref 111) (j := 9) dX5_init_98 (kP (kd := .inr 5) (by decide +kernel)) rc5 (by decide) wfX5_48 (gPr (Or.inr ⟨_, rfl⟩) (by decide +kernel)) ?_
  refine e_iload_n dX5_init_101 rfl ?_
  refine e_new (ci := 0) (n := 114) (S' := rP X 115) (v' := vc_178) (bc' := 21) (bs' := 182) dX5_init_102 rc0 wk_254 wk_256 wk_121 (by decide) rfl rfl (lP (by decide +kernel)) (by decide) rfl rfl (sP (by decide +kernel)) rfl ?_
  refine e_dup dX5_init_105 rfl ?_
  refine e_callIN (M' := mX0_init) [] rfl rfl dX5_init_106 rfl wmX5_52 imX0_init lkX0_init (Nat.le_of_ble_eq_true rfl) (nX0_init_115.mono (by decide)) (by decide) (by decide) (fun r S' v' hp => ?_)
  obtain ⟨rfl, rfl, rfl⟩ := hp
  refine ⟨rfl, ?_⟩
  refine e_aastJ (j := 1) dX5_init_109 (kP (kd := .inl (12, .object "RingDrop$Body")) (by decide +kernel)) (kP (kd := .inr 0) (by decide +kernel)) rc0 (by decide) (by decide) (by decide) rfl ?_
  refine e_nameV (v1 := vc_181) rfl ?_
  refine e_iinc (lv' := [(1, .int (2 : Int32)), (0, .ref 98)]) dX5_init_110 rfl (by decide) (by decide) rfl ?_
  refine e_goto (tgt := 88) dX5_init_113 (by decide) ?_
  refine e_iload_n dX5_init_88 rfl ?_
  refine e_aload_n dX5_init_89 rfl ?_
  refine e_get (w := .ref 111) (j := 9) dX5_init_90 (kP (kd := .inr 5) (by decide +kernel)) rc5 (by decide) wfX5_48 (gPr (Or.inr ⟨_, rfl⟩) (by decide +kernel)) ?_
  refine e_alenJ (x := (12 : Int32)) dX5_init_93 (kP (kd := .inl (12, .object "RingDrop$Body")) (by decide +kernel)) (Or.inr (Or.inr rfl)) (by decide) ?_
  refine e_icmp_ge (tgt := 116) dX5_init_94 (by decide) (fun c => absurd c (by decide)) (fun _ => ?_)
  refine e_aload_n dX5_init_97 rfl ?_
  refine e_get (w := .ref 111) (j := 9) dX5_init_98 (kP (kd := .inr 5) (by decide +kernel)) rc5 (by decide) wfX5_48 (gPr (Or.inr ⟨_, rfl⟩) (by decide +kernel)) ?_
  refine e_iload_n dX5_init_101 rfl ?_
  refine e_new (ci := 0) (n := 116) (S' := rP X 117) (v' := vc_182) (bc' := 19) (bs' := 165) dX5_init_102 rc0 wk_254 wk_256 wk_121 (by decide) rfl rfl (lP (by decide +kernel)) (by decide) rfl rfl (sP (by decide +kernel)) rfl ?_
  refine e_dup dX5_init_105 rfl ?_
  refine e_callIN (M' := mX0_init) [] rfl rfl dX5_init_106 rfl wmX5_52 imX0_init lkX0_init (Nat.le_of_ble_eq_true rfl) (nX0_init_117.mono (by decide)) (by decide) (by decide) (fun r S' v' hp => ?_)
  obtain ⟨rfl, rfl, rfl⟩ := hp
  refine ⟨rfl, ?_⟩
  refine e_aastJ (j := 2) dX5_init_109 (kP (kd := .inl (12, .object "RingDrop$Body")) (by decide +kernel)) (kP (kd := .inr 0) (by decide +kernel)) rc0 (by decide) (by decide) (by decide) rfl ?_
  refine e_nameV (v1 := vc_185) rfl ?_
  refine e_iinc (lv' := [(1, .int (3 : Int32)), (0, .ref 98)]) dX5_init_110 rfl (by decide) (by decide) rfl ?_
  refine e_goto (tgt := 88) dX5_init_113 (by decide) ?_
  refine e_iload_n dX5_init_88 rfl ?_
  refine e_aload_n dX5_init_89 rfl ?_
  refine e_get (w := .ref 111) (j := 9) dX5_init_90 (kP (kd := .inr 5) (by decide +kernel)) rc5 (by decide) wfX5_48 (gPr (Or.inr ⟨_, rfl⟩) (by decide +kernel)) ?_
  refine e_alenJ (x := (12 : Int32)) dX5_init_93 (kP (kd := .inl (12, .object "RingDrop$Body")) (by decide +kernel)) (Or.inr (Or.inr rfl)) (by decide) ?_
  refine e_icmp_ge (tgt := 116) dX5_init_94 (by decide) (fun c => absurd c (by decide)) (fun _ => ?_)
  refine e_aload_n dX5_init_97 rfl ?_
  refine e_get (w := .ref 111) (j := 9) dX5_init_98 (kP (kd := .inr 5) (by decide +kernel)) rc5 (by decide) wfX5_48 (gPr (Or.inr ⟨_, rfl⟩) (by decide +kernel)) ?_
  refine e_iload_n dX5_init_101 rfl ?_
  refine e_new (ci := 0) (n := 118) (S' := rP X 119) (v' := vc_186) (bc' := 17) (bs' := 148) dX5_init_102 rc0 wk_254 wk_256 wk_121 (by decide) rfl rfl (lP (by decide +kernel)) (by decide) rfl rfl (sP (by decide +kernel)) rfl ?_
  refine e_dup dX5_init_105 rfl ?_
  refine e_callIN (M' := mX0_init) [] rfl rfl dX5_init_106 rfl wmX5_52 imX0_init lkX0_init (Nat.le_of_ble_eq_true rfl) (nX0_init_119.mono (by decide)) (by decide) (by decide) (fun r S' v' hp => ?_)
  obtain ⟨rfl, rfl, rfl⟩ := hp
  refine ⟨rfl, ?_⟩
  refine e_aastJ (j := 3) dX5_init_109 (kP (kd := .inl (12, .object "RingDrop$Body")) (by decide +kernel)) (kP (kd := .inr 0) (by decide +kernel)) rc0 (by decide) (by decide) (by decide) rfl ?_
  refine e_nameV (v1 := vc_189) rfl ?_
  refine e_iinc (lv' := [(1, .int (4 : Int32)), (0, .ref 98)]) dX5_init_110 rfl (by decide) (by decide) rfl ?_
  refine e_goto (tgt := 88) dX5_init_113 (by decide) ?_
  refine e_iload_n dX5_init_88 rfl ?_
  refine e_aload_n dX5_init_89 rfl ?_
  refine e_get (w := .ref 111) (j := 9) dX5_init_90 (kP (kd := .inr 5) (by decide +kernel)) rc5 (by decide) wfX5_48 (gPr (Or.inr ⟨_, rfl⟩) (by decide +kernel)) ?_
  refine e_alenJ (x := (12 : Int32)) dX5_init_93 (kP (kd := .inl (12, .object "RingDrop$Body")) (by decide +kernel)) (Or.inr (Or.inr rfl)) (by decide) ?_
  refine e_icmp_ge (tgt := 116) dX5_init_94 (by decide) (fun c => absurd c (by decide)) (fun _ => ?_)
  refine e_aload_n dX5_init_97 rfl ?_
  refine e_get (w := .ref 111) (j := 9) dX5_init_98 (kP (kd := .inr 5) (by decide +kernel)) rc5 (by decide) wfX5_48 (gPr (Or.inr ⟨_, rfl⟩) (by decide +kernel)) ?_
  refine e_iload_n dX5_init_101 rfl ?_
  refine e_new (ci := 0) (n := 120) (S' := rP X 121) (v' := vc_190) (bc' := 15) (bs' := 131) dX5_init_102 rc0 wk_254 wk_256 wk_121 (by decide) rfl rfl (lP (by decide +kernel)) (by decide) rfl rfl (sP (by decide +kernel)) rfl ?_
  refine e_dup dX5_init_105 rfl ?_
  refine e_callIN (M' := mX0_init) [] rfl rfl dX5_init_106 rfl wmX5_52 imX0_init lkX0_init (Nat.le_of_ble_eq_true rfl) (nX0_init_121.mono (by decide)) (by decide) (by decide) (fun r S' v' hp => ?_)
  obtain ⟨rfl, rfl, rfl⟩ := hp
  refine ⟨rfl, ?_⟩
  refine e_aastJ (j := 4) dX5_init_109 (kP (kd := .inl (12, .object "RingDrop$Body")) (by decide +kernel)) (kP (kd := .inr 0) (by decide +kernel)) rc0 (by decide) (by decide) (by decide) rfl ?_
  refine e_nameV (v1 := vc_193) rfl ?_
  refine e_iinc (lv' := [(1, .int (5 : Int32)), (0, .ref 98)]) dX5_init_110 rfl (by decide) (by decide) rfl ?_
  refine e_goto (tgt := 88) dX5_init_113 (by decide) ?_
  refine e_iload_n dX5_init_88 rfl ?_
  refine e_aload_n dX5_init_89 rfl ?_
  refine e_get (w := .ref 111) (j := 9) dX5_init_90 (kP (kd := .inr 5) (by decide +kernel)) rc5 (by decide) wfX5_48 (gPr (Or.inr ⟨_, rfl⟩) (by decide +kernel)) ?_
  refine e_alenJ (x := (12 : Int32)) dX5_init_93 (kP (kd := .inl (12, .object "RingDrop$Body")) (by decide +kernel)) (Or.inr (Or.inr rfl)) (by decide) ?_
  refine e_icmp_ge (tgt := 116) dX5_init_94 (by decide) (fun c => absurd c (by decide)) (fun _ => ?_)
  refine e_aload_n dX5_init_97 rfl ?_
  refine e_get (w := .ref 111) (j := 9) dX5_init_98 (kP (kd := .inr 5) (by decide +kernel)) rc5 (by decide) wfX5_48 (gPr (Or.inr ⟨_, rfl⟩) (by decide +kernel)) ?_
  refine e_iload_n dX5_init_101 rfl ?_
  refine e_new (ci := 0) (n := 122) (S' := rP X 123) (v' := vc_194) (bc' := 13) (bs' := 114) dX5_init_102 rc0 wk_254 wk_256 wk_121 (by decide) rfl rfl (lP (by decide +kernel)) (by decide) rfl rfl (sP (by decide +kernel)) rfl ?_
  refine e_dup dX5_init_105 rfl ?_
  refine e_callIN (M' := mX0_init) [] rfl rfl dX5_init_106 rfl wmX5_52 imX0_init lkX0_init (Nat.le_of_ble_eq_true rfl) (nX0_init_123.mono (by decide)) (by decide) (by decide) (fun r S' v' hp => ?_)
  obtain ⟨rfl, rfl, rfl⟩ := hp
  refine ⟨rfl, ?_⟩
  refine e_aastJ (j := 5) dX5_init_109 (kP (kd := .inl (12, .object "RingDrop$Body")) (by decide +kernel)) (kP (kd := .inr 0) (by decide +kernel)) rc0 (by decide) (by decide) (by decide) rfl ?_
  refine e_nameV (v1 := vc_197) rfl ?_
  refine e_iinc (lv' := [(1, .int (6 : Int32)), (0, .ref 98)]) dX5_init_110 rfl (by decide) (by decide) rfl ?_
  refine e_goto (tgt := 88) dX5_init_113 (by decide) ?_
  refine e_iload_n dX5_init_88 rfl ?_
  refine e_aload_n dX5_init_89 rfl ?_
  refine e_get (w := .ref 111) (j := 9) dX5_init_90 (kP (kd := .inr 5) (by decide +kernel)) rc5 (by decide) wfX5_48 (gPr (Or.inr ⟨_, rfl⟩) (by decide +kernel)) ?_
  refine e_alenJ (x := (12 : Int32)) dX5_init_93 (kP (kd := .inl (12, .object "RingDrop$Body")) (by decide +kernel)) (Or.inr (Or.inr rfl)) (by decide) ?_
  refine e_icmp_ge (tgt := 116) dX5_init_94 (by decide) (fun c => absurd c (by decide)) (fun _ => ?_)
  refine e_aload_n dX5_init_97 rfl ?_
  refine e_get (w := .ref 111) (j := 9) dX5_init_98 (kP (kd := .inr 5) (by decide +kernel)) rc5 (by decide) wfX5_48 (gPr (Or.inr ⟨_, rfl⟩) (by decide +kernel)) ?_
  refine e_iload_n dX5_init_101 rfl ?_
  refine e_new (ci := 0) (n := 124) (S' := rP X 125) (v' := vc_198) (bc' := 11) (bs' := 97) dX5_init_102 rc0 wk_254 wk_256 wk_121 (by decide) rfl rfl (lP (by decide +kernel)) (by decide) rfl rfl (sP (by decide +kernel)) rfl ?_
  refine e_dup dX5_init_105 rfl ?_
  refine e_callIN (M' := mX0_init) [] rfl rfl dX5_init_106 rfl wmX5_52 imX0_init lkX0_init (Nat.le_of_ble_eq_true rfl) (nX0_init_125.mono (by decide)) (by decide) (by decide) (fun r S' v' hp => ?_)
  obtain ⟨rfl, rfl, rfl⟩ := hp
  refine ⟨rfl, ?_⟩
  refine e_aastJ (j := 6) dX5_init_109 (kP (kd := .inl (12, .object "RingDrop$Body")) (by decide +kernel)) (kP (kd := .inr 0) (by decide +kernel)) rc0 (by decide) (by decide) (by decide) rfl ?_
  refine e_nameV (v1 := vc_201) rfl ?_
  refine e_iinc (lv' := [(1, .int (7 : Int32)), (0, .ref 98)]) dX5_init_110 rfl (by decide) (by decide) rfl ?_
  refine e_goto (tgt := 88) dX5_init_113 (by decide) ?_
  refine e_iload_n dX5_init_88 rfl ?_
  refine e_aload_n dX5_init_89 rfl ?_
  refine e_get (w := .ref 111) (j := 9) dX5_init_90 (kP (kd := .inr 5) (by decide +kernel)) rc5 (by decide) wfX5_48 (gPr (Or.inr ⟨_, rfl⟩) (by decide +kernel)) ?_
  refine e_alenJ (x := (12 : Int32)) dX5_init_93 (kP (kd := .inl (12, .object "RingDrop$Body")) (by decide +kernel)) (Or.inr (Or.inr rfl)) (by decide) ?_
  refine e_icmp_ge (tgt := 116) dX5_init_94 (by decide) (fun c => absurd c (by decide)) (fun _ => ?_)
  refine e_aload_n dX5_init_97 rfl ?_
  refine e_get (w := .ref 111) (j := 9) dX5_init_98 (kP (kd := .inr 5) (by decide +kernel)) rc5 (by decide) wfX5_48 (gPr (Or.inr ⟨_, rfl⟩) (by decide +kernel)) ?_
  refine e_iload_n dX5_init_101 rfl ?_
  refine e_new (ci := 0) (n := 126) (S' := rP X 127) (v' := vc_202) (bc' := 9) (bs' := 80) dX5_init_102 rc0 wk_254 wk_256 wk_121 (by decide) rfl rfl (lP (by decide +kernel)) (by decide) rfl rfl (sP (by decide +kernel)) rfl ?_
  refine e_dup dX5_init_105 rfl ?_
  refine e_callIN (M' := mX0_init) [] rfl rfl dX5_init_106 rfl wmX5_52 imX0_init lkX0_init (Nat.le_of_ble_eq_true rfl) (nX0_init_127.mono (by decide)) (by decide) (by decide) (fun r S' v' hp => ?_)
  obtain ⟨rfl, rfl, rfl⟩ := hp
  refine ⟨rfl, ?_⟩
  refine e_aastJ (j := 7) dX5_init_109 (kP (kd := .inl (12, .object "RingDrop$Body")) (by decide +kernel)) (kP (kd := .inr 0) (by decide +kernel)) rc0 (by decide) (by decide) (by decide) rfl ?_
  refine e_nameV (v1 := vc_205) rfl ?_
  refine e_iinc (lv' := [(1, .int (8 : Int32)), (0, .ref 98)]) dX5_init_110 rfl (by decide) (by decide) rfl ?_
  refine e_goto (tgt := 88) dX5_init_113 (by decide) ?_
  refine e_iload_n dX5_init_88 rfl ?_
  refine e_aload_n dX5_init_89 rfl ?_
  refine e_get (w := .ref 111) (j := 9) dX5_init_90 (kP (kd := .inr 5) (by decide +kernel)) rc5 (by decide) wfX5_48 (gPr (Or.inr ⟨_, rfl⟩) (by decide +kernel)) ?_
  refine e_alenJ (x := (12 : Int32)) dX5_init_93 (kP (kd := .inl (12, .object "RingDrop$Body")) (by decide +kernel)) (Or.inr (Or.inr rfl)) (by decide) ?_
  refine e_icmp_ge (tgt := 116) dX5_init_94 (by decide) (fun c => absurd c (by decide)) (fun _ => ?_)
  refine e_aload_n dX5_init_97 rfl ?_
  refine e_get (w := .ref 111) (j := 9) dX5_init_98 (kP (kd := .inr 5) (by decide +kernel)) rc5 (by decide) wfX5_48 (gPr (Or.inr ⟨_, rfl⟩) (by decide +kernel)) ?_
  refine e_iload_n dX5_init_101 rfl ?_
  refine e_new (ci := 0) (n := 128) (S' := rP X 129) (v' := vc_206) (bc' := 7) (bs' := 63) dX5_init_102 rc0 wk_254 wk_256 wk_121 (by decide) rfl rfl (lP (by decide +kernel)) (by decide) rfl rfl (sP (by decide +kernel)) rfl ?_
  refine e_dup dX5_init_105 rfl ?_
  refine e_callIN (M' := mX0_init) [] rfl rfl dX5_init_106 rfl wmX5_52 imX0_init lkX0_init (Nat.le_of_ble_eq_true rfl) (nX0_init_129.mono (by decide)) (by decide) (by decide) (fun r S' v' hp => ?_)
  obtain ⟨rfl, rfl, rfl⟩ := hp
  refine ⟨rfl, ?_⟩
  refine e_aastJ (j := 8) dX5_init_109 (kP (kd := .inl (12, .object "RingDrop$Body")) (by decide +kernel)) (kP (kd := .inr 0) (by decide +kernel)) rc0 (by decide) (by decide) (by decide) rfl ?_
  refine e_nameV (v1 := vc_209) rfl ?_
  refine e_iinc (lv' := [(1, .int (9 : Int32)), (0, .ref 98)]) dX5_init_110 rfl (by decide) (by decide) rfl ?_
  refine e_goto (tgt := 88) dX5_init_113 (by decide) ?_
  refine e_iload_n dX5_init_88 rfl ?_
  refine e_aload_n dX5_init_89 rfl ?_
  refine e_get (w := .ref 111) (j := 9) dX5_init_90 (kP (kd := .inr 5) (by decide +kernel)) rc5 (by decide) wfX5_48 (gPr (Or.inr ⟨_, rfl⟩) (by decide +kernel)) ?_
  refine e_alenJ (x := (12 : Int32)) dX5_init_93 (kP (kd := .inl (12, .object "RingDrop$Body")) (by decide +kernel)) (Or.inr (Or.inr rfl)) (by decide) ?_
  refine e_icmp_ge (tgt := 116) dX5_init_94 (by decide) (fun c => absurd c (by decide)) (fun _ => ?_)
  refine e_aload_n dX5_init_97 rfl ?_
  refine e_get (w := .ref 111) (j := 9) dX5_init_98 (kP (kd := .inr 5) (by decide +kernel)) rc5 (by decide) wfX5_48 (gPr (Or.inr ⟨_, rfl⟩) (by decide +kernel)) ?_
  refine e_iload_n dX5_init_101 rfl ?_
  refine e_new (ci := 0) (n := 130) (S' := rP X 131) (v' := vc_210) (bc' := 5) (bs' := 46) dX5_init_102 rc0 wk_254 wk_256 wk_121 (by decide) rfl rfl (lP (by decide +kernel)) (by decide) rfl rfl (sP (by decide +kernel)) rfl ?_
  refine e_dup dX5_init_105 rfl ?_
  refine e_callIN (M' := mX0_init) [] rfl rfl dX5_init_106 rfl wmX5_52 imX0_init lkX0_init (Nat.le_of_ble_eq_true rfl) (nX0_init_131.mono (by decide)) (by decide) (by decide) (fun r S' v' hp => ?_)
  obtain ⟨rfl, rfl, rfl⟩ := hp
  refine ⟨rfl, ?_⟩
  refine e_aastJ (j := 9) dX5_init_109 (kP (kd := .inl (12, .object "RingDrop$Body")) (by decide +kernel)) (kP (kd := .inr 0) (by decide +kernel)) rc0 (by decide) (by decide) (by decide) rfl ?_
  refine e_nameV (v1 := vc_213) rfl ?_
  refine e_iinc (lv' := [(1, .int (10 : Int32)), (0, .ref 98)]) dX5_init_110 rfl (by decide) (by decide) rfl ?_
  refine e_goto (tgt := 88) dX5_init_113 (by decide) ?_
  refine e_iload_n dX5_init_88 rfl ?_
  refine e_aload_n dX5_init_89 rfl ?_
  refine e_get (w := .ref 111) (j := 9) dX5_init_90 (kP (kd := .inr 5) (by decide +kernel)) rc5 (by decide) wfX5_48 (gPr (Or.inr ⟨_, rfl⟩) (by decide +kernel)) ?_
  refine e_alenJ (x := (12 : Int32)) dX5_init_93 (kP (kd := .inl (12, .object "RingDrop$Body")) (by decide +kernel)) (Or.inr (Or.inr rfl)) (by decide) ?_
  refine e_icmp_ge (tgt := 116) dX5_init_94 (by decide) (fun c => absurd c (by decide)) (fun _ => ?_)
  refine e_aload_n dX5_init_97 rfl ?_
  refine e_get (w := .ref 111) (j := 9) dX5_init_98 (kP (kd := .inr 5) (by decide +kernel)) rc5 (by decide) wfX5_48 (gPr (Or.inr ⟨_, rfl⟩) (by decide +kernel)) ?_
  refine e_iload_n dX5_init_101 rfl ?_
  refine e_new (ci := 0) (n := 132) (S' := rP X 133) (v' := vc_214) (bc' := 3) (bs' := 29) dX5_init_102 rc0 wk_254 wk_256 wk_121 (by decide) rfl rfl (lP (by decide +kernel)) (by decide) rfl rfl (sP (by decide +kernel)) rfl ?_
  refine e_dup dX5_init_105 rfl ?_
  refine e_callIN (M' := mX0_init) [] rfl rfl dX5_init_106 rfl wmX5_52 imX0_init lkX0_init (Nat.le_of_ble_eq_true rfl) (nX0_init_133.mono (by decide)) (by decide) (by decide) (fun r S' v' hp => ?_)
  obtain ⟨rfl, rfl, rfl⟩ := hp
  refine ⟨rfl, ?_⟩
  refine e_aastJ (j := 10) dX5_init_109 (kP (kd := .inl (12, .object "RingDrop$Body")) (by decide +kernel)) (kP (kd := .inr 0) (by decide +kernel)) rc0 (by decide) (by decide) (by decide) rfl ?_
  refine e_nameV (v1 := vc_217) rfl ?_
  refine e_iinc (lv' := [(1, .int (11 : Int32)), (0, .ref 98)]) dX5_init_110 rfl (by decide) (by decide) rfl ?_
  refine e_goto (tgt := 88) dX5_init_113 (by decide) ?_
  refine e_iload_n dX5_init_88 rfl ?_
  refine e_aload_n dX5_init_89 rfl ?_
  refine e_get (w := .ref 111) (j := 9) dX5_init_90 (kP (kd := .inr 5) (by decide +kernel)) rc5 (by decide) wfX5_48 (gPr (Or.inr ⟨_, rfl⟩) (by decide +kernel)) ?_
  refine e_alenJ (x := (12 : Int32)) dX5_init_93 (kP (kd := .inl (12, .object "RingDrop$Body")) (by decide +kernel)) (Or.inr (Or.inr rfl)) (by decide) ?_
  refine e_icmp_ge (tgt := 116) dX5_init_94 (by decide) (fun c => absurd c (by decide)) (fun _ => ?_)
  refine e_aload_n dX5_init_97 rfl ?_
  refine e_get (w := .ref 111) (j := 9) dX5_init_98 (kP (kd := .inr 5) (by decide +kernel)) rc5 (by decide) wfX5_48 (gPr (Or.inr ⟨_, rfl⟩) (by decide +kernel)) ?_
  refine e_iload_n dX5_init_101 rfl ?_
  refine e_new (ci := 0) (n := 134) (S' := rP X 135) (v' := vc_218) (bc' := 1) (bs' := 12) dX5_init_102 rc0 wk_254 wk_256 wk_121 (by decide) rfl rfl (lP (by decide +kernel)) (by decide) rfl rfl (sP (by decide +kernel)) rfl ?_
  refine e_dup dX5_init_105 rfl ?_
  refine e_callIN (M' := mX0_init) [] rfl rfl dX5_init_106 rfl wmX5_52 imX0_init lkX0_init (Nat.le_of_ble_eq_true rfl) (nX0_init_135.mono (by decide)) (by decide) (by decide) (fun r S' v' hp => ?_)
  obtain ⟨rfl, rfl, rfl⟩ := hp
  refine ⟨rfl, ?_⟩
  refine e_aastJ (j := 11) dX5_init_109 (kP (kd := .inl (12, .object "RingDrop$Body")) (by decide +kernel)) (kP (kd := .inr 0) (by decide +kernel)) rc0 (by decide) (by decide) (by decide) rfl ?_
  refine e_nameV (v1 := vc_221) rfl ?_
  refine e_iinc (lv' := [(1, .int (12 : Int32)), (0, .ref 98)]) dX5_init_110 rfl (by decide) (by decide) rfl ?_
  refine e_goto (tgt := 88) dX5_init_113 (by decide) ?_
  refine e_iload_n dX5_init_88 rfl ?_
  refine e_aload_n dX5_init_89 rfl ?_
  refine e_get (w := .ref 111) (j := 9) dX5_init_90 (kP (kd := .inr 5) (by decide +kernel)) rc5 (by decide) wfX5_48 (gPr (Or.inr ⟨_, rfl⟩) (by decide +kernel)) ?_
  refine e_alenJ (x := (12 : Int32)) dX5_init_93 (kP (kd := .inl (12, .object "RingDrop$Body")) (by decide +kernel)) (Or.inr (Or.inr rfl)) (by decide) ?_
  refine e_icmp_ge (tgt := 116) dX5_init_94 (by decide) (fun _ => ?_) (fun c => absurd (by decide) c)
  exact e_ret dX5_init_116 rfl ⟨rfl, rfl, rfl⟩
set_option maxRecDepth 20000 in
theorem nX0_init_151 {X : Nat × (Nat → Int32)} : EvM mX0_init 1 1 12 [.ref 150] (rP X 151) vc_242 (fun o S' v' => o = none ∧ S' = rP X 152 ∧ v' = vc_244) := by
  refine evm_of (by decide +kernel) (fun G => Nat.le_of_ble_eq_true rfl) ?_
  show Ev mX0_init 1 1 12 0 [(0, .ref 150)] [] (rP X 151) vc_242 _
  refine e_aload_n dX0_init_0 rfl ?_
  refine e_objinit dX0_init_1 wmX0_3 wobjim wobjcode (Nat.le_of_ble_eq_true rfl) (by decide) ?_
  refine e_aload_n dX0_init_4 rfl ?_
  refine e_bipush (x := (12 : Int32)) dX0_init_5 (by decide) ?_
  refine e_newa (N := 12) (ty := .int) (n := 151) (S' := rP X 152) (v' := vc_243) (bc' := 0) (bs' := 0) rfl (Or.inl rfl) dX0_init_7 wk_157 rfl rfl (lP (by decide +kernel)) (by decide) (by decide) (by decide) (Nat.le_of_ble_eq_true rfl) rfl rfl (sP (by decide +kernel)) rfl ?_
  refine e_putR (j := 0) dX0_init_9 (kP (kd := .inr 0) (by decide +kernel)) rc0 (by decide) wfX0_9 (Or.inr ⟨rfl, rfl, rfl⟩) (Or.inr ⟨_, rfl⟩) rfl ?_
  refine e_nameV (v1 := vc_244) rfl ?_
  exact e_ret dX0_init_12 rfl ⟨rfl, rfl, rfl⟩
set_option maxRecDepth 20000 in
theorem nX0_init_153 {X : Nat × (Nat → Int32)} : EvM mX0_init 1 1 12 [.ref 152] (rP X 153) vc_246 (fun o S' v' => o = none ∧ S' = rP X 154 ∧ v' = vc_248) := by
  refine evm_of (by decide +kernel) (fun G => Nat.le_of_ble_eq_true rfl) ?_
  show Ev mX0_init 1 1 12 0 [(0, .ref 152)] [] (rP X 153) vc_246 _
  refine e_aload_n dX0_init_0 rfl ?_
  refine e_objinit dX0_init_1 wmX0_3 wobjim wobjcode (Nat.le_of_ble_eq_true rfl) (by decide) ?_
  refine e_aload_n dX0_init_4 rfl ?_
  refine e_bipush (x := (12 : Int32)) dX0_init_5 (by decide) ?_
  refine e_newa (N := 12) (ty := .int) (n := 153) (S' := rP X 154) (v' := vc_247) (bc' := 0) (bs' := 0) rfl (Or.inl rfl) dX0_init_7 wk_157 rfl rfl (lP (by decide +kernel)) (by decide) (by decide) (by decide) (Nat.le_of_ble_eq_true rfl) rfl rfl (sP (by decide +kernel)) rfl ?_
  refine e_putR (j := 0) dX0_init_9 (kP (kd := .inr 0) (by decide +kernel)) rc0 (by decide) wfX0_9 (Or.inr ⟨rfl, rfl, rfl⟩) (Or.inr ⟨_, rfl⟩) rfl ?_
  refine e_nameV (v1 := vc_248) rfl ?_
  exact e_ret dX0_init_12 rfl ⟨rfl, rfl, rfl⟩
set_option maxRecDepth 20000 in
theorem nX0_init_155 {X : Nat × (Nat → Int32)} : EvM mX0_init 1 1 12 [.ref 154] (rP X 155) vc_250 (fun o S' v' => o = none ∧ S' = rP X 156 ∧ v' = vc_252) := by
  refine evm_of (by decide +kernel) (fun G => Nat.le_of_ble_eq_true rfl) ?_
  show Ev mX0_init 1 1 12 0 [(0, .ref 154)] [] (rP X 155) vc_250 _
  refine e_aload_n dX0_init_0 rfl ?_
  refine e_objinit dX0_init_1 wmX0_3 wobjim wobjcode (Nat.le_of_ble_eq_true rfl) (by decide) ?_
  refine e_aload_n dX0_init_4 rfl ?_
  refine e_bipush (x := (12 : Int32)) dX0_init_5 (by decide) ?_
  refine e_newa (N := 12) (ty := .int) (n := 155) (S' := rP X 156) (v' := vc_251) (bc' := 0) (bs' := 0) rfl (Or.inl rfl) dX0_init_7 wk_157 rfl rfl (lP (by decide +kernel)) (by decide) (by decide) (by decide) (Nat.le_of_ble_eq_true rfl) rfl rfl (sP (by decide +kernel)) rfl ?_
  refine e_putR (j := 0) dX0_init_9 (kP (kd := .inr 0) (by decide +kernel)) rc0 (by decide) wfX0_9 (Or.inr ⟨rfl, rfl, rfl⟩) (Or.inr ⟨_, rfl⟩) rfl ?_
  refine e_nameV (v1 := vc_252) rfl ?_
  exact e_ret dX0_init_12 rfl ⟨rfl, rfl, rfl⟩
set_option maxRecDepth 20000 in
theorem nX0_init_157 {X : Nat × (Nat → Int32)} : EvM mX0_init 1 1 12 [.ref 156] (rP X 157) vc_254 (fun o S' v' => o = none ∧ S' = rP X 158 ∧ v' = vc_256) := by
  refine evm_of (by decide +kernel) (fun G => Nat.le_of_ble_eq_true rfl) ?_
  show Ev mX0_init 1 1 12 0 [(0, .ref 156)] [] (rP X 157) vc_254 _
  refine e_aload_n dX0_init_0 rfl ?_
  refine e_objinit dX0_init_1 wmX0_3 wobjim wobjcode (Nat.le_of_ble_eq_true rfl) (by decide) ?_
  refine e_aload_n dX0_init_4 rfl ?_
  refine e_bipush (x := (12 : Int32)) dX0_init_5 (by decide) ?_
  refine e_newa (N := 12) (ty := .int) (n := 157) (S' := rP X 158) (v' := vc_255) (bc' := 0) (bs' := 0) rfl (Or.inl rfl) dX0_init_7 wk_157 rfl rfl (lP (by decide +kernel)) (by decide) (by decide) (by decide) (Nat.le_of_ble_eq_true rfl) rfl rfl (sP (by decide +kernel)) rfl ?_
  refine e_putR (j := 0) dX0_init_9 (kP (kd := .inr 0) (by decide +kernel)) rc0 (by decide) wfX0_9 (Or.inr ⟨rfl, rfl, rfl⟩) (Or.inr ⟨_, rfl⟩) rfl ?_
  refine e_nameV (v1 := vc_256) rfl ?_
  exact e_ret dX0_init_12 rfl ⟨rfl, rfl, rfl⟩
set_option maxRecDepth 20000 in
theorem nX0_init_159 {X : Nat × (Nat → Int32)} : EvM mX0_init 1 1 12 [.ref 158] (rP X 159) vc_258 (fun o S' v' => o = none ∧ S' = rP X 160 ∧ v' = vc_260) := by
  refine evm_of (by decide +kernel) (fun G => Nat.le_of_ble_eq_true rfl) ?_
  show Ev mX0_init 1 1 12 0 [(0, .ref 158)] [] (rP X 159) vc_258 _
  refine e_aload_n dX0_init_0 rfl ?_
  refine e_objinit dX0_init_1 wmX0_3 wobjim wobjcode (Nat.le_of_ble_eq_true rfl) (by decide) ?_
  refine e_aload_n dX0_init_4 rfl ?_
  refine e_bipush (x := (12 : Int32)) dX0_init_5 (by decide) ?_
  refine e_newa (N := 12) (ty := .int) (n := 159) (S' := rP X 160) (v' := vc_259) (bc' := 0) (bs' := 0) rfl (Or.inl rfl) dX0_init_7 wk_157 rfl rfl (lP (by decide +kernel)) (by decide) (by decide) (by decide) (Nat.le_of_ble_eq_true rfl) rfl rfl (sP (by decide +kernel)) rfl ?_
  refine e_putR (j := 0) dX0_init_9 (kP (kd := .inr 0) (by decide +kernel)) rc0 (by decide) wfX0_9 (Or.inr ⟨rfl, rfl, rfl⟩) (Or.inr ⟨_, rfl⟩) rfl ?_
  refine e_nameV (v1 := vc_260) rfl ?_
  exact e_ret dX0_init_12 rfl ⟨rfl, rfl, rfl⟩
set_option maxRecDepth 20000 in
theorem nX0_init_161 {X : Nat × (Nat → Int32)} : EvM mX0_init 1 1 12 [.ref 160] (rP X 161) vc_262 (fun o S' v' => o = none ∧ S' = rP X 162 ∧ v' = vc_264) := by
  refine evm_of (by decide +kernel) (fun G => Nat.le_of_ble_eq_true rfl) ?_
  show Ev mX0_init 1 1 12 0 [(0, .ref 160)] [] (rP X 161) vc_262 _
  refine e_aload_n dX0_init_0 rfl ?_
  refine e_objinit dX0_init_1 wmX0_3 wobjim wobjcode (Nat.le_of_ble_eq_true rfl) (by decide) ?_
  refine e_aload_n dX0_init_4 rfl ?_
  refine e_bipush (x := (12 : Int32)) dX0_init_5 (by decide) ?_
  refine e_newa (N := 12) (ty := .int) (n := 161) (S' := rP X 162) (v' := vc_263) (bc' := 0) (bs' := 0) rfl (Or.inl rfl) dX0_init_7 wk_157 rfl rfl (lP (by decide +kernel)) (by decide) (by decide) (by decide) (Nat.le_of_ble_eq_true rfl) rfl rfl (sP (by decide +kernel)) rfl ?_
  refine e_putR (j := 0) dX0_init_9 (kP (kd := .inr 0) (by decide +kernel)) rc0 (by decide) wfX0_9 (Or.inr ⟨rfl, rfl, rfl⟩) (Or.inr ⟨_, rfl⟩) rfl ?_
  refine e_nameV (v1 := vc_264) rfl ?_
  exact e_ret dX0_init_12 rfl ⟨rfl, rfl, rfl⟩
set_option maxRecDepth 20000 in
theorem nX0_init_163 {X : Nat × (Nat → Int32)} : EvM mX0_init 1 1 12 [.ref 162] (rP X 163) vc_266 (fun o S' v' => o = none ∧ S' = rP X 164 ∧ v' = vc_268) := by
  refine evm_of (by decide +kernel) (fun G => Nat.le_of_ble_eq_true rfl) ?_
  show Ev mX0_init 1 1 12 0 [(0, .ref 162)] [] (rP X 163) vc_266 _
  refine e_aload_n dX0_init_0 rfl ?_
  refine e_objinit dX0_init_1 wmX0_3 wobjim wobjcode (Nat.le_of_ble_eq_true rfl) (by decide) ?_
  refine e_aload_n dX0_init_4 rfl ?_
  refine e_bipush (x := (12 : Int32)) dX0_init_5 (by decide) ?_
  refine e_newa (N := 12) (ty := .int) (n := 163) (S' := rP X 164) (v' := vc_267) (bc' := 0) (bs' := 0) rfl (Or.inl rfl) dX0_init_7 wk_157 rfl rfl (lP (by decide +kernel)) (by decide) (by decide) (by decide) (Nat.le_of_ble_eq_true rfl) rfl rfl (sP (by decide +kernel)) rfl ?_
  refine e_putR (j := 0) dX0_init_9 (kP (kd := .inr 0) (by decide +kernel)) rc0 (by decide) wfX0_9 (Or.inr ⟨rfl, rfl, rfl⟩) (Or.inr ⟨_, rfl⟩) rfl ?_
  refine e_nameV (v1 := vc_268) rfl ?_
  exact e_ret dX0_init_12 rfl ⟨rfl, rfl, rfl⟩
set_option maxRecDepth 20000 in
theorem nX0_init_165 {X : Nat × (Nat → Int32)} : EvM mX0_init 1 1 12 [.ref 164] (rP X 165) vc_270 (fun o S' v' => o = none ∧ S' = rP X 166 ∧ v' = vc_272) := by
  refine evm_of (by decide +kernel) (fun G => Nat.le_of_ble_eq_true rfl) ?_
  show Ev mX0_init 1 1 12 0 [(0, .ref 164)] [] (rP X 165) vc_270 _
  refine e_aload_n dX0_init_0 rfl ?_
  refine e_objinit dX0_init_1 wmX0_3 wobjim wobjcode (Nat.le_of_ble_eq_true rfl) (by decide) ?_
  refine e_aload_n dX0_init_4 rfl ?_
  refine e_bipush (x := (12 : Int32)) dX0_init_5 (by decide) ?_
  refine e_newa (N := 12) (ty := .int) (n := 165) (S' := rP X 166) (v' := vc_271) (bc' := 0) (bs' := 0) rfl (Or.inl rfl) dX0_init_7 wk_157 rfl rfl (lP (by decide +kernel)) (by decide) (by decide) (by decide) (Nat.le_of_ble_eq_true rfl) rfl rfl (sP (by decide +kernel)) rfl ?_
  refine e_putR (j := 0) dX0_init_9 (kP (kd := .inr 0) (by decide +kernel)) rc0 (by decide) wfX0_9 (Or.inr ⟨rfl, rfl, rfl⟩) (Or.inr ⟨_, rfl⟩) rfl ?_
  refine e_nameV (v1 := vc_272) rfl ?_
  exact e_ret dX0_init_12 rfl ⟨rfl, rfl, rfl⟩
set_option maxRecDepth 20000 in
theorem nX0_init_167 {X : Nat × (Nat → Int32)} : EvM mX0_init 1 1 12 [.ref 166] (rP X 167) vc_274 (fun o S' v' => o = none ∧ S' = rP X 168 ∧ v' = vc_276) := by
  refine evm_of (by decide +kernel) (fun G => Nat.le_of_ble_eq_true rfl) ?_
  show Ev mX0_init 1 1 12 0 [(0, .ref 166)] [] (rP X 167) vc_274 _
  refine e_aload_n dX0_init_0 rfl ?_
  refine e_objinit dX0_init_1 wmX0_3 wobjim wobjcode (Nat.le_of_ble_eq_true rfl) (by decide) ?_
  refine e_aload_n dX0_init_4 rfl ?_
  refine e_bipush (x := (12 : Int32)) dX0_init_5 (by decide) ?_
  refine e_newa (N := 12) (ty := .int) (n := 167) (S' := rP X 168) (v' := vc_275) (bc' := 0) (bs' := 0) rfl (Or.inl rfl) dX0_init_7 wk_157 rfl rfl (lP (by decide +kernel)) (by decide) (by decide) (by decide) (Nat.le_of_ble_eq_true rfl) rfl rfl (sP (by decide +kernel)) rfl ?_
  refine e_putR (j := 0) dX0_init_9 (kP (kd := .inr 0) (by decide +kernel)) rc0 (by decide) wfX0_9 (Or.inr ⟨rfl, rfl, rfl⟩) (Or.inr ⟨_, rfl⟩) rfl ?_
  refine e_nameV (v1 := vc_276) rfl ?_
  exact e_ret dX0_init_12 rfl ⟨rfl, rfl, rfl⟩
set_option maxRecDepth 20000 in
theorem nX0_init_169 {X : Nat × (Nat → Int32)} : EvM mX0_init 1 1 12 [.ref 168] (rP X 169) vc_278 (fun o S' v' => o = none ∧ S' = rP X 170 ∧ v' = vc_280) := by
  refine evm_of (by decide +kernel) (fun G => Nat.le_of_ble_eq_true rfl) ?_
  show Ev mX0_init 1 1 12 0 [(0, .ref 168)] [] (rP X 169) vc_278 _
  refine e_aload_n dX0_init_0 rfl ?_
  refine e_objinit dX0_init_1 wmX0_3 wobjim wobjcode (Nat.le_of_ble_eq_true rfl) (by decide) ?_
  refine e_aload_n dX0_init_4 rfl ?_
  refine e_bipush (x := (12 : Int32)) dX0_init_5 (by decide) ?_
  refine e_newa (N := 12) (ty := .int) (n := 169) (S' := rP X 170) (v' := vc_279) (bc' := 0) (bs' := 0) rfl (Or.inl rfl) dX0_init_7 wk_157 rfl rfl (lP (by decide +kernel)) (by decide) (by decide) (by decide) (Nat.le_of_ble_eq_true rfl) rfl rfl (sP (by decide +kernel)) rfl ?_
  refine e_putR (j := 0) dX0_init_9 (kP (kd := .inr 0) (by decide +kernel)) rc0 (by decide) wfX0_9 (Or.inr ⟨rfl, rfl, rfl⟩) (Or.inr ⟨_, rfl⟩) rfl ?_
  refine e_nameV (v1 := vc_280) rfl ?_
  exact e_ret dX0_init_12 rfl ⟨rfl, rfl, rfl⟩
set_option maxRecDepth 20000 in
theorem nX0_init_171 {X : Nat × (Nat → Int32)} : EvM mX0_init 1 1 12 [.ref 170] (rP X 171) vc_282 (fun o S' v' => o = none ∧ S' = rP X 172 ∧ v' = vc_284) := by
  refine evm_of (by decide +kernel) (fun G => Nat.le_of_ble_eq_true rfl) ?_
  show Ev mX0_init 1 1 12 0 [(0, .ref 170)] [] (rP X 171) vc_282 _
  refine e_aload_n dX0_init_0 rfl ?_
  refine e_objinit dX0_init_1 wmX0_3 wobjim wobjcode (Nat.le_of_ble_eq_true rfl) (by decide) ?_
  refine e_aload_n dX0_init_4 rfl ?_
  refine e_bipush (x := (12 : Int32)) dX0_init_5 (by decide) ?_
  refine e_newa (N := 12) (ty := .int) (n := 171) (S' := rP X 172) (v' := vc_283) (bc' := 0) (bs' := 0) rfl (Or.inl rfl) dX0_init_7 wk_157 rfl rfl (lP (by decide +kernel)) (by decide) (by decide) (by decide) (Nat.le_of_ble_eq_true rfl) rfl rfl (sP (by decide +kernel)) rfl ?_
  refine e_putR (j := 0) dX0_init_9 (kP (kd := .inr 0) (by decide +kernel)) rc0 (by decide) wfX0_9 (Or.inr ⟨rfl, rfl, rfl⟩) (Or.inr ⟨_, rfl⟩) rfl ?_
  refine e_nameV (v1 := vc_284) rfl ?_
  exact e_ret dX0_init_12 rfl ⟨rfl, rfl, rfl⟩
set_option maxRecDepth 20000 in
theorem nX0_init_173 {X : Nat × (Nat → Int32)} : EvM mX0_init 1 1 12 [.ref 172] (rP X 173) vc_286 (fun o S' v' => o = none ∧ S' = rP X 174 ∧ v' = vc_288) := by
  refine evm_of (by decide +kernel) (fun G => Nat.le_of_ble_eq_true rfl) ?_
  show Ev mX0_init 1 1 12 0 [(0, .ref 172)] [] (rP X 173) vc_286 _
  refine e_aload_n dX0_init_0 rfl ?_
  refine e_objinit dX0_init_1 wmX0_3 wobjim wobjcode (Nat.le_of_ble_eq_true rfl) (by decide) ?_
  refine e_aload_n dX0_init_4 rfl ?_
  refine e_bipush (x := (12 : Int32)) dX0_init_5 (by decide) ?_
  refine e_newa (N := 12) (ty := .int) (n := 173) (S' := rP X 174) (v' := vc_287) (bc' := 0) (bs' := 0) rfl (Or.inl rfl) dX0_init_7 wk_157 rfl rfl (lP (by decide +kernel)) (by decide) (by decide) (by decide) (Nat.le_of_ble_eq_true rfl) rfl rfl (sP (by decide +kernel)) rfl ?_
  refine e_putR (j := 0) dX0_init_9 (kP (kd := .inr 0) (by decide +kernel)) rc0 (by decide) wfX0_9 (Or.inr ⟨rfl, rfl, rfl⟩) (Or.inr ⟨_, rfl⟩) rfl ?_
  refine e_nameV (v1 := vc_288) rfl ?_
  exact e_ret dX0_init_12 rfl ⟨rfl, rfl, rfl⟩
set_option maxRecDepth 20000 in
theorem nX5_init_137 {X : Nat × (Nat → Int32)} : EvM mX5_init 10 37 539 [.ref 136] (rP X 137) vc_223 (fun o S' v' => o = none ∧ S' = rP X 174 ∧ v' = vc_289) := by
  refine evm_of (by decide +kernel) (fun G => Nat.le_of_ble_eq_true rfl) ?_
  show Ev mX5_init 10 37 539 0 [(0, .ref 136)] [] (rP X 137) vc_223 _
  refine e_aload_n dX5_init_0 rfl ?_
  refine e_objinit dX5_init_1 wmX5_3 wobjim wobjcode (Nat.le_of_ble_eq_true rfl) (by decide) ?_
  refine e_aload_n dX5_init_4 rfl ?_
  refine e_bipush (x := (24 : Int32)) dX5_init_5 (by decide) ?_
  refine e_newa (N := 24) (ty := .int) (n := 137) (S' := rP X 138) (v' := vc_224) (bc' := 36) (bs' := 515) rfl (Or.inl rfl) dX5_init_7 wk_157 rfl rfl (lP (by decide +kernel)) (by decide) (by decide) (by decide) (Nat.le_of_ble_eq_true rfl) rfl rfl (sP (by decide +kernel)) rfl ?_
  refine e_putR (j := 0) dX5_init_9 (kP (kd := .inr 5) (by decide +kernel)) rc5 (by decide) wfX5_9 (Or.inr ⟨rfl, rfl, rfl⟩) (Or.inr ⟨_, rfl⟩) rfl ?_
  refine e_nameV (v1 := vc_225) rfl ?_
  refine e_aload_n dX5_init_12 rfl ?_
  refine e_bipush (x := (24 : Int32)) dX5_init_13 (by decide) ?_
  refine e_newa (N := 24) (ty := .int) (n := 138) (S' := rP X 139) (v' := vc_226) (bc' := 35) (bs' := 491) rfl (Or.inl rfl) dX5_init_15 wk_157 rfl rfl (lP (by decide +kernel)) (by decide) (by decide) (by decide) (Nat.le_of_ble_eq_true rfl) rfl rfl (sP (by decide +kernel)) rfl ?_
  refine e_putR (j := 1) dX5_init_17 (kP (kd := .inr 5) (by decide +kernel)) rc5 (by decide) wfX5_15 (Or.inr ⟨rfl, rfl, rfl⟩) (Or.inr ⟨_, rfl⟩) rfl ?_
  refine e_nameV (v1 := vc_227) rfl ?_
  refine e_aload_n dX5_init_20 rfl ?_
  refine e_ldcS1 dX5_init_21 rfl ?_
  refine e_strlenJ (i := 0) (x := (7 : Int32)) (by decide) dX5_init_23 wmX5_20 (by decide) (Nat.le_of_ble_eq_true rfl) (by decide) ?_
  refine e_newa (N := 7) (ty := .int) (n := 139) (S' := rP X 140) (v' := vc_228) (bc' := 34) (bs' := 484) rfl (Or.inl rfl) dX5_init_26 wk_157 rfl rfl (lP (by decide +kernel)) (by decide) (by decide) (by decide) (Nat.le_of_ble_eq_true rfl) rfl rfl (sP (by decide +kernel)) rfl ?_
  refine e_putR (j := 2) dX5_init_28 (kP (kd := .inr 5) (by decide +kernel)) rc5 (by decide) wfX5_26 (Or.inr ⟨rfl, rfl, rfl⟩) (Or.inr ⟨_, rfl⟩) rfl ?_
  refine e_nameV (v1 := vc_229) rfl ?_
  refine e_aload_n dX5_init_31 rfl ?_
  refine e_iconst (x := (2 : Int32)) dX5_init_32 (by decide) ?_
  refine e_bipush (x := (24 : Int32)) dX5_init_33 (by decide) ?_
  refine e_mnew (N := 2) (K := 24) (n := 140) (S' := rP X 143) (v' := vc_230) (bc' := 31) (bs' := 434) dX5_init_35 wk_253 wk_157 rfl rfl (lP (by decide +kernel)) (by decide) (by decide) (by decide) (by decide) (by decide) (Nat.le_of_ble_eq_true rfl) (Nat.le_of_ble_eq_true rfl) rfl rfl (sP (by decide +kernel)) rfl ?_
  refine e_putR (j := 4) dX5_init_39 (kP (kd := .inr 5) (by decide +kernel)) rc5 (by decide) wfX5_31 (Or.inr ⟨rfl, rfl, rfl⟩) (Or.inr ⟨_, rfl⟩) rfl ?_
  refine e_nameV (v1 := vc_231) rfl ?_
  refine e_aload_n dX5_init_42 rfl ?_
  refine e_iconst (x := (2 : Int32)) dX5_init_43 (by decide) ?_
  refine e_bipush (x := (24 : Int32)) dX5_init_44 (by decide) ?_
  refine e_mnew (N := 2) (K := 24) (n := 143) (S' := rP X 146) (v' := vc_232) (bc' := 28) (bs' := 384) dX5_init_46 wk_253 wk_157 rfl rfl (lP (by decide +kernel)) (by decide) (by decide) (by decide) (by decide) (by decide) (Nat.le_of_ble_eq_true rfl) (Nat.le_of_ble_eq_true rfl) rfl rfl (sP (by decide +kernel)) rfl ?_
  refine e_putR (j := 5) dX5_init_50 (kP (kd := .inr 5) (by decide +kernel)) rc5 (by decide) wfX5_34 (Or.inr ⟨rfl, rfl, rfl⟩) (Or.inr ⟨_, rfl⟩) rfl ?_
  refine e_nameV (v1 := vc_233) rfl ?_
  refine e_aload_n dX5_init_53 rfl ?_
  refine e_bipush (x := (24 : Int32)) dX5_init_54 (by decide) ?_
  refine e_newa (N := 24) (ty := .int) (n := 146) (S' := rP X 147) (v' := vc_234) (bc' := 27) (bs' := 360) rfl (Or.inl rfl) dX5_init_56 wk_157 rfl rfl (lP (by decide +kernel)) (by decide) (by decide) (by decide) (Nat.le_of_ble_eq_true rfl) rfl rfl (sP (by decide +kernel)) rfl ?_
  refine e_putR (j := 6) dX5_init_58 (kP (kd := .inr 5) (by decide +kernel)) rc5 (by decide) wfX5_37 (Or.inr ⟨rfl, rfl, rfl⟩) (Or.inr ⟨_, rfl⟩) rfl ?_
  refine e_nameV (v1 := vc_235) rfl ?_
  refine e_aload_n dX5_init_61 rfl ?_
  refine e_bipush (x := (24 : Int32)) dX5_init_62 (by decide) ?_
  refine e_newa (N := 24) (ty := .int) (n := 147) (S' := rP X 148) (v' := vc_236) (bc' := 26) (bs' := 336) rfl (Or.inl rfl) dX5_init_64 wk_157 rfl rfl (lP (by decide +kernel)) (by decide) (by decide) (by decide) (Nat.le_of_ble_eq_true rfl) rfl rfl (sP (by decide +kernel)) rfl ?_
  refine e_putR (j := 7) dX5_init_66 (kP (kd := .inr 5) (by decide +kernel)) rc5 (by decide) wfX5_40 (Or.inr ⟨rfl, rfl, rfl⟩) (Or.inr ⟨_, rfl⟩) rfl ?_
  refine e_nameV (v1 := vc_237) rfl ?_
  refine e_aload_n dX5_init_69 rfl ?_
  refine e_bipush (x := (120 : Int32)) dX5_init_70 (by decide) ?_
  refine e_newa (N := 120) (ty := .int) (n := 148) (S' := rP X 149) (v' := vc_238) (bc' := 25) (bs' := 216) rfl (Or.inl rfl) dX5_init_72 wk_157 rfl rfl (lP (by decide +kernel)) (by decide) (by decide) (by decide) (Nat.le_of_ble_eq_true rfl) rfl rfl (sP (by decide +kernel)) rfl ?_
  refine e_putR (j := 8) dX5_init_74 (kP (kd := .inr 5) (by decide +kernel)) rc5 (by decide) wfX5_43 (Or.inr ⟨rfl, rfl, rfl⟩) (Or.inr ⟨_, rfl⟩) rfl ?_
  refine e_nameV (v1 := vc_239) rfl ?_
  refine e_aload_n dX5_init_77 rfl ?_
  refine e_bipush (x := (12 : Int32)) dX5_init_78 (by decide) ?_
  refine e_anew (N := 12) (n := 149) (S' := rP X 150) (v' := vc_240) (bc' := 24) (bs' := 204) dX5_init_80 wk_254 (Or.inr rfl) rfl rfl (lP (by decide +kernel)) (by decide) (by decide) (by decide) (Nat.le_of_ble_eq_true rfl) rfl rfl (sP (by decide +kernel)) rfl ?_
  refine e_putR (j := 9) dX5_init_83 (kP (kd := .inr 5) (by decide +kernel)) rc5 (by decide) wfX5_48 (Or.inr ⟨rfl, rfl, rfl⟩) (Or.inr ⟨_, rfl⟩) rfl ?_
  refine e_nameV (v1 := vc_241) rfl ?_
  refine e_iconst (x := (0 : Int32)) dX5_init_86 (by decide) ?_
  refine e_istore_n (lv' := [(1, .int (0 : Int32)), (0, .ref 136)]) dX5_init_87 (by decide) rfl ?_
  refine e_iload_n dX5_init_88 rfl ?_
  refine e_aload_n dX5_init_89 rfl ?_
  refine e_get (w := .ref 149) (j := 9) dX5_init_90 (kP (kd := .inr 5) (by decide +kernel)) rc5 (by decide) wfX5_48 (gPr (Or.inr ⟨_, rfl⟩) (by decide +kernel)) ?_
  refine e_alenJ (x := (12 : Int32)) dX5_init_93 (kP (kd := .inl (12, .object "RingDrop$Body")) (by decide +kernel)) (Or.inr (Or.inr rfl)) (by decide) ?_
  refine e_icmp_ge (tgt := 116) dX5_init_94 (by decide) (fun c => absurd c (by decide)) (fun _ => ?_)
  refine e_aload_n dX5_init_97 rfl ?_
  refine e_get (w := .ref 149) (j := 9) dX5_init_98 (kP (kd := .inr 5) (by decide +kernel)) rc5 (by decide) wfX5_48 (gPr (Or.inr ⟨_, rfl⟩) (by decide +kernel)) ?_
  refine e_iload_n dX5_init_101 rfl ?_
  refine e_new (ci := 0) (n := 150) (S' := rP X 151) (v' := vc_242) (bc' := 23) (bs' := 199) dX5_init_102 rc0 wk_254 wk_256 wk_121 (by decide) rfl rfl (lP (by decide +kernel)) (by decide) rfl rfl (sP (by decide +kernel)) rfl ?_
  refine e_dup dX5_init_105 rfl ?_
  refine e_callIN (M' := mX0_init) [] rfl rfl dX5_init_106 rfl wmX5_52 imX0_init lkX0_init (Nat.le_of_ble_eq_true rfl) (nX0_init_151.mono (by decide)) (by decide) (by decide) (fun r S' v' hp => ?_)
  obtain ⟨rfl, rfl, rfl⟩ := hp
  refine ⟨rfl, ?_⟩
  refine e_aastJ (j := 0) dX5_init_109 (kP (kd := .inl (12, .object "RingDrop$Body")) (by decide +kernel)) (kP (kd := .inr 0) (by decide +kernel)) rc0 (by decide) (by decide) (by decide) rfl ?_
  refine e_nameV (v1 := vc_245) rfl ?_
  refine e_iinc (lv' := [(1, .int (1 : Int32)), (0, .ref 136)]) dX5_init_110 rfl (by decide) (by decide) rfl ?_
  refine e_goto (tgt := 88) dX5_init_113 (by decide) ?_
  refine e_iload_n dX5_init_88 rfl ?_
  refine e_aload_n dX5_init_89 rfl ?_
  refine e_get (w := .ref 149) (j := 9) dX5_init_90 (kP (kd := .inr 5) (by decide +kernel)) rc5 (by decide) wfX5_48 (gPr (Or.inr ⟨_, rfl⟩) (by decide +kernel)) ?_
  refine e_alenJ (x := (12 : Int32)) dX5_init_93 (kP (kd := .inl (12, .object "RingDrop$Body")) (by decide +kernel)) (Or.inr (Or.inr rfl)) (by decide) ?_
  refine e_icmp_ge (tgt := 116) dX5_init_94 (by decide) (fun c => absurd c (by decide)) (fun _ => ?_)
  refine e_aload_n dX5_init_97 rfl ?_
  refine e_get (w := .ref 149) (j := 9) dX5_init_98 (kP (kd := .inr 5) (by decide +kernel)) rc5 (by decide) wfX5_48 (gPr (Or.inr ⟨_, rfl⟩) (by decide +kernel)) ?_
  refine e_iload_n dX5_init_101 rfl ?_
  refine e_new (ci := 0) (n := 152) (S' := rP X 153) (v' := vc_246) (bc' := 21) (bs' := 182) dX5_init_102 rc0 wk_254 wk_256 wk_121 (by decide) rfl rfl (lP (by decide +kernel)) (by decide) rfl rfl (sP (by decide +kernel)) rfl ?_
  refine e_dup dX5_init_105 rfl ?_
  refine e_callIN (M' := mX0_init) [] rfl rfl dX5_init_106 rfl wmX5_52 imX0_init lkX0_init (Nat.le_of_ble_eq_true rfl) (nX0_init_153.mono (by decide)) (by decide) (by decide) (fun r S' v' hp => ?_)
  obtain ⟨rfl, rfl, rfl⟩ := hp
  refine ⟨rfl, ?_⟩
  refine e_aastJ (j := 1) dX5_init_109 (kP (kd := .inl (12, .object "RingDrop$Body")) (by decide +kernel)) (kP (kd := .inr 0) (by decide +kernel)) rc0 (by decide) (by decide) (by decide) rfl ?_
  refine e_nameV (v1 := vc_249) rfl ?_
  refine e_iinc (lv' := [(1, .int (2 : Int32)), (0, .ref 136)]) dX5_init_110 rfl (by decide) (by decide) rfl ?_
  refine e_goto (tgt := 88) dX5_init_113 (by decide) ?_
  refine e_iload_n dX5_init_88 rfl ?_
  refine e_aload_n dX5_init_89 rfl ?_
  refine e_get (w := .ref 149) (j := 9) dX5_init_90 (kP (kd := .inr 5) (by decide +kernel)) rc5 (by decide) wfX5_48 (gPr (Or.inr ⟨_, rfl⟩) (by decide +kernel)) ?_
  refine e_alenJ (x := (12 : Int32)) dX5_init_93 (kP (kd := .inl (12, .object "RingDrop$Body")) (by decide +kernel)) (Or.inr (Or.inr rfl)) (by decide) ?_
  refine e_icmp_ge (tgt := 116) dX5_init_94 (by decide) (fun c => absurd c (by decide)) (fun _ => ?_)
  refine e_aload_n dX5_init_97 rfl ?_
  refine e_get (w := .ref 149) (j := 9) dX5_init_98 (kP (kd := .inr 5) (by decide +kernel)) rc5 (by decide) wfX5_48 (gPr (Or.inr ⟨_, rfl⟩) (by decide +kernel)) ?_
  refine e_iload_n dX5_init_101 rfl ?_
  refine e_new (ci := 0) (n := 154) (S' := rP X 155) (v' := vc_250) (bc' := 19) (bs' := 165) dX5_init_102 rc0 wk_254 wk_256 wk_121 (by decide) rfl rfl (lP (by decide +kernel)) (by decide) rfl rfl (sP (by decide +kernel)) rfl ?_
  refine e_dup dX5_init_105 rfl ?_
  refine e_callIN (M' := mX0_init) [] rfl rfl dX5_init_106 rfl wmX5_52 imX0_init lkX0_init (Nat.le_of_ble_eq_true rfl) (nX0_init_155.mono (by decide)) (by decide) (by decide) (fun r S' v' hp => ?_)
  obtain ⟨rfl, rfl, rfl⟩ := hp
  refine ⟨rfl, ?_⟩
  refine e_aastJ (j := 2) dX5_init_109 (kP (kd := .inl (12, .object "RingDrop$Body")) (by decide +kernel)) (kP (kd := .inr 0) (by decide +kernel)) rc0 (by decide) (by decide) (by decide) rfl ?_
  refine e_nameV (v1 := vc_253) rfl ?_
  refine e_iinc (lv' := [(1, .int (3 : Int32)), (0, .ref 136)]) dX5_init_110 rfl (by decide) (by decide) rfl ?_
  refine e_goto (tgt := 88) dX5_init_113 (by decide) ?_
  refine e_iload_n dX5_init_88 rfl ?_
  refine e_aload_n dX5_init_89 rfl ?_
  refine e_get (w := .ref 149) (j := 9) dX5_init_90 (kP (kd := .inr 5) (by decide +kernel)) rc5 (by decide) wfX5_48 (gPr (Or.inr ⟨_, rfl⟩) (by decide +kernel)) ?_
  refine e_alenJ (x := (12 : Int32)) dX5_init_93 (kP (kd := .inl (12, .object "RingDrop$Body")) (by decide +kernel)) (Or.inr (Or.inr rfl)) (by decide) ?_
  refine e_icmp_ge (tgt := 116) dX5_init_94 (by decide) (fun c => absurd c (by decide)) (fun _ => ?_)
  refine e_aload_n dX5_init_97 rfl ?_
  refine e_get (w := .ref 149) (j := 9) dX5_init_98 (kP (kd := .inr 5) (by decide +kernel)) rc5 (by decide) wfX5_48 (gPr (Or.inr ⟨_, rfl⟩) (by decide +kernel)) ?_
  refine e_iload_n dX5_init_101 rfl ?_
  refine e_new (ci := 0) (n := 156) (S' := rP X 157) (v' := vc_254) (bc' := 17) (bs' := 148) dX5_init_102 rc0 wk_254 wk_256 wk_121 (by decide) rfl rfl (lP (by decide +kernel)) (by decide) rfl rfl (sP (by decide +kernel)) rfl ?_
  refine e_dup dX5_init_105 rfl ?_
  refine e_callIN (M' := mX0_init) [] rfl rfl dX5_init_106 rfl wmX5_52 imX0_init lkX0_init (Nat.le_of_ble_eq_true rfl) (nX0_init_157.mono (by decide)) (by decide) (by decide) (fun r S' v' hp => ?_)
  obtain ⟨rfl, rfl, rfl⟩ := hp
  refine ⟨rfl, ?_⟩
  refine e_aastJ (j := 3) dX5_init_109 (kP (kd := .inl (12, .object "RingDrop$Body")) (by decide +kernel)) (kP (kd := .inr 0) (by decide +kernel)) rc0 (by decide) (by decide) (by decide) rfl ?_
  refine e_nameV (v1 := vc_257) rfl ?_
  refine e_iinc (lv' := [(1, .int (4 : Int32)), (0, .ref 136)]) dX5_init_110 rfl (by decide) (by decide) rfl ?_
  refine e_goto (tgt := 88) dX5_init_113 (by decide) ?_
  refine e_iload_n dX5_init_88 rfl ?_
  refine e_aload_n dX5_init_89 rfl ?_
  refine e_get (w := .ref 149) (j := 9) dX5_init_90 (kP (kd := .inr 5) (by decide +kernel)) rc5 (by decide) wfX5_48 (gPr (Or.inr ⟨_, rfl⟩) (by decide +kernel)) ?_
  refine e_alenJ (x := (12 : Int32)) dX5_init_93 (kP (kd := .inl (12, .object "RingDrop$Body")) (by decide +kernel)) (Or.inr (Or.inr rfl)) (by decide) ?_
  refine e_icmp_ge (tgt := 116) dX5_init_94 (by decide) (fun c => absurd c (by decide)) (fun _ => ?_)
  refine e_aload_n dX5_init_97 rfl ?_
  refine e_get (w := .ref 149) (j := 9) dX5_init_98 (kP (kd := .inr 5) (by decide +kernel)) rc5 (by decide) wfX5_48 (gPr (Or.inr ⟨_, rfl⟩) (by decide +kernel)) ?_
  refine e_iload_n dX5_init_101 rfl ?_
  refine e_new (ci := 0) (n := 158) (S' := rP X 159) (v' := vc_258) (bc' := 15) (bs' := 131) dX5_init_102 rc0 wk_254 wk_256 wk_121 (by decide) rfl rfl (lP (by decide +kernel)) (by decide) rfl rfl (sP (by decide +kernel)) rfl ?_
  refine e_dup dX5_init_105 rfl ?_
  refine e_callIN (M' := mX0_init) [] rfl rfl dX5_init_106 rfl wmX5_52 imX0_init lkX0_init (Nat.le_of_ble_eq_true rfl) (nX0_init_159.mono (by decide)) (by decide) (by decide) (fun r S' v' hp => ?_)
  obtain ⟨rfl, rfl, rfl⟩ := hp
  refine ⟨rfl, ?_⟩
  refine e_aastJ (j := 4) dX5_init_109 (kP (kd := .inl (12, .object "RingDrop$Body")) (by decide +kernel)) (kP (kd := .inr 0) (by decide +kernel)) rc0 (by decide) (by decide) (by decide) rfl ?_
  refine e_nameV (v1 := vc_261) rfl ?_
  refine e_iinc (lv' := [(1, .int (5 : Int32)), (0, .ref 136)]) dX5_init_110 rfl (by decide) (by decide) rfl ?_
  refine e_goto (tgt := 88) dX5_init_113 (by decide) ?_
  refine e_iload_n dX5_init_88 rfl ?_
  refine e_aload_n dX5_init_89 rfl ?_
  refine e_get (w := .ref 149) (j := 9) dX5_init_90 (kP (kd := .inr 5) (by decide +kernel)) rc5 (by decide) wfX5_48 (gPr (Or.inr ⟨_, rfl⟩) (by decide +kernel)) ?_
  refine e_alenJ (x := (12 : Int32)) dX5_init_93 (kP (kd := .inl (12, .object "RingDrop$Body")) (by decide +kernel)) (Or.inr (Or.inr rfl)) (by decide) ?_
  refine e_icmp_ge (tgt := 116) dX5_init_94 (by decide) (fun c => absurd c (by decide)) (fun _ => ?_)
  refine e_aload_n dX5_init_97 rfl ?_
  refine e_get (w := .ref 149) (j := 9) dX5_init_98 (kP (kd := .inr 5) (by decide +kernel)) rc5 (by decide) wfX5_48 (gPr (Or.inr ⟨_, rfl⟩) (by decide +kernel)) ?_
  refine e_iload_n dX5_init_101 rfl ?_
  refine e_new (ci := 0) (n := 160) (S' := rP X 161) (v' := vc_262) (bc' := 13) (bs' := 114) dX5_init_102 rc0 wk_254 wk_256 wk_121 (by decide) rfl rfl (lP (by decide +kernel)) (by decide) rfl rfl (sP (by decide +kernel)) rfl ?_
  refine e_dup dX5_init_105 rfl ?_
  refine e_callIN (M' := mX0_init) [] rfl rfl dX5_init_106 rfl wmX5_52 imX0_init lkX0_init (Nat.le_of_ble_eq_true rfl) (nX0_init_161.mono (by decide)) (by decide) (by decide) (fun r S' v' hp => ?_)
  obtain ⟨rfl, rfl, rfl⟩ := hp
  refine ⟨rfl, ?_⟩
  refine e_aastJ (j := 5) dX5_init_109 (kP (kd := .inl (12, .object "RingDrop$Body")) (by decide +kernel)) (kP (kd := .inr 0) (by decide +kernel)) rc0 (by decide) (by decide) (by decide) rfl ?_
  refine e_nameV (v1 := vc_265) rfl ?_
  refine e_iinc (lv' := [(1, .int (6 : Int32)), (0, .ref 136)]) dX5_init_110 rfl (by decide) (by decide) rfl ?_
  refine e_goto (tgt := 88) dX5_init_113 (by decide) ?_
  refine e_iload_n dX5_init_88 rfl ?_
  refine e_aload_n dX5_init_89 rfl ?_
  refine e_get (w := .ref 149) (j := 9) dX5_init_90 (kP (kd := .inr 5) (by decide +kernel)) rc5 (by decide) wfX5_48 (gPr (Or.inr ⟨_, rfl⟩) (by decide +kernel)) ?_
  refine e_alenJ (x := (12 : Int32)) dX5_init_93 (kP (kd := .inl (12, .object "RingDrop$Body")) (by decide +kernel)) (Or.inr (Or.inr rfl)) (by decide) ?_
  refine e_icmp_ge (tgt := 116) dX5_init_94 (by decide) (fun c => absurd c (by decide)) (fun _ => ?_)
  refine e_aload_n dX5_init_97 rfl ?_
  refine e_get (w := .ref 149) (j := 9) dX5_init_98 (kP (kd := .inr 5) (by decide +kernel)) rc5 (by decide) wfX5_48 (gPr (Or.inr ⟨_, rfl⟩) (by decide +kernel)) ?_
  refine e_iload_n dX5_init_101 rfl ?_
  refine e_new (ci := 0) (n := 162) (S' := rP X 163) (v' := vc_266) (bc' := 11) (bs' := 97) dX5_init_102 rc0 wk_254 wk_256 wk_121 (by decide) rfl rfl (lP (by decide +kernel)) (by decide) rfl rfl (sP (by decide +kernel)) rfl ?_
  refine e_dup dX5_init_105 rfl ?_
  refine e_callIN (M' := mX0_init) [] rfl rfl dX5_init_106 rfl wmX5_52 imX0_init lkX0_init (Nat.le_of_ble_eq_true rfl) (nX0_init_163.mono (by decide)) (by decide) (by decide) (fun r S' v' hp => ?_)
  obtain ⟨rfl, rfl, rfl⟩ := hp
  refine ⟨rfl, ?_⟩
  refine e_aastJ (j := 6) dX5_init_109 (kP (kd := .inl (12, .object "RingDrop$Body")) (by decide +kernel)) (kP (kd := .inr 0) (by decide +kernel)) rc0 (by decide) (by decide) (by decide) rfl ?_
  refine e_nameV (v1 := vc_269) rfl ?_
  refine e_iinc (lv' := [(1, .int (7 : Int32)), (0, .ref 136)]) dX5_init_110 rfl (by decide) (by decide) rfl ?_
  refine e_goto (tgt := 88) dX5_init_113 (by decide) ?_
  refine e_iload_n dX5_init_88 rfl ?_
  refine e_aload_n dX5_init_89 rfl ?_
  refine e_get (w := .ref 149) (j := 9) dX5_init_90 (kP (kd := .inr 5) (by decide +kernel)) rc5 (by decide) wfX5_48 (gPr (Or.inr ⟨_, rfl⟩) (by decide +kernel)) ?_
  refine e_alenJ (x := (12 : Int32)) dX5_init_93 (kP (kd := .inl (12, .object "RingDrop$Body")) (by decide +kernel)) (Or.inr (Or.inr rfl)) (by decide) ?_
  refine e_icmp_ge (tgt := 116) dX5_init_94 (by decide) (fun c => absurd c (by decide)) (fun _ => ?_)
  refine e_aload_n dX5_init_97 rfl ?_
  refine e_get (w := .ref 149) (j := 9) dX5_init_98 (kP (kd := .inr 5) (by decide +kernel)) rc5 (by decide) wfX5_48 (gPr (Or.inr ⟨_, rfl⟩) (by decide +kernel)) ?_
  refine e_iload_n dX5_init_101 rfl ?_
  refine e_new (ci := 0) (n := 164) (S' := rP X 165) (v' := vc_270) (bc' := 9) (bs' := 80) dX5_init_102 rc0 wk_254 wk_256 wk_121 (by decide) rfl rfl (lP (by decide +kernel)) (by decide) rfl rfl (sP (by decide +kernel)) rfl ?_
  refine e_dup dX5_init_105 rfl ?_
  refine e_callIN (M' := mX0_init) [] rfl rfl dX5_init_106 rfl wmX5_52 imX0_init lkX0_init (Nat.le_of_ble_eq_true rfl) (nX0_init_165.mono (by decide)) (by decide) (by decide) (fun r S' v' hp => ?_)
  obtain ⟨rfl, rfl, rfl⟩ := hp
  refine ⟨rfl, ?_⟩
  refine e_aastJ (j := 7) dX5_init_109 (kP (kd := .inl (12, .object "RingDrop$Body")) (by decide +kernel)) (kP (kd := .inr 0) (by decide +kernel)) rc0 (by decide) (by decide) (by decide) rfl ?_
  refine e_nameV (v1 := vc_273) rfl ?_
  refine e_iinc (lv' := [(1, .int (8 : Int32)), (0, .ref 136)]) dX5_init_110 rfl (by decide) (by decide) rfl ?_
  refine e_goto (tgt := 88) dX5_init_113 (by decide) ?_
  refine e_iload_n dX5_init_88 rfl ?_
  refine e_aload_n dX5_init_89 rfl ?_
  refine e_get (w := .ref 149) (j := 9) dX5_init_90 (kP (kd := .inr 5) (by decide +kernel)) rc5 (by decide) wfX5_48 (gPr (Or.inr ⟨_, rfl⟩) (by decide +kernel)) ?_
  refine e_alenJ (x := (12 : Int32)) dX5_init_93 (kP (kd := .inl (12, .object "RingDrop$Body")) (by decide +kernel)) (Or.inr (Or.inr rfl)) (by decide) ?_
  refine e_icmp_ge (tgt := 116) dX5_init_94 (by decide) (fun c => absurd c (by decide)) (fun _ => ?_)
  refine e_aload_n dX5_init_97 rfl ?_
  refine e_get (w := .ref 149) (j := 9) dX5_init_98 (kP (kd := .inr 5) (by decide +kernel)) rc5 (by decide) wfX5_48 (gPr (Or.inr ⟨_, rfl⟩) (by decide +kernel)) ?_
  refine e_iload_n dX5_init_101 rfl ?_
  refine e_new (ci := 0) (n := 166) (S' := rP X 167) (v' := vc_274) (bc' := 7) (bs' := 63) dX5_init_102 rc0 wk_254 wk_256 wk_121 (by decide) rfl rfl (lP (by decide +kernel)) (by decide) rfl rfl (sP (by decide +kernel)) rfl ?_
  refine e_dup dX5_init_105 rfl ?_
  refine e_callIN (M' := mX0_init) [] rfl rfl dX5_init_106 rfl wmX5_52 imX0_init lkX0_init (Nat.le_of_ble_eq_true rfl) (nX0_init_167.mono (by decide)) (by decide) (by decide) (fun r S' v' hp => ?_)
  obtain ⟨rfl, rfl, rfl⟩ := hp
  refine ⟨rfl, ?_⟩
  refine e_aastJ (j := 8) dX5_init_109 (kP (kd := .inl (12, .object "RingDrop$Body")) (by decide +kernel)) (kP (kd := .inr 0) (by decide +kernel)) rc0 (by decide) (by decide) (by decide) rfl ?_
  refine e_nameV (v1 := vc_277) rfl ?_
  refine e_iinc (lv' := [(1, .int (9 : Int32)), (0, .ref 136)]) dX5_init_110 rfl (by decide) (by decide) rfl ?_
  refine e_goto (tgt := 88) dX5_init_113 (by decide) ?_
  refine e_iload_n dX5_init_88 rfl ?_
  refine e_aload_n dX5_init_89 rfl ?_
  refine e_get (w := .ref 149) (j := 9) dX5_init_90 (kP (kd := .inr 5) (by decide +kernel)) rc5 (by decide) wfX5_48 (gPr (Or.inr ⟨_, rfl⟩) (by decide +kernel)) ?_
  refine e_alenJ (x := (12 : Int32)) dX5_init_93 (kP (kd := .inl (12, .object "RingDrop$Body")) (by decide +kernel)) (Or.inr (Or.inr rfl)) (by decide) ?_
  refine e_icmp_ge (tgt := 116) dX5_init_94 (by decide) (fun c => absurd c (by decide)) (fun _ => ?_)
  refine e_aload_n dX5_init_97 rfl ?_
  refine e_get (w := .ref 149) (j := 9) dX5_init_98 (kP (kd := .inr 5) (by decide +kernel)) rc5 (by decide) wfX5_48 (gPr (Or.inr ⟨_, rfl⟩) (by decide +kernel)) ?_
  refine e_iload_n dX5_init_101 rfl ?_
  refine e_new (ci := 0) (n := 168) (S' := rP X 169) (v' := vc_278) (bc' := 5) (bs' := 46) dX5_init_102 rc0 wk_254 wk_256 wk_121 (by decide) rfl rfl (lP (by decide +kernel)) (by decide) rfl rfl (sP (by decide +kernel)) rfl ?_
  refine e_dup dX5_init_105 rfl ?_
  refine e_callIN (M' := mX0_init) [] rfl rfl dX5_init_106 rfl wmX5_52 imX0_init lkX0_init (Nat.le_of_ble_eq_true rfl) (nX0_init_169.mono (by decide)) (by decide) (by decide) (fun r S' v' hp => ?_)
  obtain ⟨rfl, rfl, rfl⟩ := hp
  refine ⟨rfl, ?_⟩
  refine e_aastJ (j := 9) dX5_init_109 (kP (kd := .inl (12, .object "RingDrop$Body")) (by decide +kernel)) (kP (kd := .inr 0) (by decide +kernel)) rc0 (by decide) (by decide) (by decide) rfl ?_
  refine e_nameV (v1 := vc_281) rfl ?_
  refine e_iinc (lv' := [(1, .int (10 : Int32)), (0, .ref 136)]) dX5_init_110 rfl (by decide) (by decide) rfl ?_
  refine e_goto (tgt := 88) dX5_init_113 (by decide) ?_
  refine e_iload_n dX5_init_88 rfl ?_
  refine e_aload_n dX5_init_89 rfl ?_
  refine e_get (w := .ref 149) (j := 9) dX5_init_90 (kP (kd := .inr 5) (by decide +kernel)) rc5 (by decide) wfX5_48 (gPr (Or.inr ⟨_, rfl⟩) (by decide +kernel)) ?_
  refine e_alenJ (x := (12 : Int32)) dX5_init_93 (kP (kd := .inl (12, .object "RingDrop$Body")) (by decide +kernel)) (Or.inr (Or.inr rfl)) (by decide) ?_
  refine e_icmp_ge (tgt := 116) dX5_init_94 (by decide) (fun c => absurd c (by decide)) (fun _ => ?_)
  refine e_aload_n dX5_init_97 rfl ?_
  refine e_get (w := .ref 149) (j := 9) dX5_init_98 (kP (kd := .inr 5) (by decide +kernel)) rc5 (by decide) wfX5_48 (gPr (Or.inr ⟨_, rfl⟩) (by decide +kernel)) ?_
  refine e_iload_n dX5_init_101 rfl ?_
  refine e_new (ci := 0) (n := 170) (S' := rP X 171) (v' := vc_282) (bc' := 3) (bs' := 29) dX5_init_102 rc0 wk_254 wk_256 wk_121 (by decide) rfl rfl (lP (by decide +kernel)) (by decide) rfl rfl (sP (by decide +kernel)) rfl ?_
  refine e_dup dX5_init_105 rfl ?_
  refine e_callIN (M' := mX0_init) [] rfl rfl dX5_init_106 rfl wmX5_52 imX0_init lkX0_init (Nat.le_of_ble_eq_true rfl) (nX0_init_171.mono (by decide)) (by decide) (by decide) (fun r S' v' hp => ?_)
  obtain ⟨rfl, rfl, rfl⟩ := hp
  refine ⟨rfl, ?_⟩
  refine e_aastJ (j := 10) dX5_init_109 (kP (kd := .inl (12, .object "RingDrop$Body")) (by decide +kernel)) (kP (kd := .inr 0) (by decide +kernel)) rc0 (by decide) (by decide) (by decide) rfl ?_
  refine e_nameV (v1 := vc_285) rfl ?_
  refine e_iinc (lv' := [(1, .int (11 : Int32)), (0, .ref 136)]) dX5_init_110 rfl (by decide) (by decide) rfl ?_
  refine e_goto (tgt := 88) dX5_init_113 (by decide) ?_
  refine e_iload_n dX5_init_88 rfl ?_
  refine e_aload_n dX5_init_89 rfl ?_
  refine e_get (w := .ref 149) (j := 9) dX5_init_90 (kP (kd := .inr 5) (by decide +kernel)) rc5 (by decide) wfX5_48 (gPr (Or.inr ⟨_, rfl⟩) (by decide +kernel)) ?_
  refine e_alenJ (x := (12 : Int32)) dX5_init_93 (kP (kd := .inl (12, .object "RingDrop$Body")) (by decide +kernel)) (Or.inr (Or.inr rfl)) (by decide) ?_
  refine e_icmp_ge (tgt := 116) dX5_init_94 (by decide) (fun c => absurd c (by decide)) (fun _ => ?_)
  refine e_aload_n dX5_init_97 rfl ?_
  refine e_get (w := .ref 149) (j := 9) dX5_init_98 (kP (kd := .inr 5) (by decide +kernel)) rc5 (by decide) wfX5_48 (gPr (Or.inr ⟨_, rfl⟩) (by decide +kernel)) ?_
  refine e_iload_n dX5_init_101 rfl ?_
  refine e_new (ci := 0) (n := 172) (S' := rP X 173) (v' := vc_286) (bc' := 1) (bs' := 12) dX5_init_102 rc0 wk_254 wk_256 wk_121 (by decide) rfl rfl (lP (by decide +kernel)) (by decide) rfl rfl (sP (by decide +kernel)) rfl ?_
  refine e_dup dX5_init_105 rfl ?_
  refine e_callIN (M' := mX0_init) [] rfl rfl dX5_init_106 rfl wmX5_52 imX0_init lkX0_init (Nat.le_of_ble_eq_true rfl) (nX0_init_173.mono (by decide)) (by decide) (by decide) (fun r S' v' hp => ?_)
  obtain ⟨rfl, rfl, rfl⟩ := hp
  refine ⟨rfl, ?_⟩
  refine e_aastJ (j := 11) dX5_init_109 (kP (kd := .inl (12, .object "RingDrop$Body")) (by decide +kernel)) (kP (kd := .inr 0) (by decide +kernel)) rc0 (by decide) (by decide) (by decide) rfl ?_
  refine e_nameV (v1 := vc_289) rfl ?_
  refine e_iinc (lv' := [(1, .int (12 : Int32)), (0, .ref 136)]) dX5_init_110 rfl (by decide) (by decide) rfl ?_
  refine e_goto (tgt := 88) dX5_init_113 (by decide) ?_
  refine e_iload_n dX5_init_88 rfl ?_
  refine e_aload_n dX5_init_89 rfl ?_
  refine e_get (w := .ref 149) (j := 9) dX5_init_90 (kP (kd := .inr 5) (by decide +kernel)) rc5 (by decide) wfX5_48 (gPr (Or.inr ⟨_, rfl⟩) (by decide +kernel)) ?_
  refine e_alenJ (x := (12 : Int32)) dX5_init_93 (kP (kd := .inl (12, .object "RingDrop$Body")) (by decide +kernel)) (Or.inr (Or.inr rfl)) (by decide) ?_
  refine e_icmp_ge (tgt := 116) dX5_init_94 (by decide) (fun _ => ?_) (fun c => absurd (by decide) c)
  exact e_ret dX5_init_116 rfl ⟨rfl, rfl, rfl⟩
set_option maxRecDepth 20000 in
theorem nX7_init_1 {X : Nat × (Nat → Int32)} : EvM mX7_init 11 173 3998 [.ref 0] (rP X 1) vc_1 (fun o S' v' => o = none ∧ S' = rP X 174 ∧ v' = vc_303) := by
  refine evm_of (by decide +kernel) (fun G => Nat.le_of_ble_eq_true rfl) ?_
  show Ev mX7_init 11 173 3998 0 [(0, .ref 0)] [] (rP X 1) vc_1 _
  refine e_aload_n dX7_init_0 rfl ?_
  refine e_objinit dX7_init_1 wmX7_3 wobjim wobjcode (Nat.le_of_ble_eq_true rfl) (by decide) ?_
  refine e_aload_n dX7_init_4 rfl ?_
  refine e_new (ci := 6) (n := 1) (S' := rP X 2) (v' := vc_2) (bc' := 172) (bs' := 3996) dX7_init_5 rc6 wk_141 wk_142 wk_114 (by decide) rfl rfl (lP (by decide +kernel)) (by decide) rfl rfl (sP (by decide +kernel)) rfl ?_
  refine e_dup dX7_init_8 rfl ?_
  refine e_callIN (M' := mX6_init) [] rfl rfl dX7_init_9 rfl wmX7_11 imX6_init lkX6_init (Nat.le_of_ble_eq_true rfl) (nX6_init_2.mono (by decide)) (by decide) (by decide) (fun r S' v' hp => ?_)
  obtain ⟨rfl, rfl, rfl⟩ := hp
  refine ⟨rfl, ?_⟩
  refine e_putR (j := 0) dX7_init_12 (kP (kd := .inr 7) (by decide +kernel)) rc7 (by decide) wfX7_12 (Or.inr ⟨rfl, rfl, rfl⟩) (Or.inl ⟨_, rfl⟩) rfl ?_
  refine e_nameV (v1 := vc_5) rfl ?_
  refine e_aload_n dX7_init_15 rfl ?_
  refine e_new (ci := 3) (n := 3) (S' := rP X 4) (v' := vc_6) (bc' := 170) (bs' := 3832) dX7_init_16 rc3 wk_158 wk_159 wk_115 (by decide) rfl rfl (lP (by decide +kernel)) (by decide) rfl rfl (sP (by decide +kernel)) rfl ?_
  refine e_dup dX7_init_19 rfl ?_
  refine e_aload_n dX7_init_20 rfl ?_
  refine e_get (w := .ref 1) (j := 0) dX7_init_21 (kP (kd := .inr 7) (by decide +kernel)) rc7 (by decide) wfX7_12 (gPr (Or.inl ⟨_, rfl⟩) (by decide +kernel)) ?_
  refine e_callI (M' := mX3_init) [.ref 1] rfl rfl dX7_init_24 rfl wmX7_18 imX3_init lkX3_init (Nat.le_of_ble_eq_true rfl) (nX3_init_4.mono (by decide)) (by decide) (by decide) (fun r S' v' hp => ?_)
  obtain ⟨rfl, rfl, rfl⟩ := hp
  refine ⟨rfl, ?_⟩
  refine e_putR (j := 1) dX7_init_27 (kP (kd := .inr 7) (by decide +kernel)) rc7 (by decide) wfX7_21 (Or.inr ⟨rfl, rfl, rfl⟩) (Or.inl ⟨_, rfl⟩) rfl ?_
  refine e_nameV (v1 := vc_15) rfl ?_
  refine e_aload_n dX7_init_30 rfl ?_
  refine e_new (ci := 1) (n := 7) (S' := rP X 8) (v' := vc_16) (bc' := 166) (bs' := 3631) dX7_init_31 rc1 wk_197 wk_198 wk_117 (by decide) rfl rfl (lP (by decide +kernel)) (by decide) rfl rfl (sP (by decide +kernel)) rfl ?_
  refine e_dup dX7_init_34 rfl ?_
  refine e_aload_n dX7_init_35 rfl ?_
  refine e_get (w := .ref 1) (j := 0) dX7_init_36 (kP (kd := .inr 7) (by decide +kernel)) rc7 (by decide) wfX7_12 (gPr (Or.inl ⟨_, rfl⟩) (by decide +kernel)) ?_
  refine e_callI (M' := mX1_init) [.ref 1] rfl rfl dX7_init_39 rfl wmX7_27 imX1_init lkX1_init (Nat.le_of_ble_eq_true rfl) (nX1_init_8.mono (by decide)) (by decide) (by decide) (fun r S' v' hp => ?_)
  obtain ⟨rfl, rfl, rfl⟩ := hp
  refine ⟨rfl, ?_⟩
  refine e_putR (j := 2) dX7_init_42 (kP (kd := .inr 7) (by decide +kernel)) rc7 (by decide) wfX7_28 (Or.inr ⟨rfl, rfl, rfl⟩) (Or.inl ⟨_, rfl⟩) rfl ?_
  refine e_nameV (v1 := vc_20) rfl ?_
  refine e_aload_n dX7_init_45 rfl ?_
  refine e_new (ci := 4) (n := 9) (S' := rP X 10) (v' := vc_21) (bc' := 164) (bs' := 3617) dX7_init_46 rc4 wk_217 wk_218 wk_118 (by decide) rfl rfl (lP (by decide +kernel)) (by decide) rfl rfl (sP (by decide +kernel)) rfl ?_
  refine e_dup dX7_init_49 rfl ?_
  refine e_callI (M' := mX4_init) [] rfl rfl dX7_init_50 rfl wmX7_34 imX4_init lkX4_init (Nat.le_of_ble_eq_true rfl) (nX4_init_10.mono (by decide)) (by decide) (by decide) (fun r S' v' hp => ?_)
  obtain ⟨rfl, rfl, rfl⟩ := hp
  refine ⟨rfl, ?_⟩
  refine e_putR (j := 3) dX7_init_53 (kP (kd := .inr 7) (by decide +kernel)) rc7 (by decide) wfX7_35 (Or.inr ⟨rfl, rfl, rfl⟩) (Or.inl ⟨_, rfl⟩) rfl ?_
  refine e_nameV (v1 := vc_48) rfl ?_
  refine e_aload_n dX7_init_56 rfl ?_
  refine e_new (ci := 4) (n := 23) (S' := rP X 24) (v' := vc_49) (bc' := 150) (bs' := 2823) dX7_init_57 rc4 wk_217 wk_218 wk_118 (by decide) rfl rfl (lP (by decide +kernel)) (by decide) rfl rfl (sP (by decide +kernel)) rfl ?_
  refine e_dup dX7_init_60 rfl ?_
  refine e_callI (M' := mX4_init) [] rfl rfl dX7_init_61 rfl wmX7_34 imX4_init lkX4_init (Nat.le_of_ble_eq_true rfl) (nX4_init_24.mono (by decide)) (by decide) (by decide) (fun r S' v' hp => ?_)
  obtain ⟨rfl, rfl, rfl⟩ := hp
  refine ⟨rfl, ?_⟩
  refine e_putR (j := 4) dX7_init_64 (kP (kd := .inr 7) (by decide +kernel)) rc7 (by decide) wfX7_39 (Or.inr ⟨rfl, rfl, rfl⟩) (Or.inl ⟨_, rfl⟩) rfl ?_
  refine e_nameV (v1 := vc_76) rfl ?_
  refine e_aload_n dX7_init_67 rfl ?_
  refine e_bipush (x := (12 : Int32)) dX7_init_68 (by decide) ?_
  refine e_bipush (x := (12 : Int32)) dX7_init_70 (by decide) ?_
  refine e_mnew (N := 12) (K := 12) (n := 37) (S' := rP X 50) (v' := vc_77) (bc' := 124) (bs' := 1875) dX7_init_72 wk_234 wk_157 rfl rfl (lP (by decide +kernel)) (by decide) (by decide) (by decide) (by decide) (by decide) (Nat.le_of_ble_eq_true rfl) (Nat.le_of_ble_eq_true rfl) rfl rfl (sP (by decide +kernel)) rfl ?_
  refine e_putR (j := 5) dX7_init_76 (kP (kd := .inr 7) (by decide +kernel)) rc7 (by decide) wfX7_44 (Or.inr ⟨rfl, rfl, rfl⟩) (Or.inr ⟨_, rfl⟩) rfl ?_
  refine e_nameV (v1 := vc_78) rfl ?_
  refine e_aload_n dX7_init_79 rfl ?_
  refine e_bipush (x := (12 : Int32)) dX7_init_80 (by decide) ?_
  refine e_newa (N := 12) (ty := .int) (n := 50) (S' := rP X 51) (v' := vc_79) (bc' := 123) (bs' := 1863) rfl (Or.inl rfl) dX7_init_82 wk_157 rfl rfl (lP (by decide +kernel)) (by decide) (by decide) (by decide) (Nat.le_of_ble_eq_true rfl) rfl rfl (sP (by decide +kernel)) rfl ?_
  refine e_putR (j := 6) dX7_init_84 (kP (kd := .inr 7) (by decide +kernel)) rc7 (by decide) wfX7_47 (Or.inr ⟨rfl, rfl, rfl⟩) (Or.inr ⟨_, rfl⟩) rfl ?_
  refine e_nameV (v1 := vc_80) rfl ?_
  refine e_aload_n dX7_init_87 rfl ?_
  refine e_bipush (x := (12 : Int32)) dX7_init_88 (by decide) ?_
  refine e_newa (N := 12) (ty := .int) (n := 51) (S' := rP X 52) (v' := vc_81) (bc' := 122) (bs' := 1851) rfl (Or.inl rfl) dX7_init_90 wk_157 rfl rfl (lP (by decide +kernel)) (by decide) (by decide) (by decide) (Nat.le_of_ble_eq_true rfl) rfl rfl (sP (by decide +kernel)) rfl ?_
  refine e_putR (j := 7) dX7_init_92 (kP (kd := .inr 7) (by decide +kernel)) rc7 (by decide) wfX7_51 (Or.inr ⟨rfl, rfl, rfl⟩) (Or.inr ⟨_, rfl⟩) rfl ?_
  refine e_nameV (v1 := vc_82) rfl ?_
  refine e_aload_n dX7_init_95 rfl ?_
  refine e_bipush (x := (6 : Int32)) dX7_init_96 (by decide) ?_
  refine e_bipush (x := (24 : Int32)) dX7_init_98 (by decide) ?_
  refine e_mnew (N := 6) (K := 24) (n := 52) (S' := rP X 59) (v' := vc_83) (bc' := 115) (bs' := 1701) dX7_init_100 wk_234 wk_157 rfl rfl (lP (by decide +kernel)) (by decide) (by decide) (by decide) (by decide) (by decide) (Nat.le_of_ble_eq_true rfl) (Nat.le_of_ble_eq_true rfl) rfl rfl (sP (by decide +kernel)) rfl ?_
  refine e_putR (j := 8) dX7_init_104 (kP (kd := .inr 7) (by decide +kernel)) rc7 (by decide) wfX7_54 (Or.inr ⟨rfl, rfl, rfl⟩) (Or.inr ⟨_, rfl⟩) rfl ?_
  refine e_nameV (v1 := vc_84) rfl ?_
  refine e_aload_n dX7_init_107 rfl ?_
  refine e_bipush (x := (24 : Int32)) dX7_init_108 (by decide) ?_
  refine e_newa (N := 24) (ty := .int) (n := 59) (S' := rP X 60) (v' := vc_85) (bc' := 114) (bs' := 1677) rfl (Or.inl rfl) dX7_init_110 wk_157 rfl rfl (lP (by decide +kernel)) (by decide) (by decide) (by decide) (Nat.le_of_ble_eq_true rfl) rfl rfl (sP (by decide +kernel)) rfl ?_
  refine e_putR (j := 9) dX7_init_112 (kP (kd := .inr 7) (by decide +kernel)) rc7 (by decide) wfX7_57 (Or.inr ⟨rfl, rfl, rfl⟩) (Or.inr ⟨_, rfl⟩) rfl ?_
  refine e_nameV (v1 := vc_86) rfl ?_
  refine e_aload_n dX7_init_115 rfl ?_
  refine e_new (ci := 5) (n := 60) (S' := rP X 61) (v' := vc_87) (bc' := 113) (bs' := 1657) dX7_init_116 rc5 wk_236 wk_237 wk_119 (by decide) rfl rfl (lP (by decide +kernel)) (by decide) rfl rfl (sP (by decide +kernel)) rfl ?_
  refine e_dup dX7_init_119 rfl ?_
  refine e_callI (M' := mX5_init) [] rfl rfl dX7_init_120 rfl wmX7_62 imX5_init lkX5_init (Nat.le_of_ble_eq_true rfl) (nX5_init_61.mono (by decide)) (by decide) (by decide) (fun r S' v' hp => ?_)
  obtain ⟨rfl, rfl, rfl⟩ := hp
  refine ⟨rfl, ?_⟩
  refine e_putR (j := 10) dX7_init_123 (kP (kd := .inr 7) (by decide +kernel)) rc7 (by decide) wfX7_63 (Or.inr ⟨rfl, rfl, rfl⟩) (Or.inl ⟨_, rfl⟩) rfl ?_
  refine e_nameV (v1 := vc_154) rfl ?_
  refine e_aload_n dX7_init_126 rfl ?_
  refine e_new (ci := 5) (n := 98) (S' := rP X 99) (v' := vc_155) (bc' := 75) (bs' := 1098) dX7_init_127 rc5 wk_236 wk_237 wk_119 (by decide) rfl rfl (lP (by decide +kernel)) (by decide) rfl rfl (sP (by decide +kernel)) rfl ?_
  refine e_dup dX7_init_130 rfl ?_
  refine e_callI (M' := mX5_init) [] rfl rfl dX7_init_131 rfl wmX7_62 imX5_init lkX5_init (Nat.le_of_ble_eq_true rfl) (nX5_init_99.mono (by decide)) (by decide) (by decide) (fun r S' v' hp => ?_)
  obtain ⟨rfl, rfl, rfl⟩ := hp
  refine ⟨rfl, ?_⟩
  refine e_putR (j := 11) dX7_init_134 (kP (kd := .inr 7) (by decide +kernel)) rc7 (by decide) wfX7_67 (Or.inr ⟨rfl, rfl, rfl⟩) (Or.inl ⟨_, rfl⟩) rfl ?_
  refine e_nameV (v1 := vc_222) rfl ?_
  refine e_aload_n dX7_init_137 rfl ?_
  refine e_new (ci := 5) (n := 136) (S' := rP X 137) (v' := vc_223) (bc' := 37) (bs' := 539) dX7_init_138 rc5 wk_236 wk_237 wk_119 (by decide) rfl rfl (lP (by decide +kernel)) (by decide) rfl rfl (sP (by decide +kernel)) rfl ?_
  refine e_dup dX7_init_141 rfl ?_
  refine e_callI (M' := mX5_init) [] rfl rfl dX7_init_142 rfl wmX7_62 imX5_init lkX5_init (Nat.le_of_ble_eq_true rfl) (nX5_init_137.mono (by decide)) (by decide) (by decide) (fun r S' v' hp => ?_)
  obtain ⟨rfl, rfl, rfl⟩ := hp
  refine ⟨rfl, ?_⟩
  refine e_putR (j := 12) dX7_init_145 (kP (kd := .inr 7) (by decide +kernel)) rc7 (by decide) wfX7_70 (Or.inr ⟨rfl, rfl, rfl⟩) (Or.inl ⟨_, rfl⟩) rfl ?_
  refine e_nameV (v1 := vc_290) rfl ?_
  refine e_aload_n dX7_init_148 rfl ?_
  refine e_iconst (x := (3 : Int32)) dX7_init_149 (by decide) ?_
  refine e_putI (j := 15) dX7_init_150 (kP (kd := .inr 7) (by decide +kernel)) rc7 (by decide) wfX7_73 rfl rfl ?_
  refine e_nameV (v1 := vc_291) rfl ?_
  refine e_iconst (x := (0 : Int32)) dX7_init_153 (by decide) ?_
  refine e_istore_n (lv' := [(1, .int (0 : Int32)), (0, .ref 0)]) dX7_init_154 (by decide) rfl ?_
  refine e_iload_n dX7_init_155 rfl ?_
  refine e_aload_n dX7_init_156 rfl ?_
  refine e_get (w := .ref 50) (j := 6) dX7_init_157 (kP (kd := .inr 7) (by decide +kernel)) rc7 (by decide) wfX7_47 (gPr (Or.inr ⟨_, rfl⟩) (by decide +kernel)) ?_
  refine e_alenJ (x := (12 : Int32)) dX7_init_160 (kP (kd := .inl (12, .int)) (by decide +kernel)) (Or.inl rfl) (by decide) ?_
  refine e_icmp_ge (tgt := 177) dX7_init_161 (by decide) (fun c => absurd c (by decide)) (fun _ => ?_)
  refine e_aload_n dX7_init_164 rfl ?_
  refine e_get (w := .ref 50) (j := 6) dX7_init_165 (kP (kd := .inr 7) (by decide +kernel)) rc7 (by decide) wfX7_47 (gPr (Or.inr ⟨_, rfl⟩) (by decide +kernel)) ?_
  refine e_iload_n dX7_init_168 rfl ?_
  refine e_iconst (x := (1 : Int32)) dX7_init_169 (by decide) ?_
  refine e_iastJ (j := 0) dX7_init_170 (kP (kd := .inl (12, .int)) (by decide +kernel)) (by decide) (by decide) (by decide) ?_
  refine e_nameV (v1 := vc_292) rfl ?_
  refine e_iinc (lv' := [(1, .int (1 : Int32)), (0, .ref 0)]) dX7_init_171 rfl (by decide) (by decide) rfl ?_
  refine e_goto (tgt := 155) dX7_init_174 (by decide) ?_
  refine e_iload_n dX7_init_155 rfl ?_
  refine e_aload_n dX7_init_156 rfl ?_
  refine e_get (w := .ref 50) (j := 6) dX7_init_157 (kP (kd := .inr 7) (by decide +kernel)) rc7 (by decide) wfX7_47 (gPr (Or.inr ⟨_, rfl⟩) (by decide +kernel)) ?_
  refine e_alenJ (x := (12 : Int32)) dX7_init_160 (kP (kd := .inl (12, .int)) (by decide +kernel)) (Or.inl rfl) (by decide) ?_
  refine e_icmp_ge (tgt := 177) dX7_init_161 (by decide) (fun c => absurd c (by decide)) (fun _ => ?_)
  refine e_aload_n dX7_init_164 rfl ?_
  refine e_get (w := .ref 50) (j := 6) dX7_init_165 (kP (kd := .inr 7) (by decide +kernel)) rc7 (by decide) wfX7_47 (gPr (Or.inr ⟨_, rfl⟩) (by decide +kernel)) ?_
  refine e_iload_n dX7_init_168 rfl ?_
  refine e_iconst (x := (1 : Int32)) dX7_init_169 (by decide) ?_
  refine e_iastJ (j := 1) dX7_init_170 (kP (kd := .inl (12, .int)) (by decide +kernel)) (by decide) (by decide) (by decide) ?_
  refine e_nameV (v1 := vc_293) rfl ?_
  refine e_iinc (lv' := [(1, .int (2 : Int32)), (0, .ref 0)]) dX7_init_171 rfl (by decide) (by decide) rfl ?_
  refine e_goto (tgt := 155) dX7_init_174 (by decide) ?_
  refine e_iload_n dX7_init_155 rfl ?_
  refine e_aload_n dX7_init_156 rfl ?_
  refine e_get (w := .ref 50) (j := 6) dX7_init_157 (kP (kd := .inr 7) (by decide +kernel)) rc7 (by decide) wfX7_47 (gPr (Or.inr ⟨_, rfl⟩) (by decide +kernel)) ?_
  refine e_alenJ (x := (12 : Int32)) dX7_init_160 (kP (kd := .inl (12, .int)) (by decide +kernel)) (Or.inl rfl) (by decide) ?_
  refine e_icmp_ge (tgt := 177) dX7_init_161 (by decide) (fun c => absurd c (by decide)) (fun _ => ?_)
  refine e_aload_n dX7_init_164 rfl ?_
  refine e_get (w := .ref 50) (j := 6) dX7_init_165 (kP (kd := .inr 7) (by decide +kernel)) rc7 (by decide) wfX7_47 (gPr (Or.inr ⟨_, rfl⟩) (by decide +kernel)) ?_
  refine e_iload_n dX7_init_168 rfl ?_
  refine e_iconst (x := (1 : Int32)) dX7_init_169 (by decide) ?_
  refine e_iastJ (j := 2) dX7_init_170 (kP (kd := .inl (12, .int)) (by decide +kernel)) (by decide) (by decide) (by decide) ?_
  refine e_nameV (v1 := vc_294) rfl ?_
  refine e_iinc (lv' := [(1, .int (3 : Int32)), (0, .ref 0)]) dX7_init_171 rfl (by decide) (by decide) rfl ?_
  refine e_goto (tgt := 155) dX7_init_174 (by decide) ?_
  refine e_iload_n dX7_init_155 rfl ?_
  refine e_aload_n dX7_init_156 rfl ?_
  refine e_get (w := .ref 50) (j := 6) dX7_init_157 (kP (kd := .inr 7) (by decide +kernel)) rc7 (by decide) wfX7_47 (gPr (Or.inr ⟨_, rfl⟩) (by decide +kernel)) ?_
  refine e_alenJ (x := (12 : Int32)) dX7_init_160 (kP (kd := .inl (12, .int)) (by decide +kernel)) (Or.inl rfl) (by decide) ?_
  refine e_icmp_ge (tgt := 177) dX7_init_161 (by decide) (fun c => absurd c (by decide)) (fun _ => ?_)
  refine e_aload_n dX7_init_164 rfl ?_
  refine e_get (w := .ref 50) (j := 6) dX7_init_165 (kP (kd := .inr 7) (by decide +kernel)) rc7 (by decide) wfX7_47 (gPr (Or.inr ⟨_, rfl⟩) (by decide +kernel)) ?_
  refine e_iload_n dX7_init_168 rfl ?_
  refine e_iconst (x := (1 : Int32)) dX7_init_169 (by decide) ?_
  refine e_iastJ (j := 3) dX7_init_170 (kP (kd := .inl (12, .int)) (by decide +kernel)) (by decide) (by decide) (by decide) ?_
  refine e_nameV (v1 := vc_295) rfl ?_
  refine e_iinc (lv' := [(1, .int (4 : Int32)), (0, .ref 0)]) dX7_init_171 rfl (by decide) (by decide) rfl ?_
  refine e_goto (tgt := 155) dX7_init_174 (by decide) ?_
  refine e_iload_n dX7_init_155 rfl ?_
  refine e_aload_n dX7_init_156 rfl ?_
  refine e_get (w := .ref 50) (j := 6) dX7_init_157 (kP (kd := .inr 7) (by decide +kernel)) rc7 (by decide) wfX7_47 (gPr (Or.inr ⟨_, rfl⟩) (by decide +kernel)) ?_
  refine e_alenJ (x := (12 : Int32)) dX7_init_160 (kP (kd := .inl (12, .int)) (by decide +kernel)) (Or.inl rfl) (by decide) ?_
  refine e_icmp_ge (tgt := 177) dX7_init_161 (by decide) (fun c => absurd c (by decide)) (fun _ => ?_)
  refine e_aload_n dX7_init_164 rfl ?_
  refine e_get (w := .ref 50) (j := 6) dX7_init_165 (kP (kd := .inr 7) (by decide +kernel)) rc7 (by decide) wfX7_47 (gPr (Or.inr ⟨_, rfl⟩) (by decide +kernel)) ?_
  refine e_iload_n dX7_init_168 rfl ?_
  refine e_iconst (x := (1 : Int32)) dX7_init_169 (by decide) ?_
  refine e_iastJ (j := 4) dX7_init_170 (kP (kd := .inl (12, .int)) (by decide +kernel)) (by decide) (by decide) (by decide) ?_
  refine e_nameV (v1 := vc_296) rfl ?_
  refine e_iinc (lv' := [(1, .int (5 : Int32)), (0, .ref 0)]) dX7_init_171 rfl (by decide) (by decide) rfl ?_
  refine e_goto (tgt := 155) dX7_init_174 (by decide) ?_
  refine e_iload_n dX7_init_155 rfl ?_
  refine e_aload_n dX7_init_156 rfl ?_
  refine e_get (w := .ref 50) (j := 6) dX7_init_157 (kP (kd := .inr 7) (by decide +kernel)) rc7 (by decide) wfX7_47 (gPr (Or.inr ⟨_, rfl⟩) (by decide +kernel)) ?_
  refine e_alenJ (x := (12 : Int32)) dX7_init_160 (kP (kd := .inl (12, .int)) (by decide +kernel)) (Or.inl rfl) (by decide) ?_
  refine e_icmp_ge (tgt := 177) dX7_init_161 (by decide) (fun c => absurd c (by decide)) (fun _ => ?_)
  refine e_aload_n dX7_init_164 rfl ?_
  refine e_get (w := .ref 50) (j := 6) dX7_init_165 (kP (kd := .inr 7) (by decide +kernel)) rc7 (by decide) wfX7_47 (gPr (Or.inr ⟨_, rfl⟩) (by decide +kernel)) ?_
  refine e_iload_n dX7_init_168 rfl ?_
  refine e_iconst (x := (1 : Int32)) dX7_init_169 (by decide) ?_
  refine e_iastJ (j := 5) dX7_init_170 (kP (kd := .inl (12, .int)) (by decide +kernel)) (by decide) (by decide) (by decide) ?_
  refine e_nameV (v1 := vc_297) rfl ?_
  refine e_iinc (lv' := [(1, .int (6 : Int32)), (0, .ref 0)]) dX7_init_171 rfl (by decide) (by decide) rfl ?_
  refine e_goto (tgt := 155) dX7_init_174 (by decide) ?_
  refine e_iload_n dX7_init_155 rfl ?_
  refine e_aload_n dX7_init_156 rfl ?_
  refine e_get (w := .ref 50) (j := 6) dX7_init_157 (kP (kd := .inr 7) (by decide +kernel)) rc7 (by decide) wfX7_47 (gPr (Or.inr ⟨_, rfl⟩) (by decide +kernel)) ?_
  refine e_alenJ (x := (12 : Int32)) dX7_init_160 (kP (kd := .inl (12, .int)) (by decide +kernel)) (Or.inl rfl) (by decide) ?_
  refine e_icmp_ge (tgt := 177) dX7_init_161 (by decide) (fun c => absurd c (by decide)) (fun _ => ?_)
  refine e_aload_n dX7_init_164 rfl ?_
  refine e_get (w := .ref 50) (j := 6) dX7_init_165 (kP (kd := .inr 7) (by decide +kernel)) rc7 (by decide) wfX7_47 (gPr (Or.inr ⟨_, rfl⟩) (by decide +kernel)) ?_
  refine e_iload_n dX7_init_168 rfl ?_
  refine e_iconst (x := (1 : Int32)) dX7_init_169 (by decide) ?_
  refine e_iastJ (j := 6) dX7_init_170 (kP (kd := .inl (12, .int)) (by decide +kernel)) (by decide) (by decide) (by decide) ?_
  refine e_nameV (v1 := vc_298) rfl ?_
  refine e_iinc (lv' := [(1, .int (7 : Int32)), (0, .ref 0)]) dX7_init_171 rfl (by decide) (by decide) rfl ?_
  refine e_goto (tgt := 155) dX7_init_174 (by decide) ?_
  refine e_iload_n dX7_init_155 rfl ?_
  refine e_aload_n dX7_init_156 rfl ?_
  refine e_get (w := .ref 50) (j := 6) dX7_init_157 (kP (kd := .inr 7) (by decide +kernel)) rc7 (by decide) wfX7_47 (gPr (Or.inr ⟨_, rfl⟩) (by decide +kernel)) ?_
  refine e_alenJ (x := (12 : Int32)) dX7_init_160 (kP (kd := .inl (12, .int)) (by decide +kernel)) (Or.inl rfl) (by decide) ?_
  refine e_icmp_ge (tgt := 177) dX7_init_161 (by decide) (fun c => absurd c (by decide)) (fun _ => ?_)
  refine e_aload_n dX7_init_164 rfl ?_
  refine e_get (w := .ref 50) (j := 6) dX7_init_165 (kP (kd := .inr 7) (by decide +kernel)) rc7 (by decide) wfX7_47 (gPr (Or.inr ⟨_, rfl⟩) (by decide +kernel)) ?_
  refine e_iload_n dX7_init_168 rfl ?_
  refine e_iconst (x := (1 : Int32)) dX7_init_169 (by decide) ?_
  refine e_iastJ (j := 7) dX7_init_170 (kP (kd := .inl (12, .int)) (by decide +kernel)) (by decide) (by decide) (by decide) ?_
  refine e_nameV (v1 := vc_299) rfl ?_
  refine e_iinc (lv' := [(1, .int (8 : Int32)), (0, .ref 0)]) dX7_init_171 rfl (by decide) (by decide) rfl ?_
  refine e_goto (tgt := 155) dX7_init_174 (by decide) ?_
  refine e_iload_n dX7_init_155 rfl ?_
  refine e_aload_n dX7_init_156 rfl ?_
  refine e_get (w := .ref 50) (j := 6) dX7_init_157 (kP (kd := .inr 7) (by decide +kernel)) rc7 (by decide) wfX7_47 (gPr (Or.inr ⟨_, rfl⟩) (by decide +kernel)) ?_
  refine e_alenJ (x := (12 : Int32)) dX7_init_160 (kP (kd := .inl (12, .int)) (by decide +kernel)) (Or.inl rfl) (by decide) ?_
  refine e_icmp_ge (tgt := 177) dX7_init_161 (by decide) (fun c => absurd c (by decide)) (fun _ => ?_)
  refine e_aload_n dX7_init_164 rfl ?_
  refine e_get (w := .ref 50) (j := 6) dX7_init_165 (kP (kd := .inr 7) (by decide +kernel)) rc7 (by decide) wfX7_47 (gPr (Or.inr ⟨_, rfl⟩) (by decide +kernel)) ?_
  refine e_iload_n dX7_init_168 rfl ?_
  refine e_iconst (x := (1 : Int32)) dX7_init_169 (by decide) ?_
  refine e_iastJ (j := 8) dX7_init_170 (kP (kd := .inl (12, .int)) (by decide +kernel)) (by decide) (by decide) (by decide) ?_
  refine e_nameV (v1 := vc_300) rfl ?_
  refine e_iinc (lv' := [(1, .int (9 : Int32)), (0, .ref 0)]) dX7_init_171 rfl (by decide) (by decide) rfl ?_
  refine e_goto (tgt := 155) dX7_init_174 (by decide) ?_
  refine e_iload_n dX7_init_155 rfl ?_
  refine e_aload_n dX7_init_156 rfl ?_
  refine e_get (w := .ref 50) (j := 6) dX7_init_157 (kP (kd := .inr 7) (by decide +kernel)) rc7 (by decide) wfX7_47 (gPr (Or.inr ⟨_, rfl⟩) (by decide +kernel)) ?_
  refine e_alenJ (x := (12 : Int32)) dX7_init_160 (kP (kd := .inl (12, .int)) (by decide +kernel)) (Or.inl rfl) (by decide) ?_
  refine e_icmp_ge (tgt := 177) dX7_init_161 (by decide) (fun c => absurd c (by decide)) (fun _ => ?_)
  refine e_aload_n dX7_init_164 rfl ?_
  refine e_get (w := .ref 50) (j := 6) dX7_init_165 (kP (kd := .inr 7) (by decide +kernel)) rc7 (by decide) wfX7_47 (gPr (Or.inr ⟨_, rfl⟩) (by decide +kernel)) ?_
  refine e_iload_n dX7_init_168 rfl ?_
  refine e_iconst (x := (1 : Int32)) dX7_init_169 (by decide) ?_
  refine e_iastJ (j := 9) dX7_init_170 (kP (kd := .inl (12, .int)) (by decide +kernel)) (by decide) (by decide) (by decide) ?_
  refine e_nameV (v1 := vc_301) rfl ?_
  refine e_iinc (lv' := [(1, .int (10 : Int32)), (0, .ref 0)]) dX7_init_171 rfl (by decide) (by decide) rfl ?_
  refine e_goto (tgt := 155) dX7_init_174 (by decide) ?_
  refine e_iload_n dX7_init_155 rfl ?_
  refine e_aload_n dX7_init_156 rfl ?_
  refine e_get (w := .ref 50) (j := 6) dX7_init_157 (kP (kd := .inr 7) (by decide +kernel)) rc7 (by decide) wfX7_47 (gPr (Or.inr ⟨_, rfl⟩) (by decide +kernel)) ?_
  refine e_alenJ (x := (12 : Int32)) dX7_init_160 (kP (kd := .inl (12, .int)) (by decide +kernel)) (Or.inl rfl) (by decide) ?_
  refine e_icmp_ge (tgt := 177) dX7_init_161 (by decide) (fun c => absurd c (by decide)) (fun _ => ?_)
  refine e_aload_n dX7_init_164 rfl ?_
  refine e_get (w := .ref 50) (j := 6) dX7_init_165 (kP (kd := .inr 7) (by decide +kernel)) rc7 (by decide) wfX7_47 (gPr (Or.inr ⟨_, rfl⟩) (by decide +kernel)) ?_
  refine e_iload_n dX7_init_168 rfl ?_
  refine e_iconst (x := (1 : Int32)) dX7_init_169 (by decide) ?_
  refine e_iastJ (j := 10) dX7_init_170 (kP (kd := .inl (12, .int)) (by decide +kernel)) (by decide) (by decide) (by decide) ?_
  refine e_nameV (v1 := vc_302) rfl ?_
  refine e_iinc (lv' := [(1, .int (11 : Int32)), (0, .ref 0)]) dX7_init_171 rfl (by decide) (by decide) rfl ?_
  refine e_goto (tgt := 155) dX7_init_174 (by decide) ?_
  refine e_iload_n dX7_init_155 rfl ?_
  refine e_aload_n dX7_init_156 rfl ?_
  refine e_get (w := .ref 50) (j := 6) dX7_init_157 (kP (kd := .inr 7) (by decide +kernel)) rc7 (by decide) wfX7_47 (gPr (Or.inr ⟨_, rfl⟩) (by decide +kernel)) ?_
  refine e_alenJ (x := (12 : Int32)) dX7_init_160 (kP (kd := .inl (12, .int)) (by decide +kernel)) (Or.inl rfl) (by decide) ?_
  refine e_icmp_ge (tgt := 177) dX7_init_161 (by decide) (fun c => absurd c (by decide)) (fun _ => ?_)
  refine e_aload_n dX7_init_164 rfl ?_
  refine e_get (w := .ref 50) (j := 6) dX7_init_165 (kP (kd := .inr 7) (by decide +kernel)) rc7 (by decide) wfX7_47 (gPr (Or.inr ⟨_, rfl⟩) (by decide +kernel)) ?_
  refine e_iload_n dX7_init_168 rfl ?_
  refine e_iconst (x := (1 : Int32)) dX7_init_169 (by decide) ?_
  refine e_iastJ (j := 11) dX7_init_170 (kP (kd := .inl (12, .int)) (by decide +kernel)) (by decide) (by decide) (by decide) ?_
  refine e_nameV (v1 := vc_303) rfl ?_
  refine e_iinc (lv' := [(1, .int (12 : Int32)), (0, .ref 0)]) dX7_init_171 rfl (by decide) (by decide) rfl ?_
  refine e_goto (tgt := 155) dX7_init_174 (by decide) ?_
  refine e_iload_n dX7_init_155 rfl ?_
  refine e_aload_n dX7_init_156 rfl ?_
  refine e_get (w := .ref 50) (j := 6) dX7_init_157 (kP (kd := .inr 7) (by decide +kernel)) rc7 (by decide) wfX7_47 (gPr (Or.inr ⟨_, rfl⟩) (by decide +kernel)) ?_
  refine e_alenJ (x := (12 : Int32)) dX7_init_160 (kP (kd := .inl (12, .int)) (by decide +kernel)) (Or.inl rfl) (by decide) ?_
  refine e_icmp_ge (tgt := 177) dX7_init_161 (by decide) (fun _ => ?_) (fun c => absurd (by decide) c)
  exact e_ret dX7_init_177 rfl ⟨rfl, rfl, rfl⟩
set_option maxRecDepth 20000 in
theorem nX8_init_175 {X : Nat × (Nat → Int32)} : EvM mX8_init 1 22 10507 [.ref 174] (rP X 175) vc_304 (fun o S' v' => o = none ∧ S' = rP X 197 ∧ v' = vc_349) := by
  refine evm_of (by decide +kernel) (fun G => Nat.le_of_ble_eq_true rfl) ?_
  show Ev mX8_init 1 22 10507 0 [(0, .ref 174)] [] (rP X 175) vc_304 _
  refine e_aload_n dX8_init_0 rfl ?_
  refine e_objinit dX8_init_1 wmX8_3 wobjim wobjcode (Nat.le_of_ble_eq_true rfl) (by decide) ?_
  refine e_aload_n dX8_init_4 rfl ?_
  refine e_sipush (x := (160 : Int32)) dX8_init_5 (by decide) ?_
  refine e_newa (N := 160) (ty := .int) (n := 175) (S' := rP X 176) (v' := vc_305) (bc' := 21) (bs' := 10347) rfl (Or.inl rfl) dX8_init_8 wk_157 rfl rfl (lP (by decide +kernel)) (by decide) (by decide) (by decide) (Nat.le_of_ble_eq_true rfl) rfl rfl (sP (by decide +kernel)) rfl ?_
  refine e_putR (j := 1) dX8_init_10 (kP (kd := .inr 8) (by decide +kernel)) rc8 (by decide) wfX8_9 (Or.inr ⟨rfl, rfl, rfl⟩) (Or.inr ⟨_, rfl⟩) rfl ?_
  refine e_nameV (v1 := vc_306) rfl ?_
  refine e_aload_n dX8_init_13 rfl ?_
  refine e_sipush (x := (3060 : Int32)) dX8_init_14 (by decide) ?_
  refine e_newa (N := 3060) (ty := .int) (n := 176) (S' := rP X 177) (v' := vc_307) (bc' := 20) (bs' := 7287) rfl (Or.inl rfl) dX8_init_17 wk_157 rfl rfl (lP (by decide +kernel)) (by decide) (by decide) (by decide) (Nat.le_of_ble_eq_true rfl) rfl rfl (sP (by decide +kernel)) rfl ?_
  refine e_putR (j := 6) dX8_init_19 (kP (kd := .inr 8) (by decide +kernel)) rc8 (by decide) wfX8_13 (Or.inr ⟨rfl, rfl, rfl⟩) (Or.inr ⟨_, rfl⟩) rfl ?_
  refine e_nameV (v1 := vc_308) rfl ?_
  refine e_aload_n dX8_init_22 rfl ?_
  refine e_sipush (x := (3060 : Int32)) dX8_init_23 (by decide) ?_
  refine e_newa (N := 3060) (ty := .int) (n := 177) (S' := rP X 178) (v' := vc_309) (bc' := 19) (bs' := 4227) rfl (Or.inl rfl) dX8_init_26 wk_157 rfl rfl (lP (by decide +kernel)) (by decide) (by decide) (by decide) (Nat.le_of_ble_eq_true rfl) rfl rfl (sP (by decide +kernel)) rfl ?_
  refine e_putR (j := 7) dX8_init_28 (kP (kd := .inr 8) (by decide +kernel)) rc8 (by decide) wfX8_16 (Or.inr ⟨rfl, rfl, rfl⟩) (Or.inr ⟨_, rfl⟩) rfl ?_
  refine e_nameV (v1 := vc_310) rfl ?_
  refine e_aload_n dX8_init_31 rfl ?_
  refine e_bipush (x := (9 : Int32)) dX8_init_32 (by decide) ?_
  refine e_newa (N := 9) (ty := .int) (n := 178) (S' := rP X 179) (v' := vc_311) (bc' := 18) (bs' := 4218) rfl (Or.inl rfl) dX8_init_34 wk_157 rfl rfl (lP (by decide +kernel)) (by decide) (by decide) (by decide) (Nat.le_of_ble_eq_true rfl) rfl rfl (sP (by decide +kernel)) rfl ?_
  refine e_putR (j := 8) dX8_init_36 (kP (kd := .inr 8) (by decide +kernel)) rc8 (by decide) wfX8_19 (Or.inr ⟨rfl, rfl, rfl⟩) (Or.inr ⟨_, rfl⟩) rfl ?_
  refine e_nameV (v1 := vc_312) rfl ?_
  refine e_aload_n dX8_init_39 rfl ?_
  refine e_bipush (x := (9 : Int32)) dX8_init_40 (by decide) ?_
  refine e_newa (N := 9) (ty := .int) (n := 179) (S' := rP X 180) (v' := vc_313) (bc' := 17) (bs' := 4209) rfl (Or.inl rfl) dX8_init_42 wk_157 rfl rfl (lP (by decide +kernel)) (by decide) (by decide) (by decide) (Nat.le_of_ble_eq_true rfl) rfl rfl (sP (by decide +kernel)) rfl ?_
  refine e_putR (j := 9) dX8_init_44 (kP (kd := .inr 8) (by decide +kernel)) rc8 (by decide) wfX8_22 (Or.inr ⟨rfl, rfl, rfl⟩) (Or.inr ⟨_, rfl⟩) rfl ?_
  refine e_nameV (v1 := vc_314) rfl ?_
  refine e_aload_n dX8_init_47 rfl ?_
  refine e_sipush (x := (810 : Int32)) dX8_init_48 (by decide) ?_
  refine e_newa (N := 810) (ty := .int) (n := 180) (S' := rP X 181) (v' := vc_315) (bc' := 16) (bs' := 3399) rfl (Or.inl rfl) dX8_init_51 wk_157 rfl rfl (lP (by decide +kernel)) (by decide) (by decide) (by decide) (Nat.le_of_ble_eq_true rfl) rfl rfl (sP (by decide +kernel)) rfl ?_
  refine e_putR (j := 10) dX8_init_53 (kP (kd := .inr 8) (by decide +kernel)) rc8 (by decide) wfX8_25 (Or.inr ⟨rfl, rfl, rfl⟩) (Or.inr ⟨_, rfl⟩) rfl ?_
  refine e_nameV (v1 := vc_316) rfl ?_
  refine e_aload_n dX8_init_56 rfl ?_
  refine e_sipush (x := (810 : Int32)) dX8_init_57 (by decide) ?_
  refine e_newa (N := 810) (ty := .int) (n := 181) (S' := rP X 182) (v' := vc_317) (bc' := 15) (bs' := 2589) rfl (Or.inl rfl) dX8_init_60 wk_157 rfl rfl (lP (by decide +kernel)) (by decide) (by decide) (by decide) (Nat.le_of_ble_eq_true rfl) rfl rfl (sP (by decide +kernel)) rfl ?_
  refine e_putR (j := 11) dX8_init_62 (kP (kd := .inr 8) (by decide +kernel)) rc8 (by decide) wfX8_28 (Or.inr ⟨rfl, rfl, rfl⟩) (Or.inr ⟨_, rfl⟩) rfl ?_
  refine e_nameV (v1 := vc_318) rfl ?_
  refine e_aload_n dX8_init_65 rfl ?_
  refine e_sipush (x := (810 : Int32)) dX8_init_66 (by decide) ?_
  refine e_newa (N := 810) (ty := .int) (n := 182) (S' := rP X 183) (v' := vc_319) (bc' := 14) (bs' := 1779) rfl (Or.inl rfl) dX8_init_69 wk_157 rfl rfl (lP (by decide +kernel)) (by decide) (by decide) (by decide) (Nat.le_of_ble_eq_true rfl) rfl rfl (sP (by decide +kernel)) rfl ?_
  refine e_putR (j := 12) dX8_init_71 (kP (kd := .inr 8) (by decide +kernel)) rc8 (by decide) wfX8_31 (Or.inr ⟨rfl, rfl, rfl⟩) (Or.inr ⟨_, rfl⟩) rfl ?_
  refine e_nameV (v1 := vc_320) rfl ?_
  refine e_aload_n dX8_init_74 rfl ?_
  refine e_bipush (x := (7 : Int32)) dX8_init_75 (by decide) ?_
  refine e_newa (N := 7) (ty := .int) (n := 183) (S' := rP X 184) (v' := vc_321) (bc' := 13) (bs' := 1772) rfl (Or.inl rfl) dX8_init_77 wk_157 rfl rfl (lP (by decide +kernel)) (by decide) (by decide) (by decide) (Nat.le_of_ble_eq_true rfl) rfl rfl (sP (by decide +kernel)) rfl ?_
  refine e_putR (j := 17) dX8_init_79 (kP (kd := .inr 8) (by decide +kernel)) rc8 (by decide) wfX8_34 (Or.inr ⟨rfl, rfl, rfl⟩) (Or.inr ⟨_, rfl⟩) rfl ?_
  refine e_nameV (v1 := vc_322) rfl ?_
  refine e_aload_n dX8_init_82 rfl ?_
  refine e_bipush (x := (80 : Int32)) dX8_init_83 (by decide) ?_
  refine e_newa (N := 80) (ty := .int) (n := 184) (S' := rP X 185) (v' := vc_323) (bc' := 12) (bs' := 1692) rfl (Or.inl rfl) dX8_init_85 wk_157 rfl rfl (lP (by decide +kernel)) (by decide) (by decide) (by decide) (Nat.le_of_ble_eq_true rfl) rfl rfl (sP (by decide +kernel)) rfl ?_
  refine e_putR (j := 18) dX8_init_87 (kP (kd := .inr 8) (by decide +kernel)) rc8 (by decide) wfX8_37 (Or.inr ⟨rfl, rfl, rfl⟩) (Or.inr ⟨_, rfl⟩) rfl ?_
  refine e_nameV (v1 := vc_324) rfl ?_
  refine e_aload_n dX8_init_90 rfl ?_
  refine e_sipush (x := (156 : Int32)) dX8_init_91 (by decide) ?_
  refine e_newa (N := 156) (ty := .int) (n := 185) (S' := rP X 186) (v' := vc_325) (bc' := 11) (bs' := 1536) rfl (Or.inl rfl) dX8_init_94 wk_157 rfl rfl (lP (by decide +kernel)) (by decide) (by decide) (by decide) (Nat.le_of_ble_eq_true rfl) rfl rfl (sP (by decide +kernel)) rfl ?_
  refine e_putR (j := 19) dX8_init_96 (kP (kd := .inr 8) (by decide +kernel)) rc8 (by decide) wfX8_40 (Or.inr ⟨rfl, rfl, rfl⟩) (Or.inr ⟨_, rfl⟩) rfl ?_
  refine e_nameV (v1 := vc_326) rfl ?_
  refine e_aload_n dX8_init_99 rfl ?_
  refine e_bipush (x := (12 : Int32)) dX8_init_100 (by decide) ?_
  refine e_newa (N := 12) (ty := .int) (n := 186) (S' := rP X 187) (v' := vc_327) (bc' := 10) (bs' := 1524) rfl (Or.inl rfl) dX8_init_102 wk_157 rfl rfl (lP (by decide +kernel)) (by decide) (by decide) (by decide) (Nat.le_of_ble_eq_true rfl) rfl rfl (sP (by decide +kernel)) rfl ?_
  refine e_putR (j := 20) dX8_init_104 (kP (kd := .inr 8) (by decide +kernel)) rc8 (by decide) wfX8_43 (Or.inr ⟨rfl, rfl, rfl⟩) (Or.inr ⟨_, rfl⟩) rfl ?_
  refine e_nameV (v1 := vc_328) rfl ?_
  refine e_aload_n dX8_init_107 rfl ?_
  refine e_iconst (x := (3 : Int32)) dX8_init_108 (by decide) ?_
  refine e_putI (j := 23) dX8_init_109 (kP (kd := .inr 8) (by decide +kernel)) rc8 (by decide) wfX8_46 rfl rfl ?_
  refine e_nameV (v1 := vc_329) rfl ?_
  refine e_aload_n dX8_init_112 rfl ?_
  refine e_sipush (x := (416 : Int32)) dX8_init_113 (by decide) ?_
  refine e_newa (N := 416) (ty := .int) (n := 187) (S' := rP X 188) (v' := vc_330) (bc' := 9) (bs' := 1108) rfl (Or.inl rfl) dX8_init_116 wk_157 rfl rfl (lP (by decide +kernel)) (by decide) (by decide) (by decide) (Nat.le_of_ble_eq_true rfl) rfl rfl (sP (by decide +kernel)) rfl ?_
  refine e_putR (j := 24) dX8_init_118 (kP (kd := .inr 8) (by decide +kernel)) rc8 (by decide) wfX8_50 (Or.inr ⟨rfl, rfl, rfl⟩) (Or.inr ⟨_, rfl⟩) rfl ?_
  refine e_nameV (v1 := vc_331) rfl ?_
  refine e_aload_n dX8_init_121 rfl ?_
  refine e_sipush (x := (416 : Int32)) dX8_init_122 (by decide) ?_
  refine e_newa (N := 416) (ty := .int) (n := 188) (S' := rP X 189) (v' := vc_332) (bc' := 8) (bs' := 692) rfl (Or.inl rfl) dX8_init_125 wk_157 rfl rfl (lP (by decide +kernel)) (by decide) (by decide) (by decide) (Nat.le_of_ble_eq_true rfl) rfl rfl (sP (by decide +kernel)) rfl ?_
  refine e_putR (j := 25) dX8_init_127 (kP (kd := .inr 8) (by decide +kernel)) rc8 (by decide) wfX8_53 (Or.inr ⟨rfl, rfl, rfl⟩) (Or.inr ⟨_, rfl⟩) rfl ?_
  refine e_nameV (v1 := vc_333) rfl ?_
  refine e_aload_n dX8_init_130 rfl ?_
  refine e_sipush (x := (416 : Int32)) dX8_init_131 (by decide) ?_
  refine e_newa (N := 416) (ty := .int) (n := 189) (S' := rP X 190) (v' := vc_334) (bc' := 7) (bs' := 276) rfl (Or.inl rfl) dX8_init_134 wk_157 rfl rfl (lP (by decide +kernel)) (by decide) (by decide) (by decide) (Nat.le_of_ble_eq_true rfl) rfl rfl (sP (by decide +kernel)) rfl ?_
  refine e_putR (j := 26) dX8_init_136 (kP (kd := .inr 8) (by decide +kernel)) rc8 (by decide) wfX8_56 (Or.inr ⟨rfl, rfl, rfl⟩) (Or.inr ⟨_, rfl⟩) rfl ?_
  refine e_nameV (v1 := vc_335) rfl ?_
  refine e_aload_n dX8_init_139 rfl ?_
  refine e_bipush (x := (12 : Int32)) dX8_init_140 (by decide) ?_
  refine e_newa (N := 12) (ty := .int) (n := 190) (S' := rP X 191) (v' := vc_336) (bc' := 6) (bs' := 264) rfl (Or.inl rfl) dX8_init_142 wk_157 rfl rfl (lP (by decide +kernel)) (by decide) (by decide) (by decide) (Nat.le_of_ble_eq_true rfl) rfl rfl (sP (by decide +kernel)) rfl ?_
  refine e_putR (j := 31) dX8_init_144 (kP (kd := .inr 8) (by decide +kernel)) rc8 (by decide) wfX8_59 (Or.inr ⟨rfl, rfl, rfl⟩) (Or.inr ⟨_, rfl⟩) rfl ?_
  refine e_nameV (v1 := vc_337) rfl ?_
  refine e_aload_n dX8_init_147 rfl ?_
  refine e_bipush (x := (12 : Int32)) dX8_init_148 (by decide) ?_
  refine e_newa (N := 12) (ty := .int) (n := 191) (S' := rP X 192) (v' := vc_338) (bc' := 5) (bs' := 252) rfl (Or.inl rfl) dX8_init_150 wk_157 rfl rfl (lP (by decide +kernel)) (by decide) (by decide) (by decide) (Nat.le_of_ble_eq_true rfl) rfl rfl (sP (by decide +kernel)) rfl ?_
  refine e_putR (j := 32) dX8_init_152 (kP (kd := .inr 8) (by decide +kernel)) rc8 (by decide) wfX8_62 (Or.inr ⟨rfl, rfl, rfl⟩) (Or.inr ⟨_, rfl⟩) rfl ?_
  refine e_nameV (v1 := vc_339) rfl ?_
  refine e_aload_n dX8_init_155 rfl ?_
  refine e_bipush (x := (12 : Int32)) dX8_init_156 (by decide) ?_
  refine e_newa (N := 12) (ty := .int) (n := 192) (S' := rP X 193) (v' := vc_340) (bc' := 4) (bs' := 240) rfl (Or.inl rfl) dX8_init_158 wk_157 rfl rfl (lP (by decide +kernel)) (by decide) (by decide) (by decide) (Nat.le_of_ble_eq_true rfl) rfl rfl (sP (by decide +kernel)) rfl ?_
  refine e_putR (j := 33) dX8_init_160 (kP (kd := .inr 8) (by decide +kernel)) rc8 (by decide) wfX8_65 (Or.inr ⟨rfl, rfl, rfl⟩) (Or.inr ⟨_, rfl⟩) rfl ?_
  refine e_nameV (v1 := vc_341) rfl ?_
  refine e_aload_n dX8_init_163 rfl ?_
  refine e_bipush (x := (48 : Int32)) dX8_init_164 (by decide) ?_
  refine e_newa (N := 48) (ty := .int) (n := 193) (S' := rP X 194) (v' := vc_342) (bc' := 3) (bs' := 192) rfl (Or.inl rfl) dX8_init_166 wk_157 rfl rfl (lP (by decide +kernel)) (by decide) (by decide) (by decide) (Nat.le_of_ble_eq_true rfl) rfl rfl (sP (by decide +kernel)) rfl ?_
  refine e_putR (j := 35) dX8_init_168 (kP (kd := .inr 8) (by decide +kernel)) rc8 (by decide) wfX8_68 (Or.inr ⟨rfl, rfl, rfl⟩) (Or.inr ⟨_, rfl⟩) rfl ?_
  refine e_nameV (v1 := vc_343) rfl ?_
  refine e_aload_n dX8_init_171 rfl ?_
  refine e_bipush (x := (24 : Int32)) dX8_init_172 (by decide) ?_
  refine e_newa (N := 24) (ty := .int) (n := 194) (S' := rP X 195) (v' := vc_344) (bc' := 2) (bs' := 168) rfl (Or.inl rfl) dX8_init_174 wk_157 rfl rfl (lP (by decide +kernel)) (by decide) (by decide) (by decide) (Nat.le_of_ble_eq_true rfl) rfl rfl (sP (by decide +kernel)) rfl ?_
  refine e_putR (j := 36) dX8_init_176 (kP (kd := .inr 8) (by decide +kernel)) rc8 (by decide) wfX8_71 (Or.inr ⟨rfl, rfl, rfl⟩) (Or.inr ⟨_, rfl⟩) rfl ?_
  refine e_nameV (v1 := vc_345) rfl ?_
  refine e_aload_n dX8_init_179 rfl ?_
  refine e_sipush (x := (144 : Int32)) dX8_init_180 (by decide) ?_
  refine e_newa (N := 144) (ty := .int) (n := 195) (S' := rP X 196) (v' := vc_346) (bc' := 1) (bs' := 24) rfl (Or.inl rfl) dX8_init_183 wk_157 rfl rfl (lP (by decide +kernel)) (by decide) (by decide) (by decide) (Nat.le_of_ble_eq_true rfl) rfl rfl (sP (by decide +kernel)) rfl ?_
  refine e_putR (j := 40) dX8_init_185 (kP (kd := .inr 8) (by decide +kernel)) rc8 (by decide) wfX8_74 (Or.inr ⟨rfl, rfl, rfl⟩) (Or.inr ⟨_, rfl⟩) rfl ?_
  refine e_nameV (v1 := vc_347) rfl ?_
  refine e_aload_n dX8_init_188 rfl ?_
  refine e_bipush (x := (24 : Int32)) dX8_init_189 (by decide) ?_
  refine e_newa (N := 24) (ty := .int) (n := 196) (S' := rP X 197) (v' := vc_348) (bc' := 0) (bs' := 0) rfl (Or.inl rfl) dX8_init_191 wk_157 rfl rfl (lP (by decide +kernel)) (by decide) (by decide) (by decide) (Nat.le_of_ble_eq_true rfl) rfl rfl (sP (by decide +kernel)) rfl ?_
  refine e_putR (j := 42) dX8_init_193 (kP (kd := .inr 8) (by decide +kernel)) rc8 (by decide) wfX8_77 (Or.inr ⟨rfl, rfl, rfl⟩) (Or.inr ⟨_, rfl⟩) rfl ?_
  refine e_nameV (v1 := vc_349) rfl ?_
  exact e_ret dX8_init_196 rfl ⟨rfl, rfl, rfl⟩
