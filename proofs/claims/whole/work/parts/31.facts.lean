/-! facts of the tables that the block rules use -/
theorem pm_st1z {ls ls2 : List pm_V} {i : Nat} {v z : pm_V} (hz : z.1 ≠ 1) (h1 : ls[i - 1]? = some z) (h2 : ls.set i v = ls2) : pm_st1 ls i v = ls2 := by
  unfold pm_st1
  rw [h1]
  rw [if_neg (fun q => hz (Option.some.inj q.2))]
  exact h2
theorem nf_0_1 : pm_nf 0 1 = true := by decide +kernel
theorem nf_0_14 : pm_nf 0 14 = true := by decide +kernel
theorem nf_132_10 : pm_nf 132 10 = true := by decide +kernel
theorem nf_132_11 : pm_nf 132 11 = true := by decide +kernel
theorem nf_138_10 : pm_nf 138 10 = true := by decide +kernel
theorem nf_138_11 : pm_nf 138 11 = true := by decide +kernel
theorem nf_138_12 : pm_nf 138 12 = true := by decide +kernel
theorem nf_138_13 : pm_nf 138 13 = true := by decide +kernel
theorem nf_138_14 : pm_nf 138 14 = true := by decide +kernel
theorem nf_138_7 : pm_nf 138 7 = true := by decide +kernel
theorem nf_138_8 : pm_nf 138 8 = true := by decide +kernel
theorem nf_138_9 : pm_nf 138 9 = true := by decide +kernel
theorem nf_141_3 : pm_nf 141 3 = true := by decide +kernel
theorem nf_141_4 : pm_nf 141 4 = true := by decide +kernel
theorem nf_141_5 : pm_nf 141 5 = true := by decide +kernel
theorem nf_141_6 : pm_nf 141 6 = true := by decide +kernel
theorem nf_141_7 : pm_nf 141 7 = true := by decide +kernel
theorem nf_142_0 : pm_nf 142 0 = true := by decide +kernel
theorem nf_142_18 : pm_nf 142 18 = true := by decide +kernel
theorem nf_142_19 : pm_nf 142 19 = true := by decide +kernel
theorem nf_142_2 : pm_nf 142 2 = true := by decide +kernel
theorem nf_142_20 : pm_nf 142 20 = true := by decide +kernel
theorem nf_142_21 : pm_nf 142 21 = true := by decide +kernel
theorem nf_142_22 : pm_nf 142 22 = true := by decide +kernel
theorem nf_142_24 : pm_nf 142 24 = true := by decide +kernel
theorem nf_142_28 : pm_nf 142 28 = true := by decide +kernel
theorem nf_142_29 : pm_nf 142 29 = true := by decide +kernel
theorem nf_142_3 : pm_nf 142 3 = true := by decide +kernel
theorem nf_142_30 : pm_nf 142 30 = true := by decide +kernel
theorem nf_142_31 : pm_nf 142 31 = true := by decide +kernel
theorem nf_142_34 : pm_nf 142 34 = true := by decide +kernel
theorem nf_142_35 : pm_nf 142 35 = true := by decide +kernel
theorem nf_142_36 : pm_nf 142 36 = true := by decide +kernel
theorem nf_142_37 : pm_nf 142 37 = true := by decide +kernel
theorem nf_142_4 : pm_nf 142 4 = true := by decide +kernel
theorem nf_142_40 : pm_nf 142 40 = true := by decide +kernel
theorem nf_142_41 : pm_nf 142 41 = true := by decide +kernel
theorem nf_142_42 : pm_nf 142 42 = true := by decide +kernel
theorem nf_142_43 : pm_nf 142 43 = true := by decide +kernel
theorem nf_142_45 : pm_nf 142 45 = true := by decide +kernel
theorem nf_142_46 : pm_nf 142 46 = true := by decide +kernel
theorem nf_142_5 : pm_nf 142 5 = true := by decide +kernel
theorem nf_142_50 : pm_nf 142 50 = true := by decide +kernel
theorem nf_142_6 : pm_nf 142 6 = true := by decide +kernel
theorem nf_142_60 : pm_nf 142 60 = true := by decide +kernel
theorem nf_142_7 : pm_nf 142 7 = true := by decide +kernel
theorem nf_142_8 : pm_nf 142 8 = true := by decide +kernel
theorem nf_18_1 : pm_nf 18 1 = true := by decide +kernel
theorem nf_18_2 : pm_nf 18 2 = true := by decide +kernel
theorem nf_2_15 : pm_nf 2 15 = true := by decide +kernel
theorem nf_2_16 : pm_nf 2 16 = true := by decide +kernel
theorem nf_2_17 : pm_nf 2 17 = true := by decide +kernel
theorem nf_2_18 : pm_nf 2 18 = true := by decide +kernel
theorem nf_36_15 : pm_nf 36 15 = true := by decide +kernel
theorem nf_36_16 : pm_nf 36 16 = true := by decide +kernel
theorem nf_36_17 : pm_nf 36 17 = true := by decide +kernel
theorem nf_36_18 : pm_nf 36 18 = true := by decide +kernel
theorem nf_52_1 : pm_nf 52 1 = true := by decide +kernel
theorem nf_52_2 : pm_nf 52 2 = true := by decide +kernel
theorem nf_70_1 : pm_nf 70 1 = true := by decide +kernel
theorem nf_70_2 : pm_nf 70 2 = true := by decide +kernel
theorem nf_70_3 : pm_nf 70 3 = true := by decide +kernel
theorem nf_70_4 : pm_nf 70 4 = true := by decide +kernel
theorem nf_70_5 : pm_nf 70 5 = true := by decide +kernel
theorem nf_70_6 : pm_nf 70 6 = true := by decide +kernel
theorem nf_71_1 : pm_nf 71 1 = true := by decide +kernel
theorem nf_72_1 : pm_nf 72 1 = true := by decide +kernel
theorem nf_73_10 : pm_nf 73 10 = true := by decide +kernel
theorem nf_73_11 : pm_nf 73 11 = true := by decide +kernel
theorem nf_73_12 : pm_nf 73 12 = true := by decide +kernel
theorem nf_73_13 : pm_nf 73 13 = true := by decide +kernel
theorem nf_73_5 : pm_nf 73 5 = true := by decide +kernel
theorem nf_73_6 : pm_nf 73 6 = true := by decide +kernel
theorem nf_73_7 : pm_nf 73 7 = true := by decide +kernel
theorem nf_73_8 : pm_nf 73 8 = true := by decide +kernel
theorem nf_73_9 : pm_nf 73 9 = true := by decide +kernel
theorem nf_77_10 : pm_nf 77 10 = true := by decide +kernel
theorem nf_77_11 : pm_nf 77 11 = true := by decide +kernel
theorem nf_77_12 : pm_nf 77 12 = true := by decide +kernel
theorem nf_77_13 : pm_nf 77 13 = true := by decide +kernel
theorem nr_1 : pm_nr 1 = true := by decide +kernel
theorem nr_10 : pm_nr 10 = true := by decide +kernel
theorem nr_11 : pm_nr 11 = true := by decide +kernel
theorem nr_118 : pm_nr 118 = true := by decide +kernel
theorem nr_119 : pm_nr 119 = true := by decide +kernel
theorem nr_12 : pm_nr 12 = true := by decide +kernel
theorem nr_13 : pm_nr 13 = true := by decide +kernel
theorem nr_133 : pm_nr 133 = true := by decide +kernel
theorem nr_134 : pm_nr 134 = true := by decide +kernel
theorem nr_135 : pm_nr 135 = true := by decide +kernel
theorem nr_136 : pm_nr 136 = true := by decide +kernel
theorem nr_137 : pm_nr 137 = true := by decide +kernel
theorem nr_139 : pm_nr 139 = true := by decide +kernel
theorem nr_14 : pm_nr 14 = true := by decide +kernel
theorem nr_140 : pm_nr 140 = true := by decide +kernel
theorem nr_143 : pm_nr 143 = true := by decide +kernel
theorem nr_144 : pm_nr 144 = true := by decide +kernel
theorem nr_145 : pm_nr 145 = true := by decide +kernel
theorem nr_146 : pm_nr 146 = true := by decide +kernel
theorem nr_147 : pm_nr 147 = true := by decide +kernel
theorem nr_148 : pm_nr 148 = true := by decide +kernel
theorem nr_149 : pm_nr 149 = true := by decide +kernel
theorem nr_15 : pm_nr 15 = true := by decide +kernel
theorem nr_150 : pm_nr 150 = true := by decide +kernel
theorem nr_151 : pm_nr 151 = true := by decide +kernel
theorem nr_152 : pm_nr 152 = true := by decide +kernel
theorem nr_153 : pm_nr 153 = true := by decide +kernel
theorem nr_154 : pm_nr 154 = true := by decide +kernel
theorem nr_155 : pm_nr 155 = true := by decide +kernel
theorem nr_156 : pm_nr 156 = true := by decide +kernel
theorem nr_157 : pm_nr 157 = true := by decide +kernel
theorem nr_158 : pm_nr 158 = true := by decide +kernel
theorem nr_159 : pm_nr 159 = true := by decide +kernel
theorem nr_16 : pm_nr 16 = true := by decide +kernel
theorem nr_160 : pm_nr 160 = true := by decide +kernel
theorem nr_161 : pm_nr 161 = true := by decide +kernel
theorem nr_162 : pm_nr 162 = true := by decide +kernel
theorem nr_163 : pm_nr 163 = true := by decide +kernel
theorem nr_164 : pm_nr 164 = true := by decide +kernel
theorem nr_165 : pm_nr 165 = true := by decide +kernel
theorem nr_166 : pm_nr 166 = true := by decide +kernel
theorem nr_167 : pm_nr 167 = true := by decide +kernel
theorem nr_168 : pm_nr 168 = true := by decide +kernel
theorem nr_169 : pm_nr 169 = true := by decide +kernel
theorem nr_17 : pm_nr 17 = true := by decide +kernel
theorem nr_170 : pm_nr 170 = true := by decide +kernel
theorem nr_171 : pm_nr 171 = true := by decide +kernel
theorem nr_172 : pm_nr 172 = true := by decide +kernel
theorem nr_173 : pm_nr 173 = true := by decide +kernel
theorem nr_174 : pm_nr 174 = true := by decide +kernel
theorem nr_175 : pm_nr 175 = true := by decide +kernel
theorem nr_176 : pm_nr 176 = true := by decide +kernel
theorem nr_3 : pm_nr 3 = true := by decide +kernel
theorem nr_37 : pm_nr 37 = true := by decide +kernel
theorem nr_38 : pm_nr 38 = true := by decide +kernel
theorem nr_4 : pm_nr 4 = true := by decide +kernel
theorem nr_40 : pm_nr 40 = true := by decide +kernel
theorem nr_41 : pm_nr 41 = true := by decide +kernel
theorem nr_42 : pm_nr 42 = true := by decide +kernel
theorem nr_43 : pm_nr 43 = true := by decide +kernel
theorem nr_44 : pm_nr 44 = true := by decide +kernel
theorem nr_45 : pm_nr 45 = true := by decide +kernel
theorem nr_46 : pm_nr 46 = true := by decide +kernel
theorem nr_47 : pm_nr 47 = true := by decide +kernel
theorem nr_48 : pm_nr 48 = true := by decide +kernel
theorem nr_5 : pm_nr 5 = true := by decide +kernel
theorem nr_6 : pm_nr 6 = true := by decide +kernel
theorem nr_7 : pm_nr 7 = true := by decide +kernel
theorem nr_74 : pm_nr 74 = true := by decide +kernel
theorem nr_75 : pm_nr 75 = true := by decide +kernel
theorem nr_76 : pm_nr 76 = true := by decide +kernel
theorem nr_78 : pm_nr 78 = true := by decide +kernel
theorem nr_79 : pm_nr 79 = true := by decide +kernel
theorem nr_8 : pm_nr 8 = true := by decide +kernel
theorem nr_80 : pm_nr 80 = true := by decide +kernel
theorem nr_81 : pm_nr 81 = true := by decide +kernel
theorem nr_82 : pm_nr 82 = true := by decide +kernel
theorem nr_9 : pm_nr 9 = true := by decide +kernel
theorem pf_0_15 : pm_fld 0 15 = some (0, 1) := by decide +kernel
theorem pf_0_18 : pm_fld 0 18 = some (0, 2) := by decide +kernel
theorem pf_0_21 : pm_fld 0 21 = some (0, 3) := by decide +kernel
theorem pf_0_24 : pm_fld 0 24 = some (0, 4) := by decide +kernel
theorem pf_0_27 : pm_fld 0 27 = some (0, 5) := by decide +kernel
theorem pf_0_30 : pm_fld 0 30 = some (0, 6) := by decide +kernel
theorem pf_0_33 : pm_fld 0 33 = some (0, 7) := by decide +kernel
theorem pf_0_36 : pm_fld 0 36 = some (0, 8) := by decide +kernel
theorem pf_0_39 : pm_fld 0 39 = some (0, 9) := by decide +kernel
theorem pf_0_42 : pm_fld 0 42 = some (0, 10) := by decide +kernel
theorem pf_0_45 : pm_fld 0 45 = some (0, 11) := by decide +kernel
theorem pf_0_48 : pm_fld 0 48 = some (0, 12) := by decide +kernel
theorem pf_0_51 : pm_fld 0 51 = some (0, 13) := by decide +kernel
theorem pf_0_54 : pm_fld 0 54 = some (0, 14) := by decide +kernel
theorem pf_0_57 : pm_fld 0 57 = some (0, 15) := by decide +kernel
theorem pf_0_61 : pm_fld 0 61 = some (0, 16) := by decide +kernel
theorem pf_0_64 : pm_fld 0 64 = some (0, 17) := by decide +kernel
theorem pf_0_67 : pm_fld 0 67 = some (0, 18) := by decide +kernel
theorem pf_0_9 : pm_fld 0 9 = some (0, 0) := by decide +kernel
theorem pf_10_15 : pm_fld 10 15 = some (10, 0) := by decide +kernel
theorem pf_10_19 : pm_fld 10 19 = some (10, 1) := by decide +kernel
theorem pf_10_23 : pm_fld 10 23 = some (10, 2) := by decide +kernel
theorem pf_10_27 : pm_fld 10 27 = some (10, 4) := by decide +kernel
theorem pf_10_30 : pm_fld 10 30 = some (0, 4) := by decide +kernel
theorem pf_10_42 : pm_fld 10 42 = some (0, 1) := by decide +kernel
theorem pf_10_55 : pm_fld 10 55 = some (10, 5) := by decide +kernel
theorem pf_10_58 : pm_fld 10 58 = some (10, 7) := by decide +kernel
theorem pf_10_61 : pm_fld 10 61 = some (10, 6) := by decide +kernel
theorem pf_10_70 : pm_fld 10 70 = some (1, 10) := by decide +kernel
theorem pf_10_73 : pm_fld 10 73 = some (1, 11) := by decide +kernel
theorem pf_10_81 : pm_fld 10 81 = some (6, 6) := by decide +kernel
theorem pf_10_84 : pm_fld 10 84 = some (1, 12) := by decide +kernel
theorem pf_10_9 : pm_fld 10 9 = some (10, 3) := by decide +kernel
theorem pf_11_102 : pm_fld 11 102 = some (11, 13) := by decide +kernel
theorem pf_11_106 : pm_fld 11 106 = some (11, 1) := by decide +kernel
theorem pf_11_121 : pm_fld 11 121 = some (0, 15) := by decide +kernel
theorem pf_11_127 : pm_fld 11 127 = some (8, 1) := by decide +kernel
theorem pf_11_139 : pm_fld 11 139 = some (0, 0) := by decide +kernel
theorem pf_11_147 : pm_fld 11 147 = some (0, 3) := by decide +kernel
theorem pf_11_150 : pm_fld 11 150 = some (0, 4) := by decide +kernel
theorem pf_11_156 : pm_fld 11 156 = some (0, 2) := by decide +kernel
theorem pf_11_16 : pm_fld 11 16 = some (11, 4) := by decide +kernel
theorem pf_11_166 : pm_fld 11 166 = some (8, 0) := by decide +kernel
theorem pf_11_173 : pm_fld 11 173 = some (6, 3) := by decide +kernel
theorem pf_11_176 : pm_fld 11 176 = some (6, 4) := by decide +kernel
theorem pf_11_179 : pm_fld 11 179 = some (6, 5) := by decide +kernel
theorem pf_11_182 : pm_fld 11 182 = some (6, 7) := by decide +kernel
theorem pf_11_189 : pm_fld 11 189 = some (6, 9) := by decide +kernel
theorem pf_11_192 : pm_fld 11 192 = some (6, 8) := by decide +kernel
theorem pf_11_198 : pm_fld 11 198 = some (5, 2) := by decide +kernel
theorem pf_11_201 : pm_fld 11 201 = some (5, 3) := by decide +kernel
theorem pf_11_203 : pm_fld 11 203 = some (6, 11) := by decide +kernel
theorem pf_11_206 : pm_fld 11 206 = some (6, 10) := by decide +kernel
theorem pf_11_209 : pm_fld 11 209 = some (5, 4) := by decide +kernel
theorem pf_11_212 : pm_fld 11 212 = some (5, 5) := by decide +kernel
theorem pf_11_215 : pm_fld 11 215 = some (0, 16) := by decide +kernel
theorem pf_11_218 : pm_fld 11 218 = some (5, 6) := by decide +kernel
theorem pf_11_23 : pm_fld 11 23 = some (11, 5) := by decide +kernel
theorem pf_11_243 : pm_fld 11 243 = some (2, 10) := by decide +kernel
theorem pf_11_246 : pm_fld 11 246 = some (2, 5) := by decide +kernel
theorem pf_11_249 : pm_fld 11 249 = some (2, 6) := by decide +kernel
theorem pf_11_252 : pm_fld 11 252 = some (2, 7) := by decide +kernel
theorem pf_11_255 : pm_fld 11 255 = some (8, 2) := by decide +kernel
theorem pf_11_258 : pm_fld 11 258 = some (2, 8) := by decide +kernel
theorem pf_11_27 : pm_fld 11 27 = some (11, 6) := by decide +kernel
theorem pf_11_270 : pm_fld 11 270 = some (3, 13) := by decide +kernel
theorem pf_11_274 : pm_fld 11 274 = some (3, 8) := by decide +kernel
theorem pf_11_277 : pm_fld 11 277 = some (3, 9) := by decide +kernel
theorem pf_11_280 : pm_fld 11 280 = some (3, 10) := by decide +kernel
theorem pf_11_283 : pm_fld 11 283 = some (3, 11) := by decide +kernel
theorem pf_11_286 : pm_fld 11 286 = some (3, 12) := by decide +kernel
theorem pf_11_291 : pm_fld 11 291 = some (10, 4) := by decide +kernel
theorem pf_11_292 : pm_fld 11 292 = some (10, 5) := by decide +kernel
theorem pf_11_295 : pm_fld 11 295 = some (10, 6) := by decide +kernel
theorem pf_11_298 : pm_fld 11 298 = some (10, 7) := by decide +kernel
theorem pf_11_30 : pm_fld 11 30 = some (11, 7) := by decide +kernel
theorem pf_11_311 : pm_fld 11 311 = some (0, 17) := by decide +kernel
theorem pf_11_321 : pm_fld 11 321 = some (6, 12) := by decide +kernel
theorem pf_11_328 : pm_fld 11 328 = some (11, 14) := by decide +kernel
theorem pf_11_337 : pm_fld 11 337 = some (2, 11) := by decide +kernel
theorem pf_11_340 : pm_fld 11 340 = some (3, 14) := by decide +kernel
theorem pf_11_341 : pm_fld 11 341 = some (10, 3) := by decide +kernel
theorem pf_11_344 : pm_fld 11 344 = some (0, 1) := by decide +kernel
theorem pf_11_43 : pm_fld 11 43 = some (11, 2) := by decide +kernel
theorem pf_11_50 : pm_fld 11 50 = some (11, 3) := by decide +kernel
theorem pf_11_59 : pm_fld 11 59 = some (11, 8) := by decide +kernel
theorem pf_11_68 : pm_fld 11 68 = some (11, 9) := by decide +kernel
theorem pf_11_77 : pm_fld 11 77 = some (11, 10) := by decide +kernel
theorem pf_11_86 : pm_fld 11 86 = some (11, 11) := by decide +kernel
theorem pf_11_9 : pm_fld 11 9 = some (11, 0) := by decide +kernel
theorem pf_11_93 : pm_fld 11 93 = some (11, 12) := by decide +kernel
theorem pf_12_102 : pm_fld 12 102 = some (12, 57) := by decide +kernel
theorem pf_12_106 : pm_fld 12 106 = some (12, 58) := by decide +kernel
theorem pf_12_109 : pm_fld 12 109 = some (12, 59) := by decide +kernel
theorem pf_12_112 : pm_fld 12 112 = some (12, 61) := by decide +kernel
theorem pf_12_115 : pm_fld 12 115 = some (12, 62) := by decide +kernel
theorem pf_12_118 : pm_fld 12 118 = some (12, 63) := by decide +kernel
theorem pf_12_121 : pm_fld 12 121 = some (12, 0) := by decide +kernel
theorem pf_12_124 : pm_fld 12 124 = some (12, 2) := by decide +kernel
theorem pf_12_13 : pm_fld 12 13 = some (12, 9) := by decide +kernel
theorem pf_12_131 : pm_fld 12 131 = some (12, 3) := by decide +kernel
theorem pf_12_134 : pm_fld 12 134 = some (12, 5) := by decide +kernel
theorem pf_12_141 : pm_fld 12 141 = some (12, 4) := by decide +kernel
theorem pf_12_144 : pm_fld 12 144 = some (12, 6) := by decide +kernel
theorem pf_12_151 : pm_fld 12 151 = some (12, 7) := by decide +kernel
theorem pf_12_158 : pm_fld 12 158 = some (12, 8) := by decide +kernel
theorem pf_12_17 : pm_fld 12 17 = some (12, 10) := by decide +kernel
theorem pf_12_170 : pm_fld 12 170 = some (12, 18) := by decide +kernel
theorem pf_12_181 : pm_fld 12 181 = some (12, 20) := by decide +kernel
theorem pf_12_20 : pm_fld 12 20 = some (12, 11) := by decide +kernel
theorem pf_12_217 : pm_fld 12 217 = some (12, 21) := by decide +kernel
theorem pf_12_228 : pm_fld 12 228 = some (12, 19) := by decide +kernel
theorem pf_12_23 : pm_fld 12 23 = some (12, 12) := by decide +kernel
theorem pf_12_235 : pm_fld 12 235 = some (12, 22) := by decide +kernel
theorem pf_12_238 : pm_fld 12 238 = some (12, 60) := by decide +kernel
theorem pf_12_246 : pm_fld 12 246 = some (12, 24) := by decide +kernel
theorem pf_12_258 : pm_fld 12 258 = some (12, 29) := by decide +kernel
theorem pf_12_26 : pm_fld 12 26 = some (12, 13) := by decide +kernel
theorem pf_12_264 : pm_fld 12 264 = some (12, 31) := by decide +kernel
theorem pf_12_268 : pm_fld 12 268 = some (12, 28) := by decide +kernel
theorem pf_12_271 : pm_fld 12 271 = some (12, 37) := by decide +kernel
theorem pf_12_274 : pm_fld 12 274 = some (12, 34) := by decide +kernel
theorem pf_12_287 : pm_fld 12 287 = some (12, 30) := by decide +kernel
theorem pf_12_29 : pm_fld 12 29 = some (12, 14) := by decide +kernel
theorem pf_12_317 : pm_fld 12 317 = some (12, 40) := by decide +kernel
theorem pf_12_32 : pm_fld 12 32 = some (12, 15) := by decide +kernel
theorem pf_12_320 : pm_fld 12 320 = some (12, 41) := by decide +kernel
theorem pf_12_329 : pm_fld 12 329 = some (12, 42) := by decide +kernel
theorem pf_12_332 : pm_fld 12 332 = some (12, 43) := by decide +kernel
theorem pf_12_345 : pm_fld 12 345 = some (12, 45) := by decide +kernel
theorem pf_12_348 : pm_fld 12 348 = some (12, 46) := by decide +kernel
theorem pf_12_35 : pm_fld 12 35 = some (12, 16) := by decide +kernel
theorem pf_12_377 : pm_fld 12 377 = some (12, 50) := by decide +kernel
theorem pf_12_38 : pm_fld 12 38 = some (12, 17) := by decide +kernel
theorem pf_12_41 : pm_fld 12 41 = some (12, 23) := by decide +kernel
theorem pf_12_44 : pm_fld 12 44 = some (12, 25) := by decide +kernel
theorem pf_12_47 : pm_fld 12 47 = some (12, 26) := by decide +kernel
theorem pf_12_50 : pm_fld 12 50 = some (12, 27) := by decide +kernel
theorem pf_12_53 : pm_fld 12 53 = some (12, 32) := by decide +kernel
theorem pf_12_56 : pm_fld 12 56 = some (12, 33) := by decide +kernel
theorem pf_12_59 : pm_fld 12 59 = some (12, 35) := by decide +kernel
theorem pf_12_63 : pm_fld 12 63 = some (12, 36) := by decide +kernel
theorem pf_12_66 : pm_fld 12 66 = some (12, 38) := by decide +kernel
theorem pf_12_69 : pm_fld 12 69 = some (12, 39) := by decide +kernel
theorem pf_12_7 : pm_fld 12 7 = some (12, 1) := by decide +kernel
theorem pf_12_72 : pm_fld 12 72 = some (12, 44) := by decide +kernel
theorem pf_12_75 : pm_fld 12 75 = some (12, 47) := by decide +kernel
theorem pf_12_78 : pm_fld 12 78 = some (12, 48) := by decide +kernel
theorem pf_12_81 : pm_fld 12 81 = some (12, 49) := by decide +kernel
theorem pf_12_84 : pm_fld 12 84 = some (12, 51) := by decide +kernel
theorem pf_12_87 : pm_fld 12 87 = some (12, 52) := by decide +kernel
theorem pf_12_90 : pm_fld 12 90 = some (12, 53) := by decide +kernel
theorem pf_12_93 : pm_fld 12 93 = some (12, 54) := by decide +kernel
theorem pf_12_96 : pm_fld 12 96 = some (12, 55) := by decide +kernel
theorem pf_12_99 : pm_fld 12 99 = some (12, 56) := by decide +kernel
theorem pf_1_104 : pm_fld 1 104 = some (0, 0) := by decide +kernel
theorem pf_1_107 : pm_fld 1 107 = some (0, 1) := by decide +kernel
theorem pf_1_114 : pm_fld 1 114 = some (0, 8) := by decide +kernel
theorem pf_1_117 : pm_fld 1 117 = some (0, 9) := by decide +kernel
theorem pf_1_120 : pm_fld 1 120 = some (1, 11) := by decide +kernel
theorem pf_1_124 : pm_fld 1 124 = some (0, 6) := by decide +kernel
theorem pf_1_127 : pm_fld 1 127 = some (0, 5) := by decide +kernel
theorem pf_1_15 : pm_fld 1 15 = some (1, 3) := by decide +kernel
theorem pf_1_18 : pm_fld 1 18 = some (1, 4) := by decide +kernel
theorem pf_1_21 : pm_fld 1 21 = some (1, 10) := by decide +kernel
theorem pf_1_25 : pm_fld 1 25 = some (1, 12) := by decide +kernel
theorem pf_1_28 : pm_fld 1 28 = some (1, 0) := by decide +kernel
theorem pf_1_32 : pm_fld 1 32 = some (1, 1) := by decide +kernel
theorem pf_1_36 : pm_fld 1 36 = some (1, 13) := by decide +kernel
theorem pf_1_48 : pm_fld 1 48 = some (8, 1) := by decide +kernel
theorem pf_1_60 : pm_fld 1 60 = some (8, 0) := by decide +kernel
theorem pf_1_70 : pm_fld 1 70 = some (1, 5) := by decide +kernel
theorem pf_1_73 : pm_fld 1 73 = some (1, 6) := by decide +kernel
theorem pf_1_76 : pm_fld 1 76 = some (1, 7) := by decide +kernel
theorem pf_1_79 : pm_fld 1 79 = some (1, 8) := by decide +kernel
theorem pf_1_82 : pm_fld 1 82 = some (1, 9) := by decide +kernel
theorem pf_1_9 : pm_fld 1 9 = some (1, 2) := by decide +kernel
theorem pf_1_91 : pm_fld 1 91 = some (0, 2) := by decide +kernel
theorem pf_1_94 : pm_fld 1 94 = some (0, 7) := by decide +kernel
theorem pf_2_110 : pm_fld 2 110 = some (8, 1) := by decide +kernel
theorem pf_2_121 : pm_fld 2 121 = some (1, 6) := by decide +kernel
theorem pf_2_124 : pm_fld 2 124 = some (1, 7) := by decide +kernel
theorem pf_2_15 : pm_fld 2 15 = some (2, 6) := by decide +kernel
theorem pf_2_18 : pm_fld 2 18 = some (2, 7) := by decide +kernel
theorem pf_2_21 : pm_fld 2 21 = some (2, 8) := by decide +kernel
theorem pf_2_24 : pm_fld 2 24 = some (2, 9) := by decide +kernel
theorem pf_2_28 : pm_fld 2 28 = some (2, 0) := by decide +kernel
theorem pf_2_32 : pm_fld 2 32 = some (2, 1) := by decide +kernel
theorem pf_2_36 : pm_fld 2 36 = some (2, 2) := by decide +kernel
theorem pf_2_40 : pm_fld 2 40 = some (2, 3) := by decide +kernel
theorem pf_2_44 : pm_fld 2 44 = some (2, 4) := by decide +kernel
theorem pf_2_48 : pm_fld 2 48 = some (2, 11) := by decide +kernel
theorem pf_2_52 : pm_fld 2 52 = some (2, 10) := by decide +kernel
theorem pf_2_56 : pm_fld 2 56 = some (6, 11) := by decide +kernel
theorem pf_2_61 : pm_fld 2 61 = some (0, 16) := by decide +kernel
theorem pf_2_66 : pm_fld 2 66 = some (5, 6) := by decide +kernel
theorem pf_2_80 : pm_fld 2 80 = some (0, 6) := by decide +kernel
theorem pf_2_83 : pm_fld 2 83 = some (0, 1) := by decide +kernel
theorem pf_2_86 : pm_fld 2 86 = some (0, 2) := by decide +kernel
theorem pf_2_9 : pm_fld 2 9 = some (2, 5) := by decide +kernel
theorem pf_3_108 : pm_fld 3 108 = some (8, 1) := by decide +kernel
theorem pf_3_120 : pm_fld 3 120 = some (1, 9) := by decide +kernel
theorem pf_3_139 : pm_fld 3 139 = some (3, 12) := by decide +kernel
theorem pf_3_142 : pm_fld 3 142 = some (3, 8) := by decide +kernel
theorem pf_3_145 : pm_fld 3 145 = some (3, 9) := by decide +kernel
theorem pf_3_148 : pm_fld 3 148 = some (3, 10) := by decide +kernel
theorem pf_3_15 : pm_fld 3 15 = some (3, 6) := by decide +kernel
theorem pf_3_151 : pm_fld 3 151 = some (3, 11) := by decide +kernel
theorem pf_3_19 : pm_fld 3 19 = some (3, 0) := by decide +kernel
theorem pf_3_23 : pm_fld 3 23 = some (3, 1) := by decide +kernel
theorem pf_3_27 : pm_fld 3 27 = some (3, 2) := by decide +kernel
theorem pf_3_31 : pm_fld 3 31 = some (3, 3) := by decide +kernel
theorem pf_3_35 : pm_fld 3 35 = some (3, 4) := by decide +kernel
theorem pf_3_39 : pm_fld 3 39 = some (3, 14) := by decide +kernel
theorem pf_3_43 : pm_fld 3 43 = some (3, 13) := by decide +kernel
theorem pf_3_46 : pm_fld 3 46 = some (6, 11) := by decide +kernel
theorem pf_3_52 : pm_fld 3 52 = some (3, 7) := by decide +kernel
theorem pf_3_56 : pm_fld 3 56 = some (0, 16) := by decide +kernel
theorem pf_3_61 : pm_fld 3 61 = some (5, 6) := by decide +kernel
theorem pf_3_70 : pm_fld 3 70 = some (0, 15) := by decide +kernel
theorem pf_3_81 : pm_fld 3 81 = some (0, 4) := by decide +kernel
theorem pf_3_88 : pm_fld 3 88 = some (0, 1) := by decide +kernel
theorem pf_3_9 : pm_fld 3 9 = some (3, 5) := by decide +kernel
theorem pf_3_91 : pm_fld 3 91 = some (0, 2) := by decide +kernel
theorem pf_4_15 : pm_fld 4 15 = some (4, 1) := by decide +kernel
theorem pf_4_34 : pm_fld 4 34 = some (7, 6) := by decide +kernel
theorem pf_4_38 : pm_fld 4 38 = some (7, 4) := by decide +kernel
theorem pf_4_41 : pm_fld 4 41 = some (0, 15) := by decide +kernel
theorem pf_4_51 : pm_fld 4 51 = some (0, 16) := by decide +kernel
theorem pf_4_9 : pm_fld 4 9 = some (4, 0) := by decide +kernel
theorem pf_4_97 : pm_fld 4 97 = some (7, 5) := by decide +kernel
theorem pf_5_15 : pm_fld 5 15 = some (5, 3) := by decide +kernel
theorem pf_5_20 : pm_fld 5 20 = some (5, 4) := by decide +kernel
theorem pf_5_23 : pm_fld 5 23 = some (5, 5) := by decide +kernel
theorem pf_5_26 : pm_fld 5 26 = some (5, 6) := by decide +kernel
theorem pf_5_29 : pm_fld 5 29 = some (5, 0) := by decide +kernel
theorem pf_5_33 : pm_fld 5 33 = some (5, 1) := by decide +kernel
theorem pf_5_37 : pm_fld 5 37 = some (0, 16) := by decide +kernel
theorem pf_5_43 : pm_fld 5 43 = some (0, 11) := by decide +kernel
theorem pf_5_59 : pm_fld 5 59 = some (6, 11) := by decide +kernel
theorem pf_5_62 : pm_fld 5 62 = some (6, 10) := by decide +kernel
theorem pf_5_9 : pm_fld 5 9 = some (5, 2) := by decide +kernel
theorem pf_6_101 : pm_fld 6 101 = some (1, 9) := by decide +kernel
theorem pf_6_15 : pm_fld 6 15 = some (6, 4) := by decide +kernel
theorem pf_6_18 : pm_fld 6 18 = some (6, 5) := by decide +kernel
theorem pf_6_21 : pm_fld 6 21 = some (6, 6) := by decide +kernel
theorem pf_6_24 : pm_fld 6 24 = some (6, 7) := by decide +kernel
theorem pf_6_30 : pm_fld 6 30 = some (6, 8) := by decide +kernel
theorem pf_6_33 : pm_fld 6 33 = some (6, 9) := by decide +kernel
theorem pf_6_36 : pm_fld 6 36 = some (6, 0) := by decide +kernel
theorem pf_6_40 : pm_fld 6 40 = some (6, 1) := by decide +kernel
theorem pf_6_44 : pm_fld 6 44 = some (6, 2) := by decide +kernel
theorem pf_6_48 : pm_fld 6 48 = some (6, 10) := by decide +kernel
theorem pf_6_52 : pm_fld 6 52 = some (6, 11) := by decide +kernel
theorem pf_6_55 : pm_fld 6 55 = some (6, 12) := by decide +kernel
theorem pf_6_60 : pm_fld 6 60 = some (6, 13) := by decide +kernel
theorem pf_6_64 : pm_fld 6 64 = some (0, 15) := by decide +kernel
theorem pf_6_69 : pm_fld 6 69 = some (8, 1) := by decide +kernel
theorem pf_6_82 : pm_fld 6 82 = some (1, 6) := by decide +kernel
theorem pf_6_84 : pm_fld 6 84 = some (1, 7) := by decide +kernel
theorem pf_6_86 : pm_fld 6 86 = some (1, 5) := by decide +kernel
theorem pf_6_88 : pm_fld 6 88 = some (1, 8) := by decide +kernel
theorem pf_6_9 : pm_fld 6 9 = some (6, 3) := by decide +kernel
theorem pf_6_96 : pm_fld 6 96 = some (1, 4) := by decide +kernel
theorem pf_7_24 : pm_fld 7 24 = some (7, 1) := by decide +kernel
theorem pf_7_28 : pm_fld 7 28 = some (7, 2) := by decide +kernel
theorem pf_7_31 : pm_fld 7 31 = some (7, 6) := by decide +kernel
theorem pf_7_37 : pm_fld 7 37 = some (7, 3) := by decide +kernel
theorem pf_7_40 : pm_fld 7 40 = some (7, 4) := by decide +kernel
theorem pf_7_43 : pm_fld 7 43 = some (7, 5) := by decide +kernel
theorem pf_7_9 : pm_fld 7 9 = some (7, 0) := by decide +kernel
theorem pf_8_13 : pm_fld 8 13 = some (8, 0) := by decide +kernel
theorem pf_8_16 : pm_fld 8 16 = some (8, 1) := by decide +kernel
theorem pf_8_20 : pm_fld 8 20 = some (8, 2) := by decide +kernel
theorem pf_9_15 : pm_fld 9 15 = some (9, 1) := by decide +kernel
theorem pf_9_40 : pm_fld 9 40 = some (7, 4) := by decide +kernel
theorem pf_9_47 : pm_fld 9 47 = some (7, 6) := by decide +kernel
theorem pf_9_56 : pm_fld 9 56 = some (8, 1) := by decide +kernel
theorem pf_9_79 : pm_fld 9 79 = some (7, 5) := by decide +kernel
theorem pf_9_9 : pm_fld 9 9 = some (9, 0) := by decide +kernel
theorem pl_0_101 : pm_lnk 0 101 = some mX0_changeCount := by rfl
theorem pl_0_105 : pm_lnk 0 105 = some mJ6_bitCount_0f7a4 := by rfl
theorem pl_0_110 : pm_lnk 0 110 = some mX0_isGone := by rfl
theorem pl_0_113 : pm_lnk 0 113 = some mX0_variableCount := by rfl
theorem pl_0_117 : pm_lnk 0 117 = some mX0_otherVariable := by rfl
theorem pl_0_121 : pm_lnk 0 121 = some mX0_otherSign := by rfl
theorem pl_0_124 : pm_lnk 0 124 = some mX0_makes := by rfl
theorem pl_0_127 : pm_lnk 0 127 = some mX0_changeSides := by rfl
theorem pl_0_131 : pm_lnk 0 131 = some mX0_apply := by rfl
theorem pl_0_134 : pm_lnk 0 134 = some mX0_restore := by rfl
theorem pl_0_70 : pm_lnk 0 70 = some mJ7_fill_53178 := by rfl
theorem pl_0_76 : pm_lnk 0 76 = some mX0_insert := by rfl
theorem pl_0_80 : pm_lnk 0 80 = some pm_mCpy := by rfl
theorem pl_0_86 : pm_lnk 0 86 = some mX0_linkExpression := by rfl
theorem pl_0_90 : pm_lnk 0 90 = some mX0_linkWays := by rfl
theorem pl_0_93 : pm_lnk 0 93 = some mX0_firstIn := by rfl
theorem pl_0_97 : pm_lnk 0 97 = some mX0_hasNode := by rfl
theorem pl_10_36 : pm_lnk 10 36 = some mX6_couldMend := by rfl
theorem pl_10_45 : pm_lnk 10 45 = some mX1_allShownPass := by rfl
theorem pl_10_51 : pm_lnk 10 51 = some mX10_keepValue := by rfl
theorem pl_10_64 : pm_lnk 10 64 = some pm_mAbs := by rfl
theorem pl_10_77 : pm_lnk 10 77 = some mX1_countPassing := by rfl
theorem pl_10_87 : pm_lnk 10 87 = some mX1_passes := by rfl
theorem pl_11_110 : pm_lnk 11 110 = some mX11_append := by rfl
theorem pl_11_114 : pm_lnk 11 114 = some mX4_read := by rfl
theorem pl_11_118 : pm_lnk 11 118 = some mX11_forgetAnswers := by rfl
theorem pl_11_124 : pm_lnk 11 124 = some mX9_read := by rfl
theorem pl_11_128 : pm_lnk 11 128 = some mX0_hasNode := by rfl
theorem pl_11_143 : pm_lnk 11 143 = some mX0_told := by rfl
theorem pl_11_153 : pm_lnk 11 153 = some mX0_isGone := by rfl
theorem pl_11_161 : pm_lnk 11 161 = some mX8_hasTest := by rfl
theorem pl_11_170 : pm_lnk 11 170 = some mX11_hasRun := by rfl
theorem pl_11_186 : pm_lnk 11 186 = some mX0_hasStatement := by rfl
theorem pl_11_195 : pm_lnk 11 195 = some mX11_learnRuns := by rfl
theorem pl_11_221 : pm_lnk 11 221 = some mX0_changeCount := by rfl
theorem pl_11_224 : pm_lnk 11 224 = some mX0_hasChange := by rfl
theorem pl_11_228 : pm_lnk 11 228 = some mX11_passingWith := by rfl
theorem pl_11_232 : pm_lnk 11 232 = some mX8_shownCount := by rfl
theorem pl_11_236 : pm_lnk 11 236 = some mX0_makes := by rfl
theorem pl_11_240 : pm_lnk 11 240 = some mX11_learnMends := by rfl
theorem pl_11_261 : pm_lnk 11 261 = some mX2_kinds := by rfl
theorem pl_11_264 : pm_lnk 11 264 = some mX2_fittest := by rfl
theorem pl_11_267 : pm_lnk 11 267 = some mX3_find := by rfl
theorem pl_11_288 : pm_lnk 11 288 = some mX10_tryValues := by rfl
theorem pl_11_301 : pm_lnk 11 301 = some mX0_isCondition := by rfl
theorem pl_11_304 : pm_lnk 11 304 = some mX10_passingIfForced := by rfl
theorem pl_11_308 : pm_lnk 11 308 = some mX10_mendingAsking := by rfl
theorem pl_11_314 : pm_lnk 11 314 = some mX0_keepChange := by rfl
theorem pl_11_318 : pm_lnk 11 318 = some mX0_dropLatest := by rfl
theorem pl_11_322 : pm_lnk 11 322 = some mX0_variableCount := by rfl
theorem pl_11_325 : pm_lnk 11 325 = some mX0_allChanges := by rfl
theorem pl_11_331 : pm_lnk 11 331 = some mX6_learn := by rfl
theorem pl_11_334 : pm_lnk 11 334 = some mX5_learn := by rfl
theorem pl_11_335 : pm_lnk 11 335 = some mX2_find := by rfl
theorem pl_11_347 : pm_lnk 11 347 = some mX0_apply := by rfl
theorem pl_11_350 : pm_lnk 11 350 = some mX1_countPassing := by rfl
theorem pl_11_354 : pm_lnk 11 354 = some mX0_restore := by rfl
theorem pl_12_127 : pm_lnk 12 127 = some mX12_puts := by rfl
theorem pl_12_137 : pm_lnk 12 137 = some mX12_byteAt := by rfl
theorem pl_12_147 : pm_lnk 12 147 = some mX12_within := by rfl
theorem pl_12_154 : pm_lnk 12 154 = some mX12_isSign := by rfl
theorem pl_12_161 : pm_lnk 12 161 = some mX12_is := by rfl
theorem pl_12_164 : pm_lnk 12 164 = some mX12_bad := by rfl
theorem pl_12_167 : pm_lnk 12 167 = some mX12_go := by rfl
theorem pl_12_173 : pm_lnk 12 173 = some mX12_adds := by rfl
theorem pl_12_177 : pm_lnk 12 177 = some mX12_variable := by rfl
theorem pl_12_184 : pm_lnk 12 184 = some mX12_part := by rfl
theorem pl_12_187 : pm_lnk 12 187 = some mX12_e := by rfl
theorem pl_12_190 : pm_lnk 12 190 = some mX12_sign := by rfl
theorem pl_12_193 : pm_lnk 12 193 = some mX12_signOf := by rfl
theorem pl_12_196 : pm_lnk 12 196 = some mX12_addsAhead := by rfl
theorem pl_12_200 : pm_lnk 12 200 = some mX12_isOf := by rfl
theorem pl_12_204 : pm_lnk 12 204 = some mX12_joins := by rfl
theorem pl_12_208 : pm_lnk 12 208 = some mX12_term := by rfl
theorem pl_12_211 : pm_lnk 12 211 = some mX12_sum := by rfl
theorem pl_12_214 : pm_lnk 12 214 = some mX12_statement := by rfl
theorem pl_12_220 : pm_lnk 12 220 = some mX12_row := by rfl
theorem pl_12_224 : pm_lnk 12 224 = some mX12_isWord := by rfl
theorem pl_12_231 : pm_lnk 12 231 = some mX12_block := by rfl
theorem pl_12_241 : pm_lnk 12 241 = some mX12_value := by rfl
theorem pl_12_243 : pm_lnk 12 243 = some mX12_testLine := by rfl
theorem pl_12_249 : pm_lnk 12 249 = some mX12_isTest := by rfl
theorem pl_12_252 : pm_lnk 12 252 = some mX12_isOut := by rfl
theorem pl_12_255 : pm_lnk 12 255 = some mX12_worth := by rfl
theorem pl_12_261 : pm_lnk 12 261 = some mX12_joined := by rfl
theorem pl_12_277 : pm_lnk 12 277 = some mX12_isOn := by rfl
theorem pl_12_281 : pm_lnk 12 281 = some mX12_goes := by rfl
theorem pl_12_284 : pm_lnk 12 284 = some mX12_step := by rfl
theorem pl_12_290 : pm_lnk 12 290 = some mX12_comesOut := by rfl
theorem pl_12_293 : pm_lnk 12 293 = some mX12_goesRow := by rfl
theorem pl_12_296 : pm_lnk 12 296 = some mX12_runs := by rfl
theorem pl_12_299 : pm_lnk 12 299 = some mX12_isProgram := by rfl
theorem pl_12_302 : pm_lnk 12 302 = some mX12_passes := by rfl
theorem pl_12_305 : pm_lnk 12 305 = some mX12_isNode := by rfl
theorem pl_12_308 : pm_lnk 12 308 = some mX12_isStatement := by rfl
theorem pl_12_311 : pm_lnk 12 311 = some mX12_statementOf := by rfl
theorem pl_12_314 : pm_lnk 12 314 = some mX12_isGone := by rfl
theorem pl_12_323 : pm_lnk 12 323 = some mX12_isHeld := by rfl
theorem pl_12_326 : pm_lnk 12 326 = some mX12_laysSpectra := by rfl
theorem pl_12_335 : pm_lnk 12 335 = some mX12_scores := by rfl
theorem pl_12_339 : pm_lnk 12 339 = some mX12_isAhead := by rfl
theorem pl_12_342 : pm_lnk 12 342 = some mX12_laysRanked := by rfl
theorem pl_12_351 : pm_lnk 12 351 = some mX12_otherOf := by rfl
theorem pl_12_355 : pm_lnk 12 355 = some mX12_asksSides := by rfl
theorem pl_12_358 : pm_lnk 12 358 = some mX12_asks := by rfl
theorem pl_12_361 : pm_lnk 12 361 = some mX12_changesOf := by rfl
theorem pl_12_364 : pm_lnk 12 364 = some mX12_allPass := by rfl
theorem pl_12_367 : pm_lnk 12 367 = some mX12_puts_ := by rfl
theorem pl_12_370 : pm_lnk 12 370 = some mX12_manyPass := by rfl
theorem pl_12_374 : pm_lnk 12 374 = some mX12_takesOut := by rfl
theorem pl_12_380 : pm_lnk 12 380 = some mX12_laysMendsOf := by rfl
theorem pl_12_383 : pm_lnk 12 383 = some mX12_laysEnds := by rfl
theorem pl_12_386 : pm_lnk 12 386 = some mX12_areAlike := by rfl
theorem pl_12_389 : pm_lnk 12 389 = some mX12_laysMends := by rfl
theorem pl_12_392 : pm_lnk 12 392 = some mX12_manyTests := by rfl
theorem pl_12_395 : pm_lnk 12 395 = some mX12_findsOther := by rfl
theorem pl_12_398 : pm_lnk 12 398 = some mX12_findsPair := by rfl
theorem pl_12_401 : pm_lnk 12 401 = some pm_mAbs := by rfl
theorem pl_12_406 : pm_lnk 12 406 = some mX12_bits := by rfl
theorem pl_12_409 : pm_lnk 12 409 = some mX12_allChanges := by rfl
theorem pl_17_1059 : pm_lnk 17 1059 = some mJ3_checkIndex_8e157 := by rfl
theorem pl_17_335 : pm_lnk 17 335 = some mJ0_coder_7d493 := by rfl
theorem pl_17_492 : pm_lnk 17 492 = some mJ0_isLatin1_aae02 := by rfl
theorem pl_17_495 : pm_lnk 17 495 = some mJ1_charAt_3b067 := by rfl
theorem pl_17_505 : pm_lnk 17 505 = some mJ0_length_8abf5 := by rfl
theorem pl_17_633 : pm_lnk 17 633 = some mJ0_indexOf_7cf53 := by rfl
theorem pl_17_637 : pm_lnk 17 637 = some mJ1_indexOf_4cfef := by rfl
theorem pl_18_38 : pm_lnk 18 38 = some pm_mMin := by rfl
theorem pl_18_88 : pm_lnk 18 88 = some mJ1_canEncode_9a6ad := by rfl
theorem pl_18_9 : pm_lnk 18 9 = some mJ0_checkIndex_df160 := by rfl
theorem pl_18_92 : pm_lnk 18 92 = some pm_mMax := by rfl
theorem pl_18_95 : pm_lnk 18 95 = some mJ1_indexOfChar_4cfef := by rfl
theorem pl_1_100 : pm_lnk 1 100 = some mX1_goOn := by rfl
theorem pl_1_110 : pm_lnk 1 110 = some mX1_comesOutSo := by rfl
theorem pl_1_130 : pm_lnk 1 130 = some mX1_combined := by rfl
theorem pl_1_39 : pm_lnk 1 39 = some mX8_isShown := by rfl
theorem pl_1_45 : pm_lnk 1 45 = some mX1_passes := by rfl
theorem pl_1_51 : pm_lnk 1 51 = some mX8_isHeld := by rfl
theorem pl_1_54 : pm_lnk 1 54 = some mJ7_fill_53178 := by rfl
theorem pl_1_64 : pm_lnk 1 64 = some pm_mCpy := by rfl
theorem pl_1_86 : pm_lnk 1 86 = some mX0_hasStatement := by rfl
theorem pl_1_97 : pm_lnk 1 97 = some mX1_workOut := by rfl
theorem pl_2_103 : pm_lnk 2 103 = some mX2_keep := by rfl
theorem pl_2_106 : pm_lnk 2 106 = some mX0_restore := by rfl
theorem pl_2_115 : pm_lnk 2 115 = some mX1_passes := by rfl
theorem pl_2_118 : pm_lnk 2 118 = some mX8_isHeld := by rfl
theorem pl_2_129 : pm_lnk 2 129 = some mX2_firstAlike := by rfl
theorem pl_2_132 : pm_lnk 2 132 = some mX2_endAlike := by rfl
theorem pl_2_72 : pm_lnk 2 72 = some mX6_couldMend := by rfl
theorem pl_2_76 : pm_lnk 2 76 = some mX2_tryStatement := by rfl
theorem pl_2_89 : pm_lnk 2 89 = some mX0_changeCount := by rfl
theorem pl_2_93 : pm_lnk 2 93 = some mX0_apply := by rfl
theorem pl_2_97 : pm_lnk 2 97 = some mX1_allShownPass := by rfl
theorem pl_3_102 : pm_lnk 3 102 = some mX0_restore := by rfl
theorem pl_3_111 : pm_lnk 3 111 = some mX8_isShown := by rfl
theorem pl_3_115 : pm_lnk 3 115 = some mX1_passes := by rfl
theorem pl_3_123 : pm_lnk 3 123 = some mX3_tryOthers := by rfl
theorem pl_3_127 : pm_lnk 3 127 = some mX1_allShownPass := by rfl
theorem pl_3_131 : pm_lnk 3 131 = some mX3_keep := by rfl
theorem pl_3_135 : pm_lnk 3 135 = some mX1_countPassing := by rfl
theorem pl_3_67 : pm_lnk 3 67 = some mX3_learnWhatFails := by rfl
theorem pl_3_73 : pm_lnk 3 73 = some mX3_isIn := by rfl
theorem pl_3_77 : pm_lnk 3 77 = some mX3_tryFirst := by rfl
theorem pl_3_84 : pm_lnk 3 84 = some mX0_changeCount := by rfl
theorem pl_3_94 : pm_lnk 3 94 = some mX0_apply := by rfl
theorem pl_3_98 : pm_lnk 3 98 = some mX3_reachedByAllFailing := by rfl
theorem pl_4_100 : pm_lnk 4 100 = some mX4_levelOf := by rfl
theorem pl_4_104 : pm_lnk 4 104 = some mX0_insert := by rfl
theorem pl_4_107 : pm_lnk 4 107 = some mX7_isSign := by rfl
theorem pl_4_19 : pm_lnk 4 19 = some mX0_clear := by rfl
theorem pl_4_24 : pm_lnk 4 24 = some mX7_start := by rfl
theorem pl_4_30 : pm_lnk 4 30 = some mX4_readStatement := by rfl
theorem pl_4_44 : pm_lnk 4 44 = some mX0_link := by rfl
theorem pl_4_47 : pm_lnk 4 47 = some mX4_statementKind := by rfl
theorem pl_4_54 : pm_lnk 4 54 = some mX7_refuse := by rfl
theorem pl_4_57 : pm_lnk 4 57 = some mX7_variable := by rfl
theorem pl_4_60 : pm_lnk 4 60 = some mX0_addStatement := by rfl
theorem pl_4_64 : pm_lnk 4 64 = some mX7_advance := by rfl
theorem pl_4_67 : pm_lnk 4 67 = some mX7_expectMark := by rfl
theorem pl_4_71 : pm_lnk 4 71 = some mX4_readSides := by rfl
theorem pl_4_75 : pm_lnk 4 75 = some mX4_readBlock := by rfl
theorem pl_4_80 : pm_lnk 4 80 = some mX7_isWord := by rfl
theorem pl_4_90 : pm_lnk 4 90 = some mX7_isMark := by rfl
theorem pl_4_94 : pm_lnk 4 94 = some mX4_readPart := by rfl
theorem pl_5_46 : pm_lnk 5 46 = some mX6_shownThatDo := by rfl
theorem pl_5_52 : pm_lnk 5 52 = some mX5_learnScores := by rfl
theorem pl_5_56 : pm_lnk 5 56 = some mX5_learnOrder := by rfl
theorem pl_5_65 : pm_lnk 5 65 = some mX5_keepScore := by rfl
theorem pl_5_69 : pm_lnk 5 69 = some mX5_commonDivisor := by rfl
theorem pl_5_73 : pm_lnk 5 73 = some mX5_scoresMore := by rfl
theorem pl_6_104 : pm_lnk 6 104 = some mX8_isShown := by rfl
theorem pl_6_72 : pm_lnk 6 72 = some mX6_learnTest := by rfl
theorem pl_6_76 : pm_lnk 6 76 = some mX1_passes := by rfl
theorem pl_6_90 : pm_lnk 6 90 = some mJ7_fill_53178 := by rfl
theorem pl_6_98 : pm_lnk 6 98 = some mX8_isHeld := by rfl
theorem pl_7_15 : pm_lnk 7 15 = some pm_mMin := by rfl
theorem pl_7_21 : pm_lnk 7 21 = some pm_mMax := by rfl
theorem pl_7_34 : pm_lnk 7 34 = some mX7_advance := by rfl
theorem pl_7_46 : pm_lnk 7 46 = some mX7_byteAt := by rfl
theorem pl_7_50 : pm_lnk 7 50 = some mX7_scanWord := by rfl
theorem pl_7_53 : pm_lnk 7 53 = some mX7_scanNumeral := by rfl
theorem pl_7_56 : pm_lnk 7 56 = some mX7_signBeforeEqual := by rfl
theorem pl_7_59 : pm_lnk 7 59 = some mX7_signAlone := by rfl
theorem pl_7_62 : pm_lnk 7 62 = some mX7_scanSign := by rfl
theorem pl_7_66 : pm_lnk 7 66 = some mX7_refuse := by rfl
theorem pl_7_72 : pm_lnk 7 72 = some mJ0_indexOf_0f7a4 := by rfl
theorem pl_7_79 : pm_lnk 7 79 = some mJ0_length_8abf5 := by rfl
theorem pl_7_82 : pm_lnk 7 82 = some mJ0_charAt_5068e := by rfl
theorem pl_7_88 : pm_lnk 7 88 = some mX7_isMark := by rfl
theorem pl_7_92 : pm_lnk 7 92 = some mX7_isWord := by rfl
theorem pl_8_23 : pm_lnk 8 23 = some mX8_hasTest := by rfl
theorem pl_8_27 : pm_lnk 8 27 = some mX8_isHeld := by rfl
theorem pl_9_19 : pm_lnk 9 19 = some mX8_clear := by rfl
theorem pl_9_24 : pm_lnk 9 24 = some mX7_start := by rfl
theorem pl_9_30 : pm_lnk 9 30 = some mX9_readLine := by rfl
theorem pl_9_33 : pm_lnk 9 33 = some mX7_isMark := by rfl
theorem pl_9_37 : pm_lnk 9 37 = some mX7_advance := by rfl
theorem pl_9_44 : pm_lnk 9 44 = some mX7_refuse := by rfl
theorem pl_9_52 : pm_lnk 9 52 = some mX7_isWord := by rfl
theorem pl_9_59 : pm_lnk 9 59 = some mX7_expectWord := by rfl
theorem pl_9_63 : pm_lnk 9 63 = some mX9_readNumber := by rfl
theorem pl_9_71 : pm_lnk 9 71 = some mX8_add := by rfl
theorem pl_9_75 : pm_lnk 9 75 = some mX7_isSign := by rfl
theorem rf_0_0 : (0, 0, 1) ∈ pm_refs := by decide +kernel
theorem rf_0_10 : (0, 10, 117) ∈ pm_refs := by decide +kernel
theorem rf_0_11 : (0, 11, 132) ∈ pm_refs := by decide +kernel
theorem rf_0_12 : (0, 12, 138) ∈ pm_refs := by decide +kernel
theorem rf_0_13 : (0, 13, 141) ∈ pm_refs := by decide +kernel
theorem rf_0_2 : (0, 2, 71) ∈ pm_refs := by decide +kernel
theorem rf_0_3 : (0, 3, 72) ∈ pm_refs := by decide +kernel
theorem rf_0_4 : (0, 4, 2) ∈ pm_refs := by decide +kernel
theorem rf_0_5 : (0, 5, 18) ∈ pm_refs := by decide +kernel
theorem rf_0_6 : (0, 6, 36) ∈ pm_refs := by decide +kernel
theorem rf_0_7 : (0, 7, 52) ∈ pm_refs := by decide +kernel
theorem rf_0_8 : (0, 8, 73) ∈ pm_refs := by decide +kernel
theorem rf_0_9 : (0, 9, 77) ∈ pm_refs := by decide +kernel
theorem rf_117_0 : (117, 0, 2) ∈ pm_refs := by decide +kernel
theorem rf_117_1 : (117, 1, 77) ∈ pm_refs := by decide +kernel
theorem rf_117_2 : (117, 2, 118) ∈ pm_refs := by decide +kernel
theorem rf_117_3 : (117, 3, 119) ∈ pm_refs := by decide +kernel
theorem rf_117_4 : (117, 4, 120) ∈ pm_refs := by decide +kernel
theorem rf_117_5 : (117, 5, 124) ∈ pm_refs := by decide +kernel
theorem rf_117_6 : (117, 6, 128) ∈ pm_refs := by decide +kernel
theorem rf_132_0 : (132, 0, 2) ∈ pm_refs := by decide +kernel
theorem rf_132_1 : (132, 1, 18) ∈ pm_refs := by decide +kernel
theorem rf_132_2 : (132, 2, 73) ∈ pm_refs := by decide +kernel
theorem rf_132_3 : (132, 3, 77) ∈ pm_refs := by decide +kernel
theorem rf_132_4 : (132, 4, 117) ∈ pm_refs := by decide +kernel
theorem rf_132_5 : (132, 5, 133) ∈ pm_refs := by decide +kernel
theorem rf_132_6 : (132, 6, 134) ∈ pm_refs := by decide +kernel
theorem rf_132_7 : (132, 7, 135) ∈ pm_refs := by decide +kernel
theorem rf_132_8 : (132, 8, 136) ∈ pm_refs := by decide +kernel
theorem rf_132_9 : (132, 9, 137) ∈ pm_refs := by decide +kernel
theorem rf_138_0 : (138, 0, 2) ∈ pm_refs := by decide +kernel
theorem rf_138_1 : (138, 1, 18) ∈ pm_refs := by decide +kernel
theorem rf_138_2 : (138, 2, 73) ∈ pm_refs := by decide +kernel
theorem rf_138_3 : (138, 3, 77) ∈ pm_refs := by decide +kernel
theorem rf_138_4 : (138, 4, 117) ∈ pm_refs := by decide +kernel
theorem rf_138_5 : (138, 5, 139) ∈ pm_refs := by decide +kernel
theorem rf_138_6 : (138, 6, 140) ∈ pm_refs := by decide +kernel
theorem rf_141_0 : (141, 0, 2) ∈ pm_refs := by decide +kernel
theorem rf_141_1 : (141, 1, 73) ∈ pm_refs := by decide +kernel
theorem rf_141_2 : (141, 2, 77) ∈ pm_refs := by decide +kernel
theorem rf_142_1 : (142, 1, 143) ∈ pm_refs := by decide +kernel
theorem rf_142_10 : (142, 10, 145) ∈ pm_refs := by decide +kernel
theorem rf_142_11 : (142, 11, 146) ∈ pm_refs := by decide +kernel
theorem rf_142_12 : (142, 12, 147) ∈ pm_refs := by decide +kernel
theorem rf_142_13 : (142, 13, 148) ∈ pm_refs := by decide +kernel
theorem rf_142_14 : (142, 14, 149) ∈ pm_refs := by decide +kernel
theorem rf_142_15 : (142, 15, 150) ∈ pm_refs := by decide +kernel
theorem rf_142_16 : (142, 16, 151) ∈ pm_refs := by decide +kernel
theorem rf_142_17 : (142, 17, 152) ∈ pm_refs := by decide +kernel
theorem rf_142_23 : (142, 23, 153) ∈ pm_refs := by decide +kernel
theorem rf_142_25 : (142, 25, 154) ∈ pm_refs := by decide +kernel
theorem rf_142_26 : (142, 26, 155) ∈ pm_refs := by decide +kernel
theorem rf_142_27 : (142, 27, 156) ∈ pm_refs := by decide +kernel
theorem rf_142_32 : (142, 32, 157) ∈ pm_refs := by decide +kernel
theorem rf_142_33 : (142, 33, 158) ∈ pm_refs := by decide +kernel
theorem rf_142_38 : (142, 38, 159) ∈ pm_refs := by decide +kernel
theorem rf_142_39 : (142, 39, 160) ∈ pm_refs := by decide +kernel
theorem rf_142_44 : (142, 44, 161) ∈ pm_refs := by decide +kernel
theorem rf_142_47 : (142, 47, 162) ∈ pm_refs := by decide +kernel
theorem rf_142_48 : (142, 48, 163) ∈ pm_refs := by decide +kernel
theorem rf_142_49 : (142, 49, 164) ∈ pm_refs := by decide +kernel
theorem rf_142_51 : (142, 51, 165) ∈ pm_refs := by decide +kernel
theorem rf_142_52 : (142, 52, 166) ∈ pm_refs := by decide +kernel
theorem rf_142_53 : (142, 53, 167) ∈ pm_refs := by decide +kernel
theorem rf_142_54 : (142, 54, 168) ∈ pm_refs := by decide +kernel
theorem rf_142_55 : (142, 55, 169) ∈ pm_refs := by decide +kernel
theorem rf_142_56 : (142, 56, 170) ∈ pm_refs := by decide +kernel
theorem rf_142_57 : (142, 57, 171) ∈ pm_refs := by decide +kernel
theorem rf_142_58 : (142, 58, 172) ∈ pm_refs := by decide +kernel
theorem rf_142_59 : (142, 59, 173) ∈ pm_refs := by decide +kernel
theorem rf_142_61 : (142, 61, 174) ∈ pm_refs := by decide +kernel
theorem rf_142_62 : (142, 62, 175) ∈ pm_refs := by decide +kernel
theorem rf_142_63 : (142, 63, 176) ∈ pm_refs := by decide +kernel
theorem rf_142_9 : (142, 9, 144) ∈ pm_refs := by decide +kernel
theorem rf_18_0 : (18, 0, 19) ∈ pm_refs := by decide +kernel
theorem rf_2_0 : (2, 0, 3) ∈ pm_refs := by decide +kernel
theorem rf_2_1 : (2, 1, 4) ∈ pm_refs := by decide +kernel
theorem rf_2_10 : (2, 10, 13) ∈ pm_refs := by decide +kernel
theorem rf_2_11 : (2, 11, 14) ∈ pm_refs := by decide +kernel
theorem rf_2_12 : (2, 12, 15) ∈ pm_refs := by decide +kernel
theorem rf_2_13 : (2, 13, 16) ∈ pm_refs := by decide +kernel
theorem rf_2_14 : (2, 14, 17) ∈ pm_refs := by decide +kernel
theorem rf_2_2 : (2, 2, 5) ∈ pm_refs := by decide +kernel
theorem rf_2_3 : (2, 3, 6) ∈ pm_refs := by decide +kernel
theorem rf_2_4 : (2, 4, 7) ∈ pm_refs := by decide +kernel
theorem rf_2_5 : (2, 5, 8) ∈ pm_refs := by decide +kernel
theorem rf_2_6 : (2, 6, 9) ∈ pm_refs := by decide +kernel
theorem rf_2_7 : (2, 7, 10) ∈ pm_refs := by decide +kernel
theorem rf_2_8 : (2, 8, 11) ∈ pm_refs := by decide +kernel
theorem rf_2_9 : (2, 9, 12) ∈ pm_refs := by decide +kernel
theorem rf_36_0 : (36, 0, 37) ∈ pm_refs := by decide +kernel
theorem rf_36_1 : (36, 1, 38) ∈ pm_refs := by decide +kernel
theorem rf_36_10 : (36, 10, 47) ∈ pm_refs := by decide +kernel
theorem rf_36_11 : (36, 11, 48) ∈ pm_refs := by decide +kernel
theorem rf_36_2 : (36, 2, 39) ∈ pm_refs := by decide +kernel
theorem rf_36_3 : (36, 3, 40) ∈ pm_refs := by decide +kernel
theorem rf_36_4 : (36, 4, 41) ∈ pm_refs := by decide +kernel
theorem rf_36_5 : (36, 5, 42) ∈ pm_refs := by decide +kernel
theorem rf_36_6 : (36, 6, 43) ∈ pm_refs := by decide +kernel
theorem rf_36_7 : (36, 7, 44) ∈ pm_refs := by decide +kernel
theorem rf_36_8 : (36, 8, 45) ∈ pm_refs := by decide +kernel
theorem rf_36_9 : (36, 9, 46) ∈ pm_refs := by decide +kernel
theorem rf_52_0 : (52, 0, 53) ∈ pm_refs := by decide +kernel
theorem rf_70_0 : (70, 0, 1) ∈ pm_refs := by decide +kernel
theorem rf_71_0 : (71, 0, 70) ∈ pm_refs := by decide +kernel
theorem rf_72_0 : (72, 0, 70) ∈ pm_refs := by decide +kernel
theorem rf_73_0 : (73, 0, 2) ∈ pm_refs := by decide +kernel
theorem rf_73_1 : (73, 1, 18) ∈ pm_refs := by decide +kernel
theorem rf_73_2 : (73, 2, 74) ∈ pm_refs := by decide +kernel
theorem rf_73_3 : (73, 3, 75) ∈ pm_refs := by decide +kernel
theorem rf_73_4 : (73, 4, 76) ∈ pm_refs := by decide +kernel
theorem rf_77_0 : (77, 0, 2) ∈ pm_refs := by decide +kernel
theorem rf_77_1 : (77, 1, 18) ∈ pm_refs := by decide +kernel
theorem rf_77_2 : (77, 2, 73) ∈ pm_refs := by decide +kernel
theorem rf_77_3 : (77, 3, 78) ∈ pm_refs := by decide +kernel
theorem rf_77_4 : (77, 4, 79) ∈ pm_refs := by decide +kernel
theorem rf_77_5 : (77, 5, 80) ∈ pm_refs := by decide +kernel
theorem rf_77_6 : (77, 6, 81) ∈ pm_refs := by decide +kernel
theorem rf_77_7 : (77, 7, 82) ∈ pm_refs := by decide +kernel
theorem rf_77_8 : (77, 8, 83) ∈ pm_refs := by decide +kernel
theorem rf_77_9 : (77, 9, 100) ∈ pm_refs := by decide +kernel
theorem rwN_100 : ∀ k, k < 16 → pm_nr (100 + 1 + k) = true := by decide +kernel
theorem rwN_120 : ∀ k, k < 3 → pm_nr (120 + 1 + k) = true := by decide +kernel
theorem rwN_124 : ∀ k, k < 3 → pm_nr (124 + 1 + k) = true := by decide +kernel
theorem rwN_128 : ∀ k, k < 3 → pm_nr (128 + 1 + k) = true := by decide +kernel
theorem rwN_19 : ∀ k, k < 16 → pm_nr (19 + 1 + k) = true := by decide +kernel
theorem rwN_53 : ∀ k, k < 16 → pm_nr (53 + 1 + k) = true := by decide +kernel
theorem rwN_83 : ∀ k, k < 16 → pm_nr (83 + 1 + k) = true := by decide +kernel
theorem rwS_100 : ∀ k, k < 16 → pm_S0[100 + 1 + k]? = some (14, 60) := by decide +kernel
theorem rwS_120 : ∀ k, k < 3 → pm_S0[120 + 1 + k]? = some (14, 60) := by decide +kernel
theorem rwS_124 : ∀ k, k < 3 → pm_S0[124 + 1 + k]? = some (14, 60) := by decide +kernel
theorem rwS_128 : ∀ k, k < 3 → pm_S0[128 + 1 + k]? = some (14, 20) := by decide +kernel
theorem rwS_19 : ∀ k, k < 16 → pm_S0[19 + 1 + k]? = some (14, 5) := by decide +kernel
theorem rwS_53 : ∀ k, k < 16 → pm_S0[53 + 1 + k]? = some (14, 5) := by decide +kernel
theorem rwS_83 : ∀ k, k < 16 → pm_S0[83 + 1 + k]? = some (14, 300) := by decide +kernel
theorem rws_100 : pm_rows 100 16 := by intro i hi; revert hi; revert i; decide +kernel
theorem rws_120 : pm_rows 120 3 := by intro i hi; revert hi; revert i; decide +kernel
theorem rws_124 : pm_rows 124 3 := by intro i hi; revert hi; revert i; decide +kernel
theorem rws_128 : pm_rows 128 3 := by intro i hi; revert hi; revert i; decide +kernel
theorem rws_19 : pm_rows 19 16 := by intro i hi; revert hi; revert i; decide +kernel
theorem rws_53 : pm_rows 53 16 := by intro i hi; revert hi; revert i; decide +kernel
theorem rws_83 : pm_rows 83 16 := by intro i hi; revert hi; revert i; decide +kernel
theorem s0_0 : pm_S0[0]? = some (11, 15) := by rfl
theorem s0_1 : pm_S0[1]? = some (13, 600) := by rfl
theorem s0_10 : pm_S0[10]? = some (14, 60) := by rfl
theorem s0_100 : pm_S0[100]? = some (17, 16) := by rfl
theorem s0_11 : pm_S0[11]? = some (14, 60) := by rfl
theorem s0_117 : pm_S0[117]? = some (5, 7) := by rfl
theorem s0_118 : pm_S0[118]? = some (14, 60) := by rfl
theorem s0_119 : pm_S0[119]? = some (14, 60) := by rfl
theorem s0_12 : pm_S0[12]? = some (14, 60) := by rfl
theorem s0_120 : pm_S0[120]? = some (17, 3) := by rfl
theorem s0_124 : pm_S0[124]? = some (17, 3) := by rfl
theorem s0_128 : pm_S0[128]? = some (17, 3) := by rfl
theorem s0_13 : pm_S0[13]? = some (14, 60) := by rfl
theorem s0_130 : pm_S0[130]? = some (14, 20) := by rfl
theorem s0_132 : pm_S0[132]? = some (2, 12) := by rfl
theorem s0_133 : pm_S0[133]? = some (14, 480) := by rfl
theorem s0_134 : pm_S0[134]? = some (14, 480) := by rfl
theorem s0_135 : pm_S0[135]? = some (14, 480) := by rfl
theorem s0_136 : pm_S0[136]? = some (14, 480) := by rfl
theorem s0_137 : pm_S0[137]? = some (15, 7680) := by rfl
theorem s0_138 : pm_S0[138]? = some (3, 15) := by rfl
theorem s0_139 : pm_S0[139]? = some (15, 480) := by rfl
theorem s0_14 : pm_S0[14]? = some (14, 20) := by rfl
theorem s0_140 : pm_S0[140]? = some (14, 60) := by rfl
theorem s0_141 : pm_S0[141]? = some (10, 8) := by rfl
theorem s0_142 : pm_S0[142]? = some (12, 64) := by rfl
theorem s0_143 : pm_S0[143]? = some (13, 600) := by rfl
theorem s0_144 : pm_S0[144]? = some (14, 2) := by rfl
theorem s0_145 : pm_S0[145]? = some (14, 800) := by rfl
theorem s0_146 : pm_S0[146]? = some (14, 800) := by rfl
theorem s0_147 : pm_S0[147]? = some (14, 800) := by rfl
theorem s0_148 : pm_S0[148]? = some (14, 800) := by rfl
theorem s0_149 : pm_S0[149]? = some (14, 800) := by rfl
theorem s0_15 : pm_S0[15]? = some (14, 20) := by rfl
theorem s0_150 : pm_S0[150]? = some (14, 800) := by rfl
theorem s0_151 : pm_S0[151]? = some (14, 800) := by rfl
theorem s0_152 : pm_S0[152]? = some (14, 800) := by rfl
theorem s0_153 : pm_S0[153]? = some (14, 60) := by rfl
theorem s0_154 : pm_S0[154]? = some (14, 80) := by rfl
theorem s0_155 : pm_S0[155]? = some (14, 80) := by rfl
theorem s0_156 : pm_S0[156]? = some (14, 9) := by rfl
theorem s0_157 : pm_S0[157]? = some (14, 60) := by rfl
theorem s0_158 : pm_S0[158]? = some (14, 300) := by rfl
theorem s0_159 : pm_S0[159]? = some (14, 60) := by rfl
theorem s0_16 : pm_S0[16]? = some (14, 20) := by rfl
theorem s0_160 : pm_S0[160]? = some (14, 60) := by rfl
theorem s0_161 : pm_S0[161]? = some (14, 20) := by rfl
theorem s0_162 : pm_S0[162]? = some (14, 2) := by rfl
theorem s0_163 : pm_S0[163]? = some (14, 2) := by rfl
theorem s0_164 : pm_S0[164]? = some (14, 2) := by rfl
theorem s0_165 : pm_S0[165]? = some (14, 800) := by rfl
theorem s0_166 : pm_S0[166]? = some (14, 800) := by rfl
theorem s0_167 : pm_S0[167]? = some (14, 800) := by rfl
theorem s0_168 : pm_S0[168]? = some (14, 800) := by rfl
theorem s0_169 : pm_S0[169]? = some (14, 12800) := by rfl
theorem s0_17 : pm_S0[17]? = some (14, 20) := by rfl
theorem s0_170 : pm_S0[170]? = some (14, 12800) := by rfl
theorem s0_171 : pm_S0[171]? = some (16, 60) := by rfl
theorem s0_172 : pm_S0[172]? = some (14, 5) := by rfl
theorem s0_173 : pm_S0[173]? = some (14, 60) := by rfl
theorem s0_174 : pm_S0[174]? = some (14, 20) := by rfl
theorem s0_175 : pm_S0[175]? = some (14, 20) := by rfl
theorem s0_176 : pm_S0[176]? = some (14, 20) := by rfl
theorem s0_18 : pm_S0[18]? = some (8, 3) := by rfl
theorem s0_19 : pm_S0[19]? = some (17, 16) := by rfl
theorem s0_2 : pm_S0[2]? = some (0, 19) := by rfl
theorem s0_3 : pm_S0[3]? = some (14, 60) := by rfl
theorem s0_36 : pm_S0[36]? = some (0, 19) := by rfl
theorem s0_37 : pm_S0[37]? = some (14, 60) := by rfl
theorem s0_38 : pm_S0[38]? = some (14, 60) := by rfl
theorem s0_4 : pm_S0[4]? = some (14, 60) := by rfl
theorem s0_40 : pm_S0[40]? = some (14, 60) := by rfl
theorem s0_41 : pm_S0[41]? = some (14, 60) := by rfl
theorem s0_42 : pm_S0[42]? = some (14, 60) := by rfl
theorem s0_43 : pm_S0[43]? = some (14, 60) := by rfl
theorem s0_44 : pm_S0[44]? = some (14, 60) := by rfl
theorem s0_45 : pm_S0[45]? = some (14, 60) := by rfl
theorem s0_46 : pm_S0[46]? = some (14, 60) := by rfl
theorem s0_47 : pm_S0[47]? = some (14, 60) := by rfl
theorem s0_48 : pm_S0[48]? = some (14, 20) := by rfl
theorem s0_5 : pm_S0[5]? = some (14, 60) := by rfl
theorem s0_52 : pm_S0[52]? = some (8, 3) := by rfl
theorem s0_53 : pm_S0[53]? = some (17, 16) := by rfl
theorem s0_6 : pm_S0[6]? = some (14, 60) := by rfl
theorem s0_7 : pm_S0[7]? = some (14, 60) := by rfl
theorem s0_70 : pm_S0[70]? = some (7, 7) := by rfl
theorem s0_71 : pm_S0[71]? = some (4, 2) := by rfl
theorem s0_72 : pm_S0[72]? = some (9, 2) := by rfl
theorem s0_73 : pm_S0[73]? = some (1, 14) := by rfl
theorem s0_74 : pm_S0[74]? = some (14, 9) := by rfl
theorem s0_75 : pm_S0[75]? = some (14, 60) := by rfl
theorem s0_76 : pm_S0[76]? = some (14, 300) := by rfl
theorem s0_77 : pm_S0[77]? = some (6, 14) := by rfl
theorem s0_78 : pm_S0[78]? = some (14, 16) := by rfl
theorem s0_79 : pm_S0[79]? = some (14, 16) := by rfl
theorem s0_8 : pm_S0[8]? = some (14, 60) := by rfl
theorem s0_80 : pm_S0[80]? = some (14, 16) := by rfl
theorem s0_81 : pm_S0[81]? = some (14, 16) := by rfl
theorem s0_82 : pm_S0[82]? = some (16, 16) := by rfl
theorem s0_83 : pm_S0[83]? = some (17, 16) := by rfl
theorem s0_9 : pm_S0[9]? = some (14, 60) := by rfl
