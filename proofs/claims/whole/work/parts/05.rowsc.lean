theorem dX8_init_0 : decode cX8_init 0 = .ok (.aload_n 0, 1) := by decide +kernel
theorem dX8_init_1 : decode cX8_init 1 = .ok (.invokespecial 1, 3) := by decide +kernel
theorem dX8_init_4 : decode cX8_init 4 = .ok (.aload_n 0, 1) := by decide +kernel
theorem dX8_init_5 : decode cX8_init 5 = .ok (.iconst 4, 1) := by decide +kernel
theorem dX8_init_6 : decode cX8_init 6 = .ok (.putfield 7, 3) := by decide +kernel
theorem dX8_init_9 : decode cX8_init 9 = .ok (.aload_n 0, 1) := by decide +kernel
theorem dX8_init_10 : decode cX8_init 10 = .ok (.iconst 5, 1) := by decide +kernel
theorem dX8_init_11 : decode cX8_init 11 = .ok (.putfield 13, 3) := by decide +kernel
theorem dX8_init_14 : decode cX8_init 14 = .ok (.aload_n 0, 1) := by decide +kernel
theorem dX8_init_15 : decode cX8_init 15 = .ok (.bipush 49, 2) := by decide +kernel
theorem dX8_init_17 : decode cX8_init 17 = .ok (.newarray .int, 2) := by decide +kernel
theorem dX8_init_19 : decode cX8_init 19 = .ok (.putfield 16, 3) := by decide +kernel
theorem dX8_init_22 : decode cX8_init 22 = .ok (.aload_n 0, 1) := by decide +kernel
theorem dX8_init_23 : decode cX8_init 23 = .ok (.bipush 49, 2) := by decide +kernel
theorem dX8_init_25 : decode cX8_init 25 = .ok (.newarray .int, 2) := by decide +kernel
theorem dX8_init_27 : decode cX8_init 27 = .ok (.putfield 20, 3) := by decide +kernel
theorem dX8_init_30 : decode cX8_init 30 = .ok (.aload_n 0, 1) := by decide +kernel
theorem dX8_init_31 : decode cX8_init 31 = .ok (.bipush 10, 2) := by decide +kernel
theorem dX8_init_33 : decode cX8_init 33 = .ok (.newarray .int, 2) := by decide +kernel
theorem dX8_init_35 : decode cX8_init 35 = .ok (.putfield 23, 3) := by decide +kernel
theorem dX8_init_38 : decode cX8_init 38 = .ok (.aload_n 0, 1) := by decide +kernel
theorem dX8_init_39 : decode cX8_init 39 = .ok (.bipush 99, 2) := by decide +kernel
theorem dX8_init_41 : decode cX8_init 41 = .ok (.newarray .int, 2) := by decide +kernel
theorem dX8_init_43 : decode cX8_init 43 = .ok (.putfield 26, 3) := by decide +kernel
theorem dX8_init_46 : decode cX8_init 46 = .ok (.aload_n 0, 1) := by decide +kernel
theorem dX8_init_47 : decode cX8_init 47 = .ok (.sipush 792, 3) := by decide +kernel
theorem dX8_init_50 : decode cX8_init 50 = .ok (.newarray .int, 2) := by decide +kernel
theorem dX8_init_52 : decode cX8_init 52 = .ok (.putfield 29, 3) := by decide +kernel
theorem dX8_init_55 : decode cX8_init 55 = .ok (.aload_n 0, 1) := by decide +kernel
theorem dX8_init_56 : decode cX8_init 56 = .ok (.sipush 198, 3) := by decide +kernel
theorem dX8_init_59 : decode cX8_init 59 = .ok (.newarray .int, 2) := by decide +kernel
theorem dX8_init_61 : decode cX8_init 61 = .ok (.putfield 32, 3) := by decide +kernel
theorem dX8_init_64 : decode cX8_init 64 = .ok (.aload_n 0, 1) := by decide +kernel
theorem dX8_init_65 : decode cX8_init 65 = .ok (.bipush 12, 2) := by decide +kernel
theorem dX8_init_67 : decode cX8_init 67 = .ok (.newarray .int, 2) := by decide +kernel
theorem dX8_init_69 : decode cX8_init 69 = .ok (.putfield 35, 3) := by decide +kernel
theorem dX8_init_72 : decode cX8_init 72 = .ok (.aload_n 0, 1) := by decide +kernel
theorem dX8_init_73 : decode cX8_init 73 = .ok (.sipush 200, 3) := by decide +kernel
theorem dX8_init_76 : decode cX8_init 76 = .ok (.newarray .int, 2) := by decide +kernel
theorem dX8_init_78 : decode cX8_init 78 = .ok (.putfield 38, 3) := by decide +kernel
theorem dX8_init_81 : decode cX8_init 81 = .ok (.aload_n 0, 1) := by decide +kernel
theorem dX8_init_82 : decode cX8_init 82 = .ok (.iconst 3, 1) := by decide +kernel
theorem dX8_init_83 : decode cX8_init 83 = .ok (.newarray .int, 2) := by decide +kernel
theorem dX8_init_85 : decode cX8_init 85 = .ok (.putfield 41, 3) := by decide +kernel
theorem dX8_init_88 : decode cX8_init 88 = .ok (.aload_n 0, 1) := by decide +kernel
theorem dX8_init_89 : decode cX8_init 89 = .ok (.bipush 49, 2) := by decide +kernel
theorem dX8_init_91 : decode cX8_init 91 = .ok (.newarray .int, 2) := by decide +kernel
theorem dX8_init_93 : decode cX8_init 93 = .ok (.putfield 44, 3) := by decide +kernel
theorem dX8_init_96 : decode cX8_init 96 = .ok (.aload_n 0, 1) := by decide +kernel
theorem dX8_init_97 : decode cX8_init 97 = .ok (.bipush 49, 2) := by decide +kernel
theorem dX8_init_99 : decode cX8_init 99 = .ok (.newarray .int, 2) := by decide +kernel
theorem dX8_init_101 : decode cX8_init 101 = .ok (.putfield 47, 3) := by decide +kernel
theorem dX8_init_104 : decode cX8_init 104 = .ok (.aload_n 0, 1) := by decide +kernel
theorem dX8_init_105 : decode cX8_init 105 = .ok (.bipush 10, 2) := by decide +kernel
theorem dX8_init_107 : decode cX8_init 107 = .ok (.newarray .int, 2) := by decide +kernel
theorem dX8_init_109 : decode cX8_init 109 = .ok (.putfield 50, 3) := by decide +kernel
theorem dX8_init_112 : decode cX8_init 112 = .ok (.aload_n 0, 1) := by decide +kernel
theorem dX8_init_113 : decode cX8_init 113 = .ok (.bipush 99, 2) := by decide +kernel
theorem dX8_init_115 : decode cX8_init 115 = .ok (.newarray .int, 2) := by decide +kernel
theorem dX8_init_117 : decode cX8_init 117 = .ok (.putfield 53, 3) := by decide +kernel
theorem dX8_init_120 : decode cX8_init 120 = .ok (.aload_n 0, 1) := by decide +kernel
theorem dX8_init_121 : decode cX8_init 121 = .ok (.bipush 99, 2) := by decide +kernel
theorem dX8_init_123 : decode cX8_init 123 = .ok (.newarray .int, 2) := by decide +kernel
theorem dX8_init_125 : decode cX8_init 125 = .ok (.putfield 56, 3) := by decide +kernel
theorem dX8_init_128 : decode cX8_init 128 = .ok (.aload_n 0, 1) := by decide +kernel
theorem dX8_init_129 : decode cX8_init 129 = .ok (.bipush 49, 2) := by decide +kernel
theorem dX8_init_131 : decode cX8_init 131 = .ok (.newarray .int, 2) := by decide +kernel
theorem dX8_init_133 : decode cX8_init 133 = .ok (.putfield 59, 3) := by decide +kernel
theorem dX8_init_136 : decode cX8_init 136 = .ok (.aload_n 0, 1) := by decide +kernel
theorem dX8_init_137 : decode cX8_init 137 = .ok (.bipush 49, 2) := by decide +kernel
theorem dX8_init_139 : decode cX8_init 139 = .ok (.newarray .int, 2) := by decide +kernel
theorem dX8_init_141 : decode cX8_init 141 = .ok (.putfield 62, 3) := by decide +kernel
theorem dX8_init_144 : decode cX8_init 144 = .ok (.aload_n 0, 1) := by decide +kernel
theorem dX8_init_145 : decode cX8_init 145 = .ok (.invokevirtual 65, 3) := by decide +kernel
theorem dX8_init_148 : decode cX8_init 148 = .ok (.aload_n 0, 1) := by decide +kernel
theorem dX8_init_149 : decode cX8_init 149 = .ok (.getfield 44, 3) := by decide +kernel
theorem dX8_init_152 : decode cX8_init 152 = .ok (.iconst 2, 1) := by decide +kernel
theorem dX8_init_153 : decode cX8_init 153 = .ok (.iconst 2, 1) := by decide +kernel
theorem dX8_init_154 : decode cX8_init 154 = .ok (.iastore, 1) := by decide +kernel
theorem dX8_init_155 : decode cX8_init 155 = .ok (.aload_n 0, 1) := by decide +kernel
theorem dX8_init_156 : decode cX8_init 156 = .ok (.getfield 44, 3) := by decide +kernel
theorem dX8_init_159 : decode cX8_init 159 = .ok (.bipush 7, 2) := by decide +kernel
theorem dX8_init_161 : decode cX8_init 161 = .ok (.iconst 2, 1) := by decide +kernel
theorem dX8_init_162 : decode cX8_init 162 = .ok (.iastore, 1) := by decide +kernel
theorem dX8_init_163 : decode cX8_init 163 = .ok (.aload_n 0, 1) := by decide +kernel
theorem dX8_init_164 : decode cX8_init 164 = .ok (.getfield 44, 3) := by decide +kernel
theorem dX8_init_167 : decode cX8_init 167 = .ok (.bipush 8, 2) := by decide +kernel
theorem dX8_init_169 : decode cX8_init 169 = .ok (.iconst 1, 1) := by decide +kernel
theorem dX8_init_170 : decode cX8_init 170 = .ok (.iastore, 1) := by decide +kernel
theorem dX8_init_171 : decode cX8_init 171 = .ok (.aload_n 0, 1) := by decide +kernel
theorem dX8_init_172 : decode cX8_init 172 = .ok (.getfield 44, 3) := by decide +kernel
theorem dX8_init_175 : decode cX8_init 175 = .ok (.bipush 13, 2) := by decide +kernel
theorem dX8_init_177 : decode cX8_init 177 = .ok (.iconst 1, 1) := by decide +kernel
theorem dX8_init_178 : decode cX8_init 178 = .ok (.iastore, 1) := by decide +kernel
theorem dX8_init_179 : decode cX8_init 179 = .ok (.aload_n 0, 1) := by decide +kernel
theorem dX8_init_180 : decode cX8_init 180 = .ok (.getfield 44, 3) := by decide +kernel
theorem dX8_init_183 : decode cX8_init 183 = .ok (.bipush 15, 2) := by decide +kernel
theorem dX8_init_185 : decode cX8_init 185 = .ok (.iconst 3, 1) := by decide +kernel
theorem dX8_init_186 : decode cX8_init 186 = .ok (.iastore, 1) := by decide +kernel
theorem dX8_init_187 : decode cX8_init 187 = .ok (.aload_n 0, 1) := by decide +kernel
theorem dX8_init_188 : decode cX8_init 188 = .ok (.iconst 0, 1) := by decide +kernel
theorem dX8_init_189 : decode cX8_init 189 = .ok (.iconst 0, 1) := by decide +kernel
theorem dX8_init_190 : decode cX8_init 190 = .ok (.bipush 6, 2) := by decide +kernel
theorem dX8_init_192 : decode cX8_init 192 = .ok (.invokevirtual 68, 3) := by decide +kernel
theorem dX8_init_195 : decode cX8_init 195 = .ok (.aload_n 0, 1) := by decide +kernel
theorem dX8_init_196 : decode cX8_init 196 = .ok (.iconst 1, 1) := by decide +kernel
theorem dX8_init_197 : decode cX8_init 197 = .ok (.iconst 3, 1) := by decide +kernel
theorem dX8_init_198 : decode cX8_init 198 = .ok (.bipush 9, 2) := by decide +kernel
theorem dX8_init_200 : decode cX8_init 200 = .ok (.invokevirtual 68, 3) := by decide +kernel
theorem dX8_init_203 : decode cX8_init 203 = .ok (.aload_n 0, 1) := by decide +kernel
theorem dX8_init_204 : decode cX8_init 204 = .ok (.iconst 2, 1) := by decide +kernel
theorem dX8_init_205 : decode cX8_init 205 = .ok (.bipush 10, 2) := by decide +kernel
theorem dX8_init_207 : decode cX8_init 207 = .ok (.bipush 19, 2) := by decide +kernel
theorem dX8_init_209 : decode cX8_init 209 = .ok (.invokevirtual 68, 3) := by decide +kernel
theorem dX8_init_212 : decode cX8_init 212 = .ok (.aload_n 0, 1) := by decide +kernel
theorem dX8_init_213 : decode cX8_init 213 = .ok (.iconst 4, 1) := by decide +kernel
theorem dX8_init_214 : decode cX8_init 214 = .ok (.putfield 72, 3) := by decide +kernel
theorem dX8_init_217 : decode cX8_init 217 = .ok (.aload_n 0, 1) := by decide +kernel
theorem dX8_init_218 : decode cX8_init 218 = .ok (.iconst 1, 1) := by decide +kernel
theorem dX8_init_219 : decode cX8_init 219 = .ok (.putfield 75, 3) := by decide +kernel
theorem dX8_init_222 : decode cX8_init 222 = .ok (.aload_n 0, 1) := by decide +kernel
theorem dX8_init_223 : decode cX8_init 223 = .ok (.iconst 5, 1) := by decide +kernel
theorem dX8_init_224 : decode cX8_init 224 = .ok (.putfield 78, 3) := by decide +kernel
theorem dX8_init_227 : decode cX8_init 227 = .ok (.aload_n 0, 1) := by decide +kernel
theorem dX8_init_228 : decode cX8_init 228 = .ok (.getfield 50, 3) := by decide +kernel
theorem dX8_init_231 : decode cX8_init 231 = .ok (.iconst 0, 1) := by decide +kernel
theorem dX8_init_232 : decode cX8_init 232 = .ok (.iconst 3, 1) := by decide +kernel
theorem dX8_init_233 : decode cX8_init 233 = .ok (.iastore, 1) := by decide +kernel
theorem dX8_init_234 : decode cX8_init 234 = .ok (.aload_n 0, 1) := by decide +kernel
theorem dX8_init_235 : decode cX8_init 235 = .ok (.getfield 50, 3) := by decide +kernel
theorem dX8_init_238 : decode cX8_init 238 = .ok (.iconst 1, 1) := by decide +kernel
theorem dX8_init_239 : decode cX8_init 239 = .ok (.iconst 5, 1) := by decide +kernel
theorem dX8_init_240 : decode cX8_init 240 = .ok (.iastore, 1) := by decide +kernel
theorem dX8_init_241 : decode cX8_init 241 = .ok (.aload_n 0, 1) := by decide +kernel
theorem dX8_init_242 : decode cX8_init 242 = .ok (.getfield 50, 3) := by decide +kernel
theorem dX8_init_245 : decode cX8_init 245 = .ok (.iconst 2, 1) := by decide +kernel
theorem dX8_init_246 : decode cX8_init 246 = .ok (.bipush (-2), 2) := by decide +kernel
theorem dX8_init_248 : decode cX8_init 248 = .ok (.iastore, 1) := by decide +kernel
theorem dX8_init_249 : decode cX8_init 249 = .ok (.aload_n 0, 1) := by decide +kernel
theorem dX8_init_250 : decode cX8_init 250 = .ok (.getfield 50, 3) := by decide +kernel
theorem dX8_init_253 : decode cX8_init 253 = .ok (.iconst 3, 1) := by decide +kernel
theorem dX8_init_254 : decode cX8_init 254 = .ok (.bipush (-6), 2) := by decide +kernel
theorem dX8_init_256 : decode cX8_init 256 = .ok (.iastore, 1) := by decide +kernel
theorem dX8_init_257 : decode cX8_init 257 = .ok (.aload_n 0, 1) := by decide +kernel
theorem dX8_init_258 : decode cX8_init 258 = .ok (.getfield 50, 3) := by decide +kernel
theorem dX8_init_261 : decode cX8_init 261 = .ok (.iconst 4, 1) := by decide +kernel
theorem dX8_init_262 : decode cX8_init 262 = .ok (.iconst 4, 1) := by decide +kernel
theorem dX8_init_263 : decode cX8_init 263 = .ok (.iastore, 1) := by decide +kernel
theorem dX8_init_264 : decode cX8_init 264 = .ok (.aload_n 0, 1) := by decide +kernel
theorem dX8_init_265 : decode cX8_init 265 = .ok (.invokevirtual 81, 3) := by decide +kernel
theorem dX8_init_268 : decode cX8_init 268 = .ok (.return_, 1) := by decide +kernel
theorem dX8_in_0 : decode cX8_in 0 = .ok (.iload_n 0, 1) := by decide +kernel
theorem dX8_in_1 : decode cX8_in 1 = .ok (.iload_n 1, 1) := by decide +kernel
theorem dX8_in_2 : decode cX8_in 2 = .ok (.if_icmp .lt 12, 3) := by decide +kernel
theorem dX8_in_5 : decode cX8_in 5 = .ok (.iload_n 0, 1) := by decide +kernel
theorem dX8_in_6 : decode cX8_in 6 = .ok (.iload_n 2, 1) := by decide +kernel
theorem dX8_in_7 : decode cX8_in 7 = .ok (.if_icmp .gt 7, 3) := by decide +kernel
theorem dX8_in_10 : decode cX8_in 10 = .ok (.iconst 1, 1) := by decide +kernel
theorem dX8_in_11 : decode cX8_in 11 = .ok (.goto 4, 3) := by decide +kernel
theorem dX8_in_14 : decode cX8_in 14 = .ok (.iconst 0, 1) := by decide +kernel
theorem dX8_in_15 : decode cX8_in 15 = .ok (.ireturn, 1) := by decide +kernel
theorem dX8_cells_0 : decode cX8_cells 0 = .ok (.aload_n 0, 1) := by decide +kernel
theorem dX8_cells_1 : decode cX8_cells 1 = .ok (.getfield 7, 3) := by decide +kernel
theorem dX8_cells_4 : decode cX8_cells 4 = .ok (.aload_n 0, 1) := by decide +kernel
theorem dX8_cells_5 : decode cX8_cells 5 = .ok (.getfield 13, 3) := by decide +kernel
theorem dX8_cells_8 : decode cX8_cells 8 = .ok (.imul, 1) := by decide +kernel
theorem dX8_cells_9 : decode cX8_cells 9 = .ok (.ireturn, 1) := by decide +kernel
set_option maxRecDepth 20000 in
theorem ggX8_isCell_X8_cells : GoodIn wsX8_isCell wsX8_cells := goodIn_r _ [5, 6, 7, 11, 12, 13, 14, 15, 16, 17, 18, 19, 20, 21, 22, 23, 24, 25, 26, 27, 28, 29, 30, 31, 32, 33, 34, 35, 36, 37, 38, 39, 40, 41] (by decide +kernel) (by decide +kernel)
set_option maxRecDepth 20000 in
theorem gX8_isCell_X8_cells : GoodIn wsX8_isCell (wsV RX8 84 RX8 yX8_cells wsX8_cells) := goodIn_app (goodIn_of _ (by decide +kernel)) ggX8_isCell_X8_cells
set_option maxRecDepth 20000 in
theorem ggX8_isCell_X8_in : GoodIn wsX8_isCell wsX8_in := goodIn_r _ [10] (by decide +kernel) (by decide +kernel)
set_option maxRecDepth 20000 in
theorem gX8_isCell_X8_in : GoodIn wsX8_isCell (va_wsS RX8 88 yX8_in wsX8_in) := goodIn_app (goodIn_of _ (by decide +kernel)) ggX8_isCell_X8_in
theorem dX8_isCell_0 : decode cX8_isCell 0 = .ok (.iload_n 1, 1) := by decide +kernel
theorem dX8_isCell_1 : decode cX8_isCell 1 = .ok (.iconst 0, 1) := by decide +kernel
theorem dX8_isCell_2 : decode cX8_isCell 2 = .ok (.aload_n 0, 1) := by decide +kernel
theorem dX8_isCell_3 : decode cX8_isCell 3 = .ok (.invokevirtual 84, 3) := by decide +kernel
theorem dX8_isCell_6 : decode cX8_isCell 6 = .ok (.iconst 1, 1) := by decide +kernel
theorem dX8_isCell_7 : decode cX8_isCell 7 = .ok (.isub, 1) := by decide +kernel
theorem dX8_isCell_8 : decode cX8_isCell 8 = .ok (.invokestatic 88, 3) := by decide +kernel
theorem dX8_isCell_11 : decode cX8_isCell 11 = .ok (.ireturn, 1) := by decide +kernel
set_option maxRecDepth 20000 in
theorem ggX8_isFamily_X8_in : GoodIn wsX8_isFamily wsX8_in := goodIn_r _ [4] (by decide +kernel) (by decide +kernel)
set_option maxRecDepth 20000 in
theorem gX8_isFamily_X8_in : GoodIn wsX8_isFamily (va_wsS RX8 88 yX8_in wsX8_in) := goodIn_app (goodIn_of _ (by decide +kernel)) ggX8_isFamily_X8_in
theorem dX8_isFamily_0 : decode cX8_isFamily 0 = .ok (.iload_n 0, 1) := by decide +kernel
theorem dX8_isFamily_1 : decode cX8_isFamily 1 = .ok (.iconst 0, 1) := by decide +kernel
theorem dX8_isFamily_2 : decode cX8_isFamily 2 = .ok (.iconst 3, 1) := by decide +kernel
theorem dX8_isFamily_3 : decode cX8_isFamily 3 = .ok (.invokestatic 88, 3) := by decide +kernel
theorem dX8_isFamily_6 : decode cX8_isFamily 6 = .ok (.ireturn, 1) := by decide +kernel
set_option maxRecDepth 20000 in
theorem ggX8_write_X8_in : GoodIn wsX8_write wsX8_in := goodIn_r _ [6] (by decide +kernel) (by decide +kernel)
set_option maxRecDepth 20000 in
theorem gX8_write_X8_in : GoodIn wsX8_write (va_wsS RX8 88 yX8_in wsX8_in) := goodIn_app (goodIn_of _ (by decide +kernel)) ggX8_write_X8_in
theorem dX8_write_0 : decode cX8_write 0 = .ok (.iload_n 1, 1) := by decide +kernel
theorem dX8_write_1 : decode cX8_write 1 = .ok (.bipush 32, 2) := by decide +kernel
theorem dX8_write_3 : decode cX8_write 3 = .ok (.bipush 126, 2) := by decide +kernel
theorem dX8_write_5 : decode cX8_write 5 = .ok (.invokestatic 88, 3) := by decide +kernel
theorem dX8_write_8 : decode cX8_write 8 = .ok (.ifCond .ne 5, 3) := by decide +kernel
theorem dX8_write_11 : decode cX8_write 11 = .ok (.iconst (-1), 1) := by decide +kernel
theorem dX8_write_12 : decode cX8_write 12 = .ok (.ireturn, 1) := by decide +kernel
theorem dX8_write_13 : decode cX8_write 13 = .ok (.aload_n 0, 1) := by decide +kernel
theorem dX8_write_14 : decode cX8_write 14 = .ok (.getfield 92, 3) := by decide +kernel
theorem dX8_write_17 : decode cX8_write 17 = .ok (.sipush 200, 3) := by decide +kernel
theorem dX8_write_20 : decode cX8_write 20 = .ok (.if_icmp .ne 6, 3) := by decide +kernel
theorem dX8_write_23 : decode cX8_write 23 = .ok (.bipush (-3), 2) := by decide +kernel
theorem dX8_write_25 : decode cX8_write 25 = .ok (.ireturn, 1) := by decide +kernel
theorem dX8_write_26 : decode cX8_write 26 = .ok (.aload_n 0, 1) := by decide +kernel
theorem dX8_write_27 : decode cX8_write 27 = .ok (.getfield 38, 3) := by decide +kernel
theorem dX8_write_30 : decode cX8_write 30 = .ok (.aload_n 0, 1) := by decide +kernel
theorem dX8_write_31 : decode cX8_write 31 = .ok (.getfield 92, 3) := by decide +kernel
theorem dX8_write_34 : decode cX8_write 34 = .ok (.iload_n 1, 1) := by decide +kernel
theorem dX8_write_35 : decode cX8_write 35 = .ok (.iastore, 1) := by decide +kernel
theorem dX8_write_36 : decode cX8_write 36 = .ok (.aload_n 0, 1) := by decide +kernel
theorem dX8_write_37 : decode cX8_write 37 = .ok (.dup, 1) := by decide +kernel
theorem dX8_write_38 : decode cX8_write 38 = .ok (.getfield 92, 3) := by decide +kernel
theorem dX8_write_41 : decode cX8_write 41 = .ok (.iconst 1, 1) := by decide +kernel
theorem dX8_write_42 : decode cX8_write 42 = .ok (.iadd, 1) := by decide +kernel
theorem dX8_write_43 : decode cX8_write 43 = .ok (.putfield 92, 3) := by decide +kernel
theorem dX8_write_46 : decode cX8_write 46 = .ok (.aload_n 0, 1) := by decide +kernel
theorem dX8_write_47 : decode cX8_write 47 = .ok (.getfield 92, 3) := by decide +kernel
theorem dX8_write_50 : decode cX8_write 50 = .ok (.ireturn, 1) := by decide +kernel
theorem dX8_wipe_0 : decode cX8_wipe 0 = .ok (.aload_n 0, 1) := by decide +kernel
theorem dX8_wipe_1 : decode cX8_wipe 1 = .ok (.getfield 92, 3) := by decide +kernel
theorem dX8_wipe_4 : decode cX8_wipe 4 = .ok (.istore_n 1, 1) := by decide +kernel
theorem dX8_wipe_5 : decode cX8_wipe 5 = .ok (.aload_n 0, 1) := by decide +kernel
theorem dX8_wipe_6 : decode cX8_wipe 6 = .ok (.iconst 0, 1) := by decide +kernel
theorem dX8_wipe_7 : decode cX8_wipe 7 = .ok (.putfield 92, 3) := by decide +kernel
theorem dX8_wipe_10 : decode cX8_wipe 10 = .ok (.iload_n 1, 1) := by decide +kernel
theorem dX8_wipe_11 : decode cX8_wipe 11 = .ok (.ireturn, 1) := by decide +kernel
theorem dX8_letterAt_0 : decode cX8_letterAt 0 = .ok (.iload_n 1, 1) := by decide +kernel
theorem dX8_letterAt_1 : decode cX8_letterAt 1 = .ok (.aload_n 0, 1) := by decide +kernel
theorem dX8_letterAt_2 : decode cX8_letterAt 2 = .ok (.getfield 92, 3) := by decide +kernel
theorem dX8_letterAt_5 : decode cX8_letterAt 5 = .ok (.if_icmp .ge 12, 3) := by decide +kernel
theorem dX8_letterAt_8 : decode cX8_letterAt 8 = .ok (.aload_n 0, 1) := by decide +kernel
theorem dX8_letterAt_9 : decode cX8_letterAt 9 = .ok (.getfield 38, 3) := by decide +kernel
theorem dX8_letterAt_12 : decode cX8_letterAt 12 = .ok (.iload_n 1, 1) := by decide +kernel
theorem dX8_letterAt_13 : decode cX8_letterAt 13 = .ok (.iaload, 1) := by decide +kernel
theorem dX8_letterAt_14 : decode cX8_letterAt 14 = .ok (.goto 4, 3) := by decide +kernel
theorem dX8_letterAt_17 : decode cX8_letterAt 17 = .ok (.iconst (-1), 1) := by decide +kernel
theorem dX8_letterAt_18 : decode cX8_letterAt 18 = .ok (.ireturn, 1) := by decide +kernel
set_option maxRecDepth 20000 in
theorem ggX8_isFigure_X8_in : GoodIn wsX8_isFigure wsX8_in := goodIn_r _ [4] (by decide +kernel) (by decide +kernel)
set_option maxRecDepth 20000 in
theorem gX8_isFigure_X8_in : GoodIn wsX8_isFigure (va_wsS RX8 88 yX8_in wsX8_in) := goodIn_app (goodIn_of _ (by decide +kernel)) ggX8_isFigure_X8_in
theorem dX8_isFigure_0 : decode cX8_isFigure 0 = .ok (.iload_n 0, 1) := by decide +kernel
theorem dX8_isFigure_1 : decode cX8_isFigure 1 = .ok (.bipush 48, 2) := by decide +kernel
theorem dX8_isFigure_3 : decode cX8_isFigure 3 = .ok (.bipush 57, 2) := by decide +kernel
theorem dX8_isFigure_5 : decode cX8_isFigure 5 = .ok (.invokestatic 88, 3) := by decide +kernel
theorem dX8_isFigure_8 : decode cX8_isFigure 8 = .ok (.ireturn, 1) := by decide +kernel
set_option maxRecDepth 20000 in
theorem ggX8_readNumbers_X8_letterAt : GoodIn wsX8_readNumbers wsX8_letterAt := goodIn_r _ [7, 8, 9, 16, 17, 18, 19, 20, 21, 22, 23, 24, 25, 26, 27, 28, 29, 30, 31, 32, 33, 34, 35, 36, 37, 38, 39, 40, 41, 42, 43, 44, 45, 46] (by decide +kernel) (by decide +kernel)
set_option maxRecDepth 20000 in
theorem gX8_readNumbers_X8_letterAt : GoodIn wsX8_readNumbers (wsV RX8 98 RX8 yX8_letterAt wsX8_letterAt) := goodIn_app (goodIn_of _ (by decide +kernel)) ggX8_readNumbers_X8_letterAt
set_option maxRecDepth 20000 in
theorem ggX8_readNumbers_X8_isFigure : GoodIn wsX8_readNumbers wsX8_isFigure := goodIn_r _ [12, 13, 14, 6, 15] (by decide +kernel) (by decide +kernel)
set_option maxRecDepth 20000 in
theorem gX8_readNumbers_X8_isFigure : GoodIn wsX8_readNumbers (va_wsS RX8 102 yX8_isFigure wsX8_isFigure) := goodIn_app (goodIn_of _ (by decide +kernel)) ggX8_readNumbers_X8_isFigure
theorem dX8_readNumbers_0 : decode cX8_readNumbers 0 = .ok (.iconst 0, 1) := by decide +kernel
theorem dX8_readNumbers_1 : decode cX8_readNumbers 1 = .ok (.istore_n 2, 1) := by decide +kernel
theorem dX8_readNumbers_2 : decode cX8_readNumbers 2 = .ok (.iload_n 2, 1) := by decide +kernel
theorem dX8_readNumbers_3 : decode cX8_readNumbers 3 = .ok (.iload_n 1, 1) := by decide +kernel
theorem dX8_readNumbers_4 : decode cX8_readNumbers 4 = .ok (.if_icmp .ge 140, 3) := by decide +kernel
theorem dX8_readNumbers_7 : decode cX8_readNumbers 7 = .ok (.aload_n 0, 1) := by decide +kernel
theorem dX8_readNumbers_8 : decode cX8_readNumbers 8 = .ok (.aload_n 0, 1) := by decide +kernel
theorem dX8_readNumbers_9 : decode cX8_readNumbers 9 = .ok (.getfield 95, 3) := by decide +kernel
theorem dX8_readNumbers_12 : decode cX8_readNumbers 12 = .ok (.invokevirtual 98, 3) := by decide +kernel
theorem dX8_readNumbers_15 : decode cX8_readNumbers 15 = .ok (.invokestatic 102, 3) := by decide +kernel
theorem dX8_readNumbers_18 : decode cX8_readNumbers 18 = .ok (.ifCond .ne 5, 3) := by decide +kernel
theorem dX8_readNumbers_21 : decode cX8_readNumbers 21 = .ok (.iconst 0, 1) := by decide +kernel
theorem dX8_readNumbers_22 : decode cX8_readNumbers 22 = .ok (.ireturn, 1) := by decide +kernel
theorem dX8_readNumbers_23 : decode cX8_readNumbers 23 = .ok (.aload_n 0, 1) := by decide +kernel
theorem dX8_readNumbers_24 : decode cX8_readNumbers 24 = .ok (.getfield 41, 3) := by decide +kernel
theorem dX8_readNumbers_27 : decode cX8_readNumbers 27 = .ok (.iload_n 2, 1) := by decide +kernel
theorem dX8_readNumbers_28 : decode cX8_readNumbers 28 = .ok (.aload_n 0, 1) := by decide +kernel
theorem dX8_readNumbers_29 : decode cX8_readNumbers 29 = .ok (.aload_n 0, 1) := by decide +kernel
theorem dX8_readNumbers_30 : decode cX8_readNumbers 30 = .ok (.getfield 95, 3) := by decide +kernel
theorem dX8_readNumbers_33 : decode cX8_readNumbers 33 = .ok (.invokevirtual 98, 3) := by decide +kernel
theorem dX8_readNumbers_36 : decode cX8_readNumbers 36 = .ok (.bipush 48, 2) := by decide +kernel
theorem dX8_readNumbers_38 : decode cX8_readNumbers 38 = .ok (.isub, 1) := by decide +kernel
theorem dX8_readNumbers_39 : decode cX8_readNumbers 39 = .ok (.iastore, 1) := by decide +kernel
theorem dX8_readNumbers_40 : decode cX8_readNumbers 40 = .ok (.aload_n 0, 1) := by decide +kernel
theorem dX8_readNumbers_41 : decode cX8_readNumbers 41 = .ok (.dup, 1) := by decide +kernel
theorem dX8_readNumbers_42 : decode cX8_readNumbers 42 = .ok (.getfield 95, 3) := by decide +kernel
theorem dX8_readNumbers_45 : decode cX8_readNumbers 45 = .ok (.iconst 1, 1) := by decide +kernel
theorem dX8_readNumbers_46 : decode cX8_readNumbers 46 = .ok (.iadd, 1) := by decide +kernel
theorem dX8_readNumbers_47 : decode cX8_readNumbers 47 = .ok (.putfield 95, 3) := by decide +kernel
theorem dX8_readNumbers_50 : decode cX8_readNumbers 50 = .ok (.aload_n 0, 1) := by decide +kernel
theorem dX8_readNumbers_51 : decode cX8_readNumbers 51 = .ok (.aload_n 0, 1) := by decide +kernel
theorem dX8_readNumbers_52 : decode cX8_readNumbers 52 = .ok (.getfield 95, 3) := by decide +kernel
theorem dX8_readNumbers_55 : decode cX8_readNumbers 55 = .ok (.invokevirtual 98, 3) := by decide +kernel
theorem dX8_readNumbers_58 : decode cX8_readNumbers 58 = .ok (.invokestatic 102, 3) := by decide +kernel
theorem dX8_readNumbers_61 : decode cX8_readNumbers 61 = .ok (.ifCond .eq 40, 3) := by decide +kernel
theorem dX8_readNumbers_64 : decode cX8_readNumbers 64 = .ok (.aload_n 0, 1) := by decide +kernel
theorem dX8_readNumbers_65 : decode cX8_readNumbers 65 = .ok (.getfield 41, 3) := by decide +kernel
theorem dX8_readNumbers_68 : decode cX8_readNumbers 68 = .ok (.iload_n 2, 1) := by decide +kernel
theorem dX8_readNumbers_69 : decode cX8_readNumbers 69 = .ok (.bipush 10, 2) := by decide +kernel
theorem dX8_readNumbers_71 : decode cX8_readNumbers 71 = .ok (.aload_n 0, 1) := by decide +kernel
theorem dX8_readNumbers_72 : decode cX8_readNumbers 72 = .ok (.getfield 41, 3) := by decide +kernel
theorem dX8_readNumbers_75 : decode cX8_readNumbers 75 = .ok (.iload_n 2, 1) := by decide +kernel
theorem dX8_readNumbers_76 : decode cX8_readNumbers 76 = .ok (.iaload, 1) := by decide +kernel
theorem dX8_readNumbers_77 : decode cX8_readNumbers 77 = .ok (.imul, 1) := by decide +kernel
theorem dX8_readNumbers_78 : decode cX8_readNumbers 78 = .ok (.aload_n 0, 1) := by decide +kernel
theorem dX8_readNumbers_79 : decode cX8_readNumbers 79 = .ok (.aload_n 0, 1) := by decide +kernel
theorem dX8_readNumbers_80 : decode cX8_readNumbers 80 = .ok (.getfield 95, 3) := by decide +kernel
theorem dX8_readNumbers_83 : decode cX8_readNumbers 83 = .ok (.invokevirtual 98, 3) := by decide +kernel
theorem dX8_readNumbers_86 : decode cX8_readNumbers 86 = .ok (.iadd, 1) := by decide +kernel
theorem dX8_readNumbers_87 : decode cX8_readNumbers 87 = .ok (.bipush 48, 2) := by decide +kernel
theorem dX8_readNumbers_89 : decode cX8_readNumbers 89 = .ok (.isub, 1) := by decide +kernel
theorem dX8_readNumbers_90 : decode cX8_readNumbers 90 = .ok (.iastore, 1) := by decide +kernel
theorem dX8_readNumbers_91 : decode cX8_readNumbers 91 = .ok (.aload_n 0, 1) := by decide +kernel
theorem dX8_readNumbers_92 : decode cX8_readNumbers 92 = .ok (.dup, 1) := by decide +kernel
theorem dX8_readNumbers_93 : decode cX8_readNumbers 93 = .ok (.getfield 95, 3) := by decide +kernel
theorem dX8_readNumbers_96 : decode cX8_readNumbers 96 = .ok (.iconst 1, 1) := by decide +kernel
theorem dX8_readNumbers_97 : decode cX8_readNumbers 97 = .ok (.iadd, 1) := by decide +kernel
theorem dX8_readNumbers_98 : decode cX8_readNumbers 98 = .ok (.putfield 95, 3) := by decide +kernel
theorem dX8_readNumbers_101 : decode cX8_readNumbers 101 = .ok (.aload_n 0, 1) := by decide +kernel
theorem dX8_readNumbers_102 : decode cX8_readNumbers 102 = .ok (.aload_n 0, 1) := by decide +kernel
theorem dX8_readNumbers_103 : decode cX8_readNumbers 103 = .ok (.getfield 95, 3) := by decide +kernel
theorem dX8_readNumbers_106 : decode cX8_readNumbers 106 = .ok (.invokevirtual 98, 3) := by decide +kernel
theorem dX8_readNumbers_109 : decode cX8_readNumbers 109 = .ok (.iload_n 2, 1) := by decide +kernel
theorem dX8_readNumbers_110 : decode cX8_readNumbers 110 = .ok (.iload_n 1, 1) := by decide +kernel
theorem dX8_readNumbers_111 : decode cX8_readNumbers 111 = .ok (.iconst 1, 1) := by decide +kernel
theorem dX8_readNumbers_112 : decode cX8_readNumbers 112 = .ok (.isub, 1) := by decide +kernel
theorem dX8_readNumbers_113 : decode cX8_readNumbers 113 = .ok (.if_icmp .ge 8, 3) := by decide +kernel
theorem dX8_readNumbers_116 : decode cX8_readNumbers 116 = .ok (.bipush 44, 2) := by decide +kernel
theorem dX8_readNumbers_118 : decode cX8_readNumbers 118 = .ok (.goto 5, 3) := by decide +kernel
theorem dX8_readNumbers_121 : decode cX8_readNumbers 121 = .ok (.bipush 59, 2) := by decide +kernel
theorem dX8_readNumbers_123 : decode cX8_readNumbers 123 = .ok (.if_icmp .eq 5, 3) := by decide +kernel
theorem dX8_readNumbers_126 : decode cX8_readNumbers 126 = .ok (.iconst 0, 1) := by decide +kernel
theorem dX8_readNumbers_127 : decode cX8_readNumbers 127 = .ok (.ireturn, 1) := by decide +kernel
theorem dX8_readNumbers_128 : decode cX8_readNumbers 128 = .ok (.aload_n 0, 1) := by decide +kernel
theorem dX8_readNumbers_129 : decode cX8_readNumbers 129 = .ok (.dup, 1) := by decide +kernel
theorem dX8_readNumbers_130 : decode cX8_readNumbers 130 = .ok (.getfield 95, 3) := by decide +kernel
theorem dX8_readNumbers_133 : decode cX8_readNumbers 133 = .ok (.iconst 1, 1) := by decide +kernel
theorem dX8_readNumbers_134 : decode cX8_readNumbers 134 = .ok (.iadd, 1) := by decide +kernel
theorem dX8_readNumbers_135 : decode cX8_readNumbers 135 = .ok (.putfield 95, 3) := by decide +kernel
theorem dX8_readNumbers_138 : decode cX8_readNumbers 138 = .ok (.iinc 2 1, 3) := by decide +kernel
theorem dX8_readNumbers_141 : decode cX8_readNumbers 141 = .ok (.goto (-139), 3) := by decide +kernel
theorem dX8_readNumbers_144 : decode cX8_readNumbers 144 = .ok (.iconst 1, 1) := by decide +kernel
theorem dX8_readNumbers_145 : decode cX8_readNumbers 145 = .ok (.ireturn, 1) := by decide +kernel
set_option maxRecDepth 20000 in
theorem ggX8_isTold_X8_in : GoodIn wsX8_isTold wsX8_in := goodIn_r _ [5] (by decide +kernel) (by decide +kernel)
set_option maxRecDepth 20000 in
theorem gX8_isTold_X8_in : GoodIn wsX8_isTold (va_wsS RX8 88 yX8_in wsX8_in) := goodIn_app (goodIn_of _ (by decide +kernel)) ggX8_isTold_X8_in
theorem dX8_isTold_0 : decode cX8_isTold 0 = .ok (.aload_n 0, 1) := by decide +kernel
theorem dX8_isTold_1 : decode cX8_isTold 1 = .ok (.getfield 41, 3) := by decide +kernel
theorem dX8_isTold_4 : decode cX8_isTold 4 = .ok (.iload_n 1, 1) := by decide +kernel
theorem dX8_isTold_5 : decode cX8_isTold 5 = .ok (.iaload, 1) := by decide +kernel
theorem dX8_isTold_6 : decode cX8_isTold 6 = .ok (.iload_n 2, 1) := by decide +kernel
theorem dX8_isTold_7 : decode cX8_isTold 7 = .ok (.iload_n 3, 1) := by decide +kernel
theorem dX8_isTold_8 : decode cX8_isTold 8 = .ok (.invokestatic 88, 3) := by decide +kernel
theorem dX8_isTold_11 : decode cX8_isTold 11 = .ok (.ireturn, 1) := by decide +kernel
theorem dX8_put_0 : decode cX8_put 0 = .ok (.iconst 0, 1) := by decide +kernel
theorem dX8_put_1 : decode cX8_put 1 = .ok (.istore 4, 2) := by decide +kernel
theorem dX8_put_3 : decode cX8_put 3 = .ok (.iload 4, 2) := by decide +kernel
theorem dX8_put_5 : decode cX8_put 5 = .ok (.iload_n 3, 1) := by decide +kernel
theorem dX8_put_6 : decode cX8_put 6 = .ok (.if_icmp .ge 19, 3) := by decide +kernel
theorem dX8_put_9 : decode cX8_put 9 = .ok (.aload_n 0, 1) := by decide +kernel
theorem dX8_put_10 : decode cX8_put 10 = .ok (.iload_n 1, 1) := by decide +kernel
theorem dX8_put_11 : decode cX8_put 11 = .ok (.iload 4, 2) := by decide +kernel
theorem dX8_put_13 : decode cX8_put 13 = .ok (.iadd, 1) := by decide +kernel
theorem dX8_put_14 : decode cX8_put 14 = .ok (.aload_n 2, 1) := by decide +kernel
theorem dX8_put_15 : decode cX8_put 15 = .ok (.iload 4, 2) := by decide +kernel
theorem dX8_put_17 : decode cX8_put 17 = .ok (.iaload, 1) := by decide +kernel
theorem dX8_put_18 : decode cX8_put 18 = .ok (.iastore, 1) := by decide +kernel
theorem dX8_put_19 : decode cX8_put 19 = .ok (.iinc 4 1, 3) := by decide +kernel
theorem dX8_put_22 : decode cX8_put 22 = .ok (.goto (-19), 3) := by decide +kernel
theorem dX8_put_25 : decode cX8_put 25 = .ok (.return_, 1) := by decide +kernel
theorem dX8_clearTold_0 : decode cX8_clearTold 0 = .ok (.aload_n 0, 1) := by decide +kernel
theorem dX8_clearTold_1 : decode cX8_clearTold 1 = .ok (.iconst 4, 1) := by decide +kernel
theorem dX8_clearTold_2 : decode cX8_clearTold 2 = .ok (.putfield 106, 3) := by decide +kernel
theorem dX8_clearTold_5 : decode cX8_clearTold 5 = .ok (.aload_n 0, 1) := by decide +kernel
theorem dX8_clearTold_6 : decode cX8_clearTold 6 = .ok (.iconst 5, 1) := by decide +kernel
theorem dX8_clearTold_7 : decode cX8_clearTold 7 = .ok (.putfield 109, 3) := by decide +kernel
theorem dX8_clearTold_10 : decode cX8_clearTold 10 = .ok (.iconst 0, 1) := by decide +kernel
theorem dX8_clearTold_11 : decode cX8_clearTold 11 = .ok (.istore_n 1, 1) := by decide +kernel
theorem dX8_clearTold_12 : decode cX8_clearTold 12 = .ok (.iload_n 1, 1) := by decide +kernel
theorem dX8_clearTold_13 : decode cX8_clearTold 13 = .ok (.bipush 49, 2) := by decide +kernel
theorem dX8_clearTold_15 : decode cX8_clearTold 15 = .ok (.if_icmp .ge 23, 3) := by decide +kernel
theorem dX8_clearTold_18 : decode cX8_clearTold 18 = .ok (.aload_n 0, 1) := by decide +kernel
theorem dX8_clearTold_19 : decode cX8_clearTold 19 = .ok (.getfield 44, 3) := by decide +kernel
theorem dX8_clearTold_22 : decode cX8_clearTold 22 = .ok (.iload_n 1, 1) := by decide +kernel
theorem dX8_clearTold_23 : decode cX8_clearTold 23 = .ok (.iconst 0, 1) := by decide +kernel
theorem dX8_clearTold_24 : decode cX8_clearTold 24 = .ok (.iastore, 1) := by decide +kernel
theorem dX8_clearTold_25 : decode cX8_clearTold 25 = .ok (.aload_n 0, 1) := by decide +kernel
theorem dX8_clearTold_26 : decode cX8_clearTold 26 = .ok (.getfield 47, 3) := by decide +kernel
theorem dX8_clearTold_29 : decode cX8_clearTold 29 = .ok (.iload_n 1, 1) := by decide +kernel
theorem dX8_clearTold_30 : decode cX8_clearTold 30 = .ok (.iconst (-1), 1) := by decide +kernel
theorem dX8_clearTold_31 : decode cX8_clearTold 31 = .ok (.iastore, 1) := by decide +kernel
theorem dX8_clearTold_32 : decode cX8_clearTold 32 = .ok (.iinc 1 1, 3) := by decide +kernel
theorem dX8_clearTold_35 : decode cX8_clearTold 35 = .ok (.goto (-23), 3) := by decide +kernel
theorem dX8_clearTold_38 : decode cX8_clearTold 38 = .ok (.aload_n 0, 1) := by decide +kernel
theorem dX8_clearTold_39 : decode cX8_clearTold 39 = .ok (.iconst 3, 1) := by decide +kernel
theorem dX8_clearTold_40 : decode cX8_clearTold 40 = .ok (.putfield 72, 3) := by decide +kernel
theorem dX8_clearTold_43 : decode cX8_clearTold 43 = .ok (.aload_n 0, 1) := by decide +kernel
theorem dX8_clearTold_44 : decode cX8_clearTold 44 = .ok (.iconst 0, 1) := by decide +kernel
theorem dX8_clearTold_45 : decode cX8_clearTold 45 = .ok (.putfield 75, 3) := by decide +kernel
theorem dX8_clearTold_48 : decode cX8_clearTold 48 = .ok (.aload_n 0, 1) := by decide +kernel
theorem dX8_clearTold_49 : decode cX8_clearTold 49 = .ok (.iconst 0, 1) := by decide +kernel
theorem dX8_clearTold_50 : decode cX8_clearTold 50 = .ok (.putfield 78, 3) := by decide +kernel
theorem dX8_clearTold_53 : decode cX8_clearTold 53 = .ok (.aload_n 0, 1) := by decide +kernel
theorem dX8_clearTold_54 : decode cX8_clearTold 54 = .ok (.iconst 0, 1) := by decide +kernel
theorem dX8_clearTold_55 : decode cX8_clearTold 55 = .ok (.putfield 112, 3) := by decide +kernel
theorem dX8_clearTold_58 : decode cX8_clearTold 58 = .ok (.return_, 1) := by decide +kernel
set_option maxRecDepth 20000 in
theorem ggX8_isToldCell_X8_isTold : GoodIn wsX8_isToldCell wsX8_isTold := goodIn_r _ [7, 8, 9, 10, 6, 11, 12, 13, 14, 15, 16, 17, 18, 19, 20, 21, 22, 23, 24, 25, 26, 27, 28, 29, 30, 31, 32, 33, 34, 35, 36, 37, 38, 39, 40, 41, 42] (by decide +kernel) (by decide +kernel)
set_option maxRecDepth 20000 in
theorem gX8_isToldCell_X8_isTold : GoodIn wsX8_isToldCell (wsV RX8 116 RX8 yX8_isTold wsX8_isTold) := goodIn_app (goodIn_of _ (by decide +kernel)) ggX8_isToldCell_X8_isTold
theorem dX8_isToldCell_0 : decode cX8_isToldCell 0 = .ok (.aload_n 0, 1) := by decide +kernel
theorem dX8_isToldCell_1 : decode cX8_isToldCell 1 = .ok (.iload_n 1, 1) := by decide +kernel
theorem dX8_isToldCell_2 : decode cX8_isToldCell 2 = .ok (.iconst 0, 1) := by decide +kernel
theorem dX8_isToldCell_3 : decode cX8_isToldCell 3 = .ok (.aload_n 0, 1) := by decide +kernel
theorem dX8_isToldCell_4 : decode cX8_isToldCell 4 = .ok (.getfield 106, 3) := by decide +kernel
theorem dX8_isToldCell_7 : decode cX8_isToldCell 7 = .ok (.aload_n 0, 1) := by decide +kernel
theorem dX8_isToldCell_8 : decode cX8_isToldCell 8 = .ok (.getfield 109, 3) := by decide +kernel
theorem dX8_isToldCell_11 : decode cX8_isToldCell 11 = .ok (.imul, 1) := by decide +kernel
theorem dX8_isToldCell_12 : decode cX8_isToldCell 12 = .ok (.iconst 1, 1) := by decide +kernel
theorem dX8_isToldCell_13 : decode cX8_isToldCell 13 = .ok (.isub, 1) := by decide +kernel
theorem dX8_isToldCell_14 : decode cX8_isToldCell 14 = .ok (.invokevirtual 116, 3) := by decide +kernel
theorem dX8_isToldCell_17 : decode cX8_isToldCell 17 = .ok (.ireturn, 1) := by decide +kernel
set_option maxRecDepth 20000 in
theorem ggX8_readSize_X8_readNumbers : GoodIn wsX8_readSize wsX8_readNumbers := goodIn_r _ [9, 10, 2, 11, 12, 13, 8, 14, 15, 16, 17, 18, 19, 20, 21, 22, 27, 28, 29, 30, 31, 32, 33, 34, 35, 36, 37, 38, 39, 40, 41, 42, 43, 44, 45, 46, 47, 48, 49, 50, 51, 52, 53, 54, 55, 56, 57] (by decide +kernel) (by decide +kernel)
set_option maxRecDepth 20000 in
theorem gX8_readSize_X8_readNumbers : GoodIn wsX8_readSize (wsV RX8 119 RX8 yX8_readNumbers wsX8_readNumbers) := goodIn_app (goodIn_of _ (by decide +kernel)) ggX8_readSize_X8_readNumbers
set_option maxRecDepth 20000 in
theorem ggX8_readSize_X8_isTold : GoodIn wsX8_readSize wsX8_isTold := goodIn_r _ [26, 2, 20, 21, 8, 22, 27, 28, 29, 30, 31, 32, 33, 34, 35, 36, 37, 38, 39, 40, 41, 42, 43, 44, 45, 46, 47, 48, 49, 50, 51, 52, 53, 54, 55, 56, 57] (by decide +kernel) (by decide +kernel)
set_option maxRecDepth 20000 in
theorem gX8_readSize_X8_isTold : GoodIn wsX8_readSize (wsV RX8 116 RX8 yX8_isTold wsX8_isTold) := goodIn_app (goodIn_of _ (by decide +kernel)) ggX8_readSize_X8_isTold
theorem dX8_readSize_0 : decode cX8_readSize 0 = .ok (.aload_n 0, 1) := by decide +kernel
theorem dX8_readSize_1 : decode cX8_readSize 1 = .ok (.getfield 112, 3) := by decide +kernel
theorem dX8_readSize_4 : decode cX8_readSize 4 = .ok (.ifCond .ne 33, 3) := by decide +kernel
theorem dX8_readSize_7 : decode cX8_readSize 7 = .ok (.aload_n 0, 1) := by decide +kernel
theorem dX8_readSize_8 : decode cX8_readSize 8 = .ok (.iconst 2, 1) := by decide +kernel
theorem dX8_readSize_9 : decode cX8_readSize 9 = .ok (.invokevirtual 119, 3) := by decide +kernel
theorem dX8_readSize_12 : decode cX8_readSize 12 = .ok (.ifCond .eq 25, 3) := by decide +kernel
theorem dX8_readSize_15 : decode cX8_readSize 15 = .ok (.aload_n 0, 1) := by decide +kernel
theorem dX8_readSize_16 : decode cX8_readSize 16 = .ok (.iconst 0, 1) := by decide +kernel
theorem dX8_readSize_17 : decode cX8_readSize 17 = .ok (.iconst 2, 1) := by decide +kernel
theorem dX8_readSize_18 : decode cX8_readSize 18 = .ok (.bipush 7, 2) := by decide +kernel
theorem dX8_readSize_20 : decode cX8_readSize 20 = .ok (.invokevirtual 116, 3) := by decide +kernel
theorem dX8_readSize_23 : decode cX8_readSize 23 = .ok (.ifCond .eq 14, 3) := by decide +kernel
theorem dX8_readSize_26 : decode cX8_readSize 26 = .ok (.aload_n 0, 1) := by decide +kernel
theorem dX8_readSize_27 : decode cX8_readSize 27 = .ok (.iconst 1, 1) := by decide +kernel
theorem dX8_readSize_28 : decode cX8_readSize 28 = .ok (.iconst 2, 1) := by decide +kernel
theorem dX8_readSize_29 : decode cX8_readSize 29 = .ok (.bipush 7, 2) := by decide +kernel
theorem dX8_readSize_31 : decode cX8_readSize 31 = .ok (.invokevirtual 116, 3) := by decide +kernel
theorem dX8_readSize_34 : decode cX8_readSize 34 = .ok (.ifCond .ne 5, 3) := by decide +kernel
theorem dX8_readSize_37 : decode cX8_readSize 37 = .ok (.iconst 0, 1) := by decide +kernel
theorem dX8_readSize_38 : decode cX8_readSize 38 = .ok (.ireturn, 1) := by decide +kernel
theorem dX8_readSize_39 : decode cX8_readSize 39 = .ok (.aload_n 0, 1) := by decide +kernel
theorem dX8_readSize_40 : decode cX8_readSize 40 = .ok (.aload_n 0, 1) := by decide +kernel
theorem dX8_readSize_41 : decode cX8_readSize 41 = .ok (.getfield 41, 3) := by decide +kernel
theorem dX8_readSize_44 : decode cX8_readSize 44 = .ok (.iconst 0, 1) := by decide +kernel
theorem dX8_readSize_45 : decode cX8_readSize 45 = .ok (.iaload, 1) := by decide +kernel
theorem dX8_readSize_46 : decode cX8_readSize 46 = .ok (.putfield 106, 3) := by decide +kernel
theorem dX8_readSize_49 : decode cX8_readSize 49 = .ok (.aload_n 0, 1) := by decide +kernel
theorem dX8_readSize_50 : decode cX8_readSize 50 = .ok (.aload_n 0, 1) := by decide +kernel
theorem dX8_readSize_51 : decode cX8_readSize 51 = .ok (.getfield 41, 3) := by decide +kernel
theorem dX8_readSize_54 : decode cX8_readSize 54 = .ok (.iconst 1, 1) := by decide +kernel
theorem dX8_readSize_55 : decode cX8_readSize 55 = .ok (.iaload, 1) := by decide +kernel
theorem dX8_readSize_56 : decode cX8_readSize 56 = .ok (.putfield 109, 3) := by decide +kernel
theorem dX8_readSize_59 : decode cX8_readSize 59 = .ok (.iconst 1, 1) := by decide +kernel
theorem dX8_readSize_60 : decode cX8_readSize 60 = .ok (.ireturn, 1) := by decide +kernel
set_option maxRecDepth 20000 in
theorem ggX8_readKindOf_X8_readNumbers : GoodIn wsX8_readKindOf wsX8_readNumbers := goodIn_r _ [7, 8, 2, 9, 10, 11, 6, 12, 13, 14, 15, 16, 17, 18, 19, 20, 31, 32, 33, 34, 35, 36, 37, 38, 39, 40, 41, 42, 43, 44, 45, 46, 47, 48, 49, 50, 51, 52, 53, 54, 55, 56, 57, 58, 59, 60, 61] (by decide +kernel) (by decide +kernel)
set_option maxRecDepth 20000 in
theorem gX8_readKindOf_X8_readNumbers : GoodIn wsX8_readKindOf (wsV RX8 119 RX8 yX8_readNumbers wsX8_readNumbers) := goodIn_app (goodIn_of _ (by decide +kernel)) ggX8_readKindOf_X8_readNumbers
set_option maxRecDepth 20000 in
theorem ggX8_readKindOf_X8_isToldCell : GoodIn wsX8_readKindOf wsX8_isToldCell := goodIn_r _ [24, 25, 26, 27, 28, 29, 6, 30, 2, 18, 19, 20, 31, 32, 33, 34, 35, 36, 37, 38, 39, 40, 41, 42, 43, 44, 45, 46, 47, 48, 49, 50, 51, 52, 53, 54, 55, 56, 57, 58, 59, 60, 61] (by decide +kernel) (by decide +kernel)
set_option maxRecDepth 20000 in
theorem gX8_readKindOf_X8_isToldCell : GoodIn wsX8_readKindOf (wsV RX8 122 RX8 yX8_isToldCell wsX8_isToldCell) := goodIn_app (goodIn_of _ (by decide +kernel)) ggX8_readKindOf_X8_isToldCell
set_option maxRecDepth 20000 in
theorem ggX8_readKindOf_X8_isTold : GoodIn wsX8_readKindOf wsX8_isTold := goodIn_r _ [30, 2, 18, 19, 6, 20, 31, 32, 33, 34, 35, 36, 37, 38, 39, 40, 41, 42, 43, 44, 45, 46, 47, 48, 49, 50, 51, 52, 53, 54, 55, 56, 57, 58, 59, 60, 61] (by decide +kernel) (by decide +kernel)
set_option maxRecDepth 20000 in
theorem gX8_readKindOf_X8_isTold : GoodIn wsX8_readKindOf (wsV RX8 116 RX8 yX8_isTold wsX8_isTold) := goodIn_app (goodIn_of _ (by decide +kernel)) ggX8_readKindOf_X8_isTold
theorem dX8_readKindOf_0 : decode cX8_readKindOf 0 = .ok (.aload_n 0, 1) := by decide +kernel
theorem dX8_readKindOf_1 : decode cX8_readKindOf 1 = .ok (.iconst 2, 1) := by decide +kernel
theorem dX8_readKindOf_2 : decode cX8_readKindOf 2 = .ok (.invokevirtual 119, 3) := by decide +kernel
theorem dX8_readKindOf_5 : decode cX8_readKindOf 5 = .ok (.ifCond .eq 21, 3) := by decide +kernel
theorem dX8_readKindOf_8 : decode cX8_readKindOf 8 = .ok (.aload_n 0, 1) := by decide +kernel
theorem dX8_readKindOf_9 : decode cX8_readKindOf 9 = .ok (.iconst 0, 1) := by decide +kernel
theorem dX8_readKindOf_10 : decode cX8_readKindOf 10 = .ok (.invokevirtual 122, 3) := by decide +kernel
theorem dX8_readKindOf_13 : decode cX8_readKindOf 13 = .ok (.ifCond .eq 13, 3) := by decide +kernel
theorem dX8_readKindOf_16 : decode cX8_readKindOf 16 = .ok (.aload_n 0, 1) := by decide +kernel
theorem dX8_readKindOf_17 : decode cX8_readKindOf 17 = .ok (.iconst 1, 1) := by decide +kernel
theorem dX8_readKindOf_18 : decode cX8_readKindOf 18 = .ok (.iconst 0, 1) := by decide +kernel
theorem dX8_readKindOf_19 : decode cX8_readKindOf 19 = .ok (.iconst 3, 1) := by decide +kernel
theorem dX8_readKindOf_20 : decode cX8_readKindOf 20 = .ok (.invokevirtual 116, 3) := by decide +kernel
theorem dX8_readKindOf_23 : decode cX8_readKindOf 23 = .ok (.ifCond .ne 5, 3) := by decide +kernel
theorem dX8_readKindOf_26 : decode cX8_readKindOf 26 = .ok (.iconst 0, 1) := by decide +kernel
theorem dX8_readKindOf_27 : decode cX8_readKindOf 27 = .ok (.ireturn, 1) := by decide +kernel
theorem dX8_readKindOf_28 : decode cX8_readKindOf 28 = .ok (.aload_n 0, 1) := by decide +kernel
theorem dX8_readKindOf_29 : decode cX8_readKindOf 29 = .ok (.getfield 44, 3) := by decide +kernel
theorem dX8_readKindOf_32 : decode cX8_readKindOf 32 = .ok (.aload_n 0, 1) := by decide +kernel
theorem dX8_readKindOf_33 : decode cX8_readKindOf 33 = .ok (.getfield 41, 3) := by decide +kernel
theorem dX8_readKindOf_36 : decode cX8_readKindOf 36 = .ok (.iconst 0, 1) := by decide +kernel
theorem dX8_readKindOf_37 : decode cX8_readKindOf 37 = .ok (.iaload, 1) := by decide +kernel
theorem dX8_readKindOf_38 : decode cX8_readKindOf 38 = .ok (.aload_n 0, 1) := by decide +kernel
theorem dX8_readKindOf_39 : decode cX8_readKindOf 39 = .ok (.getfield 41, 3) := by decide +kernel
theorem dX8_readKindOf_42 : decode cX8_readKindOf 42 = .ok (.iconst 1, 1) := by decide +kernel
theorem dX8_readKindOf_43 : decode cX8_readKindOf 43 = .ok (.iaload, 1) := by decide +kernel
theorem dX8_readKindOf_44 : decode cX8_readKindOf 44 = .ok (.iastore, 1) := by decide +kernel
theorem dX8_readKindOf_45 : decode cX8_readKindOf 45 = .ok (.iconst 1, 1) := by decide +kernel
theorem dX8_readKindOf_46 : decode cX8_readKindOf 46 = .ok (.ireturn, 1) := by decide +kernel
set_option maxRecDepth 20000 in
theorem ggX8_mapped_X8_isBetween : GoodIn wsX8_mapped wsX8_isBetween := goodIn_r _ [7] (by decide +kernel) (by decide +kernel)
set_option maxRecDepth 20000 in
theorem gX8_mapped_X8_isBetween : GoodIn wsX8_mapped (va_wsS RX8 125 yX8_isBetween wsX8_isBetween) := goodIn_app (goodIn_of _ (by decide +kernel)) ggX8_mapped_X8_isBetween
theorem dX8_mapped_0 : decode cX8_mapped 0 = .ok (.iconst 0, 1) := by decide +kernel
theorem dX8_mapped_1 : decode cX8_mapped 1 = .ok (.istore 4, 2) := by decide +kernel
theorem dX8_mapped_3 : decode cX8_mapped 3 = .ok (.iload 4, 2) := by decide +kernel
theorem dX8_mapped_5 : decode cX8_mapped 5 = .ok (.aload_n 0, 1) := by decide +kernel
theorem dX8_mapped_6 : decode cX8_mapped 6 = .ok (.getfield 106, 3) := by decide +kernel
theorem dX8_mapped_9 : decode cX8_mapped 9 = .ok (.aload_n 0, 1) := by decide +kernel
theorem dX8_mapped_10 : decode cX8_mapped 10 = .ok (.getfield 109, 3) := by decide +kernel
theorem dX8_mapped_13 : decode cX8_mapped 13 = .ok (.imul, 1) := by decide +kernel
theorem dX8_mapped_14 : decode cX8_mapped 14 = .ok (.if_icmp .ge 85, 3) := by decide +kernel
theorem dX8_mapped_17 : decode cX8_mapped 17 = .ok (.iload 4, 2) := by decide +kernel
theorem dX8_mapped_19 : decode cX8_mapped 19 = .ok (.aload_n 0, 1) := by decide +kernel
theorem dX8_mapped_20 : decode cX8_mapped 20 = .ok (.getfield 109, 3) := by decide +kernel
theorem dX8_mapped_23 : decode cX8_mapped 23 = .ok (.idiv, 1) := by decide +kernel
theorem dX8_mapped_24 : decode cX8_mapped 24 = .ok (.iload_n 2, 1) := by decide +kernel
theorem dX8_mapped_25 : decode cX8_mapped 25 = .ok (.aload_n 0, 1) := by decide +kernel
theorem dX8_mapped_26 : decode cX8_mapped 26 = .ok (.getfield 109, 3) := by decide +kernel
theorem dX8_mapped_29 : decode cX8_mapped 29 = .ok (.idiv, 1) := by decide +kernel
theorem dX8_mapped_30 : decode cX8_mapped 30 = .ok (.iload_n 3, 1) := by decide +kernel
theorem dX8_mapped_31 : decode cX8_mapped 31 = .ok (.aload_n 0, 1) := by decide +kernel
theorem dX8_mapped_32 : decode cX8_mapped 32 = .ok (.getfield 109, 3) := by decide +kernel
theorem dX8_mapped_35 : decode cX8_mapped 35 = .ok (.idiv, 1) := by decide +kernel
theorem dX8_mapped_36 : decode cX8_mapped 36 = .ok (.invokestatic 125, 3) := by decide +kernel
theorem dX8_mapped_39 : decode cX8_mapped 39 = .ok (.istore 5, 2) := by decide +kernel
theorem dX8_mapped_41 : decode cX8_mapped 41 = .ok (.iload 4, 2) := by decide +kernel
theorem dX8_mapped_43 : decode cX8_mapped 43 = .ok (.aload_n 0, 1) := by decide +kernel
theorem dX8_mapped_44 : decode cX8_mapped 44 = .ok (.getfield 109, 3) := by decide +kernel
theorem dX8_mapped_47 : decode cX8_mapped 47 = .ok (.irem, 1) := by decide +kernel
theorem dX8_mapped_48 : decode cX8_mapped 48 = .ok (.iload_n 2, 1) := by decide +kernel
theorem dX8_mapped_49 : decode cX8_mapped 49 = .ok (.aload_n 0, 1) := by decide +kernel
theorem dX8_mapped_50 : decode cX8_mapped 50 = .ok (.getfield 109, 3) := by decide +kernel
theorem dX8_mapped_53 : decode cX8_mapped 53 = .ok (.irem, 1) := by decide +kernel
theorem dX8_mapped_54 : decode cX8_mapped 54 = .ok (.iload_n 3, 1) := by decide +kernel
theorem dX8_mapped_55 : decode cX8_mapped 55 = .ok (.aload_n 0, 1) := by decide +kernel
theorem dX8_mapped_56 : decode cX8_mapped 56 = .ok (.getfield 109, 3) := by decide +kernel
theorem dX8_mapped_59 : decode cX8_mapped 59 = .ok (.irem, 1) := by decide +kernel
theorem dX8_mapped_60 : decode cX8_mapped 60 = .ok (.invokestatic 125, 3) := by decide +kernel
theorem dX8_mapped_63 : decode cX8_mapped 63 = .ok (.istore 6, 2) := by decide +kernel
theorem dX8_mapped_65 : decode cX8_mapped 65 = .ok (.aload_n 0, 1) := by decide +kernel
theorem dX8_mapped_66 : decode cX8_mapped 66 = .ok (.getfield 47, 3) := by decide +kernel
theorem dX8_mapped_69 : decode cX8_mapped 69 = .ok (.iload 4, 2) := by decide +kernel
theorem dX8_mapped_71 : decode cX8_mapped 71 = .ok (.iload 5, 2) := by decide +kernel
theorem dX8_mapped_73 : decode cX8_mapped 73 = .ok (.ifCond .eq 12, 3) := by decide +kernel
theorem dX8_mapped_76 : decode cX8_mapped 76 = .ok (.iload 6, 2) := by decide +kernel
theorem dX8_mapped_78 : decode cX8_mapped 78 = .ok (.ifCond .eq 7, 3) := by decide +kernel
theorem dX8_mapped_81 : decode cX8_mapped 81 = .ok (.iload_n 1, 1) := by decide +kernel
theorem dX8_mapped_82 : decode cX8_mapped 82 = .ok (.goto 10, 3) := by decide +kernel
theorem dX8_mapped_85 : decode cX8_mapped 85 = .ok (.aload_n 0, 1) := by decide +kernel
theorem dX8_mapped_86 : decode cX8_mapped 86 = .ok (.getfield 47, 3) := by decide +kernel
theorem dX8_mapped_89 : decode cX8_mapped 89 = .ok (.iload 4, 2) := by decide +kernel
theorem dX8_mapped_91 : decode cX8_mapped 91 = .ok (.iaload, 1) := by decide +kernel
theorem dX8_mapped_92 : decode cX8_mapped 92 = .ok (.iastore, 1) := by decide +kernel
theorem dX8_mapped_93 : decode cX8_mapped 93 = .ok (.iinc 4 1, 3) := by decide +kernel
theorem dX8_mapped_96 : decode cX8_mapped 96 = .ok (.goto (-93), 3) := by decide +kernel
theorem dX8_mapped_99 : decode cX8_mapped 99 = .ok (.return_, 1) := by decide +kernel
theorem dX8_isBetween_0 : decode cX8_isBetween 0 = .ok (.iload_n 0, 1) := by decide +kernel
theorem dX8_isBetween_1 : decode cX8_isBetween 1 = .ok (.iload_n 1, 1) := by decide +kernel
theorem dX8_isBetween_2 : decode cX8_isBetween 2 = .ok (.if_icmp .lt 8, 3) := by decide +kernel
theorem dX8_isBetween_5 : decode cX8_isBetween 5 = .ok (.iload_n 0, 1) := by decide +kernel
theorem dX8_isBetween_6 : decode cX8_isBetween 6 = .ok (.iload_n 2, 1) := by decide +kernel
theorem dX8_isBetween_7 : decode cX8_isBetween 7 = .ok (.if_icmp .le 13, 3) := by decide +kernel
theorem dX8_isBetween_10 : decode cX8_isBetween 10 = .ok (.iload_n 0, 1) := by decide +kernel
theorem dX8_isBetween_11 : decode cX8_isBetween 11 = .ok (.iload_n 2, 1) := by decide +kernel
theorem dX8_isBetween_12 : decode cX8_isBetween 12 = .ok (.if_icmp .lt 12, 3) := by decide +kernel
theorem dX8_isBetween_15 : decode cX8_isBetween 15 = .ok (.iload_n 0, 1) := by decide +kernel
theorem dX8_isBetween_16 : decode cX8_isBetween 16 = .ok (.iload_n 1, 1) := by decide +kernel
theorem dX8_isBetween_17 : decode cX8_isBetween 17 = .ok (.if_icmp .gt 7, 3) := by decide +kernel
theorem dX8_isBetween_20 : decode cX8_isBetween 20 = .ok (.iconst 1, 1) := by decide +kernel
theorem dX8_isBetween_21 : decode cX8_isBetween 21 = .ok (.goto 4, 3) := by decide +kernel
theorem dX8_isBetween_24 : decode cX8_isBetween 24 = .ok (.iconst 0, 1) := by decide +kernel
theorem dX8_isBetween_25 : decode cX8_isBetween 25 = .ok (.ireturn, 1) := by decide +kernel
set_option maxRecDepth 20000 in
theorem ggX8_readMapOf_X8_readNumbers : GoodIn wsX8_readMapOf wsX8_readNumbers := goodIn_r _ [6, 7, 1, 8, 9, 10, 5, 11, 12, 13, 14, 15, 16, 17, 18, 19, 38, 39, 40, 41, 42, 43, 44, 45, 46, 47, 48, 49, 50, 51, 52, 53, 54, 55, 56, 57, 58, 59, 60, 61, 62, 63, 64, 65, 66, 67, 68] (by decide +kernel) (by decide +kernel)
set_option maxRecDepth 20000 in
theorem gX8_readMapOf_X8_readNumbers : GoodIn wsX8_readMapOf (wsV RX8 119 RX8 yX8_readNumbers wsX8_readNumbers) := goodIn_app (goodIn_of _ (by decide +kernel)) ggX8_readMapOf_X8_readNumbers
set_option maxRecDepth 20000 in
theorem ggX8_readMapOf_X8_isTold : GoodIn wsX8_readMapOf wsX8_isTold := goodIn_r _ [23, 1, 17, 18, 5, 19, 38, 39, 40, 41, 42, 43, 44, 45, 46, 47, 48, 49, 50, 51, 52, 53, 54, 55, 56, 57, 58, 59, 60, 61, 62, 63, 64, 65, 66, 67, 68] (by decide +kernel) (by decide +kernel)
set_option maxRecDepth 20000 in
theorem gX8_readMapOf_X8_isTold : GoodIn wsX8_readMapOf (wsV RX8 116 RX8 yX8_isTold wsX8_isTold) := goodIn_app (goodIn_of _ (by decide +kernel)) ggX8_readMapOf_X8_isTold
set_option maxRecDepth 20000 in
theorem ggX8_readMapOf_X8_isToldCell : GoodIn wsX8_readMapOf wsX8_isToldCell := goodIn_r _ [27, 28, 29, 20, 21, 22, 5, 23, 1, 17, 18, 19, 38, 39, 40, 41, 42, 43, 44, 45, 46, 47, 48, 49, 50, 51, 52, 53, 54, 55, 56, 57, 58, 59, 60, 61, 62, 63, 64, 65, 66, 67, 68] (by decide +kernel) (by decide +kernel)
set_option maxRecDepth 20000 in
theorem gX8_readMapOf_X8_isToldCell : GoodIn wsX8_readMapOf (wsV RX8 122 RX8 yX8_isToldCell wsX8_isToldCell) := goodIn_app (goodIn_of _ (by decide +kernel)) ggX8_readMapOf_X8_isToldCell
set_option maxRecDepth 20000 in
theorem ggX8_readMapOf_X8_mapped : GoodIn wsX8_readMapOf wsX8_mapped := goodIn_r _ [33, 28, 29, 34, 35, 36, 5, 37, 38, 39, 40, 41, 42, 43, 44, 45, 46, 47, 48, 49, 50, 51, 52, 53, 54, 55, 56, 57, 58, 59, 60, 61, 62, 63, 64, 65, 66, 67, 68] (by decide +kernel) (by decide +kernel)
set_option maxRecDepth 20000 in
theorem gX8_readMapOf_X8_mapped : GoodIn wsX8_readMapOf (wsV RX8 68 RX8 yX8_mapped wsX8_mapped) := goodIn_app (goodIn_of _ (by decide +kernel)) ggX8_readMapOf_X8_mapped
theorem dX8_readMapOf_0 : decode cX8_readMapOf 0 = .ok (.aload_n 0, 1) := by decide +kernel
theorem dX8_readMapOf_1 : decode cX8_readMapOf 1 = .ok (.iconst 3, 1) := by decide +kernel
theorem dX8_readMapOf_2 : decode cX8_readMapOf 2 = .ok (.invokevirtual 119, 3) := by decide +kernel
theorem dX8_readMapOf_5 : decode cX8_readMapOf 5 = .ok (.ifCond .eq 29, 3) := by decide +kernel
theorem dX8_readMapOf_8 : decode cX8_readMapOf 8 = .ok (.aload_n 0, 1) := by decide +kernel
theorem dX8_readMapOf_9 : decode cX8_readMapOf 9 = .ok (.iconst 0, 1) := by decide +kernel
theorem dX8_readMapOf_10 : decode cX8_readMapOf 10 = .ok (.iconst 0, 1) := by decide +kernel
theorem dX8_readMapOf_11 : decode cX8_readMapOf 11 = .ok (.iconst 3, 1) := by decide +kernel
theorem dX8_readMapOf_12 : decode cX8_readMapOf 12 = .ok (.invokevirtual 116, 3) := by decide +kernel
theorem dX8_readMapOf_15 : decode cX8_readMapOf 15 = .ok (.ifCond .eq 19, 3) := by decide +kernel
theorem dX8_readMapOf_18 : decode cX8_readMapOf 18 = .ok (.aload_n 0, 1) := by decide +kernel
theorem dX8_readMapOf_19 : decode cX8_readMapOf 19 = .ok (.iconst 1, 1) := by decide +kernel
theorem dX8_readMapOf_20 : decode cX8_readMapOf 20 = .ok (.invokevirtual 122, 3) := by decide +kernel
theorem dX8_readMapOf_23 : decode cX8_readMapOf 23 = .ok (.ifCond .eq 11, 3) := by decide +kernel
theorem dX8_readMapOf_26 : decode cX8_readMapOf 26 = .ok (.aload_n 0, 1) := by decide +kernel
theorem dX8_readMapOf_27 : decode cX8_readMapOf 27 = .ok (.iconst 2, 1) := by decide +kernel
theorem dX8_readMapOf_28 : decode cX8_readMapOf 28 = .ok (.invokevirtual 122, 3) := by decide +kernel
theorem dX8_readMapOf_31 : decode cX8_readMapOf 31 = .ok (.ifCond .ne 5, 3) := by decide +kernel
theorem dX8_readMapOf_34 : decode cX8_readMapOf 34 = .ok (.iconst 0, 1) := by decide +kernel
theorem dX8_readMapOf_35 : decode cX8_readMapOf 35 = .ok (.ireturn, 1) := by decide +kernel
theorem dX8_readMapOf_36 : decode cX8_readMapOf 36 = .ok (.aload_n 0, 1) := by decide +kernel
theorem dX8_readMapOf_37 : decode cX8_readMapOf 37 = .ok (.aload_n 0, 1) := by decide +kernel
theorem dX8_readMapOf_38 : decode cX8_readMapOf 38 = .ok (.getfield 41, 3) := by decide +kernel
theorem dX8_readMapOf_41 : decode cX8_readMapOf 41 = .ok (.iconst 0, 1) := by decide +kernel
theorem dX8_readMapOf_42 : decode cX8_readMapOf 42 = .ok (.iaload, 1) := by decide +kernel
theorem dX8_readMapOf_43 : decode cX8_readMapOf 43 = .ok (.aload_n 0, 1) := by decide +kernel
theorem dX8_readMapOf_44 : decode cX8_readMapOf 44 = .ok (.getfield 41, 3) := by decide +kernel
theorem dX8_readMapOf_47 : decode cX8_readMapOf 47 = .ok (.iconst 1, 1) := by decide +kernel
theorem dX8_readMapOf_48 : decode cX8_readMapOf 48 = .ok (.iaload, 1) := by decide +kernel
theorem dX8_readMapOf_49 : decode cX8_readMapOf 49 = .ok (.aload_n 0, 1) := by decide +kernel
theorem dX8_readMapOf_50 : decode cX8_readMapOf 50 = .ok (.getfield 41, 3) := by decide +kernel
theorem dX8_readMapOf_53 : decode cX8_readMapOf 53 = .ok (.iconst 2, 1) := by decide +kernel
theorem dX8_readMapOf_54 : decode cX8_readMapOf 54 = .ok (.iaload, 1) := by decide +kernel
theorem dX8_readMapOf_55 : decode cX8_readMapOf 55 = .ok (.invokevirtual 68, 3) := by decide +kernel
theorem dX8_readMapOf_58 : decode cX8_readMapOf 58 = .ok (.iconst 1, 1) := by decide +kernel
theorem dX8_readMapOf_59 : decode cX8_readMapOf 59 = .ok (.ireturn, 1) := by decide +kernel
set_option maxRecDepth 20000 in
theorem ggX8_readIceOf_X8_readNumbers : GoodIn wsX8_readIceOf wsX8_readNumbers := goodIn_r _ [7, 8, 1, 9, 10, 11, 6, 12, 13, 14, 15, 16, 17, 18, 19, 20, 25, 26, 27, 28, 29, 30, 31, 32, 33, 34, 35, 36, 37, 38, 39, 40, 41, 42, 43, 44, 45, 46, 47, 48, 49, 50, 51, 52, 53, 54, 55] (by decide +kernel) (by decide +kernel)
set_option maxRecDepth 20000 in
theorem gX8_readIceOf_X8_readNumbers : GoodIn wsX8_readIceOf (wsV RX8 119 RX8 yX8_readNumbers wsX8_readNumbers) := goodIn_app (goodIn_of _ (by decide +kernel)) ggX8_readIceOf_X8_readNumbers
set_option maxRecDepth 20000 in
theorem ggX8_readIceOf_X8_isTold : GoodIn wsX8_readIceOf wsX8_isTold := goodIn_r _ [24, 1, 18, 19, 6, 20, 25, 26, 27, 28, 29, 30, 31, 32, 33, 34, 35, 36, 37, 38, 39, 40, 41, 42, 43, 44, 45, 46, 47, 48, 49, 50, 51, 52, 53, 54, 55] (by decide +kernel) (by decide +kernel)
set_option maxRecDepth 20000 in
theorem gX8_readIceOf_X8_isTold : GoodIn wsX8_readIceOf (wsV RX8 116 RX8 yX8_isTold wsX8_isTold) := goodIn_app (goodIn_of _ (by decide +kernel)) ggX8_readIceOf_X8_isTold
theorem dX8_readIceOf_0 : decode cX8_readIceOf 0 = .ok (.aload_n 0, 1) := by decide +kernel
theorem dX8_readIceOf_1 : decode cX8_readIceOf 1 = .ok (.iconst 1, 1) := by decide +kernel
theorem dX8_readIceOf_2 : decode cX8_readIceOf 2 = .ok (.invokevirtual 119, 3) := by decide +kernel
theorem dX8_readIceOf_5 : decode cX8_readIceOf 5 = .ok (.ifCond .eq 18, 3) := by decide +kernel
theorem dX8_readIceOf_8 : decode cX8_readIceOf 8 = .ok (.aload_n 0, 1) := by decide +kernel
theorem dX8_readIceOf_9 : decode cX8_readIceOf 9 = .ok (.iconst 0, 1) := by decide +kernel
theorem dX8_readIceOf_10 : decode cX8_readIceOf 10 = .ok (.iconst 0, 1) := by decide +kernel
theorem dX8_readIceOf_11 : decode cX8_readIceOf 11 = .ok (.bipush 40, 2) := by decide +kernel
theorem dX8_readIceOf_13 : decode cX8_readIceOf 13 = .ok (.invokevirtual 116, 3) := by decide +kernel
theorem dX8_readIceOf_16 : decode cX8_readIceOf 16 = .ok (.ifCond .eq 7, 3) := by decide +kernel
theorem dX8_readIceOf_19 : decode cX8_readIceOf 19 = .ok (.iconst 1, 1) := by decide +kernel
theorem dX8_readIceOf_20 : decode cX8_readIceOf 20 = .ok (.goto 4, 3) := by decide +kernel
theorem dX8_readIceOf_23 : decode cX8_readIceOf 23 = .ok (.iconst 0, 1) := by decide +kernel
theorem dX8_readIceOf_24 : decode cX8_readIceOf 24 = .ok (.istore_n 1, 1) := by decide +kernel
theorem dX8_readIceOf_25 : decode cX8_readIceOf 25 = .ok (.aload_n 0, 1) := by decide +kernel
theorem dX8_readIceOf_26 : decode cX8_readIceOf 26 = .ok (.iload_n 1, 1) := by decide +kernel
theorem dX8_readIceOf_27 : decode cX8_readIceOf 27 = .ok (.ifCond .eq 12, 3) := by decide +kernel
theorem dX8_readIceOf_30 : decode cX8_readIceOf 30 = .ok (.aload_n 0, 1) := by decide +kernel
theorem dX8_readIceOf_31 : decode cX8_readIceOf 31 = .ok (.getfield 41, 3) := by decide +kernel
theorem dX8_readIceOf_34 : decode cX8_readIceOf 34 = .ok (.iconst 0, 1) := by decide +kernel
theorem dX8_readIceOf_35 : decode cX8_readIceOf 35 = .ok (.iaload, 1) := by decide +kernel
theorem dX8_readIceOf_36 : decode cX8_readIceOf 36 = .ok (.goto 7, 3) := by decide +kernel
theorem dX8_readIceOf_39 : decode cX8_readIceOf 39 = .ok (.aload_n 0, 1) := by decide +kernel
theorem dX8_readIceOf_40 : decode cX8_readIceOf 40 = .ok (.getfield 72, 3) := by decide +kernel
theorem dX8_readIceOf_43 : decode cX8_readIceOf 43 = .ok (.putfield 72, 3) := by decide +kernel
theorem dX8_readIceOf_46 : decode cX8_readIceOf 46 = .ok (.iload_n 1, 1) := by decide +kernel
theorem dX8_readIceOf_47 : decode cX8_readIceOf 47 = .ok (.ireturn, 1) := by decide +kernel
set_option maxRecDepth 20000 in
theorem ggX8_readColdOf_X8_readNumbers : GoodIn wsX8_readColdOf wsX8_readNumbers := goodIn_r _ [8, 9, 3, 10, 11, 12, 7, 13, 14, 15, 16, 17, 18, 19, 20, 21, 26, 27, 28, 29, 30, 31, 32, 33, 34, 35, 36, 37, 38, 39, 40, 41, 42, 43, 44, 45, 46, 47, 48, 49, 50, 51, 52, 53, 54, 55, 56] (by decide +kernel) (by decide +kernel)
set_option maxRecDepth 20000 in
theorem gX8_readColdOf_X8_readNumbers : GoodIn wsX8_readColdOf (wsV RX8 119 RX8 yX8_readNumbers wsX8_readNumbers) := goodIn_app (goodIn_of _ (by decide +kernel)) ggX8_readColdOf_X8_readNumbers
set_option maxRecDepth 20000 in
theorem ggX8_readColdOf_X8_isTold : GoodIn wsX8_readColdOf wsX8_isTold := goodIn_r _ [25, 3, 19, 20, 7, 21, 26, 27, 28, 29, 30, 31, 32, 33, 34, 35, 36, 37, 38, 39, 40, 41, 42, 43, 44, 45, 46, 47, 48, 49, 50, 51, 52, 53, 54, 55, 56] (by decide +kernel) (by decide +kernel)
set_option maxRecDepth 20000 in
theorem gX8_readColdOf_X8_isTold : GoodIn wsX8_readColdOf (wsV RX8 116 RX8 yX8_isTold wsX8_isTold) := goodIn_app (goodIn_of _ (by decide +kernel)) ggX8_readColdOf_X8_isTold
theorem dX8_readColdOf_0 : decode cX8_readColdOf 0 = .ok (.aload_n 0, 1) := by decide +kernel
theorem dX8_readColdOf_1 : decode cX8_readColdOf 1 = .ok (.getfield 78, 3) := by decide +kernel
theorem dX8_readColdOf_4 : decode cX8_readColdOf 4 = .ok (.bipush 10, 2) := by decide +kernel
theorem dX8_readColdOf_6 : decode cX8_readColdOf 6 = .ok (.if_icmp .eq 22, 3) := by decide +kernel
theorem dX8_readColdOf_9 : decode cX8_readColdOf 9 = .ok (.aload_n 0, 1) := by decide +kernel
theorem dX8_readColdOf_10 : decode cX8_readColdOf 10 = .ok (.iconst 1, 1) := by decide +kernel
theorem dX8_readColdOf_11 : decode cX8_readColdOf 11 = .ok (.invokevirtual 119, 3) := by decide +kernel
theorem dX8_readColdOf_14 : decode cX8_readColdOf 14 = .ok (.ifCond .eq 14, 3) := by decide +kernel
theorem dX8_readColdOf_17 : decode cX8_readColdOf 17 = .ok (.aload_n 0, 1) := by decide +kernel
theorem dX8_readColdOf_18 : decode cX8_readColdOf 18 = .ok (.iconst 0, 1) := by decide +kernel
theorem dX8_readColdOf_19 : decode cX8_readColdOf 19 = .ok (.iconst 0, 1) := by decide +kernel
theorem dX8_readColdOf_20 : decode cX8_readColdOf 20 = .ok (.bipush 40, 2) := by decide +kernel
theorem dX8_readColdOf_22 : decode cX8_readColdOf 22 = .ok (.invokevirtual 116, 3) := by decide +kernel
theorem dX8_readColdOf_25 : decode cX8_readColdOf 25 = .ok (.ifCond .ne 5, 3) := by decide +kernel
theorem dX8_readColdOf_28 : decode cX8_readColdOf 28 = .ok (.iconst 0, 1) := by decide +kernel
theorem dX8_readColdOf_29 : decode cX8_readColdOf 29 = .ok (.ireturn, 1) := by decide +kernel
theorem dX8_readColdOf_30 : decode cX8_readColdOf 30 = .ok (.aload_n 0, 1) := by decide +kernel
theorem dX8_readColdOf_31 : decode cX8_readColdOf 31 = .ok (.getfield 50, 3) := by decide +kernel
theorem dX8_readColdOf_34 : decode cX8_readColdOf 34 = .ok (.aload_n 0, 1) := by decide +kernel
theorem dX8_readColdOf_35 : decode cX8_readColdOf 35 = .ok (.getfield 78, 3) := by decide +kernel
theorem dX8_readColdOf_38 : decode cX8_readColdOf 38 = .ok (.aload_n 0, 1) := by decide +kernel
theorem dX8_readColdOf_39 : decode cX8_readColdOf 39 = .ok (.getfield 41, 3) := by decide +kernel
theorem dX8_readColdOf_42 : decode cX8_readColdOf 42 = .ok (.iconst 0, 1) := by decide +kernel
theorem dX8_readColdOf_43 : decode cX8_readColdOf 43 = .ok (.iaload, 1) := by decide +kernel
theorem dX8_readColdOf_44 : decode cX8_readColdOf 44 = .ok (.bipush 20, 2) := by decide +kernel
theorem dX8_readColdOf_46 : decode cX8_readColdOf 46 = .ok (.isub, 1) := by decide +kernel
theorem dX8_readColdOf_47 : decode cX8_readColdOf 47 = .ok (.iastore, 1) := by decide +kernel
theorem dX8_readColdOf_48 : decode cX8_readColdOf 48 = .ok (.aload_n 0, 1) := by decide +kernel
theorem dX8_readColdOf_49 : decode cX8_readColdOf 49 = .ok (.dup, 1) := by decide +kernel
theorem dX8_readColdOf_50 : decode cX8_readColdOf 50 = .ok (.getfield 78, 3) := by decide +kernel
theorem dX8_readColdOf_53 : decode cX8_readColdOf 53 = .ok (.iconst 1, 1) := by decide +kernel
theorem dX8_readColdOf_54 : decode cX8_readColdOf 54 = .ok (.iadd, 1) := by decide +kernel
theorem dX8_readColdOf_55 : decode cX8_readColdOf 55 = .ok (.putfield 78, 3) := by decide +kernel
theorem dX8_readColdOf_58 : decode cX8_readColdOf 58 = .ok (.iconst 1, 1) := by decide +kernel
theorem dX8_readColdOf_59 : decode cX8_readColdOf 59 = .ok (.ireturn, 1) := by decide +kernel
set_option maxRecDepth 20000 in
theorem ggX8_readLawOf_X8_readNumbers : GoodIn wsX8_readLawOf wsX8_readNumbers := goodIn_r _ [7, 8, 1, 9, 10, 11, 6, 12, 13, 14, 15, 16, 17, 18, 19, 20, 25, 26, 27, 28, 29, 30, 31, 32, 33, 34, 35, 36, 37, 38, 39, 40, 41, 42, 43, 44, 45, 46, 47, 48, 49, 50, 51, 52, 53, 54, 55] (by decide +kernel) (by decide +kernel)
set_option maxRecDepth 20000 in
theorem gX8_readLawOf_X8_readNumbers : GoodIn wsX8_readLawOf (wsV RX8 119 RX8 yX8_readNumbers wsX8_readNumbers) := goodIn_app (goodIn_of _ (by decide +kernel)) ggX8_readLawOf_X8_readNumbers
set_option maxRecDepth 20000 in
theorem ggX8_readLawOf_X8_isTold : GoodIn wsX8_readLawOf wsX8_isTold := goodIn_r _ [24, 1, 18, 19, 6, 20, 25, 26, 27, 28, 29, 30, 31, 32, 33, 34, 35, 36, 37, 38, 39, 40, 41, 42, 43, 44, 45, 46, 47, 48, 49, 50, 51, 52, 53, 54, 55] (by decide +kernel) (by decide +kernel)
set_option maxRecDepth 20000 in
theorem gX8_readLawOf_X8_isTold : GoodIn wsX8_readLawOf (wsV RX8 116 RX8 yX8_isTold wsX8_isTold) := goodIn_app (goodIn_of _ (by decide +kernel)) ggX8_readLawOf_X8_isTold
theorem dX8_readLawOf_0 : decode cX8_readLawOf 0 = .ok (.aload_n 0, 1) := by decide +kernel
theorem dX8_readLawOf_1 : decode cX8_readLawOf 1 = .ok (.iconst 1, 1) := by decide +kernel
theorem dX8_readLawOf_2 : decode cX8_readLawOf 2 = .ok (.invokevirtual 119, 3) := by decide +kernel
theorem dX8_readLawOf_5 : decode cX8_readLawOf 5 = .ok (.ifCond .eq 17, 3) := by decide +kernel
theorem dX8_readLawOf_8 : decode cX8_readLawOf 8 = .ok (.aload_n 0, 1) := by decide +kernel
theorem dX8_readLawOf_9 : decode cX8_readLawOf 9 = .ok (.iconst 0, 1) := by decide +kernel
theorem dX8_readLawOf_10 : decode cX8_readLawOf 10 = .ok (.iconst 0, 1) := by decide +kernel
theorem dX8_readLawOf_11 : decode cX8_readLawOf 11 = .ok (.iconst 2, 1) := by decide +kernel
theorem dX8_readLawOf_12 : decode cX8_readLawOf 12 = .ok (.invokevirtual 116, 3) := by decide +kernel
theorem dX8_readLawOf_15 : decode cX8_readLawOf 15 = .ok (.ifCond .eq 7, 3) := by decide +kernel
theorem dX8_readLawOf_18 : decode cX8_readLawOf 18 = .ok (.iconst 1, 1) := by decide +kernel
theorem dX8_readLawOf_19 : decode cX8_readLawOf 19 = .ok (.goto 4, 3) := by decide +kernel
theorem dX8_readLawOf_22 : decode cX8_readLawOf 22 = .ok (.iconst 0, 1) := by decide +kernel
theorem dX8_readLawOf_23 : decode cX8_readLawOf 23 = .ok (.istore_n 1, 1) := by decide +kernel
theorem dX8_readLawOf_24 : decode cX8_readLawOf 24 = .ok (.aload_n 0, 1) := by decide +kernel
theorem dX8_readLawOf_25 : decode cX8_readLawOf 25 = .ok (.iload_n 1, 1) := by decide +kernel
theorem dX8_readLawOf_26 : decode cX8_readLawOf 26 = .ok (.ifCond .eq 12, 3) := by decide +kernel
theorem dX8_readLawOf_29 : decode cX8_readLawOf 29 = .ok (.aload_n 0, 1) := by decide +kernel
theorem dX8_readLawOf_30 : decode cX8_readLawOf 30 = .ok (.getfield 41, 3) := by decide +kernel
theorem dX8_readLawOf_33 : decode cX8_readLawOf 33 = .ok (.iconst 0, 1) := by decide +kernel
theorem dX8_readLawOf_34 : decode cX8_readLawOf 34 = .ok (.iaload, 1) := by decide +kernel
theorem dX8_readLawOf_35 : decode cX8_readLawOf 35 = .ok (.goto 7, 3) := by decide +kernel
theorem dX8_readLawOf_38 : decode cX8_readLawOf 38 = .ok (.aload_n 0, 1) := by decide +kernel
theorem dX8_readLawOf_39 : decode cX8_readLawOf 39 = .ok (.getfield 75, 3) := by decide +kernel
theorem dX8_readLawOf_42 : decode cX8_readLawOf 42 = .ok (.putfield 75, 3) := by decide +kernel
theorem dX8_readLawOf_45 : decode cX8_readLawOf 45 = .ok (.iload_n 1, 1) := by decide +kernel
theorem dX8_readLawOf_46 : decode cX8_readLawOf 46 = .ok (.ireturn, 1) := by decide +kernel
set_option maxRecDepth 20000 in
theorem ggX8_readItem_X8_letterAt : GoodIn wsX8_readItem wsX8_letterAt := goodIn_r _ [7, 8, 9, 68, 69, 70, 71, 72, 73, 74, 75, 76, 77, 78, 79, 80, 81, 82, 83, 84, 85, 86, 87, 88, 89, 90, 91, 92, 93, 94, 95, 96, 97, 98] (by decide +kernel) (by decide +kernel)
set_option maxRecDepth 20000 in
theorem gX8_readItem_X8_letterAt : GoodIn wsX8_readItem (wsV RX8 98 RX8 yX8_letterAt wsX8_letterAt) := goodIn_app (goodIn_of _ (by decide +kernel)) ggX8_readItem_X8_letterAt
set_option maxRecDepth 20000 in
theorem ggX8_readItem_X8_readSize : GoodIn wsX8_readItem wsX8_readSize := goodIn_r _ [13, 2, 14, 15, 16, 17, 18, 19, 6, 20, 1, 3, 4, 5, 7, 8, 9, 21, 22, 23, 24, 25, 26, 27, 28, 29, 30, 68, 69, 70, 71, 72, 73, 74, 75, 76, 77, 78, 79, 80, 81, 82, 83, 84, 85, 86, 87, 88, 89, 90, 91, 92, 93, 94, 95, 96, 97, 98] (by decide +kernel) (by decide +kernel)
set_option maxRecDepth 20000 in
theorem gX8_readItem_X8_readSize : GoodIn wsX8_readItem (wsV RX8 128 RX8 yX8_readSize wsX8_readSize) := goodIn_app (goodIn_of _ (by decide +kernel)) ggX8_readItem_X8_readSize
set_option maxRecDepth 20000 in
theorem ggX8_readItem_X8_readKindOf : GoodIn wsX8_readItem wsX8_readKindOf := goodIn_r _ [34, 35, 14, 17, 18, 19, 6, 20, 1, 3, 4, 5, 7, 8, 9, 21, 22, 23, 24, 25, 26, 36, 37, 38, 39, 15, 16, 27, 28, 29, 30, 68, 69, 70, 71, 72, 73, 74, 75, 76, 77, 78, 79, 80, 81, 82, 83, 84, 85, 86, 87, 88, 89, 90, 91, 92, 93, 94, 95, 96, 97, 98] (by decide +kernel) (by decide +kernel)
set_option maxRecDepth 20000 in
theorem gX8_readItem_X8_readKindOf : GoodIn wsX8_readItem (wsV RX8 132 RX8 yX8_readKindOf wsX8_readKindOf) := goodIn_app (goodIn_of _ (by decide +kernel)) ggX8_readItem_X8_readKindOf
set_option maxRecDepth 20000 in
theorem ggX8_readItem_X8_readMapOf : GoodIn wsX8_readItem wsX8_readMapOf := goodIn_r _ [43, 14, 17, 18, 19, 6, 20, 1, 3, 4, 5, 7, 8, 9, 21, 22, 23, 24, 25, 26, 27, 28, 29, 30, 36, 37, 38, 39, 15, 16, 44, 45, 46, 47, 48, 49, 50, 51, 68, 69, 70, 71, 72, 73, 74, 75, 76, 77, 78, 79, 80, 81, 82, 83, 84, 85, 86, 87, 88, 89, 90, 91, 92, 93, 94, 95, 96, 97, 98] (by decide +kernel) (by decide +kernel)
set_option maxRecDepth 20000 in
theorem gX8_readItem_X8_readMapOf : GoodIn wsX8_readItem (wsV RX8 135 RX8 yX8_readMapOf wsX8_readMapOf) := goodIn_app (goodIn_of _ (by decide +kernel)) ggX8_readItem_X8_readMapOf
set_option maxRecDepth 20000 in
theorem ggX8_readItem_X8_readIceOf : GoodIn wsX8_readItem wsX8_readIceOf := goodIn_r _ [55, 14, 56, 17, 18, 19, 6, 20, 1, 3, 4, 5, 7, 8, 9, 21, 22, 23, 24, 25, 26, 27, 28, 29, 30, 68, 69, 70, 71, 72, 73, 74, 75, 76, 77, 78, 79, 80, 81, 82, 83, 84, 85, 86, 87, 88, 89, 90, 91, 92, 93, 94, 95, 96, 97, 98] (by decide +kernel) (by decide +kernel)
set_option maxRecDepth 20000 in
theorem gX8_readItem_X8_readIceOf : GoodIn wsX8_readItem (wsV RX8 138 RX8 yX8_readIceOf wsX8_readIceOf) := goodIn_app (goodIn_of _ (by decide +kernel)) ggX8_readItem_X8_readIceOf
set_option maxRecDepth 20000 in
theorem ggX8_readItem_X8_readColdOf : GoodIn wsX8_readItem wsX8_readColdOf := goodIn_r _ [60, 61, 62, 14, 17, 18, 19, 6, 20, 1, 3, 4, 5, 7, 8, 9, 21, 22, 23, 24, 25, 26, 27, 28, 29, 30, 68, 69, 70, 71, 72, 73, 74, 75, 76, 77, 78, 79, 80, 81, 82, 83, 84, 85, 86, 87, 88, 89, 90, 91, 92, 93, 94, 95, 96, 97, 98] (by decide +kernel) (by decide +kernel)
set_option maxRecDepth 20000 in
theorem gX8_readItem_X8_readColdOf : GoodIn wsX8_readItem (wsV RX8 141 RX8 yX8_readColdOf wsX8_readColdOf) := goodIn_app (goodIn_of _ (by decide +kernel)) ggX8_readItem_X8_readColdOf
set_option maxRecDepth 20000 in
theorem ggX8_readItem_X8_readLawOf : GoodIn wsX8_readItem wsX8_readLawOf := goodIn_r _ [66, 14, 67, 17, 18, 19, 6, 20, 1, 3, 4, 5, 7, 8, 9, 21, 22, 23, 24, 25, 26, 27, 28, 29, 30, 68, 69, 70, 71, 72, 73, 74, 75, 76, 77, 78, 79, 80, 81, 82, 83, 84, 85, 86, 87, 88, 89, 90, 91, 92, 93, 94, 95, 96, 97, 98] (by decide +kernel) (by decide +kernel)
set_option maxRecDepth 20000 in
theorem gX8_readItem_X8_readLawOf : GoodIn wsX8_readItem (wsV RX8 144 RX8 yX8_readLawOf wsX8_readLawOf) := goodIn_app (goodIn_of _ (by decide +kernel)) ggX8_readItem_X8_readLawOf
theorem dX8_readItem_0 : decode cX8_readItem 0 = .ok (.aload_n 0, 1) := by decide +kernel
theorem dX8_readItem_1 : decode cX8_readItem 1 = .ok (.aload_n 0, 1) := by decide +kernel
theorem dX8_readItem_2 : decode cX8_readItem 2 = .ok (.getfield 95, 3) := by decide +kernel
theorem dX8_readItem_5 : decode cX8_readItem 5 = .ok (.invokevirtual 98, 3) := by decide +kernel
theorem dX8_readItem_8 : decode cX8_readItem 8 = .ok (.istore_n 1, 1) := by decide +kernel
theorem dX8_readItem_9 : decode cX8_readItem 9 = .ok (.aload_n 0, 1) := by decide +kernel
theorem dX8_readItem_10 : decode cX8_readItem 10 = .ok (.dup, 1) := by decide +kernel
theorem dX8_readItem_11 : decode cX8_readItem 11 = .ok (.getfield 95, 3) := by decide +kernel
theorem dX8_readItem_14 : decode cX8_readItem 14 = .ok (.iconst 1, 1) := by decide +kernel
theorem dX8_readItem_15 : decode cX8_readItem 15 = .ok (.iadd, 1) := by decide +kernel
theorem dX8_readItem_16 : decode cX8_readItem 16 = .ok (.putfield 95, 3) := by decide +kernel
theorem dX8_readItem_19 : decode cX8_readItem 19 = .ok (.iload_n 1, 1) := by decide +kernel
theorem dX8_readItem_20 : decode cX8_readItem 20 = .ok (.bipush 114, 2) := by decide +kernel
theorem dX8_readItem_22 : decode cX8_readItem 22 = .ok (.if_icmp .ne 8, 3) := by decide +kernel
theorem dX8_readItem_25 : decode cX8_readItem 25 = .ok (.aload_n 0, 1) := by decide +kernel
theorem dX8_readItem_26 : decode cX8_readItem 26 = .ok (.invokevirtual 128, 3) := by decide +kernel
theorem dX8_readItem_29 : decode cX8_readItem 29 = .ok (.ireturn, 1) := by decide +kernel
theorem dX8_readItem_30 : decode cX8_readItem 30 = .ok (.aload_n 0, 1) := by decide +kernel
theorem dX8_readItem_31 : decode cX8_readItem 31 = .ok (.iconst 1, 1) := by decide +kernel
theorem dX8_readItem_32 : decode cX8_readItem 32 = .ok (.putfield 112, 3) := by decide +kernel
theorem dX8_readItem_35 : decode cX8_readItem 35 = .ok (.iload_n 1, 1) := by decide +kernel
theorem dX8_readItem_36 : decode cX8_readItem 36 = .ok (.tableswitch 77 100 108 #[67, 77, 57, 77, 77, 62, 77, 52, 72], 52) := by decide +kernel
theorem dX8_readItem_88 : decode cX8_readItem 88 = .ok (.aload_n 0, 1) := by decide +kernel
theorem dX8_readItem_89 : decode cX8_readItem 89 = .ok (.invokevirtual 132, 3) := by decide +kernel
theorem dX8_readItem_92 : decode cX8_readItem 92 = .ok (.ireturn, 1) := by decide +kernel
theorem dX8_readItem_93 : decode cX8_readItem 93 = .ok (.aload_n 0, 1) := by decide +kernel
theorem dX8_readItem_94 : decode cX8_readItem 94 = .ok (.invokevirtual 135, 3) := by decide +kernel
theorem dX8_readItem_97 : decode cX8_readItem 97 = .ok (.ireturn, 1) := by decide +kernel
theorem dX8_readItem_98 : decode cX8_readItem 98 = .ok (.aload_n 0, 1) := by decide +kernel
theorem dX8_readItem_99 : decode cX8_readItem 99 = .ok (.invokevirtual 138, 3) := by decide +kernel
theorem dX8_readItem_102 : decode cX8_readItem 102 = .ok (.ireturn, 1) := by decide +kernel
theorem dX8_readItem_103 : decode cX8_readItem 103 = .ok (.aload_n 0, 1) := by decide +kernel
theorem dX8_readItem_104 : decode cX8_readItem 104 = .ok (.invokevirtual 141, 3) := by decide +kernel
theorem dX8_readItem_107 : decode cX8_readItem 107 = .ok (.ireturn, 1) := by decide +kernel
theorem dX8_readItem_108 : decode cX8_readItem 108 = .ok (.aload_n 0, 1) := by decide +kernel
theorem dX8_readItem_109 : decode cX8_readItem 109 = .ok (.invokevirtual 144, 3) := by decide +kernel
theorem dX8_readItem_112 : decode cX8_readItem 112 = .ok (.ireturn, 1) := by decide +kernel
theorem dX8_readItem_113 : decode cX8_readItem 113 = .ok (.iconst 0, 1) := by decide +kernel
theorem dX8_readItem_114 : decode cX8_readItem 114 = .ok (.ireturn, 1) := by decide +kernel
set_option maxRecDepth 20000 in
theorem ggX8_fault_X8_clearTold : GoodIn wsX8_fault wsX8_clearTold := goodIn_r _ [7, 8, 9, 10, 11, 12, 13, 14, 15, 76, 77, 78, 79, 80, 81, 82, 83, 84, 85, 86, 87, 88, 89, 90, 91, 92, 93, 94, 95, 96, 97, 98, 99, 100, 101, 102, 103, 104, 105, 106] (by decide +kernel) (by decide +kernel)
set_option maxRecDepth 20000 in
theorem gX8_fault_X8_clearTold : GoodIn wsX8_fault (wsV RX8 65 RX8 yX8_clearTold wsX8_clearTold) := goodIn_app (goodIn_of _ (by decide +kernel)) ggX8_fault_X8_clearTold
set_option maxRecDepth 20000 in
theorem ggX8_fault_X8_readItem : GoodIn wsX8_fault wsX8_readItem := goodIn_r _ [19, 1, 15, 20, 21, 22, 6, 23, 2, 24, 25, 26, 27, 28, 29, 8, 9, 30, 31, 32, 33, 34, 35, 36, 37, 38, 39, 40, 41, 42, 43, 44, 45, 46, 47, 10, 48, 49, 50, 51, 52, 53, 54, 55, 56, 57, 58, 59, 11, 60, 61, 62, 63, 64, 65, 66, 12, 67, 68, 69, 70, 14, 71, 72, 73, 74, 75, 13, 76, 77, 78, 79, 80, 81, 82, 83, 84, 85, 86, 87, 88, 89, 90, 91, 92, 93, 94, 95, 96, 97, 98, 99, 100, 101, 102, 103, 104, 105, 106] (by decide +kernel) (by decide +kernel)
set_option maxRecDepth 20000 in
theorem gX8_fault_X8_readItem : GoodIn wsX8_fault (wsV RX8 147 RX8 yX8_readItem wsX8_readItem) := goodIn_app (goodIn_of _ (by decide +kernel)) ggX8_fault_X8_readItem
theorem dX8_fault_0 : decode cX8_fault 0 = .ok (.aload_n 0, 1) := by decide +kernel
theorem dX8_fault_1 : decode cX8_fault 1 = .ok (.iconst 0, 1) := by decide +kernel
theorem dX8_fault_2 : decode cX8_fault 2 = .ok (.putfield 95, 3) := by decide +kernel
theorem dX8_fault_5 : decode cX8_fault 5 = .ok (.aload_n 0, 1) := by decide +kernel
theorem dX8_fault_6 : decode cX8_fault 6 = .ok (.invokevirtual 65, 3) := by decide +kernel
theorem dX8_fault_9 : decode cX8_fault 9 = .ok (.aload_n 0, 1) := by decide +kernel
theorem dX8_fault_10 : decode cX8_fault 10 = .ok (.getfield 95, 3) := by decide +kernel
theorem dX8_fault_13 : decode cX8_fault 13 = .ok (.aload_n 0, 1) := by decide +kernel
theorem dX8_fault_14 : decode cX8_fault 14 = .ok (.getfield 92, 3) := by decide +kernel
theorem dX8_fault_17 : decode cX8_fault 17 = .ok (.if_icmp .ge 20, 3) := by decide +kernel
theorem dX8_fault_20 : decode cX8_fault 20 = .ok (.aload_n 0, 1) := by decide +kernel
theorem dX8_fault_21 : decode cX8_fault 21 = .ok (.getfield 95, 3) := by decide +kernel
theorem dX8_fault_24 : decode cX8_fault 24 = .ok (.istore_n 1, 1) := by decide +kernel
theorem dX8_fault_25 : decode cX8_fault 25 = .ok (.aload_n 0, 1) := by decide +kernel
theorem dX8_fault_26 : decode cX8_fault 26 = .ok (.invokevirtual 147, 3) := by decide +kernel
theorem dX8_fault_29 : decode cX8_fault 29 = .ok (.ifCond .ne 5, 3) := by decide +kernel
theorem dX8_fault_32 : decode cX8_fault 32 = .ok (.iload_n 1, 1) := by decide +kernel
theorem dX8_fault_33 : decode cX8_fault 33 = .ok (.ireturn, 1) := by decide +kernel
theorem dX8_fault_34 : decode cX8_fault 34 = .ok (.goto (-25), 3) := by decide +kernel
theorem dX8_fault_37 : decode cX8_fault 37 = .ok (.bipush (-4), 2) := by decide +kernel
theorem dX8_fault_39 : decode cX8_fault 39 = .ok (.ireturn, 1) := by decide +kernel
set_option maxRecDepth 20000 in
theorem ggX8_lay_X8_fault : GoodIn wsX8_lay wsX8_fault := goodIn_r _ [6, 7, 1, 8, 9, 10, 5, 11, 12, 13, 14, 15, 16, 17, 18, 19, 20, 21, 22, 23, 24, 25, 26, 27, 28, 29, 30, 31, 32, 33, 34, 35, 36, 37, 38, 39, 40, 41, 42, 43, 44, 45, 46, 47, 48, 49, 50, 51, 52, 53, 54, 55, 56, 57, 58, 59, 60, 61, 62, 63, 64, 65, 66, 67, 68, 69, 70, 71, 72, 73, 74, 75, 76, 77, 78, 79, 102, 103, 104, 105, 106, 107, 108, 109, 110, 111, 112, 113, 114, 115, 116, 117, 118, 119, 120, 121, 122, 123, 124, 125, 126, 127, 128, 129, 130, 131, 132] (by decide +kernel) (by decide +kernel)
set_option maxRecDepth 20000 in
theorem gX8_lay_X8_fault : GoodIn wsX8_lay (wsV RX8 150 RX8 yX8_fault wsX8_fault) := goodIn_app (goodIn_of _ (by decide +kernel)) ggX8_lay_X8_fault
set_option maxRecDepth 20000 in
theorem ggX8_lay_X8_settles : GoodIn wsX8_lay wsX8_settles := goodIn_r _ [83, 12, 84, 13, 85, 17, 86, 18, 87, 88, 75, 89, 14, 90, 15, 91, 16, 92, 93, 94, 95, 96, 5, 97, 98, 99, 100, 101, 102, 103, 104, 105, 106, 107, 108, 109, 110, 111, 112, 113, 114, 115, 116, 117, 118, 119, 120, 121, 122, 123, 124, 125, 126, 127, 128, 129, 130, 131, 132] (by decide +kernel) (by decide +kernel)
set_option maxRecDepth 20000 in
theorem gX8_lay_X8_settles : GoodIn wsX8_lay (wsV RX8 81 RX8 yX8_settles wsX8_settles) := goodIn_app (goodIn_of _ (by decide +kernel)) ggX8_lay_X8_settles
set_option maxRecDepth 20000 in
theorem ggX8_lay_X8_cells : GoodIn wsX8_lay wsX8_cells := goodIn_r _ [101, 84, 85, 102, 103, 104, 105, 106, 107, 108, 109, 110, 111, 112, 113, 114, 115, 116, 117, 118, 119, 120, 121, 122, 123, 124, 125, 126, 127, 128, 129, 130, 131, 132] (by decide +kernel) (by decide +kernel)
set_option maxRecDepth 20000 in
theorem gX8_lay_X8_cells : GoodIn wsX8_lay (wsV RX8 84 RX8 yX8_cells wsX8_cells) := goodIn_app (goodIn_of _ (by decide +kernel)) ggX8_lay_X8_cells
theorem dX8_lay_0 : decode cX8_lay 0 = .ok (.aload_n 0, 1) := by decide +kernel
theorem dX8_lay_1 : decode cX8_lay 1 = .ok (.getfield 92, 3) := by decide +kernel
theorem dX8_lay_4 : decode cX8_lay 4 = .ok (.ifCond .eq 12, 3) := by decide +kernel
theorem dX8_lay_7 : decode cX8_lay 7 = .ok (.aload_n 0, 1) := by decide +kernel
theorem dX8_lay_8 : decode cX8_lay 8 = .ok (.invokevirtual 150, 3) := by decide +kernel
theorem dX8_lay_11 : decode cX8_lay 11 = .ok (.bipush (-4), 2) := by decide +kernel
theorem dX8_lay_13 : decode cX8_lay 13 = .ok (.if_icmp .eq 6, 3) := by decide +kernel
theorem dX8_lay_16 : decode cX8_lay 16 = .ok (.bipush (-2), 2) := by decide +kernel
theorem dX8_lay_18 : decode cX8_lay 18 = .ok (.ireturn, 1) := by decide +kernel
theorem dX8_lay_19 : decode cX8_lay 19 = .ok (.aload_n 0, 1) := by decide +kernel
theorem dX8_lay_20 : decode cX8_lay 20 = .ok (.invokevirtual 81, 3) := by decide +kernel
theorem dX8_lay_23 : decode cX8_lay 23 = .ok (.aload_n 0, 1) := by decide +kernel
theorem dX8_lay_24 : decode cX8_lay 24 = .ok (.invokevirtual 84, 3) := by decide +kernel
theorem dX8_lay_27 : decode cX8_lay 27 = .ok (.ireturn, 1) := by decide +kernel
set_option maxRecDepth 20000 in
theorem ggX8_settles_X8_put : GoodIn wsX8_settles wsX8_put := goodIn_r _ [23] (by decide +kernel) (by decide +kernel)
set_option maxRecDepth 20000 in
theorem gX8_settles_X8_put : GoodIn wsX8_settles (va_wsS RX8 159 yX8_put wsX8_put) := goodIn_app (goodIn_of _ (by decide +kernel)) ggX8_settles_X8_put
set_option maxRecDepth 20000 in
theorem ggX8_settles_X8_cells : GoodIn wsX8_settles wsX8_cells := goodIn_r _ [27, 2, 4, 28, 29, 30, 31, 32, 33, 34, 35, 36, 37, 38, 39, 40, 41, 42, 43, 44, 45, 46, 47, 48, 49, 50, 51, 52, 53, 54, 55, 56, 57, 58] (by decide +kernel) (by decide +kernel)
set_option maxRecDepth 20000 in
theorem gX8_settles_X8_cells : GoodIn wsX8_settles (wsV RX8 84 RX8 yX8_cells wsX8_cells) := goodIn_app (goodIn_of _ (by decide +kernel)) ggX8_settles_X8_cells
theorem dX8_settles_0 : decode cX8_settles 0 = .ok (.aload_n 0, 1) := by decide +kernel
theorem dX8_settles_1 : decode cX8_settles 1 = .ok (.aload_n 0, 1) := by decide +kernel
theorem dX8_settles_2 : decode cX8_settles 2 = .ok (.getfield 106, 3) := by decide +kernel
theorem dX8_settles_5 : decode cX8_settles 5 = .ok (.putfield 7, 3) := by decide +kernel
theorem dX8_settles_8 : decode cX8_settles 8 = .ok (.aload_n 0, 1) := by decide +kernel
theorem dX8_settles_9 : decode cX8_settles 9 = .ok (.aload_n 0, 1) := by decide +kernel
theorem dX8_settles_10 : decode cX8_settles 10 = .ok (.getfield 109, 3) := by decide +kernel
theorem dX8_settles_13 : decode cX8_settles 13 = .ok (.putfield 13, 3) := by decide +kernel
theorem dX8_settles_16 : decode cX8_settles 16 = .ok (.aload_n 0, 1) := by decide +kernel
theorem dX8_settles_17 : decode cX8_settles 17 = .ok (.aload_n 0, 1) := by decide +kernel
theorem dX8_settles_18 : decode cX8_settles 18 = .ok (.getfield 75, 3) := by decide +kernel
theorem dX8_settles_21 : decode cX8_settles 21 = .ok (.putfield 153, 3) := by decide +kernel
theorem dX8_settles_24 : decode cX8_settles 24 = .ok (.aload_n 0, 1) := by decide +kernel
theorem dX8_settles_25 : decode cX8_settles 25 = .ok (.aload_n 0, 1) := by decide +kernel
theorem dX8_settles_26 : decode cX8_settles 26 = .ok (.getfield 78, 3) := by decide +kernel
theorem dX8_settles_29 : decode cX8_settles 29 = .ok (.putfield 156, 3) := by decide +kernel
theorem dX8_settles_32 : decode cX8_settles 32 = .ok (.aload_n 0, 1) := by decide +kernel
theorem dX8_settles_33 : decode cX8_settles 33 = .ok (.getfield 23, 3) := by decide +kernel
theorem dX8_settles_36 : decode cX8_settles 36 = .ok (.iconst 0, 1) := by decide +kernel
theorem dX8_settles_37 : decode cX8_settles 37 = .ok (.aload_n 0, 1) := by decide +kernel
theorem dX8_settles_38 : decode cX8_settles 38 = .ok (.getfield 50, 3) := by decide +kernel
theorem dX8_settles_41 : decode cX8_settles 41 = .ok (.bipush 10, 2) := by decide +kernel
theorem dX8_settles_43 : decode cX8_settles 43 = .ok (.invokestatic 159, 3) := by decide +kernel
theorem dX8_settles_46 : decode cX8_settles 46 = .ok (.aload_n 0, 1) := by decide +kernel
theorem dX8_settles_47 : decode cX8_settles 47 = .ok (.getfield 16, 3) := by decide +kernel
theorem dX8_settles_50 : decode cX8_settles 50 = .ok (.iconst 0, 1) := by decide +kernel
theorem dX8_settles_51 : decode cX8_settles 51 = .ok (.aload_n 0, 1) := by decide +kernel
theorem dX8_settles_52 : decode cX8_settles 52 = .ok (.getfield 44, 3) := by decide +kernel
theorem dX8_settles_55 : decode cX8_settles 55 = .ok (.bipush 49, 2) := by decide +kernel
theorem dX8_settles_57 : decode cX8_settles 57 = .ok (.invokestatic 159, 3) := by decide +kernel
theorem dX8_settles_60 : decode cX8_settles 60 = .ok (.aload_n 0, 1) := by decide +kernel
theorem dX8_settles_61 : decode cX8_settles 61 = .ok (.getfield 20, 3) := by decide +kernel
theorem dX8_settles_64 : decode cX8_settles 64 = .ok (.iconst 0, 1) := by decide +kernel
theorem dX8_settles_65 : decode cX8_settles 65 = .ok (.aload_n 0, 1) := by decide +kernel
theorem dX8_settles_66 : decode cX8_settles 66 = .ok (.getfield 47, 3) := by decide +kernel
theorem dX8_settles_69 : decode cX8_settles 69 = .ok (.bipush 49, 2) := by decide +kernel
theorem dX8_settles_71 : decode cX8_settles 71 = .ok (.invokestatic 159, 3) := by decide +kernel
theorem dX8_settles_74 : decode cX8_settles 74 = .ok (.iconst 0, 1) := by decide +kernel
theorem dX8_settles_75 : decode cX8_settles 75 = .ok (.istore_n 1, 1) := by decide +kernel
theorem dX8_settles_76 : decode cX8_settles 76 = .ok (.iload_n 1, 1) := by decide +kernel
theorem dX8_settles_77 : decode cX8_settles 77 = .ok (.bipush 49, 2) := by decide +kernel
theorem dX8_settles_79 : decode cX8_settles 79 = .ok (.if_icmp .ge 99, 3) := by decide +kernel
theorem dX8_settles_82 : decode cX8_settles 82 = .ok (.aload_n 0, 1) := by decide +kernel
theorem dX8_settles_83 : decode cX8_settles 83 = .ok (.getfield 16, 3) := by decide +kernel
theorem dX8_settles_86 : decode cX8_settles 86 = .ok (.iload_n 1, 1) := by decide +kernel
theorem dX8_settles_87 : decode cX8_settles 87 = .ok (.iaload, 1) := by decide +kernel
theorem dX8_settles_88 : decode cX8_settles 88 = .ok (.iconst 2, 1) := by decide +kernel
theorem dX8_settles_89 : decode cX8_settles 89 = .ok (.if_icmp .ne 8, 3) := by decide +kernel
theorem dX8_settles_92 : decode cX8_settles 92 = .ok (.bipush 9, 2) := by decide +kernel
theorem dX8_settles_94 : decode cX8_settles 94 = .ok (.goto 5, 3) := by decide +kernel
theorem dX8_settles_97 : decode cX8_settles 97 = .ok (.bipush 60, 2) := by decide +kernel
theorem dX8_settles_99 : decode cX8_settles 99 = .ok (.istore_n 2, 1) := by decide +kernel
theorem dX8_settles_100 : decode cX8_settles 100 = .ok (.aload_n 0, 1) := by decide +kernel
theorem dX8_settles_101 : decode cX8_settles 101 = .ok (.getfield 26, 3) := by decide +kernel
theorem dX8_settles_104 : decode cX8_settles 104 = .ok (.iload_n 1, 1) := by decide +kernel
theorem dX8_settles_105 : decode cX8_settles 105 = .ok (.iload_n 1, 1) := by decide +kernel
theorem dX8_settles_106 : decode cX8_settles 106 = .ok (.aload_n 0, 1) := by decide +kernel
theorem dX8_settles_107 : decode cX8_settles 107 = .ok (.invokevirtual 84, 3) := by decide +kernel
theorem dX8_settles_110 : decode cX8_settles 110 = .ok (.if_icmp .lt 7, 3) := by decide +kernel
theorem dX8_settles_113 : decode cX8_settles 113 = .ok (.iconst 0, 1) := by decide +kernel
theorem dX8_settles_114 : decode cX8_settles 114 = .ok (.goto 19, 3) := by decide +kernel
theorem dX8_settles_117 : decode cX8_settles 117 = .ok (.aload_n 0, 1) := by decide +kernel
theorem dX8_settles_118 : decode cX8_settles 118 = .ok (.getfield 72, 3) := by decide +kernel
theorem dX8_settles_121 : decode cX8_settles 121 = .ok (.iload_n 2, 1) := by decide +kernel
theorem dX8_settles_122 : decode cX8_settles 122 = .ok (.if_icmp .ge 10, 3) := by decide +kernel
theorem dX8_settles_125 : decode cX8_settles 125 = .ok (.aload_n 0, 1) := by decide +kernel
theorem dX8_settles_126 : decode cX8_settles 126 = .ok (.getfield 72, 3) := by decide +kernel
theorem dX8_settles_129 : decode cX8_settles 129 = .ok (.goto 4, 3) := by decide +kernel
theorem dX8_settles_132 : decode cX8_settles 132 = .ok (.iload_n 2, 1) := by decide +kernel
theorem dX8_settles_133 : decode cX8_settles 133 = .ok (.iastore, 1) := by decide +kernel
theorem dX8_settles_134 : decode cX8_settles 134 = .ok (.aload_n 0, 1) := by decide +kernel
theorem dX8_settles_135 : decode cX8_settles 135 = .ok (.getfield 26, 3) := by decide +kernel
theorem dX8_settles_138 : decode cX8_settles 138 = .ok (.bipush 49, 2) := by decide +kernel
theorem dX8_settles_140 : decode cX8_settles 140 = .ok (.iload_n 1, 1) := by decide +kernel
theorem dX8_settles_141 : decode cX8_settles 141 = .ok (.iadd, 1) := by decide +kernel
theorem dX8_settles_142 : decode cX8_settles 142 = .ok (.aload_n 0, 1) := by decide +kernel
theorem dX8_settles_143 : decode cX8_settles 143 = .ok (.getfield 26, 3) := by decide +kernel
theorem dX8_settles_146 : decode cX8_settles 146 = .ok (.iload_n 1, 1) := by decide +kernel
theorem dX8_settles_147 : decode cX8_settles 147 = .ok (.iaload, 1) := by decide +kernel
theorem dX8_settles_148 : decode cX8_settles 148 = .ok (.ifCond .le 22, 3) := by decide +kernel
theorem dX8_settles_151 : decode cX8_settles 151 = .ok (.aload_n 0, 1) := by decide +kernel
theorem dX8_settles_152 : decode cX8_settles 152 = .ok (.getfield 16, 3) := by decide +kernel
theorem dX8_settles_155 : decode cX8_settles 155 = .ok (.iload_n 1, 1) := by decide +kernel
theorem dX8_settles_156 : decode cX8_settles 156 = .ok (.iaload, 1) := by decide +kernel
theorem dX8_settles_157 : decode cX8_settles 157 = .ok (.iconst 2, 1) := by decide +kernel
theorem dX8_settles_158 : decode cX8_settles 158 = .ok (.if_icmp .eq 12, 3) := by decide +kernel
theorem dX8_settles_161 : decode cX8_settles 161 = .ok (.aload_n 0, 1) := by decide +kernel
theorem dX8_settles_162 : decode cX8_settles 162 = .ok (.getfield 20, 3) := by decide +kernel
theorem dX8_settles_165 : decode cX8_settles 165 = .ok (.iload_n 1, 1) := by decide +kernel
theorem dX8_settles_166 : decode cX8_settles 166 = .ok (.iaload, 1) := by decide +kernel
theorem dX8_settles_167 : decode cX8_settles 167 = .ok (.goto 4, 3) := by decide +kernel
theorem dX8_settles_170 : decode cX8_settles 170 = .ok (.iconst (-1), 1) := by decide +kernel
theorem dX8_settles_171 : decode cX8_settles 171 = .ok (.iastore, 1) := by decide +kernel
theorem dX8_settles_172 : decode cX8_settles 172 = .ok (.iinc 1 1, 3) := by decide +kernel
theorem dX8_settles_175 : decode cX8_settles 175 = .ok (.goto (-99), 3) := by decide +kernel
theorem dX8_settles_178 : decode cX8_settles 178 = .ok (.aload_n 0, 1) := by decide +kernel
theorem dX8_settles_179 : decode cX8_settles 179 = .ok (.getfield 26, 3) := by decide +kernel
theorem dX8_settles_182 : decode cX8_settles 182 = .ok (.bipush 98, 2) := by decide +kernel
theorem dX8_settles_184 : decode cX8_settles 184 = .ok (.iconst 0, 1) := by decide +kernel
theorem dX8_settles_185 : decode cX8_settles 185 = .ok (.iastore, 1) := by decide +kernel
theorem dX8_settles_186 : decode cX8_settles 186 = .ok (.aload_n 0, 1) := by decide +kernel
theorem dX8_settles_187 : decode cX8_settles 187 = .ok (.iconst 0, 1) := by decide +kernel
theorem dX8_settles_188 : decode cX8_settles 188 = .ok (.putfield 163, 3) := by decide +kernel
theorem dX8_settles_191 : decode cX8_settles 191 = .ok (.aload_n 0, 1) := by decide +kernel
theorem dX8_settles_192 : decode cX8_settles 192 = .ok (.iconst 0, 1) := by decide +kernel
theorem dX8_settles_193 : decode cX8_settles 193 = .ok (.putfield 166, 3) := by decide +kernel
theorem dX8_settles_196 : decode cX8_settles 196 = .ok (.aload_n 0, 1) := by decide +kernel
theorem dX8_settles_197 : decode cX8_settles 197 = .ok (.iconst 0, 1) := by decide +kernel
theorem dX8_settles_198 : decode cX8_settles 198 = .ok (.putfield 169, 3) := by decide +kernel
theorem dX8_settles_201 : decode cX8_settles 201 = .ok (.return_, 1) := by decide +kernel
set_option maxRecDepth 20000 in
theorem ggX8_asItIs_X8_put : GoodIn wsX8_asItIs wsX8_put := goodIn_r _ [6] (by decide +kernel) (by decide +kernel)
set_option maxRecDepth 20000 in
theorem gX8_asItIs_X8_put : GoodIn wsX8_asItIs (va_wsS RX8 159 yX8_put wsX8_put) := goodIn_app (goodIn_of _ (by decide +kernel)) ggX8_asItIs_X8_put
theorem dX8_asItIs_0 : decode cX8_asItIs 0 = .ok (.aload_n 0, 1) := by decide +kernel
theorem dX8_asItIs_1 : decode cX8_asItIs 1 = .ok (.getfield 53, 3) := by decide +kernel
theorem dX8_asItIs_4 : decode cX8_asItIs 4 = .ok (.iconst 0, 1) := by decide +kernel
theorem dX8_asItIs_5 : decode cX8_asItIs 5 = .ok (.aload_n 0, 1) := by decide +kernel
theorem dX8_asItIs_6 : decode cX8_asItIs 6 = .ok (.getfield 26, 3) := by decide +kernel
theorem dX8_asItIs_9 : decode cX8_asItIs 9 = .ok (.bipush 99, 2) := by decide +kernel
theorem dX8_asItIs_11 : decode cX8_asItIs 11 = .ok (.invokestatic 159, 3) := by decide +kernel
theorem dX8_asItIs_14 : decode cX8_asItIs 14 = .ok (.return_, 1) := by decide +kernel
set_option maxRecDepth 20000 in
theorem ggX8_beside_X8_in : GoodIn wsX8_beside wsX8_in := goodIn_r _ [6] (by decide +kernel) (by decide +kernel)
set_option maxRecDepth 20000 in
theorem gX8_beside_X8_in : GoodIn wsX8_beside (va_wsS RX8 88 yX8_in wsX8_in) := goodIn_app (goodIn_of _ (by decide +kernel)) ggX8_beside_X8_in
theorem dX8_beside_0 : decode cX8_beside 0 = .ok (.iload_n 1, 1) := by decide +kernel
theorem dX8_beside_1 : decode cX8_beside 1 = .ok (.aload_n 0, 1) := by decide +kernel
theorem dX8_beside_2 : decode cX8_beside 2 = .ok (.getfield 13, 3) := by decide +kernel
theorem dX8_beside_5 : decode cX8_beside 5 = .ok (.idiv, 1) := by decide +kernel
theorem dX8_beside_6 : decode cX8_beside 6 = .ok (.iload_n 2, 1) := by decide +kernel
theorem dX8_beside_7 : decode cX8_beside 7 = .ok (.ifCond .ne 7, 3) := by decide +kernel
theorem dX8_beside_10 : decode cX8_beside 10 = .ok (.iconst (-1), 1) := by decide +kernel
theorem dX8_beside_11 : decode cX8_beside 11 = .ok (.goto 13, 3) := by decide +kernel
theorem dX8_beside_14 : decode cX8_beside 14 = .ok (.iload_n 2, 1) := by decide +kernel
theorem dX8_beside_15 : decode cX8_beside 15 = .ok (.iconst 1, 1) := by decide +kernel
theorem dX8_beside_16 : decode cX8_beside 16 = .ok (.if_icmp .ne 7, 3) := by decide +kernel
theorem dX8_beside_19 : decode cX8_beside 19 = .ok (.iconst 1, 1) := by decide +kernel
theorem dX8_beside_20 : decode cX8_beside 20 = .ok (.goto 4, 3) := by decide +kernel
theorem dX8_beside_23 : decode cX8_beside 23 = .ok (.iconst 0, 1) := by decide +kernel
theorem dX8_beside_24 : decode cX8_beside 24 = .ok (.iadd, 1) := by decide +kernel
theorem dX8_beside_25 : decode cX8_beside 25 = .ok (.istore_n 3, 1) := by decide +kernel
theorem dX8_beside_26 : decode cX8_beside 26 = .ok (.iload_n 1, 1) := by decide +kernel
theorem dX8_beside_27 : decode cX8_beside 27 = .ok (.aload_n 0, 1) := by decide +kernel
theorem dX8_beside_28 : decode cX8_beside 28 = .ok (.getfield 13, 3) := by decide +kernel
theorem dX8_beside_31 : decode cX8_beside 31 = .ok (.irem, 1) := by decide +kernel
theorem dX8_beside_32 : decode cX8_beside 32 = .ok (.iload_n 2, 1) := by decide +kernel
theorem dX8_beside_33 : decode cX8_beside 33 = .ok (.iconst 2, 1) := by decide +kernel
theorem dX8_beside_34 : decode cX8_beside 34 = .ok (.if_icmp .ne 7, 3) := by decide +kernel
theorem dX8_beside_37 : decode cX8_beside 37 = .ok (.iconst 1, 1) := by decide +kernel
theorem dX8_beside_38 : decode cX8_beside 38 = .ok (.goto 13, 3) := by decide +kernel
theorem dX8_beside_41 : decode cX8_beside 41 = .ok (.iload_n 2, 1) := by decide +kernel
theorem dX8_beside_42 : decode cX8_beside 42 = .ok (.iconst 3, 1) := by decide +kernel
theorem dX8_beside_43 : decode cX8_beside 43 = .ok (.if_icmp .ne 7, 3) := by decide +kernel
theorem dX8_beside_46 : decode cX8_beside 46 = .ok (.iconst (-1), 1) := by decide +kernel
theorem dX8_beside_47 : decode cX8_beside 47 = .ok (.goto 4, 3) := by decide +kernel
theorem dX8_beside_50 : decode cX8_beside 50 = .ok (.iconst 0, 1) := by decide +kernel
theorem dX8_beside_51 : decode cX8_beside 51 = .ok (.iadd, 1) := by decide +kernel
theorem dX8_beside_52 : decode cX8_beside 52 = .ok (.istore 4, 2) := by decide +kernel
theorem dX8_beside_54 : decode cX8_beside 54 = .ok (.iload_n 3, 1) := by decide +kernel
theorem dX8_beside_55 : decode cX8_beside 55 = .ok (.iconst 0, 1) := by decide +kernel
theorem dX8_beside_56 : decode cX8_beside 56 = .ok (.aload_n 0, 1) := by decide +kernel
theorem dX8_beside_57 : decode cX8_beside 57 = .ok (.getfield 7, 3) := by decide +kernel
theorem dX8_beside_60 : decode cX8_beside 60 = .ok (.iconst 1, 1) := by decide +kernel
theorem dX8_beside_61 : decode cX8_beside 61 = .ok (.isub, 1) := by decide +kernel
theorem dX8_beside_62 : decode cX8_beside 62 = .ok (.invokestatic 88, 3) := by decide +kernel
theorem dX8_beside_65 : decode cX8_beside 65 = .ok (.ifCond .eq 30, 3) := by decide +kernel
theorem dX8_beside_68 : decode cX8_beside 68 = .ok (.iload 4, 2) := by decide +kernel
theorem dX8_beside_70 : decode cX8_beside 70 = .ok (.iconst 0, 1) := by decide +kernel
theorem dX8_beside_71 : decode cX8_beside 71 = .ok (.aload_n 0, 1) := by decide +kernel
theorem dX8_beside_72 : decode cX8_beside 72 = .ok (.getfield 13, 3) := by decide +kernel
theorem dX8_beside_75 : decode cX8_beside 75 = .ok (.iconst 1, 1) := by decide +kernel
theorem dX8_beside_76 : decode cX8_beside 76 = .ok (.isub, 1) := by decide +kernel
theorem dX8_beside_77 : decode cX8_beside 77 = .ok (.invokestatic 88, 3) := by decide +kernel
theorem dX8_beside_80 : decode cX8_beside 80 = .ok (.ifCond .eq 15, 3) := by decide +kernel
theorem dX8_beside_83 : decode cX8_beside 83 = .ok (.iload_n 3, 1) := by decide +kernel
theorem dX8_beside_84 : decode cX8_beside 84 = .ok (.aload_n 0, 1) := by decide +kernel
theorem dX8_beside_85 : decode cX8_beside 85 = .ok (.getfield 13, 3) := by decide +kernel
theorem dX8_beside_88 : decode cX8_beside 88 = .ok (.imul, 1) := by decide +kernel
theorem dX8_beside_89 : decode cX8_beside 89 = .ok (.iload 4, 2) := by decide +kernel
theorem dX8_beside_91 : decode cX8_beside 91 = .ok (.iadd, 1) := by decide +kernel
theorem dX8_beside_92 : decode cX8_beside 92 = .ok (.goto 4, 3) := by decide +kernel
theorem dX8_beside_95 : decode cX8_beside 95 = .ok (.iconst (-1), 1) := by decide +kernel
theorem dX8_beside_96 : decode cX8_beside 96 = .ok (.ireturn, 1) := by decide +kernel
theorem dX8_thicker_0 : decode cX8_thicker 0 = .ok (.aload_n 0, 1) := by decide +kernel
theorem dX8_thicker_1 : decode cX8_thicker 1 = .ok (.getfield 53, 3) := by decide +kernel
theorem dX8_thicker_4 : decode cX8_thicker 4 = .ok (.iload_n 1, 1) := by decide +kernel
theorem dX8_thicker_5 : decode cX8_thicker 5 = .ok (.iaload, 1) := by decide +kernel
theorem dX8_thicker_6 : decode cX8_thicker 6 = .ok (.istore_n 3, 1) := by decide +kernel
theorem dX8_thicker_7 : decode cX8_thicker 7 = .ok (.aload_n 0, 1) := by decide +kernel
theorem dX8_thicker_8 : decode cX8_thicker 8 = .ok (.getfield 16, 3) := by decide +kernel
theorem dX8_thicker_11 : decode cX8_thicker 11 = .ok (.iload_n 1, 1) := by decide +kernel
theorem dX8_thicker_12 : decode cX8_thicker 12 = .ok (.iaload, 1) := by decide +kernel
theorem dX8_thicker_13 : decode cX8_thicker 13 = .ok (.lookupswitch 73 #[(1, 27), (2, 54)], 27) := by decide +kernel
theorem dX8_thicker_40 : decode cX8_thicker 40 = .ok (.iload_n 3, 1) := by decide +kernel
theorem dX8_thicker_41 : decode cX8_thicker 41 = .ok (.iload_n 2, 1) := by decide +kernel
theorem dX8_thicker_42 : decode cX8_thicker 42 = .ok (.ifCond .le 9, 3) := by decide +kernel
theorem dX8_thicker_45 : decode cX8_thicker 45 = .ok (.iload_n 2, 1) := by decide +kernel
theorem dX8_thicker_46 : decode cX8_thicker 46 = .ok (.iconst 1, 1) := by decide +kernel
theorem dX8_thicker_47 : decode cX8_thicker 47 = .ok (.isub, 1) := by decide +kernel
theorem dX8_thicker_48 : decode cX8_thicker 48 = .ok (.goto 14, 3) := by decide +kernel
theorem dX8_thicker_51 : decode cX8_thicker 51 = .ok (.iload_n 2, 1) := by decide +kernel
theorem dX8_thicker_52 : decode cX8_thicker 52 = .ok (.ifCond .ge 9, 3) := by decide +kernel
theorem dX8_thicker_55 : decode cX8_thicker 55 = .ok (.iload_n 2, 1) := by decide +kernel
theorem dX8_thicker_56 : decode cX8_thicker 56 = .ok (.iconst 1, 1) := by decide +kernel
theorem dX8_thicker_57 : decode cX8_thicker 57 = .ok (.isub, 1) := by decide +kernel
theorem dX8_thicker_58 : decode cX8_thicker 58 = .ok (.goto 4, 3) := by decide +kernel
theorem dX8_thicker_61 : decode cX8_thicker 61 = .ok (.iconst 0, 1) := by decide +kernel
theorem dX8_thicker_62 : decode cX8_thicker 62 = .ok (.iadd, 1) := by decide +kernel
theorem dX8_thicker_63 : decode cX8_thicker 63 = .ok (.istore_n 3, 1) := by decide +kernel
theorem dX8_thicker_64 : decode cX8_thicker 64 = .ok (.goto 26, 3) := by decide +kernel
theorem dX8_thicker_67 : decode cX8_thicker 67 = .ok (.iload_n 3, 1) := by decide +kernel
theorem dX8_thicker_68 : decode cX8_thicker 68 = .ok (.iload_n 2, 1) := by decide +kernel
theorem dX8_thicker_69 : decode cX8_thicker 69 = .ok (.ifCond .lt 9, 3) := by decide +kernel
theorem dX8_thicker_72 : decode cX8_thicker 72 = .ok (.iload_n 2, 1) := by decide +kernel
theorem dX8_thicker_73 : decode cX8_thicker 73 = .ok (.iconst 2, 1) := by decide +kernel
theorem dX8_thicker_74 : decode cX8_thicker 74 = .ok (.idiv, 1) := by decide +kernel
theorem dX8_thicker_75 : decode cX8_thicker 75 = .ok (.goto 6, 3) := by decide +kernel
theorem dX8_thicker_78 : decode cX8_thicker 78 = .ok (.iconst 2, 1) := by decide +kernel
theorem dX8_thicker_79 : decode cX8_thicker 79 = .ok (.iload_n 2, 1) := by decide +kernel
theorem dX8_thicker_80 : decode cX8_thicker 80 = .ok (.imul, 1) := by decide +kernel
theorem dX8_thicker_81 : decode cX8_thicker 81 = .ok (.iadd, 1) := by decide +kernel
theorem dX8_thicker_82 : decode cX8_thicker 82 = .ok (.istore_n 3, 1) := by decide +kernel
theorem dX8_thicker_83 : decode cX8_thicker 83 = .ok (.goto 7, 3) := by decide +kernel
theorem dX8_thicker_86 : decode cX8_thicker 86 = .ok (.iload_n 3, 1) := by decide +kernel
theorem dX8_thicker_87 : decode cX8_thicker 87 = .ok (.iload_n 2, 1) := by decide +kernel
theorem dX8_thicker_88 : decode cX8_thicker 88 = .ok (.iadd, 1) := by decide +kernel
theorem dX8_thicker_89 : decode cX8_thicker 89 = .ok (.istore_n 3, 1) := by decide +kernel
theorem dX8_thicker_90 : decode cX8_thicker 90 = .ok (.aload_n 0, 1) := by decide +kernel
theorem dX8_thicker_91 : decode cX8_thicker 91 = .ok (.getfield 16, 3) := by decide +kernel
theorem dX8_thicker_94 : decode cX8_thicker 94 = .ok (.iload_n 1, 1) := by decide +kernel
theorem dX8_thicker_95 : decode cX8_thicker 95 = .ok (.iaload, 1) := by decide +kernel
theorem dX8_thicker_96 : decode cX8_thicker 96 = .ok (.iconst 2, 1) := by decide +kernel
theorem dX8_thicker_97 : decode cX8_thicker 97 = .ok (.if_icmp .ne 8, 3) := by decide +kernel
theorem dX8_thicker_100 : decode cX8_thicker 100 = .ok (.bipush 9, 2) := by decide +kernel
theorem dX8_thicker_102 : decode cX8_thicker 102 = .ok (.goto 5, 3) := by decide +kernel
theorem dX8_thicker_105 : decode cX8_thicker 105 = .ok (.bipush 60, 2) := by decide +kernel
theorem dX8_thicker_107 : decode cX8_thicker 107 = .ok (.istore 4, 2) := by decide +kernel
theorem dX8_thicker_109 : decode cX8_thicker 109 = .ok (.iload_n 3, 1) := by decide +kernel
theorem dX8_thicker_110 : decode cX8_thicker 110 = .ok (.ifCond .ge 7, 3) := by decide +kernel
theorem dX8_thicker_113 : decode cX8_thicker 113 = .ok (.iconst 0, 1) := by decide +kernel
theorem dX8_thicker_114 : decode cX8_thicker 114 = .ok (.goto 15, 3) := by decide +kernel
theorem dX8_thicker_117 : decode cX8_thicker 117 = .ok (.iload_n 3, 1) := by decide +kernel
theorem dX8_thicker_118 : decode cX8_thicker 118 = .ok (.iload 4, 2) := by decide +kernel
theorem dX8_thicker_120 : decode cX8_thicker 120 = .ok (.if_icmp .le 8, 3) := by decide +kernel
theorem dX8_thicker_123 : decode cX8_thicker 123 = .ok (.iload 4, 2) := by decide +kernel
theorem dX8_thicker_125 : decode cX8_thicker 125 = .ok (.goto 4, 3) := by decide +kernel
theorem dX8_thicker_128 : decode cX8_thicker 128 = .ok (.iload_n 3, 1) := by decide +kernel
theorem dX8_thicker_129 : decode cX8_thicker 129 = .ok (.ireturn, 1) := by decide +kernel
set_option maxRecDepth 20000 in
theorem ggX8_heir_X8_beside : GoodIn wsX8_heir wsX8_beside := goodIn_r _ [9, 10, 11, 12, 13, 8, 14, 15, 16, 17, 18, 19, 20, 21, 22, 23, 24, 25, 26, 27, 28, 29, 30, 31, 32, 33, 34, 35, 36, 37, 38, 39, 40, 41, 42, 43, 44, 45] (by decide +kernel) (by decide +kernel)
set_option maxRecDepth 20000 in
theorem gX8_heir_X8_beside : GoodIn wsX8_heir (wsV RX8 172 RX8 yX8_beside wsX8_beside) := goodIn_app (goodIn_of _ (by decide +kernel)) ggX8_heir_X8_beside
theorem dX8_heir_0 : decode cX8_heir 0 = .ok (.aload_n 0, 1) := by decide +kernel
theorem dX8_heir_1 : decode cX8_heir 1 = .ok (.getfield 16, 3) := by decide +kernel
theorem dX8_heir_4 : decode cX8_heir 4 = .ok (.iload_n 1, 1) := by decide +kernel
theorem dX8_heir_5 : decode cX8_heir 5 = .ok (.iaload, 1) := by decide +kernel
theorem dX8_heir_6 : decode cX8_heir 6 = .ok (.iconst 2, 1) := by decide +kernel
theorem dX8_heir_7 : decode cX8_heir 7 = .ok (.if_icmp .ne 5, 3) := by decide +kernel
theorem dX8_heir_10 : decode cX8_heir 10 = .ok (.iconst (-1), 1) := by decide +kernel
theorem dX8_heir_11 : decode cX8_heir 11 = .ok (.ireturn, 1) := by decide +kernel
theorem dX8_heir_12 : decode cX8_heir 12 = .ok (.aload_n 0, 1) := by decide +kernel
theorem dX8_heir_13 : decode cX8_heir 13 = .ok (.getfield 153, 3) := by decide +kernel
theorem dX8_heir_16 : decode cX8_heir 16 = .ok (.ifCond .ne 10, 3) := by decide +kernel
theorem dX8_heir_19 : decode cX8_heir 19 = .ok (.aload_n 0, 1) := by decide +kernel
theorem dX8_heir_20 : decode cX8_heir 20 = .ok (.getfield 20, 3) := by decide +kernel
theorem dX8_heir_23 : decode cX8_heir 23 = .ok (.iload_n 1, 1) := by decide +kernel
theorem dX8_heir_24 : decode cX8_heir 24 = .ok (.iaload, 1) := by decide +kernel
theorem dX8_heir_25 : decode cX8_heir 25 = .ok (.ireturn, 1) := by decide +kernel
theorem dX8_heir_26 : decode cX8_heir 26 = .ok (.iconst (-1), 1) := by decide +kernel
theorem dX8_heir_27 : decode cX8_heir 27 = .ok (.istore_n 2, 1) := by decide +kernel
theorem dX8_heir_28 : decode cX8_heir 28 = .ok (.iconst 0, 1) := by decide +kernel
theorem dX8_heir_29 : decode cX8_heir 29 = .ok (.istore_n 3, 1) := by decide +kernel
theorem dX8_heir_30 : decode cX8_heir 30 = .ok (.iconst 0, 1) := by decide +kernel
theorem dX8_heir_31 : decode cX8_heir 31 = .ok (.istore 4, 2) := by decide +kernel
theorem dX8_heir_33 : decode cX8_heir 33 = .ok (.iload 4, 2) := by decide +kernel
theorem dX8_heir_35 : decode cX8_heir 35 = .ok (.iconst 4, 1) := by decide +kernel
theorem dX8_heir_36 : decode cX8_heir 36 = .ok (.if_icmp .ge 100, 3) := by decide +kernel
theorem dX8_heir_39 : decode cX8_heir 39 = .ok (.aload_n 0, 1) := by decide +kernel
theorem dX8_heir_40 : decode cX8_heir 40 = .ok (.getfield 153, 3) := by decide +kernel
theorem dX8_heir_43 : decode cX8_heir 43 = .ok (.iconst 1, 1) := by decide +kernel
theorem dX8_heir_44 : decode cX8_heir 44 = .ok (.if_icmp .ne 92, 3) := by decide +kernel
theorem dX8_heir_47 : decode cX8_heir 47 = .ok (.iconst 0, 1) := by decide +kernel
theorem dX8_heir_48 : decode cX8_heir 48 = .ok (.istore 5, 2) := by decide +kernel
theorem dX8_heir_50 : decode cX8_heir 50 = .ok (.iconst 0, 1) := by decide +kernel
theorem dX8_heir_51 : decode cX8_heir 51 = .ok (.istore 6, 2) := by decide +kernel
theorem dX8_heir_53 : decode cX8_heir 53 = .ok (.iload 6, 2) := by decide +kernel
theorem dX8_heir_55 : decode cX8_heir 55 = .ok (.iconst 4, 1) := by decide +kernel
theorem dX8_heir_56 : decode cX8_heir 56 = .ok (.if_icmp .ge 48, 3) := by decide +kernel
theorem dX8_heir_59 : decode cX8_heir 59 = .ok (.aload_n 0, 1) := by decide +kernel
theorem dX8_heir_60 : decode cX8_heir 60 = .ok (.iload_n 1, 1) := by decide +kernel
theorem dX8_heir_61 : decode cX8_heir 61 = .ok (.iload 6, 2) := by decide +kernel
theorem dX8_heir_63 : decode cX8_heir 63 = .ok (.invokevirtual 172, 3) := by decide +kernel
theorem dX8_heir_66 : decode cX8_heir 66 = .ok (.istore 7, 2) := by decide +kernel
theorem dX8_heir_68 : decode cX8_heir 68 = .ok (.iload 5, 2) := by decide +kernel
theorem dX8_heir_70 : decode cX8_heir 70 = .ok (.iload 7, 2) := by decide +kernel
theorem dX8_heir_72 : decode cX8_heir 72 = .ok (.ifCond .lt 22, 3) := by decide +kernel
theorem dX8_heir_75 : decode cX8_heir 75 = .ok (.aload_n 0, 1) := by decide +kernel
theorem dX8_heir_76 : decode cX8_heir 76 = .ok (.getfield 53, 3) := by decide +kernel
theorem dX8_heir_79 : decode cX8_heir 79 = .ok (.bipush 49, 2) := by decide +kernel
theorem dX8_heir_81 : decode cX8_heir 81 = .ok (.iload 7, 2) := by decide +kernel
theorem dX8_heir_83 : decode cX8_heir 83 = .ok (.iadd, 1) := by decide +kernel
theorem dX8_heir_84 : decode cX8_heir 84 = .ok (.iaload, 1) := by decide +kernel
theorem dX8_heir_85 : decode cX8_heir 85 = .ok (.iload 4, 2) := by decide +kernel
theorem dX8_heir_87 : decode cX8_heir 87 = .ok (.if_icmp .ne 7, 3) := by decide +kernel
theorem dX8_heir_90 : decode cX8_heir 90 = .ok (.iconst 1, 1) := by decide +kernel
theorem dX8_heir_91 : decode cX8_heir 91 = .ok (.goto 4, 3) := by decide +kernel
theorem dX8_heir_94 : decode cX8_heir 94 = .ok (.iconst 0, 1) := by decide +kernel
theorem dX8_heir_95 : decode cX8_heir 95 = .ok (.iadd, 1) := by decide +kernel
theorem dX8_heir_96 : decode cX8_heir 96 = .ok (.istore 5, 2) := by decide +kernel
theorem dX8_heir_98 : decode cX8_heir 98 = .ok (.iinc 6 1, 3) := by decide +kernel
theorem dX8_heir_101 : decode cX8_heir 101 = .ok (.goto (-48), 3) := by decide +kernel
theorem dX8_heir_104 : decode cX8_heir 104 = .ok (.iload 5, 2) := by decide +kernel
theorem dX8_heir_106 : decode cX8_heir 106 = .ok (.iload_n 3, 1) := by decide +kernel
theorem dX8_heir_107 : decode cX8_heir 107 = .ok (.if_icmp .le 8, 3) := by decide +kernel
theorem dX8_heir_110 : decode cX8_heir 110 = .ok (.iload 4, 2) := by decide +kernel
theorem dX8_heir_112 : decode cX8_heir 112 = .ok (.goto 4, 3) := by decide +kernel
theorem dX8_heir_115 : decode cX8_heir 115 = .ok (.iload_n 2, 1) := by decide +kernel
theorem dX8_heir_116 : decode cX8_heir 116 = .ok (.istore_n 2, 1) := by decide +kernel
theorem dX8_heir_117 : decode cX8_heir 117 = .ok (.iload 5, 2) := by decide +kernel
theorem dX8_heir_119 : decode cX8_heir 119 = .ok (.iload_n 3, 1) := by decide +kernel
theorem dX8_heir_120 : decode cX8_heir 120 = .ok (.if_icmp .le 8, 3) := by decide +kernel
theorem dX8_heir_123 : decode cX8_heir 123 = .ok (.iload 5, 2) := by decide +kernel
theorem dX8_heir_125 : decode cX8_heir 125 = .ok (.goto 4, 3) := by decide +kernel
theorem dX8_heir_128 : decode cX8_heir 128 = .ok (.iload_n 3, 1) := by decide +kernel
theorem dX8_heir_129 : decode cX8_heir 129 = .ok (.istore_n 3, 1) := by decide +kernel
theorem dX8_heir_130 : decode cX8_heir 130 = .ok (.iinc 4 1, 3) := by decide +kernel
theorem dX8_heir_133 : decode cX8_heir 133 = .ok (.goto (-100), 3) := by decide +kernel
theorem dX8_heir_136 : decode cX8_heir 136 = .ok (.iload_n 2, 1) := by decide +kernel
theorem dX8_heir_137 : decode cX8_heir 137 = .ok (.ireturn, 1) := by decide +kernel
set_option maxRecDepth 20000 in
theorem ggX8_goes_X8_cells : GoodIn wsX8_goes wsX8_cells := goodIn_r _ [7, 8, 9, 28, 29, 30, 31, 32, 33, 34, 35, 36, 37, 38, 39, 40, 41, 42, 43, 44, 45, 46, 47, 48, 49, 50, 51, 52, 53, 54, 55, 56, 57, 58] (by decide +kernel) (by decide +kernel)
set_option maxRecDepth 20000 in
theorem gX8_goes_X8_cells : GoodIn wsX8_goes (wsV RX8 84 RX8 yX8_cells wsX8_cells) := goodIn_app (goodIn_of _ (by decide +kernel)) ggX8_goes_X8_cells
set_option maxRecDepth 20000 in
theorem ggX8_goes_X8_thicker : GoodIn wsX8_goes wsX8_thicker := goodIn_r _ [13, 2, 14, 28, 29, 30, 31, 32, 33, 34, 35, 36, 37, 38, 39, 40, 41, 42, 43, 44, 45, 46, 47, 48, 49, 50, 51, 52, 53, 54, 55, 56, 57, 58] (by decide +kernel) (by decide +kernel)
set_option maxRecDepth 20000 in
theorem gX8_goes_X8_thicker : GoodIn wsX8_goes (wsV RX8 176 RX8 yX8_thicker wsX8_thicker) := goodIn_app (goodIn_of _ (by decide +kernel)) ggX8_goes_X8_thicker
set_option maxRecDepth 20000 in
theorem ggX8_goes_X8_heir : GoodIn wsX8_goes wsX8_heir := goodIn_r _ [18, 14, 19, 20, 2, 21, 22, 23, 6, 24, 9, 8, 25, 26, 27, 28, 29, 30, 31, 32, 33, 34, 35, 36, 37, 38, 39, 40, 41, 42, 43, 44, 45, 46, 47, 48, 49, 50, 51, 52, 53, 54, 55, 56, 57, 58] (by decide +kernel) (by decide +kernel)
set_option maxRecDepth 20000 in
theorem gX8_goes_X8_heir : GoodIn wsX8_goes (wsV RX8 179 RX8 yX8_heir wsX8_heir) := goodIn_app (goodIn_of _ (by decide +kernel)) ggX8_goes_X8_heir
theorem dX8_goes_0 : decode cX8_goes 0 = .ok (.iconst 0, 1) := by decide +kernel
theorem dX8_goes_1 : decode cX8_goes 1 = .ok (.istore_n 2, 1) := by decide +kernel
theorem dX8_goes_2 : decode cX8_goes 2 = .ok (.iload_n 2, 1) := by decide +kernel
theorem dX8_goes_3 : decode cX8_goes 3 = .ok (.aload_n 0, 1) := by decide +kernel
theorem dX8_goes_4 : decode cX8_goes 4 = .ok (.invokevirtual 84, 3) := by decide +kernel
theorem dX8_goes_7 : decode cX8_goes 7 = .ok (.if_icmp .ge 66, 3) := by decide +kernel
theorem dX8_goes_10 : decode cX8_goes 10 = .ok (.aload_n 0, 1) := by decide +kernel
theorem dX8_goes_11 : decode cX8_goes 11 = .ok (.iload_n 2, 1) := by decide +kernel
theorem dX8_goes_12 : decode cX8_goes 12 = .ok (.iload_n 1, 1) := by decide +kernel
theorem dX8_goes_13 : decode cX8_goes 13 = .ok (.invokevirtual 176, 3) := by decide +kernel
theorem dX8_goes_16 : decode cX8_goes 16 = .ok (.istore_n 3, 1) := by decide +kernel
theorem dX8_goes_17 : decode cX8_goes 17 = .ok (.aload_n 0, 1) := by decide +kernel
theorem dX8_goes_18 : decode cX8_goes 18 = .ok (.getfield 56, 3) := by decide +kernel
theorem dX8_goes_21 : decode cX8_goes 21 = .ok (.iload_n 2, 1) := by decide +kernel
theorem dX8_goes_22 : decode cX8_goes 22 = .ok (.iload_n 3, 1) := by decide +kernel
theorem dX8_goes_23 : decode cX8_goes 23 = .ok (.iastore, 1) := by decide +kernel
theorem dX8_goes_24 : decode cX8_goes 24 = .ok (.aload_n 0, 1) := by decide +kernel
theorem dX8_goes_25 : decode cX8_goes 25 = .ok (.getfield 56, 3) := by decide +kernel
theorem dX8_goes_28 : decode cX8_goes 28 = .ok (.bipush 49, 2) := by decide +kernel
theorem dX8_goes_30 : decode cX8_goes 30 = .ok (.iload_n 2, 1) := by decide +kernel
theorem dX8_goes_31 : decode cX8_goes 31 = .ok (.iadd, 1) := by decide +kernel
theorem dX8_goes_32 : decode cX8_goes 32 = .ok (.iload_n 3, 1) := by decide +kernel
theorem dX8_goes_33 : decode cX8_goes 33 = .ok (.ifCond .ne 7, 3) := by decide +kernel
theorem dX8_goes_36 : decode cX8_goes 36 = .ok (.iconst (-1), 1) := by decide +kernel
theorem dX8_goes_37 : decode cX8_goes 37 = .ok (.goto 29, 3) := by decide +kernel
theorem dX8_goes_40 : decode cX8_goes 40 = .ok (.aload_n 0, 1) := by decide +kernel
theorem dX8_goes_41 : decode cX8_goes 41 = .ok (.getfield 53, 3) := by decide +kernel
theorem dX8_goes_44 : decode cX8_goes 44 = .ok (.iload_n 2, 1) := by decide +kernel
theorem dX8_goes_45 : decode cX8_goes 45 = .ok (.iaload, 1) := by decide +kernel
theorem dX8_goes_46 : decode cX8_goes 46 = .ok (.ifCond .ne 11, 3) := by decide +kernel
theorem dX8_goes_49 : decode cX8_goes 49 = .ok (.aload_n 0, 1) := by decide +kernel
theorem dX8_goes_50 : decode cX8_goes 50 = .ok (.iload_n 2, 1) := by decide +kernel
theorem dX8_goes_51 : decode cX8_goes 51 = .ok (.invokevirtual 179, 3) := by decide +kernel
theorem dX8_goes_54 : decode cX8_goes 54 = .ok (.goto 12, 3) := by decide +kernel
theorem dX8_goes_57 : decode cX8_goes 57 = .ok (.aload_n 0, 1) := by decide +kernel
theorem dX8_goes_58 : decode cX8_goes 58 = .ok (.getfield 53, 3) := by decide +kernel
theorem dX8_goes_61 : decode cX8_goes 61 = .ok (.bipush 49, 2) := by decide +kernel
theorem dX8_goes_63 : decode cX8_goes 63 = .ok (.iload_n 2, 1) := by decide +kernel
theorem dX8_goes_64 : decode cX8_goes 64 = .ok (.iadd, 1) := by decide +kernel
theorem dX8_goes_65 : decode cX8_goes 65 = .ok (.iaload, 1) := by decide +kernel
theorem dX8_goes_66 : decode cX8_goes 66 = .ok (.iastore, 1) := by decide +kernel
theorem dX8_goes_67 : decode cX8_goes 67 = .ok (.iinc 2 1, 3) := by decide +kernel
theorem dX8_goes_70 : decode cX8_goes 70 = .ok (.goto (-68), 3) := by decide +kernel
theorem dX8_goes_73 : decode cX8_goes 73 = .ok (.iconst 0, 1) := by decide +kernel
theorem dX8_goes_74 : decode cX8_goes 74 = .ok (.istore_n 2, 1) := by decide +kernel
theorem dX8_goes_75 : decode cX8_goes 75 = .ok (.iload_n 2, 1) := by decide +kernel
theorem dX8_goes_76 : decode cX8_goes 76 = .ok (.aload_n 0, 1) := by decide +kernel
theorem dX8_goes_77 : decode cX8_goes 77 = .ok (.invokevirtual 84, 3) := by decide +kernel
theorem dX8_goes_80 : decode cX8_goes 80 = .ok (.if_icmp .ge 39, 3) := by decide +kernel
theorem dX8_goes_83 : decode cX8_goes 83 = .ok (.aload_n 0, 1) := by decide +kernel
theorem dX8_goes_84 : decode cX8_goes 84 = .ok (.getfield 53, 3) := by decide +kernel
theorem dX8_goes_87 : decode cX8_goes 87 = .ok (.iload_n 2, 1) := by decide +kernel
theorem dX8_goes_88 : decode cX8_goes 88 = .ok (.aload_n 0, 1) := by decide +kernel
theorem dX8_goes_89 : decode cX8_goes 89 = .ok (.getfield 56, 3) := by decide +kernel
theorem dX8_goes_92 : decode cX8_goes 92 = .ok (.iload_n 2, 1) := by decide +kernel
theorem dX8_goes_93 : decode cX8_goes 93 = .ok (.iaload, 1) := by decide +kernel
theorem dX8_goes_94 : decode cX8_goes 94 = .ok (.iastore, 1) := by decide +kernel
theorem dX8_goes_95 : decode cX8_goes 95 = .ok (.aload_n 0, 1) := by decide +kernel
theorem dX8_goes_96 : decode cX8_goes 96 = .ok (.getfield 53, 3) := by decide +kernel
theorem dX8_goes_99 : decode cX8_goes 99 = .ok (.bipush 49, 2) := by decide +kernel
theorem dX8_goes_101 : decode cX8_goes 101 = .ok (.iload_n 2, 1) := by decide +kernel
theorem dX8_goes_102 : decode cX8_goes 102 = .ok (.iadd, 1) := by decide +kernel
theorem dX8_goes_103 : decode cX8_goes 103 = .ok (.aload_n 0, 1) := by decide +kernel
theorem dX8_goes_104 : decode cX8_goes 104 = .ok (.getfield 56, 3) := by decide +kernel
theorem dX8_goes_107 : decode cX8_goes 107 = .ok (.bipush 49, 2) := by decide +kernel
theorem dX8_goes_109 : decode cX8_goes 109 = .ok (.iload_n 2, 1) := by decide +kernel
theorem dX8_goes_110 : decode cX8_goes 110 = .ok (.iadd, 1) := by decide +kernel
theorem dX8_goes_111 : decode cX8_goes 111 = .ok (.iaload, 1) := by decide +kernel
theorem dX8_goes_112 : decode cX8_goes 112 = .ok (.iastore, 1) := by decide +kernel
theorem dX8_goes_113 : decode cX8_goes 113 = .ok (.iinc 2 1, 3) := by decide +kernel
theorem dX8_goes_116 : decode cX8_goes 116 = .ok (.goto (-41), 3) := by decide +kernel
theorem dX8_goes_119 : decode cX8_goes 119 = .ok (.aload_n 0, 1) := by decide +kernel
theorem dX8_goes_120 : decode cX8_goes 120 = .ok (.getfield 53, 3) := by decide +kernel
theorem dX8_goes_123 : decode cX8_goes 123 = .ok (.bipush 98, 2) := by decide +kernel
theorem dX8_goes_125 : decode cX8_goes 125 = .ok (.dup2, 1) := by decide +kernel
theorem dX8_goes_126 : decode cX8_goes 126 = .ok (.iaload, 1) := by decide +kernel
theorem dX8_goes_127 : decode cX8_goes 127 = .ok (.iconst 1, 1) := by decide +kernel
theorem dX8_goes_128 : decode cX8_goes 128 = .ok (.iadd, 1) := by decide +kernel
theorem dX8_goes_129 : decode cX8_goes 129 = .ok (.iastore, 1) := by decide +kernel
theorem dX8_goes_130 : decode cX8_goes 130 = .ok (.return_, 1) := by decide +kernel
theorem dX8_coldOf_0 : decode cX8_coldOf 0 = .ok (.aload_n 0, 1) := by decide +kernel
theorem dX8_coldOf_1 : decode cX8_coldOf 1 = .ok (.getfield 156, 3) := by decide +kernel
theorem dX8_coldOf_4 : decode cX8_coldOf 4 = .ok (.ifCond .ne 7, 3) := by decide +kernel
theorem dX8_coldOf_7 : decode cX8_coldOf 7 = .ok (.iconst 0, 1) := by decide +kernel
theorem dX8_coldOf_8 : decode cX8_coldOf 8 = .ok (.goto 14, 3) := by decide +kernel
theorem dX8_coldOf_11 : decode cX8_coldOf 11 = .ok (.aload_n 0, 1) := by decide +kernel
theorem dX8_coldOf_12 : decode cX8_coldOf 12 = .ok (.getfield 23, 3) := by decide +kernel
theorem dX8_coldOf_15 : decode cX8_coldOf 15 = .ok (.iload_n 1, 1) := by decide +kernel
theorem dX8_coldOf_16 : decode cX8_coldOf 16 = .ok (.aload_n 0, 1) := by decide +kernel
theorem dX8_coldOf_17 : decode cX8_coldOf 17 = .ok (.getfield 156, 3) := by decide +kernel
theorem dX8_coldOf_20 : decode cX8_coldOf 20 = .ok (.irem, 1) := by decide +kernel
theorem dX8_coldOf_21 : decode cX8_coldOf 21 = .ok (.iaload, 1) := by decide +kernel
theorem dX8_coldOf_22 : decode cX8_coldOf 22 = .ok (.ireturn, 1) := by decide +kernel
set_option maxRecDepth 20000 in
theorem ggX8_goesOn_X8_coldOf : GoodIn wsX8_goesOn wsX8_coldOf := goodIn_r _ [6, 7, 8, 38, 39, 40, 41, 42, 43, 44, 45, 46, 47, 48, 49, 50, 51, 52, 53, 54, 55, 56, 57, 58, 59, 60, 61, 62, 63, 64, 65, 66, 67, 68] (by decide +kernel) (by decide +kernel)
set_option maxRecDepth 20000 in
theorem gX8_goesOn_X8_coldOf : GoodIn wsX8_goesOn (wsV RX8 182 RX8 yX8_coldOf wsX8_coldOf) := goodIn_app (goodIn_of _ (by decide +kernel)) ggX8_goesOn_X8_coldOf
set_option maxRecDepth 20000 in
theorem ggX8_goesOn_X8_goes : GoodIn wsX8_goesOn wsX8_goes := goodIn_r _ [12, 13, 1, 14, 15, 16, 5, 17, 18, 19, 20, 21, 22, 23, 24, 25, 26, 27, 28, 29, 30, 31, 32, 33, 34, 35, 36, 37, 38, 39, 40, 41, 42, 43, 44, 45, 46, 47, 48, 49, 50, 51, 52, 53, 54, 55, 56, 57, 58, 59, 60, 61, 62, 63, 64, 65, 66, 67, 68] (by decide +kernel) (by decide +kernel)
set_option maxRecDepth 20000 in
theorem gX8_goesOn_X8_goes : GoodIn wsX8_goesOn (wsV RX8 185 RX8 yX8_goes wsX8_goes) := goodIn_app (goodIn_of _ (by decide +kernel)) ggX8_goesOn_X8_goes
theorem dX8_goesOn_0 : decode cX8_goesOn 0 = .ok (.iconst 0, 1) := by decide +kernel
theorem dX8_goesOn_1 : decode cX8_goesOn 1 = .ok (.istore_n 2, 1) := by decide +kernel
theorem dX8_goesOn_2 : decode cX8_goesOn 2 = .ok (.iload_n 2, 1) := by decide +kernel
theorem dX8_goesOn_3 : decode cX8_goesOn 3 = .ok (.iload_n 1, 1) := by decide +kernel
theorem dX8_goesOn_4 : decode cX8_goesOn 4 = .ok (.if_icmp .ge 24, 3) := by decide +kernel
theorem dX8_goesOn_7 : decode cX8_goesOn 7 = .ok (.aload_n 0, 1) := by decide +kernel
theorem dX8_goesOn_8 : decode cX8_goesOn 8 = .ok (.aload_n 0, 1) := by decide +kernel
theorem dX8_goesOn_9 : decode cX8_goesOn 9 = .ok (.aload_n 0, 1) := by decide +kernel
theorem dX8_goesOn_10 : decode cX8_goesOn 10 = .ok (.getfield 53, 3) := by decide +kernel
theorem dX8_goesOn_13 : decode cX8_goesOn 13 = .ok (.bipush 98, 2) := by decide +kernel
theorem dX8_goesOn_15 : decode cX8_goesOn 15 = .ok (.iaload, 1) := by decide +kernel
theorem dX8_goesOn_16 : decode cX8_goesOn 16 = .ok (.invokevirtual 182, 3) := by decide +kernel
theorem dX8_goesOn_19 : decode cX8_goesOn 19 = .ok (.invokevirtual 185, 3) := by decide +kernel
theorem dX8_goesOn_22 : decode cX8_goesOn 22 = .ok (.iinc 2 1, 3) := by decide +kernel
theorem dX8_goesOn_25 : decode cX8_goesOn 25 = .ok (.goto (-23), 3) := by decide +kernel
theorem dX8_goesOn_28 : decode cX8_goesOn 28 = .ok (.return_, 1) := by decide +kernel
set_option maxRecDepth 20000 in
theorem ggX8_bears_X8_beside : GoodIn wsX8_bears wsX8_beside := goodIn_r _ [7, 8, 9, 10, 11, 6, 12, 13, 14, 15, 16, 17, 18, 19, 20, 21, 22, 23, 24, 25, 26, 27, 28, 29, 30, 31, 32, 33, 34, 35, 36, 37, 38, 39, 40, 41, 42, 43] (by decide +kernel) (by decide +kernel)
set_option maxRecDepth 20000 in
theorem gX8_bears_X8_beside : GoodIn wsX8_bears (wsV RX8 172 RX8 yX8_beside wsX8_beside) := goodIn_app (goodIn_of _ (by decide +kernel)) ggX8_bears_X8_beside
theorem dX8_bears_0 : decode cX8_bears 0 = .ok (.iconst 0, 1) := by decide +kernel
theorem dX8_bears_1 : decode cX8_bears 1 = .ok (.istore_n 2, 1) := by decide +kernel
theorem dX8_bears_2 : decode cX8_bears 2 = .ok (.iconst 0, 1) := by decide +kernel
theorem dX8_bears_3 : decode cX8_bears 3 = .ok (.istore_n 3, 1) := by decide +kernel
theorem dX8_bears_4 : decode cX8_bears 4 = .ok (.iload_n 3, 1) := by decide +kernel
theorem dX8_bears_5 : decode cX8_bears 5 = .ok (.iconst 4, 1) := by decide +kernel
theorem dX8_bears_6 : decode cX8_bears 6 = .ok (.if_icmp .ge 36, 3) := by decide +kernel
theorem dX8_bears_9 : decode cX8_bears 9 = .ok (.aload_n 0, 1) := by decide +kernel
theorem dX8_bears_10 : decode cX8_bears 10 = .ok (.iload_n 1, 1) := by decide +kernel
theorem dX8_bears_11 : decode cX8_bears 11 = .ok (.iload_n 3, 1) := by decide +kernel
theorem dX8_bears_12 : decode cX8_bears 12 = .ok (.invokevirtual 172, 3) := by decide +kernel
theorem dX8_bears_15 : decode cX8_bears 15 = .ok (.istore 4, 2) := by decide +kernel
theorem dX8_bears_17 : decode cX8_bears 17 = .ok (.iload_n 2, 1) := by decide +kernel
theorem dX8_bears_18 : decode cX8_bears 18 = .ok (.iload 4, 2) := by decide +kernel
theorem dX8_bears_20 : decode cX8_bears 20 = .ok (.ifCond .lt 13, 3) := by decide +kernel
theorem dX8_bears_23 : decode cX8_bears 23 = .ok (.aload_n 0, 1) := by decide +kernel
theorem dX8_bears_24 : decode cX8_bears 24 = .ok (.getfield 53, 3) := by decide +kernel
theorem dX8_bears_27 : decode cX8_bears 27 = .ok (.iload 4, 2) := by decide +kernel
theorem dX8_bears_29 : decode cX8_bears 29 = .ok (.iaload, 1) := by decide +kernel
theorem dX8_bears_30 : decode cX8_bears 30 = .ok (.goto 4, 3) := by decide +kernel
theorem dX8_bears_33 : decode cX8_bears 33 = .ok (.iconst 0, 1) := by decide +kernel
theorem dX8_bears_34 : decode cX8_bears 34 = .ok (.iadd, 1) := by decide +kernel
theorem dX8_bears_35 : decode cX8_bears 35 = .ok (.istore_n 2, 1) := by decide +kernel
theorem dX8_bears_36 : decode cX8_bears 36 = .ok (.iinc 3 1, 3) := by decide +kernel
theorem dX8_bears_39 : decode cX8_bears 39 = .ok (.goto (-35), 3) := by decide +kernel
theorem dX8_bears_42 : decode cX8_bears 42 = .ok (.aload_n 0, 1) := by decide +kernel
theorem dX8_bears_43 : decode cX8_bears 43 = .ok (.getfield 53, 3) := by decide +kernel
theorem dX8_bears_46 : decode cX8_bears 46 = .ok (.iload_n 1, 1) := by decide +kernel
theorem dX8_bears_47 : decode cX8_bears 47 = .ok (.iaload, 1) := by decide +kernel
theorem dX8_bears_48 : decode cX8_bears 48 = .ok (.iload_n 2, 1) := by decide +kernel
theorem dX8_bears_49 : decode cX8_bears 49 = .ok (.bipush 8, 2) := by decide +kernel
theorem dX8_bears_51 : decode cX8_bears 51 = .ok (.idiv, 1) := by decide +kernel
theorem dX8_bears_52 : decode cX8_bears 52 = .ok (.iadd, 1) := by decide +kernel
theorem dX8_bears_53 : decode cX8_bears 53 = .ok (.istore_n 3, 1) := by decide +kernel
theorem dX8_bears_54 : decode cX8_bears 54 = .ok (.aload_n 0, 1) := by decide +kernel
theorem dX8_bears_55 : decode cX8_bears 55 = .ok (.getfield 53, 3) := by decide +kernel
theorem dX8_bears_58 : decode cX8_bears 58 = .ok (.iload_n 1, 1) := by decide +kernel
theorem dX8_bears_59 : decode cX8_bears 59 = .ok (.iaload, 1) := by decide +kernel
theorem dX8_bears_60 : decode cX8_bears 60 = .ok (.ifCond .ne 7, 3) := by decide +kernel
theorem dX8_bears_63 : decode cX8_bears 63 = .ok (.iconst 0, 1) := by decide +kernel
theorem dX8_bears_64 : decode cX8_bears 64 = .ok (.goto 20, 3) := by decide +kernel
theorem dX8_bears_67 : decode cX8_bears 67 = .ok (.aload_n 0, 1) := by decide +kernel
theorem dX8_bears_68 : decode cX8_bears 68 = .ok (.getfield 16, 3) := by decide +kernel
theorem dX8_bears_71 : decode cX8_bears 71 = .ok (.iload_n 1, 1) := by decide +kernel
theorem dX8_bears_72 : decode cX8_bears 72 = .ok (.iaload, 1) := by decide +kernel
theorem dX8_bears_73 : decode cX8_bears 73 = .ok (.iconst 3, 1) := by decide +kernel
theorem dX8_bears_74 : decode cX8_bears 74 = .ok (.if_icmp .ne 9, 3) := by decide +kernel
theorem dX8_bears_77 : decode cX8_bears 77 = .ok (.iload_n 3, 1) := by decide +kernel
theorem dX8_bears_78 : decode cX8_bears 78 = .ok (.iconst 2, 1) := by decide +kernel
theorem dX8_bears_79 : decode cX8_bears 79 = .ok (.idiv, 1) := by decide +kernel
theorem dX8_bears_80 : decode cX8_bears 80 = .ok (.goto 4, 3) := by decide +kernel
theorem dX8_bears_83 : decode cX8_bears 83 = .ok (.iload_n 3, 1) := by decide +kernel
theorem dX8_bears_84 : decode cX8_bears 84 = .ok (.ireturn, 1) := by decide +kernel
set_option maxRecDepth 20000 in
theorem ggX8_cellsOf_X8_cells : GoodIn wsX8_cellsOf wsX8_cells := goodIn_r _ [6, 7, 8, 9, 10, 11, 12, 13, 14, 15, 16, 17, 18, 19, 20, 21, 22, 23, 24, 25, 26, 27, 28, 29, 30, 31, 32, 33, 34, 35, 36, 37, 38, 39] (by decide +kernel) (by decide +kernel)
set_option maxRecDepth 20000 in
theorem gX8_cellsOf_X8_cells : GoodIn wsX8_cellsOf (wsV RX8 84 RX8 yX8_cells wsX8_cells) := goodIn_app (goodIn_of _ (by decide +kernel)) ggX8_cellsOf_X8_cells
theorem dX8_cellsOf_0 : decode cX8_cellsOf 0 = .ok (.iconst 0, 1) := by decide +kernel
theorem dX8_cellsOf_1 : decode cX8_cellsOf 1 = .ok (.istore_n 2, 1) := by decide +kernel
theorem dX8_cellsOf_2 : decode cX8_cellsOf 2 = .ok (.iconst 0, 1) := by decide +kernel
theorem dX8_cellsOf_3 : decode cX8_cellsOf 3 = .ok (.istore_n 3, 1) := by decide +kernel
theorem dX8_cellsOf_4 : decode cX8_cellsOf 4 = .ok (.iload_n 3, 1) := by decide +kernel
theorem dX8_cellsOf_5 : decode cX8_cellsOf 5 = .ok (.aload_n 0, 1) := by decide +kernel
theorem dX8_cellsOf_6 : decode cX8_cellsOf 6 = .ok (.invokevirtual 84, 3) := by decide +kernel
theorem dX8_cellsOf_9 : decode cX8_cellsOf 9 = .ok (.if_icmp .ge 30, 3) := by decide +kernel
theorem dX8_cellsOf_12 : decode cX8_cellsOf 12 = .ok (.iload_n 2, 1) := by decide +kernel
theorem dX8_cellsOf_13 : decode cX8_cellsOf 13 = .ok (.aload_n 0, 1) := by decide +kernel
theorem dX8_cellsOf_14 : decode cX8_cellsOf 14 = .ok (.getfield 53, 3) := by decide +kernel
theorem dX8_cellsOf_17 : decode cX8_cellsOf 17 = .ok (.bipush 49, 2) := by decide +kernel
theorem dX8_cellsOf_19 : decode cX8_cellsOf 19 = .ok (.iload_n 3, 1) := by decide +kernel
theorem dX8_cellsOf_20 : decode cX8_cellsOf 20 = .ok (.iadd, 1) := by decide +kernel
theorem dX8_cellsOf_21 : decode cX8_cellsOf 21 = .ok (.iaload, 1) := by decide +kernel
theorem dX8_cellsOf_22 : decode cX8_cellsOf 22 = .ok (.iload_n 1, 1) := by decide +kernel
theorem dX8_cellsOf_23 : decode cX8_cellsOf 23 = .ok (.if_icmp .ne 7, 3) := by decide +kernel
theorem dX8_cellsOf_26 : decode cX8_cellsOf 26 = .ok (.iconst 1, 1) := by decide +kernel
theorem dX8_cellsOf_27 : decode cX8_cellsOf 27 = .ok (.goto 4, 3) := by decide +kernel
theorem dX8_cellsOf_30 : decode cX8_cellsOf 30 = .ok (.iconst 0, 1) := by decide +kernel
theorem dX8_cellsOf_31 : decode cX8_cellsOf 31 = .ok (.iadd, 1) := by decide +kernel
theorem dX8_cellsOf_32 : decode cX8_cellsOf 32 = .ok (.istore_n 2, 1) := by decide +kernel
theorem dX8_cellsOf_33 : decode cX8_cellsOf 33 = .ok (.iinc 3 1, 3) := by decide +kernel
theorem dX8_cellsOf_36 : decode cX8_cellsOf 36 = .ok (.goto (-32), 3) := by decide +kernel
theorem dX8_cellsOf_39 : decode cX8_cellsOf 39 = .ok (.iload_n 2, 1) := by decide +kernel
theorem dX8_cellsOf_40 : decode cX8_cellsOf 40 = .ok (.ireturn, 1) := by decide +kernel
set_option maxRecDepth 20000 in
theorem ggX8_findFloes_X8_cells : GoodIn wsX8_findFloes wsX8_cells := goodIn_r _ [7, 8, 9, 17, 18, 19, 20, 21, 22, 23, 24, 25, 26, 27, 28, 29, 30, 31, 32, 33, 34, 35, 36, 37, 38, 39, 40, 41, 42, 43, 44, 45, 46, 47] (by decide +kernel) (by decide +kernel)
set_option maxRecDepth 20000 in
theorem gX8_findFloes_X8_cells : GoodIn wsX8_findFloes (wsV RX8 84 RX8 yX8_cells wsX8_cells) := goodIn_app (goodIn_of _ (by decide +kernel)) ggX8_findFloes_X8_cells
set_option maxRecDepth 20000 in
theorem ggX8_findFloes_X8_beside : GoodIn wsX8_findFloes wsX8_beside := goodIn_r _ [13, 9, 8, 14, 15, 6, 16, 17, 18, 19, 20, 21, 22, 23, 24, 25, 26, 27, 28, 29, 30, 31, 32, 33, 34, 35, 36, 37, 38, 39, 40, 41, 42, 43, 44, 45, 46, 47] (by decide +kernel) (by decide +kernel)
set_option maxRecDepth 20000 in
theorem gX8_findFloes_X8_beside : GoodIn wsX8_findFloes (wsV RX8 172 RX8 yX8_beside wsX8_beside) := goodIn_app (goodIn_of _ (by decide +kernel)) ggX8_findFloes_X8_beside
theorem dX8_findFloes_0 : decode cX8_findFloes 0 = .ok (.iconst 0, 1) := by decide +kernel
theorem dX8_findFloes_1 : decode cX8_findFloes 1 = .ok (.istore_n 1, 1) := by decide +kernel
theorem dX8_findFloes_2 : decode cX8_findFloes 2 = .ok (.iload_n 1, 1) := by decide +kernel
theorem dX8_findFloes_3 : decode cX8_findFloes 3 = .ok (.aload_n 0, 1) := by decide +kernel
theorem dX8_findFloes_4 : decode cX8_findFloes 4 = .ok (.invokevirtual 84, 3) := by decide +kernel
theorem dX8_findFloes_7 : decode cX8_findFloes 7 = .ok (.if_icmp .ge 32, 3) := by decide +kernel
theorem dX8_findFloes_10 : decode cX8_findFloes 10 = .ok (.aload_n 0, 1) := by decide +kernel
theorem dX8_findFloes_11 : decode cX8_findFloes 11 = .ok (.getfield 59, 3) := by decide +kernel
theorem dX8_findFloes_14 : decode cX8_findFloes 14 = .ok (.iload_n 1, 1) := by decide +kernel
theorem dX8_findFloes_15 : decode cX8_findFloes 15 = .ok (.aload_n 0, 1) := by decide +kernel
theorem dX8_findFloes_16 : decode cX8_findFloes 16 = .ok (.getfield 53, 3) := by decide +kernel
theorem dX8_findFloes_19 : decode cX8_findFloes 19 = .ok (.bipush 49, 2) := by decide +kernel
theorem dX8_findFloes_21 : decode cX8_findFloes 21 = .ok (.iload_n 1, 1) := by decide +kernel
theorem dX8_findFloes_22 : decode cX8_findFloes 22 = .ok (.iadd, 1) := by decide +kernel
theorem dX8_findFloes_23 : decode cX8_findFloes 23 = .ok (.iaload, 1) := by decide +kernel
theorem dX8_findFloes_24 : decode cX8_findFloes 24 = .ok (.ifCond .ge 7, 3) := by decide +kernel
theorem dX8_findFloes_27 : decode cX8_findFloes 27 = .ok (.iconst (-1), 1) := by decide +kernel
theorem dX8_findFloes_28 : decode cX8_findFloes 28 = .ok (.goto 4, 3) := by decide +kernel
theorem dX8_findFloes_31 : decode cX8_findFloes 31 = .ok (.iload_n 1, 1) := by decide +kernel
theorem dX8_findFloes_32 : decode cX8_findFloes 32 = .ok (.iastore, 1) := by decide +kernel
theorem dX8_findFloes_33 : decode cX8_findFloes 33 = .ok (.iinc 1 1, 3) := by decide +kernel
theorem dX8_findFloes_36 : decode cX8_findFloes 36 = .ok (.goto (-34), 3) := by decide +kernel
theorem dX8_findFloes_39 : decode cX8_findFloes 39 = .ok (.iconst 1, 1) := by decide +kernel
theorem dX8_findFloes_40 : decode cX8_findFloes 40 = .ok (.istore_n 1, 1) := by decide +kernel
theorem dX8_findFloes_41 : decode cX8_findFloes 41 = .ok (.iload_n 1, 1) := by decide +kernel
theorem dX8_findFloes_42 : decode cX8_findFloes 42 = .ok (.ifCond .eq 146, 3) := by decide +kernel
theorem dX8_findFloes_45 : decode cX8_findFloes 45 = .ok (.iconst 0, 1) := by decide +kernel
theorem dX8_findFloes_46 : decode cX8_findFloes 46 = .ok (.istore_n 1, 1) := by decide +kernel
theorem dX8_findFloes_47 : decode cX8_findFloes 47 = .ok (.iconst 0, 1) := by decide +kernel
theorem dX8_findFloes_48 : decode cX8_findFloes 48 = .ok (.istore_n 2, 1) := by decide +kernel
theorem dX8_findFloes_49 : decode cX8_findFloes 49 = .ok (.iload_n 2, 1) := by decide +kernel
theorem dX8_findFloes_50 : decode cX8_findFloes 50 = .ok (.aload_n 0, 1) := by decide +kernel
theorem dX8_findFloes_51 : decode cX8_findFloes 51 = .ok (.invokevirtual 84, 3) := by decide +kernel
theorem dX8_findFloes_54 : decode cX8_findFloes 54 = .ok (.if_icmp .ge 131, 3) := by decide +kernel
theorem dX8_findFloes_57 : decode cX8_findFloes 57 = .ok (.iconst 0, 1) := by decide +kernel
theorem dX8_findFloes_58 : decode cX8_findFloes 58 = .ok (.istore_n 3, 1) := by decide +kernel
theorem dX8_findFloes_59 : decode cX8_findFloes 59 = .ok (.iload_n 3, 1) := by decide +kernel
theorem dX8_findFloes_60 : decode cX8_findFloes 60 = .ok (.iconst 4, 1) := by decide +kernel
theorem dX8_findFloes_61 : decode cX8_findFloes 61 = .ok (.if_icmp .ge 118, 3) := by decide +kernel
theorem dX8_findFloes_64 : decode cX8_findFloes 64 = .ok (.aload_n 0, 1) := by decide +kernel
theorem dX8_findFloes_65 : decode cX8_findFloes 65 = .ok (.iload_n 2, 1) := by decide +kernel
theorem dX8_findFloes_66 : decode cX8_findFloes 66 = .ok (.iload_n 3, 1) := by decide +kernel
theorem dX8_findFloes_67 : decode cX8_findFloes 67 = .ok (.invokevirtual 172, 3) := by decide +kernel
theorem dX8_findFloes_70 : decode cX8_findFloes 70 = .ok (.istore 4, 2) := by decide +kernel
theorem dX8_findFloes_72 : decode cX8_findFloes 72 = .ok (.aload_n 0, 1) := by decide +kernel
theorem dX8_findFloes_73 : decode cX8_findFloes 73 = .ok (.getfield 59, 3) := by decide +kernel
theorem dX8_findFloes_76 : decode cX8_findFloes 76 = .ok (.iload_n 2, 1) := by decide +kernel
theorem dX8_findFloes_77 : decode cX8_findFloes 77 = .ok (.iaload, 1) := by decide +kernel
theorem dX8_findFloes_78 : decode cX8_findFloes 78 = .ok (.ifCond .lt 50, 3) := by decide +kernel
theorem dX8_findFloes_81 : decode cX8_findFloes 81 = .ok (.iload 4, 2) := by decide +kernel
theorem dX8_findFloes_83 : decode cX8_findFloes 83 = .ok (.ifCond .lt 45, 3) := by decide +kernel
theorem dX8_findFloes_86 : decode cX8_findFloes 86 = .ok (.aload_n 0, 1) := by decide +kernel
theorem dX8_findFloes_87 : decode cX8_findFloes 87 = .ok (.getfield 53, 3) := by decide +kernel
theorem dX8_findFloes_90 : decode cX8_findFloes 90 = .ok (.bipush 49, 2) := by decide +kernel
theorem dX8_findFloes_92 : decode cX8_findFloes 92 = .ok (.iload 4, 2) := by decide +kernel
theorem dX8_findFloes_94 : decode cX8_findFloes 94 = .ok (.iadd, 1) := by decide +kernel
theorem dX8_findFloes_95 : decode cX8_findFloes 95 = .ok (.iaload, 1) := by decide +kernel
theorem dX8_findFloes_96 : decode cX8_findFloes 96 = .ok (.aload_n 0, 1) := by decide +kernel
theorem dX8_findFloes_97 : decode cX8_findFloes 97 = .ok (.getfield 53, 3) := by decide +kernel
theorem dX8_findFloes_100 : decode cX8_findFloes 100 = .ok (.bipush 49, 2) := by decide +kernel
theorem dX8_findFloes_102 : decode cX8_findFloes 102 = .ok (.iload_n 2, 1) := by decide +kernel
theorem dX8_findFloes_103 : decode cX8_findFloes 103 = .ok (.iadd, 1) := by decide +kernel
theorem dX8_findFloes_104 : decode cX8_findFloes 104 = .ok (.iaload, 1) := by decide +kernel
theorem dX8_findFloes_105 : decode cX8_findFloes 105 = .ok (.if_icmp .ne 23, 3) := by decide +kernel
theorem dX8_findFloes_108 : decode cX8_findFloes 108 = .ok (.aload_n 0, 1) := by decide +kernel
theorem dX8_findFloes_109 : decode cX8_findFloes 109 = .ok (.getfield 59, 3) := by decide +kernel
theorem dX8_findFloes_112 : decode cX8_findFloes 112 = .ok (.iload 4, 2) := by decide +kernel
theorem dX8_findFloes_114 : decode cX8_findFloes 114 = .ok (.iaload, 1) := by decide +kernel
theorem dX8_findFloes_115 : decode cX8_findFloes 115 = .ok (.aload_n 0, 1) := by decide +kernel
theorem dX8_findFloes_116 : decode cX8_findFloes 116 = .ok (.getfield 59, 3) := by decide +kernel
theorem dX8_findFloes_119 : decode cX8_findFloes 119 = .ok (.iload_n 2, 1) := by decide +kernel
theorem dX8_findFloes_120 : decode cX8_findFloes 120 = .ok (.iaload, 1) := by decide +kernel
theorem dX8_findFloes_121 : decode cX8_findFloes 121 = .ok (.if_icmp .ge 7, 3) := by decide +kernel
theorem dX8_findFloes_124 : decode cX8_findFloes 124 = .ok (.iconst 1, 1) := by decide +kernel
theorem dX8_findFloes_125 : decode cX8_findFloes 125 = .ok (.goto 4, 3) := by decide +kernel
theorem dX8_findFloes_128 : decode cX8_findFloes 128 = .ok (.iconst 0, 1) := by decide +kernel
theorem dX8_findFloes_129 : decode cX8_findFloes 129 = .ok (.istore 5, 2) := by decide +kernel
theorem dX8_findFloes_131 : decode cX8_findFloes 131 = .ok (.aload_n 0, 1) := by decide +kernel
theorem dX8_findFloes_132 : decode cX8_findFloes 132 = .ok (.getfield 59, 3) := by decide +kernel
theorem dX8_findFloes_135 : decode cX8_findFloes 135 = .ok (.iload_n 2, 1) := by decide +kernel
theorem dX8_findFloes_136 : decode cX8_findFloes 136 = .ok (.iload 5, 2) := by decide +kernel
theorem dX8_findFloes_138 : decode cX8_findFloes 138 = .ok (.ifCond .eq 13, 3) := by decide +kernel
theorem dX8_findFloes_141 : decode cX8_findFloes 141 = .ok (.aload_n 0, 1) := by decide +kernel
theorem dX8_findFloes_142 : decode cX8_findFloes 142 = .ok (.getfield 59, 3) := by decide +kernel
theorem dX8_findFloes_145 : decode cX8_findFloes 145 = .ok (.iload 4, 2) := by decide +kernel
theorem dX8_findFloes_147 : decode cX8_findFloes 147 = .ok (.iaload, 1) := by decide +kernel
theorem dX8_findFloes_148 : decode cX8_findFloes 148 = .ok (.goto 9, 3) := by decide +kernel
theorem dX8_findFloes_151 : decode cX8_findFloes 151 = .ok (.aload_n 0, 1) := by decide +kernel
theorem dX8_findFloes_152 : decode cX8_findFloes 152 = .ok (.getfield 59, 3) := by decide +kernel
theorem dX8_findFloes_155 : decode cX8_findFloes 155 = .ok (.iload_n 2, 1) := by decide +kernel
theorem dX8_findFloes_156 : decode cX8_findFloes 156 = .ok (.iaload, 1) := by decide +kernel
theorem dX8_findFloes_157 : decode cX8_findFloes 157 = .ok (.iastore, 1) := by decide +kernel
theorem dX8_findFloes_158 : decode cX8_findFloes 158 = .ok (.iload_n 1, 1) := by decide +kernel
theorem dX8_findFloes_159 : decode cX8_findFloes 159 = .ok (.ifCond .ne 8, 3) := by decide +kernel
theorem dX8_findFloes_162 : decode cX8_findFloes 162 = .ok (.iload 5, 2) := by decide +kernel
theorem dX8_findFloes_164 : decode cX8_findFloes 164 = .ok (.ifCond .eq 7, 3) := by decide +kernel
theorem dX8_findFloes_167 : decode cX8_findFloes 167 = .ok (.iconst 1, 1) := by decide +kernel
theorem dX8_findFloes_168 : decode cX8_findFloes 168 = .ok (.goto 4, 3) := by decide +kernel
theorem dX8_findFloes_171 : decode cX8_findFloes 171 = .ok (.iconst 0, 1) := by decide +kernel
theorem dX8_findFloes_172 : decode cX8_findFloes 172 = .ok (.istore_n 1, 1) := by decide +kernel
theorem dX8_findFloes_173 : decode cX8_findFloes 173 = .ok (.iinc 3 1, 3) := by decide +kernel
theorem dX8_findFloes_176 : decode cX8_findFloes 176 = .ok (.goto (-117), 3) := by decide +kernel
theorem dX8_findFloes_179 : decode cX8_findFloes 179 = .ok (.iinc 2 1, 3) := by decide +kernel
theorem dX8_findFloes_182 : decode cX8_findFloes 182 = .ok (.goto (-133), 3) := by decide +kernel
theorem dX8_findFloes_185 : decode cX8_findFloes 185 = .ok (.goto (-144), 3) := by decide +kernel
theorem dX8_findFloes_188 : decode cX8_findFloes 188 = .ok (.return_, 1) := by decide +kernel
set_option maxRecDepth 20000 in
theorem ggX8_floeSize_X8_cells : GoodIn wsX8_floeSize wsX8_cells := goodIn_r _ [6, 7, 8, 9, 10, 11, 12, 13, 14, 15, 16, 17, 18, 19, 20, 21, 22, 23, 24, 25, 26, 27, 28, 29, 30, 31, 32, 33, 34, 35, 36, 37, 38, 39] (by decide +kernel) (by decide +kernel)
set_option maxRecDepth 20000 in
theorem gX8_floeSize_X8_cells : GoodIn wsX8_floeSize (wsV RX8 84 RX8 yX8_cells wsX8_cells) := goodIn_app (goodIn_of _ (by decide +kernel)) ggX8_floeSize_X8_cells
theorem dX8_floeSize_0 : decode cX8_floeSize 0 = .ok (.iconst 0, 1) := by decide +kernel
theorem dX8_floeSize_1 : decode cX8_floeSize 1 = .ok (.istore_n 2, 1) := by decide +kernel
theorem dX8_floeSize_2 : decode cX8_floeSize 2 = .ok (.iconst 0, 1) := by decide +kernel
theorem dX8_floeSize_3 : decode cX8_floeSize 3 = .ok (.istore_n 3, 1) := by decide +kernel
theorem dX8_floeSize_4 : decode cX8_floeSize 4 = .ok (.iload_n 3, 1) := by decide +kernel
theorem dX8_floeSize_5 : decode cX8_floeSize 5 = .ok (.aload_n 0, 1) := by decide +kernel
theorem dX8_floeSize_6 : decode cX8_floeSize 6 = .ok (.invokevirtual 84, 3) := by decide +kernel
theorem dX8_floeSize_9 : decode cX8_floeSize 9 = .ok (.if_icmp .ge 31, 3) := by decide +kernel
theorem dX8_floeSize_12 : decode cX8_floeSize 12 = .ok (.iload_n 2, 1) := by decide +kernel
theorem dX8_floeSize_13 : decode cX8_floeSize 13 = .ok (.iload_n 1, 1) := by decide +kernel
theorem dX8_floeSize_14 : decode cX8_floeSize 14 = .ok (.ifCond .lt 17, 3) := by decide +kernel
theorem dX8_floeSize_17 : decode cX8_floeSize 17 = .ok (.aload_n 0, 1) := by decide +kernel
theorem dX8_floeSize_18 : decode cX8_floeSize 18 = .ok (.getfield 59, 3) := by decide +kernel
theorem dX8_floeSize_21 : decode cX8_floeSize 21 = .ok (.iload_n 3, 1) := by decide +kernel
theorem dX8_floeSize_22 : decode cX8_floeSize 22 = .ok (.iaload, 1) := by decide +kernel
theorem dX8_floeSize_23 : decode cX8_floeSize 23 = .ok (.iload_n 1, 1) := by decide +kernel
theorem dX8_floeSize_24 : decode cX8_floeSize 24 = .ok (.if_icmp .ne 7, 3) := by decide +kernel
theorem dX8_floeSize_27 : decode cX8_floeSize 27 = .ok (.iconst 1, 1) := by decide +kernel
theorem dX8_floeSize_28 : decode cX8_floeSize 28 = .ok (.goto 4, 3) := by decide +kernel
theorem dX8_floeSize_31 : decode cX8_floeSize 31 = .ok (.iconst 0, 1) := by decide +kernel
theorem dX8_floeSize_32 : decode cX8_floeSize 32 = .ok (.iadd, 1) := by decide +kernel
theorem dX8_floeSize_33 : decode cX8_floeSize 33 = .ok (.istore_n 2, 1) := by decide +kernel
theorem dX8_floeSize_34 : decode cX8_floeSize 34 = .ok (.iinc 3 1, 3) := by decide +kernel
theorem dX8_floeSize_37 : decode cX8_floeSize 37 = .ok (.goto (-33), 3) := by decide +kernel
theorem dX8_floeSize_40 : decode cX8_floeSize 40 = .ok (.iload_n 2, 1) := by decide +kernel
theorem dX8_floeSize_41 : decode cX8_floeSize 41 = .ok (.ireturn, 1) := by decide +kernel
set_option maxRecDepth 20000 in
theorem ggX8_largest_X8_cells : GoodIn wsX8_largest wsX8_cells := goodIn_r _ [7, 8, 9, 14, 15, 16, 17, 18, 19, 20, 21, 22, 23, 24, 25, 26, 27, 28, 29, 30, 31, 32, 33, 34, 35, 36, 37, 38, 39, 40, 41, 42, 43, 44] (by decide +kernel) (by decide +kernel)
set_option maxRecDepth 20000 in
theorem gX8_largest_X8_cells : GoodIn wsX8_largest (wsV RX8 84 RX8 yX8_cells wsX8_cells) := goodIn_app (goodIn_of _ (by decide +kernel)) ggX8_largest_X8_cells
set_option maxRecDepth 20000 in
theorem ggX8_largest_X8_floeSize : GoodIn wsX8_largest wsX8_floeSize := goodIn_r _ [13, 2, 3, 4, 5, 6, 7, 8, 9, 14, 15, 16, 17, 18, 19, 20, 21, 22, 23, 24, 25, 26, 27, 28, 29, 30, 31, 32, 33, 34, 35, 36, 37, 38, 39, 40, 41, 42, 43, 44] (by decide +kernel) (by decide +kernel)
set_option maxRecDepth 20000 in
theorem gX8_largest_X8_floeSize : GoodIn wsX8_largest (wsV RX8 189 RX8 yX8_floeSize wsX8_floeSize) := goodIn_app (goodIn_of _ (by decide +kernel)) ggX8_largest_X8_floeSize
theorem dX8_largest_0 : decode cX8_largest 0 = .ok (.iconst 0, 1) := by decide +kernel
theorem dX8_largest_1 : decode cX8_largest 1 = .ok (.istore_n 2, 1) := by decide +kernel
theorem dX8_largest_2 : decode cX8_largest 2 = .ok (.iconst 0, 1) := by decide +kernel
theorem dX8_largest_3 : decode cX8_largest 3 = .ok (.istore_n 3, 1) := by decide +kernel
theorem dX8_largest_4 : decode cX8_largest 4 = .ok (.iload_n 3, 1) := by decide +kernel
theorem dX8_largest_5 : decode cX8_largest 5 = .ok (.aload_n 0, 1) := by decide +kernel
theorem dX8_largest_6 : decode cX8_largest 6 = .ok (.invokevirtual 84, 3) := by decide +kernel
theorem dX8_largest_9 : decode cX8_largest 9 = .ok (.if_icmp .ge 56, 3) := by decide +kernel
theorem dX8_largest_12 : decode cX8_largest 12 = .ok (.aload_n 0, 1) := by decide +kernel
theorem dX8_largest_13 : decode cX8_largest 13 = .ok (.getfield 53, 3) := by decide +kernel
theorem dX8_largest_16 : decode cX8_largest 16 = .ok (.bipush 49, 2) := by decide +kernel
theorem dX8_largest_18 : decode cX8_largest 18 = .ok (.iload_n 3, 1) := by decide +kernel
theorem dX8_largest_19 : decode cX8_largest 19 = .ok (.iadd, 1) := by decide +kernel
theorem dX8_largest_20 : decode cX8_largest 20 = .ok (.iaload, 1) := by decide +kernel
theorem dX8_largest_21 : decode cX8_largest 21 = .ok (.iload_n 1, 1) := by decide +kernel
theorem dX8_largest_22 : decode cX8_largest 22 = .ok (.if_icmp .ne 21, 3) := by decide +kernel
theorem dX8_largest_25 : decode cX8_largest 25 = .ok (.aload_n 0, 1) := by decide +kernel
theorem dX8_largest_26 : decode cX8_largest 26 = .ok (.getfield 59, 3) := by decide +kernel
theorem dX8_largest_29 : decode cX8_largest 29 = .ok (.iload_n 3, 1) := by decide +kernel
theorem dX8_largest_30 : decode cX8_largest 30 = .ok (.iaload, 1) := by decide +kernel
theorem dX8_largest_31 : decode cX8_largest 31 = .ok (.iload_n 3, 1) := by decide +kernel
theorem dX8_largest_32 : decode cX8_largest 32 = .ok (.if_icmp .ne 11, 3) := by decide +kernel
theorem dX8_largest_35 : decode cX8_largest 35 = .ok (.aload_n 0, 1) := by decide +kernel
theorem dX8_largest_36 : decode cX8_largest 36 = .ok (.iload_n 3, 1) := by decide +kernel
theorem dX8_largest_37 : decode cX8_largest 37 = .ok (.invokevirtual 189, 3) := by decide +kernel
theorem dX8_largest_40 : decode cX8_largest 40 = .ok (.goto 4, 3) := by decide +kernel
theorem dX8_largest_43 : decode cX8_largest 43 = .ok (.iconst 0, 1) := by decide +kernel
theorem dX8_largest_44 : decode cX8_largest 44 = .ok (.istore 4, 2) := by decide +kernel
theorem dX8_largest_46 : decode cX8_largest 46 = .ok (.iload 4, 2) := by decide +kernel
theorem dX8_largest_48 : decode cX8_largest 48 = .ok (.iload_n 2, 1) := by decide +kernel
theorem dX8_largest_49 : decode cX8_largest 49 = .ok (.if_icmp .le 8, 3) := by decide +kernel
theorem dX8_largest_52 : decode cX8_largest 52 = .ok (.iload 4, 2) := by decide +kernel
theorem dX8_largest_54 : decode cX8_largest 54 = .ok (.goto 4, 3) := by decide +kernel
theorem dX8_largest_57 : decode cX8_largest 57 = .ok (.iload_n 2, 1) := by decide +kernel
theorem dX8_largest_58 : decode cX8_largest 58 = .ok (.istore_n 2, 1) := by decide +kernel
theorem dX8_largest_59 : decode cX8_largest 59 = .ok (.iinc 3 1, 3) := by decide +kernel
theorem dX8_largest_62 : decode cX8_largest 62 = .ok (.goto (-58), 3) := by decide +kernel
theorem dX8_largest_65 : decode cX8_largest 65 = .ok (.iload_n 2, 1) := by decide +kernel
theorem dX8_largest_66 : decode cX8_largest 66 = .ok (.ireturn, 1) := by decide +kernel
set_option maxRecDepth 20000 in
theorem ggX8_cell_X8_isCell : GoodIn wsX8_cell wsX8_isCell := goodIn_r _ [9, 10, 11, 12, 8, 13, 14, 15, 16, 17, 18, 43, 44, 45, 46, 47, 48, 49, 50, 51, 52, 53, 54, 55, 56, 57, 58, 59, 60, 61, 62, 63, 64, 65, 66, 67, 68, 69, 70, 71, 72, 73] (by decide +kernel) (by decide +kernel)
set_option maxRecDepth 20000 in
theorem gX8_cell_X8_isCell : GoodIn wsX8_cell (wsV RX8 192 RX8 yX8_isCell wsX8_isCell) := goodIn_app (goodIn_of _ (by decide +kernel)) ggX8_cell_X8_isCell
set_option maxRecDepth 20000 in
theorem ggX8_cell_X8_in : GoodIn wsX8_cell wsX8_in := goodIn_r _ [18] (by decide +kernel) (by decide +kernel)
set_option maxRecDepth 20000 in
theorem gX8_cell_X8_in : GoodIn wsX8_cell (va_wsS RX8 88 yX8_in wsX8_in) := goodIn_app (goodIn_of _ (by decide +kernel)) ggX8_cell_X8_in
set_option maxRecDepth 20000 in
theorem ggX8_cell_X8_asItIs : GoodIn wsX8_cell wsX8_asItIs := goodIn_r _ [22, 23, 2, 24, 25, 8, 26, 43, 44, 45, 46, 47, 48, 49, 50, 51, 52, 53, 54, 55, 56, 57, 58, 59, 60, 61, 62, 63, 64, 65, 66, 67, 68, 69, 70, 71, 72, 73] (by decide +kernel) (by decide +kernel)
set_option maxRecDepth 20000 in
theorem gX8_cell_X8_asItIs : GoodIn wsX8_cell (wsV RX8 195 RX8 yX8_asItIs wsX8_asItIs) := goodIn_app (goodIn_of _ (by decide +kernel)) ggX8_cell_X8_asItIs
set_option maxRecDepth 20000 in
theorem ggX8_cell_X8_bears : GoodIn wsX8_cell wsX8_bears := goodIn_r _ [30, 23, 1, 31, 32, 33, 8, 34, 15, 14, 16, 17, 18, 43, 44, 45, 46, 47, 48, 49, 50, 51, 52, 53, 54, 55, 56, 57, 58, 59, 60, 61, 62, 63, 64, 65, 66, 67, 68, 69, 70, 71, 72, 73] (by decide +kernel) (by decide +kernel)
set_option maxRecDepth 20000 in
theorem gX8_cell_X8_bears : GoodIn wsX8_cell (wsV RX8 198 RX8 yX8_bears wsX8_bears) := goodIn_app (goodIn_of _ (by decide +kernel)) ggX8_cell_X8_bears
set_option maxRecDepth 20000 in
theorem ggX8_cell_X8_findFloes : GoodIn wsX8_cell wsX8_findFloes := goodIn_r _ [38, 4, 23, 10, 11, 12, 8, 13, 14, 15, 31, 32, 33, 34, 16, 17, 18, 43, 44, 45, 46, 47, 48, 49, 50, 51, 52, 53, 54, 55, 56, 57, 58, 59, 60, 61, 62, 63, 64, 65, 66, 67, 68, 69, 70, 71, 72, 73] (by decide +kernel) (by decide +kernel)
set_option maxRecDepth 20000 in
theorem gX8_cell_X8_findFloes : GoodIn wsX8_cell (wsV RX8 201 RX8 yX8_findFloes wsX8_findFloes) := goodIn_app (goodIn_of _ (by decide +kernel)) ggX8_cell_X8_findFloes
set_option maxRecDepth 20000 in
theorem ggX8_cell_X8_floeSize : GoodIn wsX8_cell wsX8_floeSize := goodIn_r _ [42, 4, 10, 11, 12, 8, 13, 14, 15, 43, 44, 45, 46, 47, 48, 49, 50, 51, 52, 53, 54, 55, 56, 57, 58, 59, 60, 61, 62, 63, 64, 65, 66, 67, 68, 69, 70, 71, 72, 73] (by decide +kernel) (by decide +kernel)
set_option maxRecDepth 20000 in
theorem gX8_cell_X8_floeSize : GoodIn wsX8_cell (wsV RX8 189 RX8 yX8_floeSize wsX8_floeSize) := goodIn_app (goodIn_of _ (by decide +kernel)) ggX8_cell_X8_floeSize
theorem dX8_cell_0 : decode cX8_cell 0 = .ok (.aload_n 0, 1) := by decide +kernel
theorem dX8_cell_1 : decode cX8_cell 1 = .ok (.iload_n 1, 1) := by decide +kernel
theorem dX8_cell_2 : decode cX8_cell 2 = .ok (.invokevirtual 192, 3) := by decide +kernel
theorem dX8_cell_5 : decode cX8_cell 5 = .ok (.ifCond .eq 12, 3) := by decide +kernel
theorem dX8_cell_8 : decode cX8_cell 8 = .ok (.iload_n 2, 1) := by decide +kernel
theorem dX8_cell_9 : decode cX8_cell 9 = .ok (.iconst 0, 1) := by decide +kernel
theorem dX8_cell_10 : decode cX8_cell 10 = .ok (.iconst 5, 1) := by decide +kernel
theorem dX8_cell_11 : decode cX8_cell 11 = .ok (.invokestatic 88, 3) := by decide +kernel
theorem dX8_cell_14 : decode cX8_cell 14 = .ok (.ifCond .ne 5, 3) := by decide +kernel
theorem dX8_cell_17 : decode cX8_cell 17 = .ok (.iconst (-1), 1) := by decide +kernel
theorem dX8_cell_18 : decode cX8_cell 18 = .ok (.ireturn, 1) := by decide +kernel
theorem dX8_cell_19 : decode cX8_cell 19 = .ok (.aload_n 0, 1) := by decide +kernel
theorem dX8_cell_20 : decode cX8_cell 20 = .ok (.invokevirtual 195, 3) := by decide +kernel
theorem dX8_cell_23 : decode cX8_cell 23 = .ok (.iload_n 2, 1) := by decide +kernel
theorem dX8_cell_24 : decode cX8_cell 24 = .ok (.tableswitch 104 0 4 #[36, 43, 50, 77, 98], 36) := by decide +kernel
theorem dX8_cell_60 : decode cX8_cell 60 = .ok (.aload_n 0, 1) := by decide +kernel
theorem dX8_cell_61 : decode cX8_cell 61 = .ok (.getfield 16, 3) := by decide +kernel
theorem dX8_cell_64 : decode cX8_cell 64 = .ok (.iload_n 1, 1) := by decide +kernel
theorem dX8_cell_65 : decode cX8_cell 65 = .ok (.iaload, 1) := by decide +kernel
theorem dX8_cell_66 : decode cX8_cell 66 = .ok (.ireturn, 1) := by decide +kernel
theorem dX8_cell_67 : decode cX8_cell 67 = .ok (.aload_n 0, 1) := by decide +kernel
theorem dX8_cell_68 : decode cX8_cell 68 = .ok (.getfield 26, 3) := by decide +kernel
theorem dX8_cell_71 : decode cX8_cell 71 = .ok (.iload_n 1, 1) := by decide +kernel
theorem dX8_cell_72 : decode cX8_cell 72 = .ok (.iaload, 1) := by decide +kernel
theorem dX8_cell_73 : decode cX8_cell 73 = .ok (.ireturn, 1) := by decide +kernel
theorem dX8_cell_74 : decode cX8_cell 74 = .ok (.aload_n 0, 1) := by decide +kernel
theorem dX8_cell_75 : decode cX8_cell 75 = .ok (.getfield 26, 3) := by decide +kernel
theorem dX8_cell_78 : decode cX8_cell 78 = .ok (.bipush 49, 2) := by decide +kernel
theorem dX8_cell_80 : decode cX8_cell 80 = .ok (.iload_n 1, 1) := by decide +kernel
theorem dX8_cell_81 : decode cX8_cell 81 = .ok (.iadd, 1) := by decide +kernel
theorem dX8_cell_82 : decode cX8_cell 82 = .ok (.iaload, 1) := by decide +kernel
theorem dX8_cell_83 : decode cX8_cell 83 = .ok (.ifCond .ge 8, 3) := by decide +kernel
theorem dX8_cell_86 : decode cX8_cell 86 = .ok (.bipush (-4), 2) := by decide +kernel
theorem dX8_cell_88 : decode cX8_cell 88 = .ok (.goto 12, 3) := by decide +kernel
theorem dX8_cell_91 : decode cX8_cell 91 = .ok (.aload_n 0, 1) := by decide +kernel
theorem dX8_cell_92 : decode cX8_cell 92 = .ok (.getfield 26, 3) := by decide +kernel
theorem dX8_cell_95 : decode cX8_cell 95 = .ok (.bipush 49, 2) := by decide +kernel
theorem dX8_cell_97 : decode cX8_cell 97 = .ok (.iload_n 1, 1) := by decide +kernel
theorem dX8_cell_98 : decode cX8_cell 98 = .ok (.iadd, 1) := by decide +kernel
theorem dX8_cell_99 : decode cX8_cell 99 = .ok (.iaload, 1) := by decide +kernel
theorem dX8_cell_100 : decode cX8_cell 100 = .ok (.ireturn, 1) := by decide +kernel
theorem dX8_cell_101 : decode cX8_cell 101 = .ok (.aload_n 0, 1) := by decide +kernel
theorem dX8_cell_102 : decode cX8_cell 102 = .ok (.getfield 20, 3) := by decide +kernel
theorem dX8_cell_105 : decode cX8_cell 105 = .ok (.iload_n 1, 1) := by decide +kernel
theorem dX8_cell_106 : decode cX8_cell 106 = .ok (.iaload, 1) := by decide +kernel
theorem dX8_cell_107 : decode cX8_cell 107 = .ok (.ifCond .ge 8, 3) := by decide +kernel
theorem dX8_cell_110 : decode cX8_cell 110 = .ok (.bipush (-4), 2) := by decide +kernel
theorem dX8_cell_112 : decode cX8_cell 112 = .ok (.goto 9, 3) := by decide +kernel
theorem dX8_cell_115 : decode cX8_cell 115 = .ok (.aload_n 0, 1) := by decide +kernel
theorem dX8_cell_116 : decode cX8_cell 116 = .ok (.getfield 20, 3) := by decide +kernel
theorem dX8_cell_119 : decode cX8_cell 119 = .ok (.iload_n 1, 1) := by decide +kernel
theorem dX8_cell_120 : decode cX8_cell 120 = .ok (.iaload, 1) := by decide +kernel
theorem dX8_cell_121 : decode cX8_cell 121 = .ok (.ireturn, 1) := by decide +kernel
theorem dX8_cell_122 : decode cX8_cell 122 = .ok (.aload_n 0, 1) := by decide +kernel
theorem dX8_cell_123 : decode cX8_cell 123 = .ok (.iload_n 1, 1) := by decide +kernel
theorem dX8_cell_124 : decode cX8_cell 124 = .ok (.invokevirtual 198, 3) := by decide +kernel
theorem dX8_cell_127 : decode cX8_cell 127 = .ok (.ireturn, 1) := by decide +kernel
theorem dX8_cell_128 : decode cX8_cell 128 = .ok (.aload_n 0, 1) := by decide +kernel
theorem dX8_cell_129 : decode cX8_cell 129 = .ok (.invokevirtual 201, 3) := by decide +kernel
theorem dX8_cell_132 : decode cX8_cell 132 = .ok (.aload_n 0, 1) := by decide +kernel
theorem dX8_cell_133 : decode cX8_cell 133 = .ok (.aload_n 0, 1) := by decide +kernel
theorem dX8_cell_134 : decode cX8_cell 134 = .ok (.getfield 59, 3) := by decide +kernel
theorem dX8_cell_137 : decode cX8_cell 137 = .ok (.iload_n 1, 1) := by decide +kernel
theorem dX8_cell_138 : decode cX8_cell 138 = .ok (.iaload, 1) := by decide +kernel
theorem dX8_cell_139 : decode cX8_cell 139 = .ok (.invokevirtual 189, 3) := by decide +kernel
theorem dX8_cell_142 : decode cX8_cell 142 = .ok (.ireturn, 1) := by decide +kernel
set_option maxRecDepth 20000 in
theorem ggX8_family_X8_isFamily : GoodIn wsX8_family wsX8_isFamily := goodIn_r _ [6, 7, 8, 5, 9] (by decide +kernel) (by decide +kernel)
set_option maxRecDepth 20000 in
theorem gX8_family_X8_isFamily : GoodIn wsX8_family (va_wsS RX8 204 yX8_isFamily wsX8_isFamily) := goodIn_app (goodIn_of _ (by decide +kernel)) ggX8_family_X8_isFamily
set_option maxRecDepth 20000 in
theorem ggX8_family_X8_in : GoodIn wsX8_family wsX8_in := goodIn_r _ [9] (by decide +kernel) (by decide +kernel)
set_option maxRecDepth 20000 in
theorem gX8_family_X8_in : GoodIn wsX8_family (va_wsS RX8 88 yX8_in wsX8_in) := goodIn_app (goodIn_of _ (by decide +kernel)) ggX8_family_X8_in
set_option maxRecDepth 20000 in
theorem ggX8_family_X8_asItIs : GoodIn wsX8_family wsX8_asItIs := goodIn_r _ [13, 1, 14, 15, 16, 5, 17, 44, 45, 46, 47, 48, 49, 50, 51, 52, 53, 54, 55, 56, 57, 58, 59, 60, 61, 62, 63, 64, 65, 66, 67, 68, 69, 70, 71, 72, 73, 74] (by decide +kernel) (by decide +kernel)
set_option maxRecDepth 20000 in
theorem gX8_family_X8_asItIs : GoodIn wsX8_family (wsV RX8 195 RX8 yX8_asItIs wsX8_asItIs) := goodIn_app (goodIn_of _ (by decide +kernel)) ggX8_family_X8_asItIs
set_option maxRecDepth 20000 in
theorem ggX8_family_X8_findFloes : GoodIn wsX8_family wsX8_findFloes := goodIn_r _ [21, 2, 1, 22, 23, 24, 5, 25, 26, 27, 28, 29, 30, 31, 7, 8, 9, 44, 45, 46, 47, 48, 49, 50, 51, 52, 53, 54, 55, 56, 57, 58, 59, 60, 61, 62, 63, 64, 65, 66, 67, 68, 69, 70, 71, 72, 73, 74] (by decide +kernel) (by decide +kernel)
set_option maxRecDepth 20000 in
theorem gX8_family_X8_findFloes : GoodIn wsX8_family (wsV RX8 201 RX8 yX8_findFloes wsX8_findFloes) := goodIn_app (goodIn_of _ (by decide +kernel)) ggX8_family_X8_findFloes
set_option maxRecDepth 20000 in
theorem ggX8_family_X8_cells : GoodIn wsX8_family wsX8_cells := goodIn_r _ [25, 26, 27, 44, 45, 46, 47, 48, 49, 50, 51, 52, 53, 54, 55, 56, 57, 58, 59, 60, 61, 62, 63, 64, 65, 66, 67, 68, 69, 70, 71, 72, 73, 74] (by decide +kernel) (by decide +kernel)
set_option maxRecDepth 20000 in
theorem gX8_family_X8_cells : GoodIn wsX8_family (wsV RX8 84 RX8 yX8_cells wsX8_cells) := goodIn_app (goodIn_of _ (by decide +kernel)) ggX8_family_X8_cells
set_option maxRecDepth 20000 in
theorem ggX8_family_X8_cellsOf : GoodIn wsX8_family wsX8_cellsOf := goodIn_r _ [35, 1, 22, 23, 24, 5, 25, 26, 27, 44, 45, 46, 47, 48, 49, 50, 51, 52, 53, 54, 55, 56, 57, 58, 59, 60, 61, 62, 63, 64, 65, 66, 67, 68, 69, 70, 71, 72, 73, 74] (by decide +kernel) (by decide +kernel)
set_option maxRecDepth 20000 in
theorem gX8_family_X8_cellsOf : GoodIn wsX8_family (wsV RX8 207 RX8 yX8_cellsOf wsX8_cellsOf) := goodIn_app (goodIn_of _ (by decide +kernel)) ggX8_family_X8_cellsOf
set_option maxRecDepth 20000 in
theorem ggX8_family_X8_largest : GoodIn wsX8_family wsX8_largest := goodIn_r _ [39, 1, 2, 22, 23, 24, 5, 25, 26, 27, 40, 41, 42, 43, 44, 45, 46, 47, 48, 49, 50, 51, 52, 53, 54, 55, 56, 57, 58, 59, 60, 61, 62, 63, 64, 65, 66, 67, 68, 69, 70, 71, 72, 73, 74] (by decide +kernel) (by decide +kernel)
set_option maxRecDepth 20000 in
theorem gX8_family_X8_largest : GoodIn wsX8_family (wsV RX8 210 RX8 yX8_largest wsX8_largest) := goodIn_app (goodIn_of _ (by decide +kernel)) ggX8_family_X8_largest
theorem dX8_family_0 : decode cX8_family 0 = .ok (.iload_n 1, 1) := by decide +kernel
theorem dX8_family_1 : decode cX8_family 1 = .ok (.invokestatic 204, 3) := by decide +kernel
theorem dX8_family_4 : decode cX8_family 4 = .ok (.ifCond .eq 12, 3) := by decide +kernel
theorem dX8_family_7 : decode cX8_family 7 = .ok (.iload_n 2, 1) := by decide +kernel
theorem dX8_family_8 : decode cX8_family 8 = .ok (.iconst 0, 1) := by decide +kernel
theorem dX8_family_9 : decode cX8_family 9 = .ok (.iconst 2, 1) := by decide +kernel
theorem dX8_family_10 : decode cX8_family 10 = .ok (.invokestatic 88, 3) := by decide +kernel
theorem dX8_family_13 : decode cX8_family 13 = .ok (.ifCond .ne 5, 3) := by decide +kernel
theorem dX8_family_16 : decode cX8_family 16 = .ok (.iconst (-1), 1) := by decide +kernel
theorem dX8_family_17 : decode cX8_family 17 = .ok (.ireturn, 1) := by decide +kernel
theorem dX8_family_18 : decode cX8_family 18 = .ok (.aload_n 0, 1) := by decide +kernel
theorem dX8_family_19 : decode cX8_family 19 = .ok (.invokevirtual 195, 3) := by decide +kernel
theorem dX8_family_22 : decode cX8_family 22 = .ok (.aload_n 0, 1) := by decide +kernel
theorem dX8_family_23 : decode cX8_family 23 = .ok (.invokevirtual 201, 3) := by decide +kernel
theorem dX8_family_26 : decode cX8_family 26 = .ok (.iconst 0, 1) := by decide +kernel
theorem dX8_family_27 : decode cX8_family 27 = .ok (.istore_n 3, 1) := by decide +kernel
theorem dX8_family_28 : decode cX8_family 28 = .ok (.iconst 0, 1) := by decide +kernel
theorem dX8_family_29 : decode cX8_family 29 = .ok (.istore 4, 2) := by decide +kernel
theorem dX8_family_31 : decode cX8_family 31 = .ok (.iload 4, 2) := by decide +kernel
theorem dX8_family_33 : decode cX8_family 33 = .ok (.aload_n 0, 1) := by decide +kernel
theorem dX8_family_34 : decode cX8_family 34 = .ok (.invokevirtual 84, 3) := by decide +kernel
theorem dX8_family_37 : decode cX8_family 37 = .ok (.if_icmp .ge 43, 3) := by decide +kernel
theorem dX8_family_40 : decode cX8_family 40 = .ok (.iload_n 3, 1) := by decide +kernel
theorem dX8_family_41 : decode cX8_family 41 = .ok (.aload_n 0, 1) := by decide +kernel
theorem dX8_family_42 : decode cX8_family 42 = .ok (.getfield 53, 3) := by decide +kernel
theorem dX8_family_45 : decode cX8_family 45 = .ok (.bipush 49, 2) := by decide +kernel
theorem dX8_family_47 : decode cX8_family 47 = .ok (.iload 4, 2) := by decide +kernel
theorem dX8_family_49 : decode cX8_family 49 = .ok (.iadd, 1) := by decide +kernel
theorem dX8_family_50 : decode cX8_family 50 = .ok (.iaload, 1) := by decide +kernel
theorem dX8_family_51 : decode cX8_family 51 = .ok (.iload_n 1, 1) := by decide +kernel
theorem dX8_family_52 : decode cX8_family 52 = .ok (.if_icmp .ne 19, 3) := by decide +kernel
theorem dX8_family_55 : decode cX8_family 55 = .ok (.aload_n 0, 1) := by decide +kernel
theorem dX8_family_56 : decode cX8_family 56 = .ok (.getfield 59, 3) := by decide +kernel
theorem dX8_family_59 : decode cX8_family 59 = .ok (.iload 4, 2) := by decide +kernel
theorem dX8_family_61 : decode cX8_family 61 = .ok (.iaload, 1) := by decide +kernel
theorem dX8_family_62 : decode cX8_family 62 = .ok (.iload 4, 2) := by decide +kernel
theorem dX8_family_64 : decode cX8_family 64 = .ok (.if_icmp .ne 7, 3) := by decide +kernel
theorem dX8_family_67 : decode cX8_family 67 = .ok (.iconst 1, 1) := by decide +kernel
theorem dX8_family_68 : decode cX8_family 68 = .ok (.goto 4, 3) := by decide +kernel
theorem dX8_family_71 : decode cX8_family 71 = .ok (.iconst 0, 1) := by decide +kernel
theorem dX8_family_72 : decode cX8_family 72 = .ok (.iadd, 1) := by decide +kernel
theorem dX8_family_73 : decode cX8_family 73 = .ok (.istore_n 3, 1) := by decide +kernel
theorem dX8_family_74 : decode cX8_family 74 = .ok (.iinc 4 1, 3) := by decide +kernel
theorem dX8_family_77 : decode cX8_family 77 = .ok (.goto (-46), 3) := by decide +kernel
theorem dX8_family_80 : decode cX8_family 80 = .ok (.iload_n 2, 1) := by decide +kernel
theorem dX8_family_81 : decode cX8_family 81 = .ok (.ifCond .ne 11, 3) := by decide +kernel
theorem dX8_family_84 : decode cX8_family 84 = .ok (.aload_n 0, 1) := by decide +kernel
theorem dX8_family_85 : decode cX8_family 85 = .ok (.iload_n 1, 1) := by decide +kernel
theorem dX8_family_86 : decode cX8_family 86 = .ok (.invokevirtual 207, 3) := by decide +kernel
theorem dX8_family_89 : decode cX8_family 89 = .ok (.goto 17, 3) := by decide +kernel
theorem dX8_family_92 : decode cX8_family 92 = .ok (.iload_n 2, 1) := by decide +kernel
theorem dX8_family_93 : decode cX8_family 93 = .ok (.iconst 1, 1) := by decide +kernel
theorem dX8_family_94 : decode cX8_family 94 = .ok (.if_icmp .ne 7, 3) := by decide +kernel
theorem dX8_family_97 : decode cX8_family 97 = .ok (.iload_n 3, 1) := by decide +kernel
theorem dX8_family_98 : decode cX8_family 98 = .ok (.goto 8, 3) := by decide +kernel
theorem dX8_family_101 : decode cX8_family 101 = .ok (.aload_n 0, 1) := by decide +kernel
theorem dX8_family_102 : decode cX8_family 102 = .ok (.iload_n 1, 1) := by decide +kernel
theorem dX8_family_103 : decode cX8_family 103 = .ok (.invokevirtual 210, 3) := by decide +kernel
theorem dX8_family_106 : decode cX8_family 106 = .ok (.ireturn, 1) := by decide +kernel
set_option maxRecDepth 20000 in
theorem ggX8_cold_X8_in : GoodIn wsX8_cold wsX8_in := goodIn_r _ [4] (by decide +kernel) (by decide +kernel)
set_option maxRecDepth 20000 in
theorem gX8_cold_X8_in : GoodIn wsX8_cold (va_wsS RX8 88 yX8_in wsX8_in) := goodIn_app (goodIn_of _ (by decide +kernel)) ggX8_cold_X8_in
set_option maxRecDepth 20000 in
theorem ggX8_cold_X8_coldOf : GoodIn wsX8_cold wsX8_coldOf := goodIn_r _ [8, 9, 10, 11, 12, 13, 14, 15, 16, 17, 18, 19, 20, 21, 22, 23, 24, 25, 26, 27, 28, 29, 30, 31, 32, 33, 34, 35, 36, 37, 38, 39, 40, 41] (by decide +kernel) (by decide +kernel)
set_option maxRecDepth 20000 in
theorem gX8_cold_X8_coldOf : GoodIn wsX8_cold (wsV RX8 182 RX8 yX8_coldOf wsX8_coldOf) := goodIn_app (goodIn_of _ (by decide +kernel)) ggX8_cold_X8_coldOf
theorem dX8_cold_0 : decode cX8_cold 0 = .ok (.iload_n 1, 1) := by decide +kernel
theorem dX8_cold_1 : decode cX8_cold 1 = .ok (.iconst 0, 1) := by decide +kernel
theorem dX8_cold_2 : decode cX8_cold 2 = .ok (.sipush 199, 3) := by decide +kernel
theorem dX8_cold_5 : decode cX8_cold 5 = .ok (.invokestatic 88, 3) := by decide +kernel
theorem dX8_cold_8 : decode cX8_cold 8 = .ok (.ifCond .eq 14, 3) := by decide +kernel
theorem dX8_cold_11 : decode cX8_cold 11 = .ok (.aload_n 0, 1) := by decide +kernel
theorem dX8_cold_12 : decode cX8_cold 12 = .ok (.iload_n 1, 1) := by decide +kernel
theorem dX8_cold_13 : decode cX8_cold 13 = .ok (.invokevirtual 182, 3) := by decide +kernel
theorem dX8_cold_16 : decode cX8_cold 16 = .ok (.bipush 20, 2) := by decide +kernel
theorem dX8_cold_18 : decode cX8_cold 18 = .ok (.iadd, 1) := by decide +kernel
theorem dX8_cold_19 : decode cX8_cold 19 = .ok (.goto 4, 3) := by decide +kernel
theorem dX8_cold_22 : decode cX8_cold 22 = .ok (.iconst (-1), 1) := by decide +kernel
theorem dX8_cold_23 : decode cX8_cold 23 = .ok (.ireturn, 1) := by decide +kernel
set_option maxRecDepth 20000 in
theorem ggX8_remembers_X8_put : GoodIn wsX8_remembers wsX8_put := goodIn_r _ [7] (by decide +kernel) (by decide +kernel)
set_option maxRecDepth 20000 in
theorem gX8_remembers_X8_put : GoodIn wsX8_remembers (va_wsS RX8 159 yX8_put wsX8_put) := goodIn_app (goodIn_of _ (by decide +kernel)) ggX8_remembers_X8_put
theorem dX8_remembers_0 : decode cX8_remembers 0 = .ok (.aload_n 0, 1) := by decide +kernel
theorem dX8_remembers_1 : decode cX8_remembers 1 = .ok (.getfield 163, 3) := by decide +kernel
theorem dX8_remembers_4 : decode cX8_remembers 4 = .ok (.bipush 8, 2) := by decide +kernel
theorem dX8_remembers_6 : decode cX8_remembers 6 = .ok (.if_icmp .ne 43, 3) := by decide +kernel
theorem dX8_remembers_9 : decode cX8_remembers 9 = .ok (.iconst 0, 1) := by decide +kernel
theorem dX8_remembers_10 : decode cX8_remembers 10 = .ok (.istore_n 1, 1) := by decide +kernel
theorem dX8_remembers_11 : decode cX8_remembers 11 = .ok (.iload_n 1, 1) := by decide +kernel
theorem dX8_remembers_12 : decode cX8_remembers 12 = .ok (.sipush 693, 3) := by decide +kernel
theorem dX8_remembers_15 : decode cX8_remembers 15 = .ok (.if_icmp .ge 24, 3) := by decide +kernel
theorem dX8_remembers_18 : decode cX8_remembers 18 = .ok (.aload_n 0, 1) := by decide +kernel
theorem dX8_remembers_19 : decode cX8_remembers 19 = .ok (.getfield 29, 3) := by decide +kernel
theorem dX8_remembers_22 : decode cX8_remembers 22 = .ok (.iload_n 1, 1) := by decide +kernel
theorem dX8_remembers_23 : decode cX8_remembers 23 = .ok (.aload_n 0, 1) := by decide +kernel
theorem dX8_remembers_24 : decode cX8_remembers 24 = .ok (.getfield 29, 3) := by decide +kernel
theorem dX8_remembers_27 : decode cX8_remembers 27 = .ok (.iload_n 1, 1) := by decide +kernel
theorem dX8_remembers_28 : decode cX8_remembers 28 = .ok (.bipush 99, 2) := by decide +kernel
theorem dX8_remembers_30 : decode cX8_remembers 30 = .ok (.iadd, 1) := by decide +kernel
theorem dX8_remembers_31 : decode cX8_remembers 31 = .ok (.iaload, 1) := by decide +kernel
theorem dX8_remembers_32 : decode cX8_remembers 32 = .ok (.iastore, 1) := by decide +kernel
theorem dX8_remembers_33 : decode cX8_remembers 33 = .ok (.iinc 1 1, 3) := by decide +kernel
theorem dX8_remembers_36 : decode cX8_remembers 36 = .ok (.goto (-25), 3) := by decide +kernel
theorem dX8_remembers_39 : decode cX8_remembers 39 = .ok (.aload_n 0, 1) := by decide +kernel
theorem dX8_remembers_40 : decode cX8_remembers 40 = .ok (.dup, 1) := by decide +kernel
theorem dX8_remembers_41 : decode cX8_remembers 41 = .ok (.getfield 163, 3) := by decide +kernel
theorem dX8_remembers_44 : decode cX8_remembers 44 = .ok (.iconst 1, 1) := by decide +kernel
theorem dX8_remembers_45 : decode cX8_remembers 45 = .ok (.isub, 1) := by decide +kernel
theorem dX8_remembers_46 : decode cX8_remembers 46 = .ok (.putfield 163, 3) := by decide +kernel
theorem dX8_remembers_49 : decode cX8_remembers 49 = .ok (.aload_n 0, 1) := by decide +kernel
theorem dX8_remembers_50 : decode cX8_remembers 50 = .ok (.getfield 29, 3) := by decide +kernel
theorem dX8_remembers_53 : decode cX8_remembers 53 = .ok (.bipush 99, 2) := by decide +kernel
theorem dX8_remembers_55 : decode cX8_remembers 55 = .ok (.aload_n 0, 1) := by decide +kernel
theorem dX8_remembers_56 : decode cX8_remembers 56 = .ok (.getfield 163, 3) := by decide +kernel
theorem dX8_remembers_59 : decode cX8_remembers 59 = .ok (.imul, 1) := by decide +kernel
theorem dX8_remembers_60 : decode cX8_remembers 60 = .ok (.aload_n 0, 1) := by decide +kernel
theorem dX8_remembers_61 : decode cX8_remembers 61 = .ok (.getfield 26, 3) := by decide +kernel
theorem dX8_remembers_64 : decode cX8_remembers 64 = .ok (.bipush 99, 2) := by decide +kernel
theorem dX8_remembers_66 : decode cX8_remembers 66 = .ok (.invokestatic 159, 3) := by decide +kernel
theorem dX8_remembers_69 : decode cX8_remembers 69 = .ok (.aload_n 0, 1) := by decide +kernel
theorem dX8_remembers_70 : decode cX8_remembers 70 = .ok (.dup, 1) := by decide +kernel
theorem dX8_remembers_71 : decode cX8_remembers 71 = .ok (.getfield 163, 3) := by decide +kernel
theorem dX8_remembers_74 : decode cX8_remembers 74 = .ok (.iconst 1, 1) := by decide +kernel
theorem dX8_remembers_75 : decode cX8_remembers 75 = .ok (.iadd, 1) := by decide +kernel
theorem dX8_remembers_76 : decode cX8_remembers 76 = .ok (.putfield 163, 3) := by decide +kernel
theorem dX8_remembers_79 : decode cX8_remembers 79 = .ok (.return_, 1) := by decide +kernel
set_option maxRecDepth 20000 in
theorem ggX8_pass_X8_in : GoodIn wsX8_pass wsX8_in := goodIn_r _ [6] (by decide +kernel) (by decide +kernel)
set_option maxRecDepth 20000 in
theorem gX8_pass_X8_in : GoodIn wsX8_pass (va_wsS RX8 88 yX8_in wsX8_in) := goodIn_app (goodIn_of _ (by decide +kernel)) ggX8_pass_X8_in
set_option maxRecDepth 20000 in
theorem ggX8_pass_X8_remembers : GoodIn wsX8_pass wsX8_remembers := goodIn_r _ [10, 11, 12, 1, 13, 14, 5, 15, 56, 57, 58, 59, 60, 61, 62, 63, 64, 65, 66, 67, 68, 69, 70, 71, 72, 73, 74, 75, 76, 77, 78, 79, 80, 81, 82, 83, 84, 85, 86] (by decide +kernel) (by decide +kernel)
set_option maxRecDepth 20000 in
theorem gX8_pass_X8_remembers : GoodIn wsX8_pass (wsV RX8 213 RX8 yX8_remembers wsX8_remembers) := goodIn_app (goodIn_of _ (by decide +kernel)) ggX8_pass_X8_remembers
set_option maxRecDepth 20000 in
theorem ggX8_pass_X8_asItIs : GoodIn wsX8_pass wsX8_asItIs := goodIn_r _ [19, 2, 1, 13, 14, 5, 15, 56, 57, 58, 59, 60, 61, 62, 63, 64, 65, 66, 67, 68, 69, 70, 71, 72, 73, 74, 75, 76, 77, 78, 79, 80, 81, 82, 83, 84, 85, 86] (by decide +kernel) (by decide +kernel)
set_option maxRecDepth 20000 in
theorem gX8_pass_X8_asItIs : GoodIn wsX8_pass (wsV RX8 195 RX8 yX8_asItIs wsX8_asItIs) := goodIn_app (goodIn_of _ (by decide +kernel)) ggX8_pass_X8_asItIs
set_option maxRecDepth 20000 in
theorem ggX8_pass_X8_goesOn : GoodIn wsX8_pass wsX8_goesOn := goodIn_r _ [23, 2, 24, 25, 26, 5, 27, 28, 29, 30, 31, 32, 33, 34, 35, 36, 37, 38, 39, 40, 41, 42, 43, 44, 45, 46, 47, 48, 49, 50, 51, 52, 53, 54, 55, 3, 4, 6, 56, 57, 58, 59, 60, 61, 62, 63, 64, 65, 66, 67, 68, 69, 70, 71, 72, 73, 74, 75, 76, 77, 78, 79, 80, 81, 82, 83, 84, 85, 86] (by decide +kernel) (by decide +kernel)
set_option maxRecDepth 20000 in
theorem gX8_pass_X8_goesOn : GoodIn wsX8_pass (wsV RX8 216 RX8 yX8_goesOn wsX8_goesOn) := goodIn_app (goodIn_of _ (by decide +kernel)) ggX8_pass_X8_goesOn
set_option maxRecDepth 20000 in
theorem ggX8_pass_X8_put : GoodIn wsX8_pass wsX8_put := goodIn_r _ [15] (by decide +kernel) (by decide +kernel)
set_option maxRecDepth 20000 in
theorem gX8_pass_X8_put : GoodIn wsX8_pass (va_wsS RX8 159 yX8_put wsX8_put) := goodIn_app (goodIn_of _ (by decide +kernel)) ggX8_pass_X8_put
theorem dX8_pass_0 : decode cX8_pass 0 = .ok (.iload_n 1, 1) := by decide +kernel
theorem dX8_pass_1 : decode cX8_pass 1 = .ok (.iconst 1, 1) := by decide +kernel
theorem dX8_pass_2 : decode cX8_pass 2 = .ok (.bipush 30, 2) := by decide +kernel
theorem dX8_pass_4 : decode cX8_pass 4 = .ok (.invokestatic 88, 3) := by decide +kernel
theorem dX8_pass_7 : decode cX8_pass 7 = .ok (.ifCond .ne 5, 3) := by decide +kernel
theorem dX8_pass_10 : decode cX8_pass 10 = .ok (.iconst (-1), 1) := by decide +kernel
theorem dX8_pass_11 : decode cX8_pass 11 = .ok (.ireturn, 1) := by decide +kernel
theorem dX8_pass_12 : decode cX8_pass 12 = .ok (.aload_n 0, 1) := by decide +kernel
theorem dX8_pass_13 : decode cX8_pass 13 = .ok (.invokevirtual 213, 3) := by decide +kernel
theorem dX8_pass_16 : decode cX8_pass 16 = .ok (.aload_n 0, 1) := by decide +kernel
theorem dX8_pass_17 : decode cX8_pass 17 = .ok (.invokevirtual 195, 3) := by decide +kernel
theorem dX8_pass_20 : decode cX8_pass 20 = .ok (.aload_n 0, 1) := by decide +kernel
theorem dX8_pass_21 : decode cX8_pass 21 = .ok (.iload_n 1, 1) := by decide +kernel
theorem dX8_pass_22 : decode cX8_pass 22 = .ok (.invokevirtual 216, 3) := by decide +kernel
theorem dX8_pass_25 : decode cX8_pass 25 = .ok (.aload_n 0, 1) := by decide +kernel
theorem dX8_pass_26 : decode cX8_pass 26 = .ok (.getfield 26, 3) := by decide +kernel
theorem dX8_pass_29 : decode cX8_pass 29 = .ok (.iconst 0, 1) := by decide +kernel
theorem dX8_pass_30 : decode cX8_pass 30 = .ok (.aload_n 0, 1) := by decide +kernel
theorem dX8_pass_31 : decode cX8_pass 31 = .ok (.getfield 53, 3) := by decide +kernel
theorem dX8_pass_34 : decode cX8_pass 34 = .ok (.bipush 99, 2) := by decide +kernel
theorem dX8_pass_36 : decode cX8_pass 36 = .ok (.invokestatic 159, 3) := by decide +kernel
theorem dX8_pass_39 : decode cX8_pass 39 = .ok (.aload_n 0, 1) := by decide +kernel
theorem dX8_pass_40 : decode cX8_pass 40 = .ok (.getfield 26, 3) := by decide +kernel
theorem dX8_pass_43 : decode cX8_pass 43 = .ok (.bipush 98, 2) := by decide +kernel
theorem dX8_pass_45 : decode cX8_pass 45 = .ok (.iaload, 1) := by decide +kernel
theorem dX8_pass_46 : decode cX8_pass 46 = .ok (.ireturn, 1) := by decide +kernel
set_option maxRecDepth 20000 in
theorem ggX8_saw_X8_isCell : GoodIn wsX8_saw wsX8_isCell := goodIn_r _ [6, 7, 8, 9, 5, 10, 11, 12, 13, 14, 15, 25, 26, 27, 28, 29, 30, 31, 32, 33, 34, 35, 36, 37, 38, 39, 40, 41, 42, 43, 44, 45, 46, 47, 48, 49, 50, 51, 52, 53, 54, 55] (by decide +kernel) (by decide +kernel)
set_option maxRecDepth 20000 in
theorem gX8_saw_X8_isCell : GoodIn wsX8_saw (wsV RX8 192 RX8 yX8_isCell wsX8_isCell) := goodIn_app (goodIn_of _ (by decide +kernel)) ggX8_saw_X8_isCell
set_option maxRecDepth 20000 in
theorem ggX8_saw_X8_remembers : GoodIn wsX8_saw wsX8_remembers := goodIn_r _ [19, 20, 21, 1, 22, 23, 5, 24, 25, 26, 27, 28, 29, 30, 31, 32, 33, 34, 35, 36, 37, 38, 39, 40, 41, 42, 43, 44, 45, 46, 47, 48, 49, 50, 51, 52, 53, 54, 55] (by decide +kernel) (by decide +kernel)
set_option maxRecDepth 20000 in
theorem gX8_saw_X8_remembers : GoodIn wsX8_saw (wsV RX8 213 RX8 yX8_remembers wsX8_remembers) := goodIn_app (goodIn_of _ (by decide +kernel)) ggX8_saw_X8_remembers
theorem dX8_saw_0 : decode cX8_saw 0 = .ok (.aload_n 0, 1) := by decide +kernel
theorem dX8_saw_1 : decode cX8_saw 1 = .ok (.iload_n 1, 1) := by decide +kernel
theorem dX8_saw_2 : decode cX8_saw 2 = .ok (.invokevirtual 192, 3) := by decide +kernel
theorem dX8_saw_5 : decode cX8_saw 5 = .ok (.ifCond .ne 5, 3) := by decide +kernel
theorem dX8_saw_8 : decode cX8_saw 8 = .ok (.iconst (-1), 1) := by decide +kernel
theorem dX8_saw_9 : decode cX8_saw 9 = .ok (.ireturn, 1) := by decide +kernel
theorem dX8_saw_10 : decode cX8_saw 10 = .ok (.aload_n 0, 1) := by decide +kernel
theorem dX8_saw_11 : decode cX8_saw 11 = .ok (.getfield 26, 3) := by decide +kernel
theorem dX8_saw_14 : decode cX8_saw 14 = .ok (.iload_n 1, 1) := by decide +kernel
theorem dX8_saw_15 : decode cX8_saw 15 = .ok (.iaload, 1) := by decide +kernel
theorem dX8_saw_16 : decode cX8_saw 16 = .ok (.ifCond .ne 6, 3) := by decide +kernel
theorem dX8_saw_19 : decode cX8_saw 19 = .ok (.bipush (-2), 2) := by decide +kernel
theorem dX8_saw_21 : decode cX8_saw 21 = .ok (.ireturn, 1) := by decide +kernel
theorem dX8_saw_22 : decode cX8_saw 22 = .ok (.aload_n 0, 1) := by decide +kernel
theorem dX8_saw_23 : decode cX8_saw 23 = .ok (.invokevirtual 213, 3) := by decide +kernel
theorem dX8_saw_26 : decode cX8_saw 26 = .ok (.aload_n 0, 1) := by decide +kernel
theorem dX8_saw_27 : decode cX8_saw 27 = .ok (.getfield 26, 3) := by decide +kernel
theorem dX8_saw_30 : decode cX8_saw 30 = .ok (.iload_n 1, 1) := by decide +kernel
theorem dX8_saw_31 : decode cX8_saw 31 = .ok (.iaload, 1) := by decide +kernel
theorem dX8_saw_32 : decode cX8_saw 32 = .ok (.istore_n 2, 1) := by decide +kernel
theorem dX8_saw_33 : decode cX8_saw 33 = .ok (.aload_n 0, 1) := by decide +kernel
theorem dX8_saw_34 : decode cX8_saw 34 = .ok (.getfield 26, 3) := by decide +kernel
theorem dX8_saw_37 : decode cX8_saw 37 = .ok (.iload_n 1, 1) := by decide +kernel
theorem dX8_saw_38 : decode cX8_saw 38 = .ok (.iconst 0, 1) := by decide +kernel
theorem dX8_saw_39 : decode cX8_saw 39 = .ok (.iastore, 1) := by decide +kernel
theorem dX8_saw_40 : decode cX8_saw 40 = .ok (.aload_n 0, 1) := by decide +kernel
theorem dX8_saw_41 : decode cX8_saw 41 = .ok (.getfield 26, 3) := by decide +kernel
theorem dX8_saw_44 : decode cX8_saw 44 = .ok (.bipush 49, 2) := by decide +kernel
theorem dX8_saw_46 : decode cX8_saw 46 = .ok (.iload_n 1, 1) := by decide +kernel
theorem dX8_saw_47 : decode cX8_saw 47 = .ok (.iadd, 1) := by decide +kernel
theorem dX8_saw_48 : decode cX8_saw 48 = .ok (.iconst (-1), 1) := by decide +kernel
theorem dX8_saw_49 : decode cX8_saw 49 = .ok (.iastore, 1) := by decide +kernel
theorem dX8_saw_50 : decode cX8_saw 50 = .ok (.iload_n 2, 1) := by decide +kernel
theorem dX8_saw_51 : decode cX8_saw 51 = .ok (.ireturn, 1) := by decide +kernel
set_option maxRecDepth 20000 in
theorem ggX8_sell_X8_isCell : GoodIn wsX8_sell wsX8_isCell := goodIn_r _ [6, 7, 8, 9, 5, 10, 11, 12, 13, 14, 15, 28, 29, 30, 31, 32, 33, 34, 35, 36, 37, 38, 39, 40, 41, 42, 43, 44, 45, 46, 47, 48, 49, 50, 51, 52, 53, 54, 55, 56, 57, 58] (by decide +kernel) (by decide +kernel)
set_option maxRecDepth 20000 in
theorem gX8_sell_X8_isCell : GoodIn wsX8_sell (wsV RX8 192 RX8 yX8_isCell wsX8_isCell) := goodIn_app (goodIn_of _ (by decide +kernel)) ggX8_sell_X8_isCell
set_option maxRecDepth 20000 in
theorem ggX8_sell_X8_isFamily : GoodIn wsX8_sell wsX8_isFamily := goodIn_r _ [18, 13, 14, 5, 15] (by decide +kernel) (by decide +kernel)
set_option maxRecDepth 20000 in
theorem gX8_sell_X8_isFamily : GoodIn wsX8_sell (va_wsS RX8 204 yX8_isFamily wsX8_isFamily) := goodIn_app (goodIn_of _ (by decide +kernel)) ggX8_sell_X8_isFamily
set_option maxRecDepth 20000 in
theorem ggX8_sell_X8_remembers : GoodIn wsX8_sell wsX8_remembers := goodIn_r _ [22, 23, 24, 1, 25, 26, 5, 27, 28, 29, 30, 31, 32, 33, 34, 35, 36, 37, 38, 39, 40, 41, 42, 43, 44, 45, 46, 47, 48, 49, 50, 51, 52, 53, 54, 55, 56, 57, 58] (by decide +kernel) (by decide +kernel)
set_option maxRecDepth 20000 in
theorem gX8_sell_X8_remembers : GoodIn wsX8_sell (wsV RX8 213 RX8 yX8_remembers wsX8_remembers) := goodIn_app (goodIn_of _ (by decide +kernel)) ggX8_sell_X8_remembers
theorem dX8_sell_0 : decode cX8_sell 0 = .ok (.aload_n 0, 1) := by decide +kernel
theorem dX8_sell_1 : decode cX8_sell 1 = .ok (.iload_n 1, 1) := by decide +kernel
theorem dX8_sell_2 : decode cX8_sell 2 = .ok (.invokevirtual 192, 3) := by decide +kernel
theorem dX8_sell_5 : decode cX8_sell 5 = .ok (.ifCond .eq 10, 3) := by decide +kernel
theorem dX8_sell_8 : decode cX8_sell 8 = .ok (.iload_n 2, 1) := by decide +kernel
theorem dX8_sell_9 : decode cX8_sell 9 = .ok (.invokestatic 204, 3) := by decide +kernel
theorem dX8_sell_12 : decode cX8_sell 12 = .ok (.ifCond .ne 5, 3) := by decide +kernel
theorem dX8_sell_15 : decode cX8_sell 15 = .ok (.iconst (-1), 1) := by decide +kernel
theorem dX8_sell_16 : decode cX8_sell 16 = .ok (.ireturn, 1) := by decide +kernel
theorem dX8_sell_17 : decode cX8_sell 17 = .ok (.aload_n 0, 1) := by decide +kernel
theorem dX8_sell_18 : decode cX8_sell 18 = .ok (.getfield 26, 3) := by decide +kernel
theorem dX8_sell_21 : decode cX8_sell 21 = .ok (.bipush 49, 2) := by decide +kernel
theorem dX8_sell_23 : decode cX8_sell 23 = .ok (.iload_n 1, 1) := by decide +kernel
theorem dX8_sell_24 : decode cX8_sell 24 = .ok (.iadd, 1) := by decide +kernel
theorem dX8_sell_25 : decode cX8_sell 25 = .ok (.iaload, 1) := by decide +kernel
theorem dX8_sell_26 : decode cX8_sell 26 = .ok (.ifCond .lt 16, 3) := by decide +kernel
theorem dX8_sell_29 : decode cX8_sell 29 = .ok (.aload_n 0, 1) := by decide +kernel
theorem dX8_sell_30 : decode cX8_sell 30 = .ok (.getfield 26, 3) := by decide +kernel
theorem dX8_sell_33 : decode cX8_sell 33 = .ok (.bipush 49, 2) := by decide +kernel
theorem dX8_sell_35 : decode cX8_sell 35 = .ok (.iload_n 1, 1) := by decide +kernel
theorem dX8_sell_36 : decode cX8_sell 36 = .ok (.iadd, 1) := by decide +kernel
theorem dX8_sell_37 : decode cX8_sell 37 = .ok (.iaload, 1) := by decide +kernel
theorem dX8_sell_38 : decode cX8_sell 38 = .ok (.iload_n 2, 1) := by decide +kernel
theorem dX8_sell_39 : decode cX8_sell 39 = .ok (.if_icmp .ne 6, 3) := by decide +kernel
theorem dX8_sell_42 : decode cX8_sell 42 = .ok (.bipush (-2), 2) := by decide +kernel
theorem dX8_sell_44 : decode cX8_sell 44 = .ok (.ireturn, 1) := by decide +kernel
theorem dX8_sell_45 : decode cX8_sell 45 = .ok (.aload_n 0, 1) := by decide +kernel
theorem dX8_sell_46 : decode cX8_sell 46 = .ok (.invokevirtual 213, 3) := by decide +kernel
theorem dX8_sell_49 : decode cX8_sell 49 = .ok (.aload_n 0, 1) := by decide +kernel
theorem dX8_sell_50 : decode cX8_sell 50 = .ok (.getfield 26, 3) := by decide +kernel
theorem dX8_sell_53 : decode cX8_sell 53 = .ok (.bipush 49, 2) := by decide +kernel
theorem dX8_sell_55 : decode cX8_sell 55 = .ok (.iload_n 1, 1) := by decide +kernel
theorem dX8_sell_56 : decode cX8_sell 56 = .ok (.iadd, 1) := by decide +kernel
theorem dX8_sell_57 : decode cX8_sell 57 = .ok (.iaload, 1) := by decide +kernel
theorem dX8_sell_58 : decode cX8_sell 58 = .ok (.istore_n 3, 1) := by decide +kernel
theorem dX8_sell_59 : decode cX8_sell 59 = .ok (.aload_n 0, 1) := by decide +kernel
theorem dX8_sell_60 : decode cX8_sell 60 = .ok (.getfield 26, 3) := by decide +kernel
theorem dX8_sell_63 : decode cX8_sell 63 = .ok (.bipush 49, 2) := by decide +kernel
theorem dX8_sell_65 : decode cX8_sell 65 = .ok (.iload_n 1, 1) := by decide +kernel
theorem dX8_sell_66 : decode cX8_sell 66 = .ok (.iadd, 1) := by decide +kernel
theorem dX8_sell_67 : decode cX8_sell 67 = .ok (.iload_n 2, 1) := by decide +kernel
theorem dX8_sell_68 : decode cX8_sell 68 = .ok (.iastore, 1) := by decide +kernel
theorem dX8_sell_69 : decode cX8_sell 69 = .ok (.iload_n 3, 1) := by decide +kernel
theorem dX8_sell_70 : decode cX8_sell 70 = .ok (.ireturn, 1) := by decide +kernel
theorem dX8_undo_0 : decode cX8_undo 0 = .ok (.aload_n 0, 1) := by decide +kernel
theorem dX8_undo_1 : decode cX8_undo 1 = .ok (.getfield 163, 3) := by decide +kernel
theorem dX8_undo_4 : decode cX8_undo 4 = .ok (.ifCond .ne 6, 3) := by decide +kernel
theorem dX8_undo_7 : decode cX8_undo 7 = .ok (.bipush (-2), 2) := by decide +kernel
theorem dX8_undo_9 : decode cX8_undo 9 = .ok (.ireturn, 1) := by decide +kernel
theorem dX8_undo_10 : decode cX8_undo 10 = .ok (.aload_n 0, 1) := by decide +kernel
theorem dX8_undo_11 : decode cX8_undo 11 = .ok (.dup, 1) := by decide +kernel
theorem dX8_undo_12 : decode cX8_undo 12 = .ok (.getfield 163, 3) := by decide +kernel
theorem dX8_undo_15 : decode cX8_undo 15 = .ok (.iconst 1, 1) := by decide +kernel
theorem dX8_undo_16 : decode cX8_undo 16 = .ok (.isub, 1) := by decide +kernel
theorem dX8_undo_17 : decode cX8_undo 17 = .ok (.putfield 163, 3) := by decide +kernel
theorem dX8_undo_20 : decode cX8_undo 20 = .ok (.iconst 0, 1) := by decide +kernel
theorem dX8_undo_21 : decode cX8_undo 21 = .ok (.istore_n 1, 1) := by decide +kernel
theorem dX8_undo_22 : decode cX8_undo 22 = .ok (.iload_n 1, 1) := by decide +kernel
theorem dX8_undo_23 : decode cX8_undo 23 = .ok (.bipush 99, 2) := by decide +kernel
theorem dX8_undo_25 : decode cX8_undo 25 = .ok (.if_icmp .ge 29, 3) := by decide +kernel
theorem dX8_undo_28 : decode cX8_undo 28 = .ok (.aload_n 0, 1) := by decide +kernel
theorem dX8_undo_29 : decode cX8_undo 29 = .ok (.getfield 26, 3) := by decide +kernel
theorem dX8_undo_32 : decode cX8_undo 32 = .ok (.iload_n 1, 1) := by decide +kernel
theorem dX8_undo_33 : decode cX8_undo 33 = .ok (.aload_n 0, 1) := by decide +kernel
theorem dX8_undo_34 : decode cX8_undo 34 = .ok (.getfield 29, 3) := by decide +kernel
theorem dX8_undo_37 : decode cX8_undo 37 = .ok (.bipush 99, 2) := by decide +kernel
theorem dX8_undo_39 : decode cX8_undo 39 = .ok (.aload_n 0, 1) := by decide +kernel
theorem dX8_undo_40 : decode cX8_undo 40 = .ok (.getfield 163, 3) := by decide +kernel
theorem dX8_undo_43 : decode cX8_undo 43 = .ok (.imul, 1) := by decide +kernel
theorem dX8_undo_44 : decode cX8_undo 44 = .ok (.iload_n 1, 1) := by decide +kernel
theorem dX8_undo_45 : decode cX8_undo 45 = .ok (.iadd, 1) := by decide +kernel
theorem dX8_undo_46 : decode cX8_undo 46 = .ok (.iaload, 1) := by decide +kernel
theorem dX8_undo_47 : decode cX8_undo 47 = .ok (.iastore, 1) := by decide +kernel
theorem dX8_undo_48 : decode cX8_undo 48 = .ok (.iinc 1 1, 3) := by decide +kernel
theorem dX8_undo_51 : decode cX8_undo 51 = .ok (.goto (-29), 3) := by decide +kernel
theorem dX8_undo_54 : decode cX8_undo 54 = .ok (.aload_n 0, 1) := by decide +kernel
theorem dX8_undo_55 : decode cX8_undo 55 = .ok (.getfield 163, 3) := by decide +kernel
theorem dX8_undo_58 : decode cX8_undo 58 = .ok (.ireturn, 1) := by decide +kernel
set_option maxRecDepth 20000 in
theorem ggX8_behind_X8_in : GoodIn wsX8_behind wsX8_in := goodIn_r _ [5] (by decide +kernel) (by decide +kernel)
set_option maxRecDepth 20000 in
theorem gX8_behind_X8_in : GoodIn wsX8_behind (va_wsS RX8 88 yX8_in wsX8_in) := goodIn_app (goodIn_of _ (by decide +kernel)) ggX8_behind_X8_in
set_option maxRecDepth 20000 in
theorem ggX8_behind_X8_isCell : GoodIn wsX8_behind wsX8_isCell := goodIn_r _ [9, 10, 11, 12, 4, 13, 14, 15, 2, 3, 5, 54, 55, 56, 57, 58, 59, 60, 61, 62, 63, 64, 65, 66, 67, 68, 69, 70, 71, 72, 73, 74, 75, 76, 77, 78, 79, 80, 81, 82, 83, 84] (by decide +kernel) (by decide +kernel)
set_option maxRecDepth 20000 in
theorem gX8_behind_X8_isCell : GoodIn wsX8_behind (wsV RX8 192 RX8 yX8_isCell wsX8_isCell) := goodIn_app (goodIn_of _ (by decide +kernel)) ggX8_behind_X8_isCell
set_option maxRecDepth 20000 in
theorem ggX8_behind_X8_asItIs : GoodIn wsX8_behind wsX8_asItIs := goodIn_r _ [19, 1, 20, 21, 22, 4, 23, 54, 55, 56, 57, 58, 59, 60, 61, 62, 63, 64, 65, 66, 67, 68, 69, 70, 71, 72, 73, 74, 75, 76, 77, 78, 79, 80, 81, 82, 83, 84] (by decide +kernel) (by decide +kernel)
set_option maxRecDepth 20000 in
theorem gX8_behind_X8_asItIs : GoodIn wsX8_behind (wsV RX8 195 RX8 yX8_asItIs wsX8_asItIs) := goodIn_app (goodIn_of _ (by decide +kernel)) ggX8_behind_X8_asItIs
set_option maxRecDepth 20000 in
theorem ggX8_behind_X8_goesOn : GoodIn wsX8_behind wsX8_goesOn := goodIn_r _ [27, 1, 28, 29, 30, 4, 31, 32, 33, 34, 35, 36, 37, 38, 10, 11, 12, 13, 14, 15, 39, 40, 41, 42, 43, 44, 45, 46, 47, 48, 49, 50, 51, 52, 53, 2, 3, 5, 54, 55, 56, 57, 58, 59, 60, 61, 62, 63, 64, 65, 66, 67, 68, 69, 70, 71, 72, 73, 74, 75, 76, 77, 78, 79, 80, 81, 82, 83, 84] (by decide +kernel) (by decide +kernel)
set_option maxRecDepth 20000 in
theorem gX8_behind_X8_goesOn : GoodIn wsX8_behind (wsV RX8 216 RX8 yX8_goesOn wsX8_goesOn) := goodIn_app (goodIn_of _ (by decide +kernel)) ggX8_behind_X8_goesOn
theorem dX8_behind_0 : decode cX8_behind 0 = .ok (.iload_n 1, 1) := by decide +kernel
theorem dX8_behind_1 : decode cX8_behind 1 = .ok (.iconst 0, 1) := by decide +kernel
theorem dX8_behind_2 : decode cX8_behind 2 = .ok (.bipush 60, 2) := by decide +kernel
theorem dX8_behind_4 : decode cX8_behind 4 = .ok (.invokestatic 88, 3) := by decide +kernel
theorem dX8_behind_7 : decode cX8_behind 7 = .ok (.ifCond .eq 20, 3) := by decide +kernel
theorem dX8_behind_10 : decode cX8_behind 10 = .ok (.aload_n 0, 1) := by decide +kernel
theorem dX8_behind_11 : decode cX8_behind 11 = .ok (.iload_n 2, 1) := by decide +kernel
theorem dX8_behind_12 : decode cX8_behind 12 = .ok (.invokevirtual 192, 3) := by decide +kernel
theorem dX8_behind_15 : decode cX8_behind 15 = .ok (.ifCond .eq 12, 3) := by decide +kernel
theorem dX8_behind_18 : decode cX8_behind 18 = .ok (.iload_n 3, 1) := by decide +kernel
theorem dX8_behind_19 : decode cX8_behind 19 = .ok (.iconst 0, 1) := by decide +kernel
theorem dX8_behind_20 : decode cX8_behind 20 = .ok (.iconst 1, 1) := by decide +kernel
theorem dX8_behind_21 : decode cX8_behind 21 = .ok (.invokestatic 88, 3) := by decide +kernel
theorem dX8_behind_24 : decode cX8_behind 24 = .ok (.ifCond .ne 5, 3) := by decide +kernel
theorem dX8_behind_27 : decode cX8_behind 27 = .ok (.iconst (-1), 1) := by decide +kernel
theorem dX8_behind_28 : decode cX8_behind 28 = .ok (.ireturn, 1) := by decide +kernel
theorem dX8_behind_29 : decode cX8_behind 29 = .ok (.aload_n 0, 1) := by decide +kernel
theorem dX8_behind_30 : decode cX8_behind 30 = .ok (.invokevirtual 195, 3) := by decide +kernel
theorem dX8_behind_33 : decode cX8_behind 33 = .ok (.aload_n 0, 1) := by decide +kernel
theorem dX8_behind_34 : decode cX8_behind 34 = .ok (.iload_n 1, 1) := by decide +kernel
theorem dX8_behind_35 : decode cX8_behind 35 = .ok (.invokevirtual 216, 3) := by decide +kernel
theorem dX8_behind_38 : decode cX8_behind 38 = .ok (.iload_n 3, 1) := by decide +kernel
theorem dX8_behind_39 : decode cX8_behind 39 = .ok (.ifCond .ne 12, 3) := by decide +kernel
theorem dX8_behind_42 : decode cX8_behind 42 = .ok (.aload_n 0, 1) := by decide +kernel
theorem dX8_behind_43 : decode cX8_behind 43 = .ok (.getfield 53, 3) := by decide +kernel
theorem dX8_behind_46 : decode cX8_behind 46 = .ok (.iload_n 2, 1) := by decide +kernel
theorem dX8_behind_47 : decode cX8_behind 47 = .ok (.iaload, 1) := by decide +kernel
theorem dX8_behind_48 : decode cX8_behind 48 = .ok (.goto 29, 3) := by decide +kernel
theorem dX8_behind_51 : decode cX8_behind 51 = .ok (.aload_n 0, 1) := by decide +kernel
theorem dX8_behind_52 : decode cX8_behind 52 = .ok (.getfield 53, 3) := by decide +kernel
theorem dX8_behind_55 : decode cX8_behind 55 = .ok (.bipush 49, 2) := by decide +kernel
theorem dX8_behind_57 : decode cX8_behind 57 = .ok (.iload_n 2, 1) := by decide +kernel
theorem dX8_behind_58 : decode cX8_behind 58 = .ok (.iadd, 1) := by decide +kernel
theorem dX8_behind_59 : decode cX8_behind 59 = .ok (.iaload, 1) := by decide +kernel
theorem dX8_behind_60 : decode cX8_behind 60 = .ok (.ifCond .ge 8, 3) := by decide +kernel
theorem dX8_behind_63 : decode cX8_behind 63 = .ok (.bipush (-4), 2) := by decide +kernel
theorem dX8_behind_65 : decode cX8_behind 65 = .ok (.goto 12, 3) := by decide +kernel
theorem dX8_behind_68 : decode cX8_behind 68 = .ok (.aload_n 0, 1) := by decide +kernel
theorem dX8_behind_69 : decode cX8_behind 69 = .ok (.getfield 53, 3) := by decide +kernel
theorem dX8_behind_72 : decode cX8_behind 72 = .ok (.bipush 49, 2) := by decide +kernel
theorem dX8_behind_74 : decode cX8_behind 74 = .ok (.iload_n 2, 1) := by decide +kernel
theorem dX8_behind_75 : decode cX8_behind 75 = .ok (.iadd, 1) := by decide +kernel
theorem dX8_behind_76 : decode cX8_behind 76 = .ok (.iaload, 1) := by decide +kernel
theorem dX8_behind_77 : decode cX8_behind 77 = .ok (.ireturn, 1) := by decide +kernel
set_option maxRecDepth 20000 in
theorem ggX8_landless_X8_in : GoodIn wsX8_landless wsX8_in := goodIn_r _ [4] (by decide +kernel) (by decide +kernel)
set_option maxRecDepth 20000 in
theorem gX8_landless_X8_in : GoodIn wsX8_landless (va_wsS RX8 88 yX8_in wsX8_in) := goodIn_app (goodIn_of _ (by decide +kernel)) ggX8_landless_X8_in
set_option maxRecDepth 20000 in
theorem ggX8_landless_X8_asItIs : GoodIn wsX8_landless wsX8_asItIs := goodIn_r _ [8, 9, 10, 11, 12, 3, 13, 54, 55, 56, 57, 58, 59, 60, 61, 62, 63, 64, 65, 66, 67, 68, 69, 70, 71, 72, 73, 74, 75, 76, 77, 78, 79, 80, 81, 82, 83, 84] (by decide +kernel) (by decide +kernel)
set_option maxRecDepth 20000 in
theorem gX8_landless_X8_asItIs : GoodIn wsX8_landless (wsV RX8 195 RX8 yX8_asItIs wsX8_asItIs) := goodIn_app (goodIn_of _ (by decide +kernel)) ggX8_landless_X8_asItIs
set_option maxRecDepth 20000 in
theorem ggX8_landless_X8_cellsOf : GoodIn wsX8_landless wsX8_cellsOf := goodIn_r _ [17, 9, 18, 19, 20, 3, 21, 22, 23, 54, 55, 56, 57, 58, 59, 60, 61, 62, 63, 64, 65, 66, 67, 68, 69, 70, 71, 72, 73, 74, 75, 76, 77, 78, 79, 80, 81, 82, 83, 84] (by decide +kernel) (by decide +kernel)
set_option maxRecDepth 20000 in
theorem gX8_landless_X8_cellsOf : GoodIn wsX8_landless (wsV RX8 207 RX8 yX8_cellsOf wsX8_cellsOf) := goodIn_app (goodIn_of _ (by decide +kernel)) ggX8_landless_X8_cellsOf
set_option maxRecDepth 20000 in
theorem ggX8_landless_X8_goesOn : GoodIn wsX8_landless wsX8_goesOn := goodIn_r _ [27, 9, 28, 29, 30, 3, 31, 32, 33, 34, 35, 36, 37, 38, 18, 19, 20, 21, 22, 23, 39, 40, 41, 42, 43, 44, 45, 46, 47, 48, 49, 50, 51, 52, 53, 1, 2, 4, 54, 55, 56, 57, 58, 59, 60, 61, 62, 63, 64, 65, 66, 67, 68, 69, 70, 71, 72, 73, 74, 75, 76, 77, 78, 79, 80, 81, 82, 83, 84] (by decide +kernel) (by decide +kernel)
set_option maxRecDepth 20000 in
theorem gX8_landless_X8_goesOn : GoodIn wsX8_landless (wsV RX8 216 RX8 yX8_goesOn wsX8_goesOn) := goodIn_app (goodIn_of _ (by decide +kernel)) ggX8_landless_X8_goesOn
theorem dX8_landless_0 : decode cX8_landless 0 = .ok (.iload_n 1, 1) := by decide +kernel
theorem dX8_landless_1 : decode cX8_landless 1 = .ok (.iconst 0, 1) := by decide +kernel
theorem dX8_landless_2 : decode cX8_landless 2 = .ok (.iconst 1, 1) := by decide +kernel
theorem dX8_landless_3 : decode cX8_landless 3 = .ok (.invokestatic 88, 3) := by decide +kernel
theorem dX8_landless_6 : decode cX8_landless 6 = .ok (.ifCond .ne 5, 3) := by decide +kernel
theorem dX8_landless_9 : decode cX8_landless 9 = .ok (.iconst (-1), 1) := by decide +kernel
theorem dX8_landless_10 : decode cX8_landless 10 = .ok (.ireturn, 1) := by decide +kernel
theorem dX8_landless_11 : decode cX8_landless 11 = .ok (.aload_n 0, 1) := by decide +kernel
theorem dX8_landless_12 : decode cX8_landless 12 = .ok (.invokevirtual 195, 3) := by decide +kernel
theorem dX8_landless_15 : decode cX8_landless 15 = .ok (.iconst 0, 1) := by decide +kernel
theorem dX8_landless_16 : decode cX8_landless 16 = .ok (.istore_n 2, 1) := by decide +kernel
theorem dX8_landless_17 : decode cX8_landless 17 = .ok (.iconst 0, 1) := by decide +kernel
theorem dX8_landless_18 : decode cX8_landless 18 = .ok (.istore_n 3, 1) := by decide +kernel
theorem dX8_landless_19 : decode cX8_landless 19 = .ok (.iload_n 3, 1) := by decide +kernel
theorem dX8_landless_20 : decode cX8_landless 20 = .ok (.iconst 4, 1) := by decide +kernel
theorem dX8_landless_21 : decode cX8_landless 21 = .ok (.if_icmp .ge 27, 3) := by decide +kernel
theorem dX8_landless_24 : decode cX8_landless 24 = .ok (.iload_n 2, 1) := by decide +kernel
theorem dX8_landless_25 : decode cX8_landless 25 = .ok (.aload_n 0, 1) := by decide +kernel
theorem dX8_landless_26 : decode cX8_landless 26 = .ok (.iload_n 3, 1) := by decide +kernel
theorem dX8_landless_27 : decode cX8_landless 27 = .ok (.invokevirtual 207, 3) := by decide +kernel
theorem dX8_landless_30 : decode cX8_landless 30 = .ok (.ifCond .le 9, 3) := by decide +kernel
theorem dX8_landless_33 : decode cX8_landless 33 = .ok (.iconst 1, 1) := by decide +kernel
theorem dX8_landless_34 : decode cX8_landless 34 = .ok (.iload_n 3, 1) := by decide +kernel
theorem dX8_landless_35 : decode cX8_landless 35 = .ok (.ishl, 1) := by decide +kernel
theorem dX8_landless_36 : decode cX8_landless 36 = .ok (.goto 4, 3) := by decide +kernel
theorem dX8_landless_39 : decode cX8_landless 39 = .ok (.iconst 0, 1) := by decide +kernel
theorem dX8_landless_40 : decode cX8_landless 40 = .ok (.ior, 1) := by decide +kernel
theorem dX8_landless_41 : decode cX8_landless 41 = .ok (.istore_n 2, 1) := by decide +kernel
theorem dX8_landless_42 : decode cX8_landless 42 = .ok (.iinc 3 1, 3) := by decide +kernel
theorem dX8_landless_45 : decode cX8_landless 45 = .ok (.goto (-26), 3) := by decide +kernel
theorem dX8_landless_48 : decode cX8_landless 48 = .ok (.iconst 1, 1) := by decide +kernel
theorem dX8_landless_49 : decode cX8_landless 49 = .ok (.istore_n 3, 1) := by decide +kernel
theorem dX8_landless_50 : decode cX8_landless 50 = .ok (.iload_n 3, 1) := by decide +kernel
theorem dX8_landless_51 : decode cX8_landless 51 = .ok (.bipush 60, 2) := by decide +kernel
theorem dX8_landless_53 : decode cX8_landless 53 = .ok (.if_icmp .gt 59, 3) := by decide +kernel
theorem dX8_landless_56 : decode cX8_landless 56 = .ok (.aload_n 0, 1) := by decide +kernel
theorem dX8_landless_57 : decode cX8_landless 57 = .ok (.iconst 1, 1) := by decide +kernel
theorem dX8_landless_58 : decode cX8_landless 58 = .ok (.invokevirtual 216, 3) := by decide +kernel
theorem dX8_landless_61 : decode cX8_landless 61 = .ok (.iconst 0, 1) := by decide +kernel
theorem dX8_landless_62 : decode cX8_landless 62 = .ok (.istore 4, 2) := by decide +kernel
theorem dX8_landless_64 : decode cX8_landless 64 = .ok (.iload 4, 2) := by decide +kernel
theorem dX8_landless_66 : decode cX8_landless 66 = .ok (.iconst 4, 1) := by decide +kernel
theorem dX8_landless_67 : decode cX8_landless 67 = .ok (.if_icmp .ge 39, 3) := by decide +kernel
theorem dX8_landless_70 : decode cX8_landless 70 = .ok (.iload_n 2, 1) := by decide +kernel
theorem dX8_landless_71 : decode cX8_landless 71 = .ok (.iload 4, 2) := by decide +kernel
theorem dX8_landless_73 : decode cX8_landless 73 = .ok (.ishr, 1) := by decide +kernel
theorem dX8_landless_74 : decode cX8_landless 74 = .ok (.iconst 1, 1) := by decide +kernel
theorem dX8_landless_75 : decode cX8_landless 75 = .ok (.iand, 1) := by decide +kernel
theorem dX8_landless_76 : decode cX8_landless 76 = .ok (.iconst 1, 1) := by decide +kernel
theorem dX8_landless_77 : decode cX8_landless 77 = .ok (.if_icmp .ne 23, 3) := by decide +kernel
theorem dX8_landless_80 : decode cX8_landless 80 = .ok (.aload_n 0, 1) := by decide +kernel
theorem dX8_landless_81 : decode cX8_landless 81 = .ok (.iload 4, 2) := by decide +kernel
theorem dX8_landless_83 : decode cX8_landless 83 = .ok (.invokevirtual 207, 3) := by decide +kernel
theorem dX8_landless_86 : decode cX8_landless 86 = .ok (.ifCond .ne 14, 3) := by decide +kernel
theorem dX8_landless_89 : decode cX8_landless 89 = .ok (.iload_n 1, 1) := by decide +kernel
theorem dX8_landless_90 : decode cX8_landless 90 = .ok (.ifCond .ne 8, 3) := by decide +kernel
theorem dX8_landless_93 : decode cX8_landless 93 = .ok (.iload 4, 2) := by decide +kernel
theorem dX8_landless_95 : decode cX8_landless 95 = .ok (.goto 4, 3) := by decide +kernel
theorem dX8_landless_98 : decode cX8_landless 98 = .ok (.iload_n 3, 1) := by decide +kernel
theorem dX8_landless_99 : decode cX8_landless 99 = .ok (.ireturn, 1) := by decide +kernel
theorem dX8_landless_100 : decode cX8_landless 100 = .ok (.iinc 4 1, 3) := by decide +kernel
theorem dX8_landless_103 : decode cX8_landless 103 = .ok (.goto (-39), 3) := by decide +kernel
theorem dX8_landless_106 : decode cX8_landless 106 = .ok (.iinc 3 1, 3) := by decide +kernel
theorem dX8_landless_109 : decode cX8_landless 109 = .ok (.goto (-59), 3) := by decide +kernel
theorem dX8_landless_112 : decode cX8_landless 112 = .ok (.bipush (-4), 2) := by decide +kernel
theorem dX8_landless_114 : decode cX8_landless 114 = .ok (.ireturn, 1) := by decide +kernel
set_option maxRecDepth 20000 in
theorem ggX8_falls_X8_isCell : GoodIn wsX8_falls wsX8_isCell := goodIn_r _ [5, 6, 7, 8, 4, 9, 10, 11, 12, 13, 14, 58, 59, 60, 61, 62, 63, 64, 65, 66, 67, 68, 69, 70, 71, 72, 73, 74, 75, 76, 77, 78, 79, 80, 81, 82, 83, 84, 85, 86, 87, 88] (by decide +kernel) (by decide +kernel)
set_option maxRecDepth 20000 in
theorem gX8_falls_X8_isCell : GoodIn wsX8_falls (wsV RX8 192 RX8 yX8_isCell wsX8_isCell) := goodIn_app (goodIn_of _ (by decide +kernel)) ggX8_falls_X8_isCell
set_option maxRecDepth 20000 in
theorem ggX8_falls_X8_in : GoodIn wsX8_falls wsX8_in := goodIn_r _ [14] (by decide +kernel) (by decide +kernel)
set_option maxRecDepth 20000 in
theorem gX8_falls_X8_in : GoodIn wsX8_falls (va_wsS RX8 88 yX8_in wsX8_in) := goodIn_app (goodIn_of _ (by decide +kernel)) ggX8_falls_X8_in
set_option maxRecDepth 20000 in
theorem ggX8_falls_X8_asItIs : GoodIn wsX8_falls wsX8_asItIs := goodIn_r _ [18, 19, 20, 21, 22, 4, 23, 58, 59, 60, 61, 62, 63, 64, 65, 66, 67, 68, 69, 70, 71, 72, 73, 74, 75, 76, 77, 78, 79, 80, 81, 82, 83, 84, 85, 86, 87, 88] (by decide +kernel) (by decide +kernel)
set_option maxRecDepth 20000 in
theorem gX8_falls_X8_asItIs : GoodIn wsX8_falls (wsV RX8 195 RX8 yX8_asItIs wsX8_asItIs) := goodIn_app (goodIn_of _ (by decide +kernel)) ggX8_falls_X8_asItIs
set_option maxRecDepth 20000 in
theorem ggX8_falls_X8_bears : GoodIn wsX8_falls wsX8_bears := goodIn_r _ [27, 19, 28, 29, 30, 31, 4, 32, 11, 10, 12, 13, 14, 58, 59, 60, 61, 62, 63, 64, 65, 66, 67, 68, 69, 70, 71, 72, 73, 74, 75, 76, 77, 78, 79, 80, 81, 82, 83, 84, 85, 86, 87, 88] (by decide +kernel) (by decide +kernel)
set_option maxRecDepth 20000 in
theorem gX8_falls_X8_bears : GoodIn wsX8_falls (wsV RX8 198 RX8 yX8_bears wsX8_bears) := goodIn_app (goodIn_of _ (by decide +kernel)) ggX8_falls_X8_bears
set_option maxRecDepth 20000 in
theorem ggX8_falls_X8_goesOn : GoodIn wsX8_falls wsX8_goesOn := goodIn_r _ [36, 19, 37, 38, 39, 4, 40, 41, 42, 43, 44, 45, 46, 47, 6, 7, 8, 9, 10, 11, 48, 49, 50, 51, 28, 52, 53, 54, 55, 56, 57, 29, 30, 31, 32, 12, 13, 14, 58, 59, 60, 61, 62, 63, 64, 65, 66, 67, 68, 69, 70, 71, 72, 73, 74, 75, 76, 77, 78, 79, 80, 81, 82, 83, 84, 85, 86, 87, 88] (by decide +kernel) (by decide +kernel)
set_option maxRecDepth 20000 in
theorem gX8_falls_X8_goesOn : GoodIn wsX8_falls (wsV RX8 216 RX8 yX8_goesOn wsX8_goesOn) := goodIn_app (goodIn_of _ (by decide +kernel)) ggX8_falls_X8_goesOn
theorem dX8_falls_0 : decode cX8_falls 0 = .ok (.aload_n 0, 1) := by decide +kernel
theorem dX8_falls_1 : decode cX8_falls 1 = .ok (.iload_n 1, 1) := by decide +kernel
theorem dX8_falls_2 : decode cX8_falls 2 = .ok (.invokevirtual 192, 3) := by decide +kernel
theorem dX8_falls_5 : decode cX8_falls 5 = .ok (.ifCond .eq 13, 3) := by decide +kernel
theorem dX8_falls_8 : decode cX8_falls 8 = .ok (.iload_n 2, 1) := by decide +kernel
theorem dX8_falls_9 : decode cX8_falls 9 = .ok (.iconst 1, 1) := by decide +kernel
theorem dX8_falls_10 : decode cX8_falls 10 = .ok (.bipush 99, 2) := by decide +kernel
theorem dX8_falls_12 : decode cX8_falls 12 = .ok (.invokestatic 88, 3) := by decide +kernel
theorem dX8_falls_15 : decode cX8_falls 15 = .ok (.ifCond .ne 5, 3) := by decide +kernel
theorem dX8_falls_18 : decode cX8_falls 18 = .ok (.iconst (-1), 1) := by decide +kernel
theorem dX8_falls_19 : decode cX8_falls 19 = .ok (.ireturn, 1) := by decide +kernel
theorem dX8_falls_20 : decode cX8_falls 20 = .ok (.aload_n 0, 1) := by decide +kernel
theorem dX8_falls_21 : decode cX8_falls 21 = .ok (.invokevirtual 195, 3) := by decide +kernel
theorem dX8_falls_24 : decode cX8_falls 24 = .ok (.iconst 0, 1) := by decide +kernel
theorem dX8_falls_25 : decode cX8_falls 25 = .ok (.istore_n 3, 1) := by decide +kernel
theorem dX8_falls_26 : decode cX8_falls 26 = .ok (.iload_n 3, 1) := by decide +kernel
theorem dX8_falls_27 : decode cX8_falls 27 = .ok (.bipush 60, 2) := by decide +kernel
theorem dX8_falls_29 : decode cX8_falls 29 = .ok (.if_icmp .gt 23, 3) := by decide +kernel
theorem dX8_falls_32 : decode cX8_falls 32 = .ok (.aload_n 0, 1) := by decide +kernel
theorem dX8_falls_33 : decode cX8_falls 33 = .ok (.iload_n 1, 1) := by decide +kernel
theorem dX8_falls_34 : decode cX8_falls 34 = .ok (.invokevirtual 198, 3) := by decide +kernel
theorem dX8_falls_37 : decode cX8_falls 37 = .ok (.iload_n 2, 1) := by decide +kernel
theorem dX8_falls_38 : decode cX8_falls 38 = .ok (.if_icmp .lt 14, 3) := by decide +kernel
theorem dX8_falls_41 : decode cX8_falls 41 = .ok (.aload_n 0, 1) := by decide +kernel
theorem dX8_falls_42 : decode cX8_falls 42 = .ok (.iconst 1, 1) := by decide +kernel
theorem dX8_falls_43 : decode cX8_falls 43 = .ok (.invokevirtual 216, 3) := by decide +kernel
theorem dX8_falls_46 : decode cX8_falls 46 = .ok (.iinc 3 1, 3) := by decide +kernel
theorem dX8_falls_49 : decode cX8_falls 49 = .ok (.goto (-23), 3) := by decide +kernel
theorem dX8_falls_52 : decode cX8_falls 52 = .ok (.iload_n 3, 1) := by decide +kernel
theorem dX8_falls_53 : decode cX8_falls 53 = .ok (.bipush 60, 2) := by decide +kernel
theorem dX8_falls_55 : decode cX8_falls 55 = .ok (.if_icmp .le 8, 3) := by decide +kernel
theorem dX8_falls_58 : decode cX8_falls 58 = .ok (.bipush (-4), 2) := by decide +kernel
theorem dX8_falls_60 : decode cX8_falls 60 = .ok (.goto 4, 3) := by decide +kernel
theorem dX8_falls_63 : decode cX8_falls 63 = .ok (.iload_n 3, 1) := by decide +kernel
theorem dX8_falls_64 : decode cX8_falls 64 = .ok (.ireturn, 1) := by decide +kernel
set_option maxRecDepth 20000 in
theorem ggX8_lowers_X8_cells : GoodIn wsX8_lowers wsX8_cells := goodIn_r _ [6, 7, 8, 26, 27, 28, 29, 30, 31, 32, 33, 34, 35, 36, 37, 38, 39, 40, 41, 42, 43, 44, 45, 46, 47, 48, 49, 50, 51, 52, 53, 54, 55, 56] (by decide +kernel) (by decide +kernel)
set_option maxRecDepth 20000 in
theorem gX8_lowers_X8_cells : GoodIn wsX8_lowers (wsV RX8 84 RX8 yX8_cells wsX8_cells) := goodIn_app (goodIn_of _ (by decide +kernel)) ggX8_lowers_X8_cells
set_option maxRecDepth 20000 in
theorem ggX8_lowers_X8_costOf : GoodIn wsX8_lowers wsX8_costOf := goodIn_r _ [12, 13, 14, 15, 16, 5, 17, 18, 19, 20, 21, 22, 8, 7, 23, 24, 25, 26, 27, 28, 29, 30, 31, 32, 33, 34, 35, 36, 37, 38, 39, 40, 41, 42, 43, 44, 45, 46, 47, 48, 49, 50, 51, 52, 53, 54, 55, 56] (by decide +kernel) (by decide +kernel)
set_option maxRecDepth 20000 in
theorem gX8_lowers_X8_costOf : GoodIn wsX8_lowers (wsV RX8 219 RX8 yX8_costOf wsX8_costOf) := goodIn_app (goodIn_of _ (by decide +kernel)) ggX8_lowers_X8_costOf
set_option maxRecDepth 20000 in
theorem ggX8_lowers_X8_beside : GoodIn wsX8_lowers wsX8_beside := goodIn_r _ [22, 8, 7, 23, 24, 5, 25, 26, 27, 28, 29, 30, 31, 32, 33, 34, 35, 36, 37, 38, 39, 40, 41, 42, 43, 44, 45, 46, 47, 48, 49, 50, 51, 52, 53, 54, 55, 56] (by decide +kernel) (by decide +kernel)
set_option maxRecDepth 20000 in
theorem gX8_lowers_X8_beside : GoodIn wsX8_lowers (wsV RX8 172 RX8 yX8_beside wsX8_beside) := goodIn_app (goodIn_of _ (by decide +kernel)) ggX8_lowers_X8_beside
theorem dX8_lowers_0 : decode cX8_lowers 0 = .ok (.iconst 1, 1) := by decide +kernel
theorem dX8_lowers_1 : decode cX8_lowers 1 = .ok (.istore_n 3, 1) := by decide +kernel
theorem dX8_lowers_2 : decode cX8_lowers 2 = .ok (.iload_n 3, 1) := by decide +kernel
theorem dX8_lowers_3 : decode cX8_lowers 3 = .ok (.ifCond .eq 145, 3) := by decide +kernel
theorem dX8_lowers_6 : decode cX8_lowers 6 = .ok (.iconst 0, 1) := by decide +kernel
theorem dX8_lowers_7 : decode cX8_lowers 7 = .ok (.istore_n 3, 1) := by decide +kernel
theorem dX8_lowers_8 : decode cX8_lowers 8 = .ok (.iconst 0, 1) := by decide +kernel
theorem dX8_lowers_9 : decode cX8_lowers 9 = .ok (.istore 4, 2) := by decide +kernel
theorem dX8_lowers_11 : decode cX8_lowers 11 = .ok (.iload 4, 2) := by decide +kernel
theorem dX8_lowers_13 : decode cX8_lowers 13 = .ok (.aload_n 0, 1) := by decide +kernel
theorem dX8_lowers_14 : decode cX8_lowers 14 = .ok (.invokevirtual 84, 3) := by decide +kernel
theorem dX8_lowers_17 : decode cX8_lowers 17 = .ok (.if_icmp .ge 128, 3) := by decide +kernel
theorem dX8_lowers_20 : decode cX8_lowers 20 = .ok (.aload_n 0, 1) := by decide +kernel
theorem dX8_lowers_21 : decode cX8_lowers 21 = .ok (.iload 4, 2) := by decide +kernel
theorem dX8_lowers_23 : decode cX8_lowers 23 = .ok (.iload_n 1, 1) := by decide +kernel
theorem dX8_lowers_24 : decode cX8_lowers 24 = .ok (.iload_n 2, 1) := by decide +kernel
theorem dX8_lowers_25 : decode cX8_lowers 25 = .ok (.invokevirtual 219, 3) := by decide +kernel
theorem dX8_lowers_28 : decode cX8_lowers 28 = .ok (.istore 5, 2) := by decide +kernel
theorem dX8_lowers_30 : decode cX8_lowers 30 = .ok (.iconst 0, 1) := by decide +kernel
theorem dX8_lowers_31 : decode cX8_lowers 31 = .ok (.istore 6, 2) := by decide +kernel
theorem dX8_lowers_33 : decode cX8_lowers 33 = .ok (.iload 6, 2) := by decide +kernel
theorem dX8_lowers_35 : decode cX8_lowers 35 = .ok (.iconst 4, 1) := by decide +kernel
theorem dX8_lowers_36 : decode cX8_lowers 36 = .ok (.if_icmp .ge 103, 3) := by decide +kernel
theorem dX8_lowers_39 : decode cX8_lowers 39 = .ok (.iload 5, 2) := by decide +kernel
theorem dX8_lowers_41 : decode cX8_lowers 41 = .ok (.ifCond .lt 98, 3) := by decide +kernel
theorem dX8_lowers_44 : decode cX8_lowers 44 = .ok (.aload_n 0, 1) := by decide +kernel
theorem dX8_lowers_45 : decode cX8_lowers 45 = .ok (.iload 4, 2) := by decide +kernel
theorem dX8_lowers_47 : decode cX8_lowers 47 = .ok (.iload 6, 2) := by decide +kernel
theorem dX8_lowers_49 : decode cX8_lowers 49 = .ok (.invokevirtual 172, 3) := by decide +kernel
theorem dX8_lowers_52 : decode cX8_lowers 52 = .ok (.istore 7, 2) := by decide +kernel
theorem dX8_lowers_54 : decode cX8_lowers 54 = .ok (.iload 7, 2) := by decide +kernel
theorem dX8_lowers_56 : decode cX8_lowers 56 = .ok (.ifCond .lt 27, 3) := by decide +kernel
theorem dX8_lowers_59 : decode cX8_lowers 59 = .ok (.aload_n 0, 1) := by decide +kernel
theorem dX8_lowers_60 : decode cX8_lowers 60 = .ok (.getfield 62, 3) := by decide +kernel
theorem dX8_lowers_63 : decode cX8_lowers 63 = .ok (.iload 7, 2) := by decide +kernel
theorem dX8_lowers_65 : decode cX8_lowers 65 = .ok (.iaload, 1) := by decide +kernel
theorem dX8_lowers_66 : decode cX8_lowers 66 = .ok (.iload 5, 2) := by decide +kernel
theorem dX8_lowers_68 : decode cX8_lowers 68 = .ok (.iadd, 1) := by decide +kernel
theorem dX8_lowers_69 : decode cX8_lowers 69 = .ok (.aload_n 0, 1) := by decide +kernel
theorem dX8_lowers_70 : decode cX8_lowers 70 = .ok (.getfield 62, 3) := by decide +kernel
theorem dX8_lowers_73 : decode cX8_lowers 73 = .ok (.iload 4, 2) := by decide +kernel
theorem dX8_lowers_75 : decode cX8_lowers 75 = .ok (.iaload, 1) := by decide +kernel
theorem dX8_lowers_76 : decode cX8_lowers 76 = .ok (.if_icmp .ge 7, 3) := by decide +kernel
theorem dX8_lowers_79 : decode cX8_lowers 79 = .ok (.iconst 1, 1) := by decide +kernel
theorem dX8_lowers_80 : decode cX8_lowers 80 = .ok (.goto 4, 3) := by decide +kernel
theorem dX8_lowers_83 : decode cX8_lowers 83 = .ok (.iconst 0, 1) := by decide +kernel
theorem dX8_lowers_84 : decode cX8_lowers 84 = .ok (.istore 8, 2) := by decide +kernel
theorem dX8_lowers_86 : decode cX8_lowers 86 = .ok (.aload_n 0, 1) := by decide +kernel
theorem dX8_lowers_87 : decode cX8_lowers 87 = .ok (.getfield 62, 3) := by decide +kernel
theorem dX8_lowers_90 : decode cX8_lowers 90 = .ok (.iload 4, 2) := by decide +kernel
theorem dX8_lowers_92 : decode cX8_lowers 92 = .ok (.iload 8, 2) := by decide +kernel
theorem dX8_lowers_94 : decode cX8_lowers 94 = .ok (.ifCond .eq 16, 3) := by decide +kernel
theorem dX8_lowers_97 : decode cX8_lowers 97 = .ok (.aload_n 0, 1) := by decide +kernel
theorem dX8_lowers_98 : decode cX8_lowers 98 = .ok (.getfield 62, 3) := by decide +kernel
theorem dX8_lowers_101 : decode cX8_lowers 101 = .ok (.iload 7, 2) := by decide +kernel
theorem dX8_lowers_103 : decode cX8_lowers 103 = .ok (.iaload, 1) := by decide +kernel
theorem dX8_lowers_104 : decode cX8_lowers 104 = .ok (.iload 5, 2) := by decide +kernel
theorem dX8_lowers_106 : decode cX8_lowers 106 = .ok (.iadd, 1) := by decide +kernel
theorem dX8_lowers_107 : decode cX8_lowers 107 = .ok (.goto 10, 3) := by decide +kernel
theorem dX8_lowers_110 : decode cX8_lowers 110 = .ok (.aload_n 0, 1) := by decide +kernel
theorem dX8_lowers_111 : decode cX8_lowers 111 = .ok (.getfield 62, 3) := by decide +kernel
theorem dX8_lowers_114 : decode cX8_lowers 114 = .ok (.iload 4, 2) := by decide +kernel
theorem dX8_lowers_116 : decode cX8_lowers 116 = .ok (.iaload, 1) := by decide +kernel
theorem dX8_lowers_117 : decode cX8_lowers 117 = .ok (.iastore, 1) := by decide +kernel
theorem dX8_lowers_118 : decode cX8_lowers 118 = .ok (.iload_n 3, 1) := by decide +kernel
theorem dX8_lowers_119 : decode cX8_lowers 119 = .ok (.ifCond .ne 8, 3) := by decide +kernel
theorem dX8_lowers_122 : decode cX8_lowers 122 = .ok (.iload 8, 2) := by decide +kernel
theorem dX8_lowers_124 : decode cX8_lowers 124 = .ok (.ifCond .eq 7, 3) := by decide +kernel
theorem dX8_lowers_127 : decode cX8_lowers 127 = .ok (.iconst 1, 1) := by decide +kernel
theorem dX8_lowers_128 : decode cX8_lowers 128 = .ok (.goto 4, 3) := by decide +kernel
theorem dX8_lowers_131 : decode cX8_lowers 131 = .ok (.iconst 0, 1) := by decide +kernel
theorem dX8_lowers_132 : decode cX8_lowers 132 = .ok (.istore_n 3, 1) := by decide +kernel
theorem dX8_lowers_133 : decode cX8_lowers 133 = .ok (.iinc 6 1, 3) := by decide +kernel
theorem dX8_lowers_136 : decode cX8_lowers 136 = .ok (.goto (-103), 3) := by decide +kernel
theorem dX8_lowers_139 : decode cX8_lowers 139 = .ok (.iinc 4 1, 3) := by decide +kernel
theorem dX8_lowers_142 : decode cX8_lowers 142 = .ok (.goto (-131), 3) := by decide +kernel
theorem dX8_lowers_145 : decode cX8_lowers 145 = .ok (.goto (-143), 3) := by decide +kernel
theorem dX8_lowers_148 : decode cX8_lowers 148 = .ok (.return_, 1) := by decide +kernel
set_option maxRecDepth 20000 in
theorem ggX8_costOf_X8_bears : GoodIn wsX8_costOf wsX8_bears := goodIn_r _ [6, 1, 7, 8, 9, 10, 5, 11, 12, 13, 14, 15, 16, 17, 18, 19, 20, 21, 22, 23, 24, 25, 26, 27, 28, 29, 30, 31, 32, 33, 34, 35, 36, 37, 38, 39, 40, 41, 42, 43, 44, 45, 46, 47] (by decide +kernel) (by decide +kernel)
set_option maxRecDepth 20000 in
theorem gX8_costOf_X8_bears : GoodIn wsX8_costOf (wsV RX8 198 RX8 yX8_bears wsX8_bears) := goodIn_app (goodIn_of _ (by decide +kernel)) ggX8_costOf_X8_bears
theorem dX8_costOf_0 : decode cX8_costOf 0 = .ok (.iload_n 2, 1) := by decide +kernel
theorem dX8_costOf_1 : decode cX8_costOf 1 = .ok (.ifCond .ge 18, 3) := by decide +kernel
theorem dX8_costOf_4 : decode cX8_costOf 4 = .ok (.aload_n 0, 1) := by decide +kernel
theorem dX8_costOf_5 : decode cX8_costOf 5 = .ok (.getfield 53, 3) := by decide +kernel
theorem dX8_costOf_8 : decode cX8_costOf 8 = .ok (.iload_n 1, 1) := by decide +kernel
theorem dX8_costOf_9 : decode cX8_costOf 9 = .ok (.iaload, 1) := by decide +kernel
theorem dX8_costOf_10 : decode cX8_costOf 10 = .ok (.ifCond .ne 7, 3) := by decide +kernel
theorem dX8_costOf_13 : decode cX8_costOf 13 = .ok (.iconst 1, 1) := by decide +kernel
theorem dX8_costOf_14 : decode cX8_costOf 14 = .ok (.goto 4, 3) := by decide +kernel
theorem dX8_costOf_17 : decode cX8_costOf 17 = .ok (.iconst 0, 1) := by decide +kernel
theorem dX8_costOf_18 : decode cX8_costOf 18 = .ok (.ireturn, 1) := by decide +kernel
theorem dX8_costOf_19 : decode cX8_costOf 19 = .ok (.aload_n 0, 1) := by decide +kernel
theorem dX8_costOf_20 : decode cX8_costOf 20 = .ok (.getfield 53, 3) := by decide +kernel
theorem dX8_costOf_23 : decode cX8_costOf 23 = .ok (.bipush 49, 2) := by decide +kernel
theorem dX8_costOf_25 : decode cX8_costOf 25 = .ok (.iload_n 1, 1) := by decide +kernel
theorem dX8_costOf_26 : decode cX8_costOf 26 = .ok (.iadd, 1) := by decide +kernel
theorem dX8_costOf_27 : decode cX8_costOf 27 = .ok (.iaload, 1) := by decide +kernel
theorem dX8_costOf_28 : decode cX8_costOf 28 = .ok (.istore 4, 2) := by decide +kernel
theorem dX8_costOf_30 : decode cX8_costOf 30 = .ok (.aload_n 0, 1) := by decide +kernel
theorem dX8_costOf_31 : decode cX8_costOf 31 = .ok (.iload_n 1, 1) := by decide +kernel
theorem dX8_costOf_32 : decode cX8_costOf 32 = .ok (.invokevirtual 198, 3) := by decide +kernel
theorem dX8_costOf_35 : decode cX8_costOf 35 = .ok (.iload_n 3, 1) := by decide +kernel
theorem dX8_costOf_36 : decode cX8_costOf 36 = .ok (.if_icmp .ge 7, 3) := by decide +kernel
theorem dX8_costOf_39 : decode cX8_costOf 39 = .ok (.iconst (-1), 1) := by decide +kernel
theorem dX8_costOf_40 : decode cX8_costOf 40 = .ok (.goto 23, 3) := by decide +kernel
theorem dX8_costOf_43 : decode cX8_costOf 43 = .ok (.iload 4, 2) := by decide +kernel
theorem dX8_costOf_45 : decode cX8_costOf 45 = .ok (.iload_n 2, 1) := by decide +kernel
theorem dX8_costOf_46 : decode cX8_costOf 46 = .ok (.if_icmp .ne 7, 3) := by decide +kernel
theorem dX8_costOf_49 : decode cX8_costOf 49 = .ok (.iconst 0, 1) := by decide +kernel
theorem dX8_costOf_50 : decode cX8_costOf 50 = .ok (.goto 13, 3) := by decide +kernel
theorem dX8_costOf_53 : decode cX8_costOf 53 = .ok (.iload 4, 2) := by decide +kernel
theorem dX8_costOf_55 : decode cX8_costOf 55 = .ok (.ifCond .ge 7, 3) := by decide +kernel
theorem dX8_costOf_58 : decode cX8_costOf 58 = .ok (.iconst 1, 1) := by decide +kernel
theorem dX8_costOf_59 : decode cX8_costOf 59 = .ok (.goto 4, 3) := by decide +kernel
theorem dX8_costOf_62 : decode cX8_costOf 62 = .ok (.iconst 3, 1) := by decide +kernel
theorem dX8_costOf_63 : decode cX8_costOf 63 = .ok (.ireturn, 1) := by decide +kernel
set_option maxRecDepth 20000 in
theorem ggX8_toll_X8_isFamily : GoodIn wsX8_toll wsX8_isFamily := goodIn_r _ [5, 6, 7, 4, 8] (by decide +kernel) (by decide +kernel)
set_option maxRecDepth 20000 in
theorem gX8_toll_X8_isFamily : GoodIn wsX8_toll (va_wsS RX8 204 yX8_isFamily wsX8_isFamily) := goodIn_app (goodIn_of _ (by decide +kernel)) ggX8_toll_X8_isFamily
set_option maxRecDepth 20000 in
theorem ggX8_toll_X8_in : GoodIn wsX8_toll wsX8_in := goodIn_r _ [8] (by decide +kernel) (by decide +kernel)
set_option maxRecDepth 20000 in
theorem gX8_toll_X8_in : GoodIn wsX8_toll (va_wsS RX8 88 yX8_in wsX8_in) := goodIn_app (goodIn_of _ (by decide +kernel)) ggX8_toll_X8_in
set_option maxRecDepth 20000 in
theorem ggX8_toll_X8_isCell : GoodIn wsX8_toll wsX8_isCell := goodIn_r _ [12, 13, 14, 15, 4, 16, 17, 18, 6, 7, 8, 45, 46, 47, 48, 49, 50, 51, 52, 53, 54, 55, 56, 57, 58, 59, 60, 61, 62, 63, 64, 65, 66, 67, 68, 69, 70, 71, 72, 73, 74, 75] (by decide +kernel) (by decide +kernel)
set_option maxRecDepth 20000 in
theorem gX8_toll_X8_isCell : GoodIn wsX8_toll (wsV RX8 192 RX8 yX8_isCell wsX8_isCell) := goodIn_app (goodIn_of _ (by decide +kernel)) ggX8_toll_X8_isCell
set_option maxRecDepth 20000 in
theorem ggX8_toll_X8_asItIs : GoodIn wsX8_toll wsX8_asItIs := goodIn_r _ [22, 23, 24, 25, 26, 4, 27, 45, 46, 47, 48, 49, 50, 51, 52, 53, 54, 55, 56, 57, 58, 59, 60, 61, 62, 63, 64, 65, 66, 67, 68, 69, 70, 71, 72, 73, 74, 75] (by decide +kernel) (by decide +kernel)
set_option maxRecDepth 20000 in
theorem gX8_toll_X8_asItIs : GoodIn wsX8_toll (wsV RX8 195 RX8 yX8_asItIs wsX8_asItIs) := goodIn_app (goodIn_of _ (by decide +kernel)) ggX8_toll_X8_asItIs
set_option maxRecDepth 20000 in
theorem ggX8_toll_X8_cells : GoodIn wsX8_toll wsX8_cells := goodIn_r _ [16, 17, 18, 45, 46, 47, 48, 49, 50, 51, 52, 53, 54, 55, 56, 57, 58, 59, 60, 61, 62, 63, 64, 65, 66, 67, 68, 69, 70, 71, 72, 73, 74, 75] (by decide +kernel) (by decide +kernel)
set_option maxRecDepth 20000 in
theorem gX8_toll_X8_cells : GoodIn wsX8_toll (wsV RX8 84 RX8 yX8_cells wsX8_cells) := goodIn_app (goodIn_of _ (by decide +kernel)) ggX8_toll_X8_cells
set_option maxRecDepth 20000 in
theorem ggX8_toll_X8_costOf : GoodIn wsX8_toll wsX8_costOf := goodIn_r _ [31, 23, 32, 33, 34, 4, 35, 36, 37, 38, 39, 40, 18, 17, 6, 7, 8, 45, 46, 47, 48, 49, 50, 51, 52, 53, 54, 55, 56, 57, 58, 59, 60, 61, 62, 63, 64, 65, 66, 67, 68, 69, 70, 71, 72, 73, 74, 75] (by decide +kernel) (by decide +kernel)
set_option maxRecDepth 20000 in
theorem gX8_toll_X8_costOf : GoodIn wsX8_toll (wsV RX8 219 RX8 yX8_costOf wsX8_costOf) := goodIn_app (goodIn_of _ (by decide +kernel)) ggX8_toll_X8_costOf
set_option maxRecDepth 20000 in
theorem ggX8_toll_X8_lowers : GoodIn wsX8_toll wsX8_lowers := goodIn_r _ [44, 1, 13, 14, 15, 4, 16, 17, 18, 28, 29, 30, 31, 23, 32, 33, 34, 35, 36, 37, 38, 39, 40, 6, 7, 8, 45, 46, 47, 48, 49, 50, 51, 52, 53, 54, 55, 56, 57, 58, 59, 60, 61, 62, 63, 64, 65, 66, 67, 68, 69, 70, 71, 72, 73, 74, 75] (by decide +kernel) (by decide +kernel)
set_option maxRecDepth 20000 in
theorem gX8_toll_X8_lowers : GoodIn wsX8_toll (wsV RX8 223 RX8 yX8_lowers wsX8_lowers) := goodIn_app (goodIn_of _ (by decide +kernel)) ggX8_toll_X8_lowers
theorem dX8_toll_0 : decode cX8_toll 0 = .ok (.iload_n 1, 1) := by decide +kernel
theorem dX8_toll_1 : decode cX8_toll 1 = .ok (.invokestatic 204, 3) := by decide +kernel
theorem dX8_toll_4 : decode cX8_toll 4 = .ok (.ifCond .eq 30, 3) := by decide +kernel
theorem dX8_toll_7 : decode cX8_toll 7 = .ok (.iload_n 2, 1) := by decide +kernel
theorem dX8_toll_8 : decode cX8_toll 8 = .ok (.iconst 1, 1) := by decide +kernel
theorem dX8_toll_9 : decode cX8_toll 9 = .ok (.bipush 99, 2) := by decide +kernel
theorem dX8_toll_11 : decode cX8_toll 11 = .ok (.invokestatic 88, 3) := by decide +kernel
theorem dX8_toll_14 : decode cX8_toll 14 = .ok (.ifCond .eq 20, 3) := by decide +kernel
theorem dX8_toll_17 : decode cX8_toll 17 = .ok (.aload_n 0, 1) := by decide +kernel
theorem dX8_toll_18 : decode cX8_toll 18 = .ok (.iload_n 3, 1) := by decide +kernel
theorem dX8_toll_19 : decode cX8_toll 19 = .ok (.invokevirtual 192, 3) := by decide +kernel
theorem dX8_toll_22 : decode cX8_toll 22 = .ok (.ifCond .eq 12, 3) := by decide +kernel
theorem dX8_toll_25 : decode cX8_toll 25 = .ok (.aload_n 0, 1) := by decide +kernel
theorem dX8_toll_26 : decode cX8_toll 26 = .ok (.iload 4, 2) := by decide +kernel
theorem dX8_toll_28 : decode cX8_toll 28 = .ok (.invokevirtual 192, 3) := by decide +kernel
theorem dX8_toll_31 : decode cX8_toll 31 = .ok (.ifCond .ne 5, 3) := by decide +kernel
theorem dX8_toll_34 : decode cX8_toll 34 = .ok (.iconst (-1), 1) := by decide +kernel
theorem dX8_toll_35 : decode cX8_toll 35 = .ok (.ireturn, 1) := by decide +kernel
theorem dX8_toll_36 : decode cX8_toll 36 = .ok (.aload_n 0, 1) := by decide +kernel
theorem dX8_toll_37 : decode cX8_toll 37 = .ok (.invokevirtual 195, 3) := by decide +kernel
theorem dX8_toll_40 : decode cX8_toll 40 = .ok (.iconst 0, 1) := by decide +kernel
theorem dX8_toll_41 : decode cX8_toll 41 = .ok (.istore 5, 2) := by decide +kernel
theorem dX8_toll_43 : decode cX8_toll 43 = .ok (.iload 5, 2) := by decide +kernel
theorem dX8_toll_45 : decode cX8_toll 45 = .ok (.aload_n 0, 1) := by decide +kernel
theorem dX8_toll_46 : decode cX8_toll 46 = .ok (.invokevirtual 84, 3) := by decide +kernel
theorem dX8_toll_49 : decode cX8_toll 49 = .ok (.if_icmp .ge 19, 3) := by decide +kernel
theorem dX8_toll_52 : decode cX8_toll 52 = .ok (.aload_n 0, 1) := by decide +kernel
theorem dX8_toll_53 : decode cX8_toll 53 = .ok (.getfield 62, 3) := by decide +kernel
theorem dX8_toll_56 : decode cX8_toll 56 = .ok (.iload 5, 2) := by decide +kernel
theorem dX8_toll_58 : decode cX8_toll 58 = .ok (.sipush 10000, 3) := by decide +kernel
theorem dX8_toll_61 : decode cX8_toll 61 = .ok (.iastore, 1) := by decide +kernel
theorem dX8_toll_62 : decode cX8_toll 62 = .ok (.iinc 5 1, 3) := by decide +kernel
theorem dX8_toll_65 : decode cX8_toll 65 = .ok (.goto (-22), 3) := by decide +kernel
theorem dX8_toll_68 : decode cX8_toll 68 = .ok (.aload_n 0, 1) := by decide +kernel
theorem dX8_toll_69 : decode cX8_toll 69 = .ok (.iload_n 3, 1) := by decide +kernel
theorem dX8_toll_70 : decode cX8_toll 70 = .ok (.iload_n 1, 1) := by decide +kernel
theorem dX8_toll_71 : decode cX8_toll 71 = .ok (.iload_n 2, 1) := by decide +kernel
theorem dX8_toll_72 : decode cX8_toll 72 = .ok (.invokevirtual 219, 3) := by decide +kernel
theorem dX8_toll_75 : decode cX8_toll 75 = .ok (.ifCond .lt 14, 3) := by decide +kernel
theorem dX8_toll_78 : decode cX8_toll 78 = .ok (.aload_n 0, 1) := by decide +kernel
theorem dX8_toll_79 : decode cX8_toll 79 = .ok (.iload 4, 2) := by decide +kernel
theorem dX8_toll_81 : decode cX8_toll 81 = .ok (.iload_n 1, 1) := by decide +kernel
theorem dX8_toll_82 : decode cX8_toll 82 = .ok (.iload_n 2, 1) := by decide +kernel
theorem dX8_toll_83 : decode cX8_toll 83 = .ok (.invokevirtual 219, 3) := by decide +kernel
theorem dX8_toll_86 : decode cX8_toll 86 = .ok (.ifCond .ge 6, 3) := by decide +kernel
theorem dX8_toll_89 : decode cX8_toll 89 = .ok (.bipush (-4), 2) := by decide +kernel
theorem dX8_toll_91 : decode cX8_toll 91 = .ok (.ireturn, 1) := by decide +kernel
theorem dX8_toll_92 : decode cX8_toll 92 = .ok (.aload_n 0, 1) := by decide +kernel
theorem dX8_toll_93 : decode cX8_toll 93 = .ok (.getfield 62, 3) := by decide +kernel
theorem dX8_toll_96 : decode cX8_toll 96 = .ok (.iload_n 3, 1) := by decide +kernel
theorem dX8_toll_97 : decode cX8_toll 97 = .ok (.aload_n 0, 1) := by decide +kernel
theorem dX8_toll_98 : decode cX8_toll 98 = .ok (.iload_n 3, 1) := by decide +kernel
theorem dX8_toll_99 : decode cX8_toll 99 = .ok (.iload_n 1, 1) := by decide +kernel
theorem dX8_toll_100 : decode cX8_toll 100 = .ok (.iload_n 2, 1) := by decide +kernel
theorem dX8_toll_101 : decode cX8_toll 101 = .ok (.invokevirtual 219, 3) := by decide +kernel
theorem dX8_toll_104 : decode cX8_toll 104 = .ok (.iastore, 1) := by decide +kernel
theorem dX8_toll_105 : decode cX8_toll 105 = .ok (.aload_n 0, 1) := by decide +kernel
theorem dX8_toll_106 : decode cX8_toll 106 = .ok (.iload_n 1, 1) := by decide +kernel
theorem dX8_toll_107 : decode cX8_toll 107 = .ok (.iload_n 2, 1) := by decide +kernel
theorem dX8_toll_108 : decode cX8_toll 108 = .ok (.invokevirtual 223, 3) := by decide +kernel
theorem dX8_toll_111 : decode cX8_toll 111 = .ok (.aload_n 0, 1) := by decide +kernel
theorem dX8_toll_112 : decode cX8_toll 112 = .ok (.getfield 62, 3) := by decide +kernel
theorem dX8_toll_115 : decode cX8_toll 115 = .ok (.iload 4, 2) := by decide +kernel
theorem dX8_toll_117 : decode cX8_toll 117 = .ok (.iaload, 1) := by decide +kernel
theorem dX8_toll_118 : decode cX8_toll 118 = .ok (.sipush 10000, 3) := by decide +kernel
theorem dX8_toll_121 : decode cX8_toll 121 = .ok (.if_icmp .lt 8, 3) := by decide +kernel
theorem dX8_toll_124 : decode cX8_toll 124 = .ok (.bipush (-4), 2) := by decide +kernel
theorem dX8_toll_126 : decode cX8_toll 126 = .ok (.goto 10, 3) := by decide +kernel
theorem dX8_toll_129 : decode cX8_toll 129 = .ok (.aload_n 0, 1) := by decide +kernel
theorem dX8_toll_130 : decode cX8_toll 130 = .ok (.getfield 62, 3) := by decide +kernel
theorem dX8_toll_133 : decode cX8_toll 133 = .ok (.iload 4, 2) := by decide +kernel
theorem dX8_toll_135 : decode cX8_toll 135 = .ok (.iaload, 1) := by decide +kernel
theorem dX8_toll_136 : decode cX8_toll 136 = .ok (.ireturn, 1) := by decide +kernel
set_option maxRecDepth 20000 in
theorem ggX8_wedding_X8_isFamily : GoodIn wsX8_wedding wsX8_isFamily := goodIn_r _ [5, 6, 7, 4, 8] (by decide +kernel) (by decide +kernel)
set_option maxRecDepth 20000 in
theorem gX8_wedding_X8_isFamily : GoodIn wsX8_wedding (va_wsS RX8 204 yX8_isFamily wsX8_isFamily) := goodIn_app (goodIn_of _ (by decide +kernel)) ggX8_wedding_X8_isFamily
set_option maxRecDepth 20000 in
theorem ggX8_wedding_X8_in : GoodIn wsX8_wedding wsX8_in := goodIn_r _ [8] (by decide +kernel) (by decide +kernel)
set_option maxRecDepth 20000 in
theorem gX8_wedding_X8_in : GoodIn wsX8_wedding (va_wsS RX8 88 yX8_in wsX8_in) := goodIn_app (goodIn_of _ (by decide +kernel)) ggX8_wedding_X8_in
set_option maxRecDepth 20000 in
theorem ggX8_wedding_X8_asItIs : GoodIn wsX8_wedding wsX8_asItIs := goodIn_r _ [12, 1, 13, 14, 15, 4, 16, 32, 33, 34, 35, 36, 37, 38, 39, 40, 41, 42, 43, 44, 45, 46, 47, 48, 49, 50, 51, 52, 53, 54, 55, 56, 57, 58, 59, 60, 61, 62] (by decide +kernel) (by decide +kernel)
set_option maxRecDepth 20000 in
theorem gX8_wedding_X8_asItIs : GoodIn wsX8_wedding (wsV RX8 195 RX8 yX8_asItIs wsX8_asItIs) := goodIn_app (goodIn_of _ (by decide +kernel)) ggX8_wedding_X8_asItIs
set_option maxRecDepth 20000 in
theorem ggX8_wedding_X8_cells : GoodIn wsX8_wedding wsX8_cells := goodIn_r _ [20, 21, 22, 32, 33, 34, 35, 36, 37, 38, 39, 40, 41, 42, 43, 44, 45, 46, 47, 48, 49, 50, 51, 52, 53, 54, 55, 56, 57, 58, 59, 60, 61, 62] (by decide +kernel) (by decide +kernel)
set_option maxRecDepth 20000 in
theorem gX8_wedding_X8_cells : GoodIn wsX8_wedding (wsV RX8 84 RX8 yX8_cells wsX8_cells) := goodIn_app (goodIn_of _ (by decide +kernel)) ggX8_wedding_X8_cells
set_option maxRecDepth 20000 in
theorem ggX8_wedding_X8_bears : GoodIn wsX8_wedding wsX8_bears := goodIn_r _ [26, 1, 27, 28, 29, 30, 4, 31, 22, 21, 6, 7, 8, 32, 33, 34, 35, 36, 37, 38, 39, 40, 41, 42, 43, 44, 45, 46, 47, 48, 49, 50, 51, 52, 53, 54, 55, 56, 57, 58, 59, 60, 61, 62] (by decide +kernel) (by decide +kernel)
set_option maxRecDepth 20000 in
theorem gX8_wedding_X8_bears : GoodIn wsX8_wedding (wsV RX8 198 RX8 yX8_bears wsX8_bears) := goodIn_app (goodIn_of _ (by decide +kernel)) ggX8_wedding_X8_bears
theorem dX8_wedding_0 : decode cX8_wedding 0 = .ok (.iload_n 1, 1) := by decide +kernel
theorem dX8_wedding_1 : decode cX8_wedding 1 = .ok (.invokestatic 204, 3) := by decide +kernel
theorem dX8_wedding_4 : decode cX8_wedding 4 = .ok (.ifCond .eq 33, 3) := by decide +kernel
theorem dX8_wedding_7 : decode cX8_wedding 7 = .ok (.iload_n 2, 1) := by decide +kernel
theorem dX8_wedding_8 : decode cX8_wedding 8 = .ok (.iconst 1, 1) := by decide +kernel
theorem dX8_wedding_9 : decode cX8_wedding 9 = .ok (.bipush 50, 2) := by decide +kernel
theorem dX8_wedding_11 : decode cX8_wedding 11 = .ok (.invokestatic 88, 3) := by decide +kernel
theorem dX8_wedding_14 : decode cX8_wedding 14 = .ok (.ifCond .eq 23, 3) := by decide +kernel
theorem dX8_wedding_17 : decode cX8_wedding 17 = .ok (.iload_n 3, 1) := by decide +kernel
theorem dX8_wedding_18 : decode cX8_wedding 18 = .ok (.iconst 1, 1) := by decide +kernel
theorem dX8_wedding_19 : decode cX8_wedding 19 = .ok (.bipush 99, 2) := by decide +kernel
theorem dX8_wedding_21 : decode cX8_wedding 21 = .ok (.invokestatic 88, 3) := by decide +kernel
theorem dX8_wedding_24 : decode cX8_wedding 24 = .ok (.ifCond .eq 13, 3) := by decide +kernel
theorem dX8_wedding_27 : decode cX8_wedding 27 = .ok (.iload 4, 2) := by decide +kernel
theorem dX8_wedding_29 : decode cX8_wedding 29 = .ok (.iconst 0, 1) := by decide +kernel
theorem dX8_wedding_30 : decode cX8_wedding 30 = .ok (.iconst 1, 1) := by decide +kernel
theorem dX8_wedding_31 : decode cX8_wedding 31 = .ok (.invokestatic 88, 3) := by decide +kernel
theorem dX8_wedding_34 : decode cX8_wedding 34 = .ok (.ifCond .ne 5, 3) := by decide +kernel
theorem dX8_wedding_37 : decode cX8_wedding 37 = .ok (.iconst (-1), 1) := by decide +kernel
theorem dX8_wedding_38 : decode cX8_wedding 38 = .ok (.ireturn, 1) := by decide +kernel
theorem dX8_wedding_39 : decode cX8_wedding 39 = .ok (.aload_n 0, 1) := by decide +kernel
theorem dX8_wedding_40 : decode cX8_wedding 40 = .ok (.invokevirtual 195, 3) := by decide +kernel
theorem dX8_wedding_43 : decode cX8_wedding 43 = .ok (.iconst (-1), 1) := by decide +kernel
theorem dX8_wedding_44 : decode cX8_wedding 44 = .ok (.istore 5, 2) := by decide +kernel
theorem dX8_wedding_46 : decode cX8_wedding 46 = .ok (.iconst 0, 1) := by decide +kernel
theorem dX8_wedding_47 : decode cX8_wedding 47 = .ok (.istore 6, 2) := by decide +kernel
theorem dX8_wedding_49 : decode cX8_wedding 49 = .ok (.iconst 0, 1) := by decide +kernel
theorem dX8_wedding_50 : decode cX8_wedding 50 = .ok (.istore 7, 2) := by decide +kernel
theorem dX8_wedding_52 : decode cX8_wedding 52 = .ok (.iload 7, 2) := by decide +kernel
theorem dX8_wedding_54 : decode cX8_wedding 54 = .ok (.aload_n 0, 1) := by decide +kernel
theorem dX8_wedding_55 : decode cX8_wedding 55 = .ok (.invokevirtual 84, 3) := by decide +kernel
theorem dX8_wedding_58 : decode cX8_wedding 58 = .ok (.if_icmp .ge 74, 3) := by decide +kernel
theorem dX8_wedding_61 : decode cX8_wedding 61 = .ok (.aload_n 0, 1) := by decide +kernel
theorem dX8_wedding_62 : decode cX8_wedding 62 = .ok (.getfield 53, 3) := by decide +kernel
theorem dX8_wedding_65 : decode cX8_wedding 65 = .ok (.bipush 49, 2) := by decide +kernel
theorem dX8_wedding_67 : decode cX8_wedding 67 = .ok (.iload 7, 2) := by decide +kernel
theorem dX8_wedding_69 : decode cX8_wedding 69 = .ok (.iadd, 1) := by decide +kernel
theorem dX8_wedding_70 : decode cX8_wedding 70 = .ok (.iaload, 1) := by decide +kernel
theorem dX8_wedding_71 : decode cX8_wedding 71 = .ok (.iload_n 1, 1) := by decide +kernel
theorem dX8_wedding_72 : decode cX8_wedding 72 = .ok (.if_icmp .ne 54, 3) := by decide +kernel
theorem dX8_wedding_75 : decode cX8_wedding 75 = .ok (.iload 5, 2) := by decide +kernel
theorem dX8_wedding_77 : decode cX8_wedding 77 = .ok (.ifCond .lt 18, 3) := by decide +kernel
theorem dX8_wedding_80 : decode cX8_wedding 80 = .ok (.aload_n 0, 1) := by decide +kernel
theorem dX8_wedding_81 : decode cX8_wedding 81 = .ok (.iload 7, 2) := by decide +kernel
theorem dX8_wedding_83 : decode cX8_wedding 83 = .ok (.invokevirtual 198, 3) := by decide +kernel
theorem dX8_wedding_86 : decode cX8_wedding 86 = .ok (.aload_n 0, 1) := by decide +kernel
theorem dX8_wedding_87 : decode cX8_wedding 87 = .ok (.iload 5, 2) := by decide +kernel
theorem dX8_wedding_89 : decode cX8_wedding 89 = .ok (.invokevirtual 198, 3) := by decide +kernel
theorem dX8_wedding_92 : decode cX8_wedding 92 = .ok (.if_icmp .le 8, 3) := by decide +kernel
theorem dX8_wedding_95 : decode cX8_wedding 95 = .ok (.iload 7, 2) := by decide +kernel
theorem dX8_wedding_97 : decode cX8_wedding 97 = .ok (.goto 5, 3) := by decide +kernel
theorem dX8_wedding_100 : decode cX8_wedding 100 = .ok (.iload 5, 2) := by decide +kernel
theorem dX8_wedding_102 : decode cX8_wedding 102 = .ok (.istore 5, 2) := by decide +kernel
theorem dX8_wedding_104 : decode cX8_wedding 104 = .ok (.iload 6, 2) := by decide +kernel
theorem dX8_wedding_106 : decode cX8_wedding 106 = .ok (.aload_n 0, 1) := by decide +kernel
theorem dX8_wedding_107 : decode cX8_wedding 107 = .ok (.iload 7, 2) := by decide +kernel
theorem dX8_wedding_109 : decode cX8_wedding 109 = .ok (.invokevirtual 198, 3) := by decide +kernel
theorem dX8_wedding_112 : decode cX8_wedding 112 = .ok (.iload_n 2, 1) := by decide +kernel
theorem dX8_wedding_113 : decode cX8_wedding 113 = .ok (.iload_n 3, 1) := by decide +kernel
theorem dX8_wedding_114 : decode cX8_wedding 114 = .ok (.imul, 1) := by decide +kernel
theorem dX8_wedding_115 : decode cX8_wedding 115 = .ok (.if_icmp .lt 7, 3) := by decide +kernel
theorem dX8_wedding_118 : decode cX8_wedding 118 = .ok (.iconst 1, 1) := by decide +kernel
theorem dX8_wedding_119 : decode cX8_wedding 119 = .ok (.goto 4, 3) := by decide +kernel
theorem dX8_wedding_122 : decode cX8_wedding 122 = .ok (.iconst 0, 1) := by decide +kernel
theorem dX8_wedding_123 : decode cX8_wedding 123 = .ok (.iadd, 1) := by decide +kernel
theorem dX8_wedding_124 : decode cX8_wedding 124 = .ok (.istore 6, 2) := by decide +kernel
theorem dX8_wedding_126 : decode cX8_wedding 126 = .ok (.iinc 7 1, 3) := by decide +kernel
theorem dX8_wedding_129 : decode cX8_wedding 129 = .ok (.goto (-77), 3) := by decide +kernel
theorem dX8_wedding_132 : decode cX8_wedding 132 = .ok (.iload 4, 2) := by decide +kernel
theorem dX8_wedding_134 : decode cX8_wedding 134 = .ok (.iconst 1, 1) := by decide +kernel
theorem dX8_wedding_135 : decode cX8_wedding 135 = .ok (.if_icmp .ne 8, 3) := by decide +kernel
theorem dX8_wedding_138 : decode cX8_wedding 138 = .ok (.iload 6, 2) := by decide +kernel
theorem dX8_wedding_140 : decode cX8_wedding 140 = .ok (.goto 15, 3) := by decide +kernel
theorem dX8_wedding_143 : decode cX8_wedding 143 = .ok (.iload 6, 2) := by decide +kernel
theorem dX8_wedding_145 : decode cX8_wedding 145 = .ok (.ifCond .ne 8, 3) := by decide +kernel
theorem dX8_wedding_148 : decode cX8_wedding 148 = .ok (.bipush (-4), 2) := by decide +kernel
theorem dX8_wedding_150 : decode cX8_wedding 150 = .ok (.goto 5, 3) := by decide +kernel
theorem dX8_wedding_153 : decode cX8_wedding 153 = .ok (.iload 5, 2) := by decide +kernel
theorem dX8_wedding_155 : decode cX8_wedding 155 = .ok (.ireturn, 1) := by decide +kernel
set_option maxRecDepth 20000 in
theorem ggX8_straw_X8_isFamily : GoodIn wsX8_straw wsX8_isFamily := goodIn_r _ [5, 6, 7, 4, 8] (by decide +kernel) (by decide +kernel)
set_option maxRecDepth 20000 in
theorem gX8_straw_X8_isFamily : GoodIn wsX8_straw (va_wsS RX8 204 yX8_isFamily wsX8_isFamily) := goodIn_app (goodIn_of _ (by decide +kernel)) ggX8_straw_X8_isFamily
set_option maxRecDepth 20000 in
theorem ggX8_straw_X8_in : GoodIn wsX8_straw wsX8_in := goodIn_r _ [8] (by decide +kernel) (by decide +kernel)
set_option maxRecDepth 20000 in
theorem gX8_straw_X8_in : GoodIn wsX8_straw (va_wsS RX8 88 yX8_in wsX8_in) := goodIn_app (goodIn_of _ (by decide +kernel)) ggX8_straw_X8_in
set_option maxRecDepth 20000 in
theorem ggX8_straw_X8_cells : GoodIn wsX8_straw wsX8_cells := goodIn_r _ [12, 13, 14, 15, 16, 17, 18, 19, 20, 21, 22, 23, 24, 25, 26, 27, 28, 29, 30, 31, 32, 33, 34, 35, 36, 37, 38, 39, 40, 41, 42, 43, 44, 45] (by decide +kernel) (by decide +kernel)
set_option maxRecDepth 20000 in
theorem gX8_straw_X8_cells : GoodIn wsX8_straw (wsV RX8 84 RX8 yX8_cells wsX8_cells) := goodIn_app (goodIn_of _ (by decide +kernel)) ggX8_straw_X8_cells
theorem dX8_straw_0 : decode cX8_straw 0 = .ok (.iload_n 1, 1) := by decide +kernel
theorem dX8_straw_1 : decode cX8_straw 1 = .ok (.invokestatic 204, 3) := by decide +kernel
theorem dX8_straw_4 : decode cX8_straw 4 = .ok (.ifCond .eq 35, 3) := by decide +kernel
theorem dX8_straw_7 : decode cX8_straw 7 = .ok (.iload_n 2, 1) := by decide +kernel
theorem dX8_straw_8 : decode cX8_straw 8 = .ok (.iconst 0, 1) := by decide +kernel
theorem dX8_straw_9 : decode cX8_straw 9 = .ok (.bipush 9, 2) := by decide +kernel
theorem dX8_straw_11 : decode cX8_straw 11 = .ok (.invokestatic 88, 3) := by decide +kernel
theorem dX8_straw_14 : decode cX8_straw 14 = .ok (.ifCond .eq 25, 3) := by decide +kernel
theorem dX8_straw_17 : decode cX8_straw 17 = .ok (.iload_n 3, 1) := by decide +kernel
theorem dX8_straw_18 : decode cX8_straw 18 = .ok (.iconst 0, 1) := by decide +kernel
theorem dX8_straw_19 : decode cX8_straw 19 = .ok (.bipush 60, 2) := by decide +kernel
theorem dX8_straw_21 : decode cX8_straw 21 = .ok (.invokestatic 88, 3) := by decide +kernel
theorem dX8_straw_24 : decode cX8_straw 24 = .ok (.ifCond .eq 15, 3) := by decide +kernel
theorem dX8_straw_27 : decode cX8_straw 27 = .ok (.iload 4, 2) := by decide +kernel
theorem dX8_straw_29 : decode cX8_straw 29 = .ok (.iconst 1, 1) := by decide +kernel
theorem dX8_straw_30 : decode cX8_straw 30 = .ok (.sipush 999, 3) := by decide +kernel
theorem dX8_straw_33 : decode cX8_straw 33 = .ok (.invokestatic 88, 3) := by decide +kernel
theorem dX8_straw_36 : decode cX8_straw 36 = .ok (.ifCond .ne 5, 3) := by decide +kernel
theorem dX8_straw_39 : decode cX8_straw 39 = .ok (.iconst (-1), 1) := by decide +kernel
theorem dX8_straw_40 : decode cX8_straw 40 = .ok (.ireturn, 1) := by decide +kernel
theorem dX8_straw_41 : decode cX8_straw 41 = .ok (.iconst 0, 1) := by decide +kernel
theorem dX8_straw_42 : decode cX8_straw 42 = .ok (.istore 5, 2) := by decide +kernel
theorem dX8_straw_44 : decode cX8_straw 44 = .ok (.iconst 0, 1) := by decide +kernel
theorem dX8_straw_45 : decode cX8_straw 45 = .ok (.istore 6, 2) := by decide +kernel
theorem dX8_straw_47 : decode cX8_straw 47 = .ok (.bipush 60, 2) := by decide +kernel
theorem dX8_straw_49 : decode cX8_straw 49 = .ok (.istore 7, 2) := by decide +kernel
theorem dX8_straw_51 : decode cX8_straw 51 = .ok (.iload 7, 2) := by decide +kernel
theorem dX8_straw_53 : decode cX8_straw 53 = .ok (.ifCond .le 74, 3) := by decide +kernel
theorem dX8_straw_56 : decode cX8_straw 56 = .ok (.iconst 0, 1) := by decide +kernel
theorem dX8_straw_57 : decode cX8_straw 57 = .ok (.istore 8, 2) := by decide +kernel
theorem dX8_straw_59 : decode cX8_straw 59 = .ok (.iload 8, 2) := by decide +kernel
theorem dX8_straw_61 : decode cX8_straw 61 = .ok (.aload_n 0, 1) := by decide +kernel
theorem dX8_straw_62 : decode cX8_straw 62 = .ok (.invokevirtual 84, 3) := by decide +kernel
theorem dX8_straw_65 : decode cX8_straw 65 = .ok (.if_icmp .ge 56, 3) := by decide +kernel
theorem dX8_straw_68 : decode cX8_straw 68 = .ok (.aload_n 0, 1) := by decide +kernel
theorem dX8_straw_69 : decode cX8_straw 69 = .ok (.getfield 26, 3) := by decide +kernel
theorem dX8_straw_72 : decode cX8_straw 72 = .ok (.bipush 49, 2) := by decide +kernel
theorem dX8_straw_74 : decode cX8_straw 74 = .ok (.iload 8, 2) := by decide +kernel
theorem dX8_straw_76 : decode cX8_straw 76 = .ok (.iadd, 1) := by decide +kernel
theorem dX8_straw_77 : decode cX8_straw 77 = .ok (.iaload, 1) := by decide +kernel
theorem dX8_straw_78 : decode cX8_straw 78 = .ok (.iload_n 1, 1) := by decide +kernel
theorem dX8_straw_79 : decode cX8_straw 79 = .ok (.if_icmp .ne 36, 3) := by decide +kernel
theorem dX8_straw_82 : decode cX8_straw 82 = .ok (.aload_n 0, 1) := by decide +kernel
theorem dX8_straw_83 : decode cX8_straw 83 = .ok (.getfield 26, 3) := by decide +kernel
theorem dX8_straw_86 : decode cX8_straw 86 = .ok (.iload 8, 2) := by decide +kernel
theorem dX8_straw_88 : decode cX8_straw 88 = .ok (.iaload, 1) := by decide +kernel
theorem dX8_straw_89 : decode cX8_straw 89 = .ok (.iload_n 2, 1) := by decide +kernel
theorem dX8_straw_90 : decode cX8_straw 90 = .ok (.iload_n 3, 1) := by decide +kernel
theorem dX8_straw_91 : decode cX8_straw 91 = .ok (.imul, 1) := by decide +kernel
theorem dX8_straw_92 : decode cX8_straw 92 = .ok (.isub, 1) := by decide +kernel
theorem dX8_straw_93 : decode cX8_straw 93 = .ok (.iload 7, 2) := by decide +kernel
theorem dX8_straw_95 : decode cX8_straw 95 = .ok (.if_icmp .ne 20, 3) := by decide +kernel
theorem dX8_straw_98 : decode cX8_straw 98 = .ok (.iload 5, 2) := by decide +kernel
theorem dX8_straw_100 : decode cX8_straw 100 = .ok (.iload 4, 2) := by decide +kernel
theorem dX8_straw_102 : decode cX8_straw 102 = .ok (.if_icmp .ge 13, 3) := by decide +kernel
theorem dX8_straw_105 : decode cX8_straw 105 = .ok (.iload 5, 2) := by decide +kernel
theorem dX8_straw_107 : decode cX8_straw 107 = .ok (.iload 7, 2) := by decide +kernel
theorem dX8_straw_109 : decode cX8_straw 109 = .ok (.iadd, 1) := by decide +kernel
theorem dX8_straw_110 : decode cX8_straw 110 = .ok (.istore 5, 2) := by decide +kernel
theorem dX8_straw_112 : decode cX8_straw 112 = .ok (.iinc 6 1, 3) := by decide +kernel
theorem dX8_straw_115 : decode cX8_straw 115 = .ok (.iinc 8 1, 3) := by decide +kernel
theorem dX8_straw_118 : decode cX8_straw 118 = .ok (.goto (-59), 3) := by decide +kernel
theorem dX8_straw_121 : decode cX8_straw 121 = .ok (.iinc 7 (-1), 3) := by decide +kernel
theorem dX8_straw_124 : decode cX8_straw 124 = .ok (.goto (-73), 3) := by decide +kernel
theorem dX8_straw_127 : decode cX8_straw 127 = .ok (.iload 5, 2) := by decide +kernel
theorem dX8_straw_129 : decode cX8_straw 129 = .ok (.iload 4, 2) := by decide +kernel
theorem dX8_straw_131 : decode cX8_straw 131 = .ok (.if_icmp .ge 8, 3) := by decide +kernel
theorem dX8_straw_134 : decode cX8_straw 134 = .ok (.bipush (-4), 2) := by decide +kernel
theorem dX8_straw_136 : decode cX8_straw 136 = .ok (.goto 5, 3) := by decide +kernel
theorem dX8_straw_139 : decode cX8_straw 139 = .ok (.iload 6, 2) := by decide +kernel
theorem dX8_straw_141 : decode cX8_straw 141 = .ok (.ireturn, 1) := by decide +kernel
set_option maxRecDepth 20000 in
theorem ggX8_split_X8_isFamily : GoodIn wsX8_split wsX8_isFamily := goodIn_r _ [6, 7, 8, 5, 9] (by decide +kernel) (by decide +kernel)
set_option maxRecDepth 20000 in
theorem gX8_split_X8_isFamily : GoodIn wsX8_split (va_wsS RX8 204 yX8_isFamily wsX8_isFamily) := goodIn_app (goodIn_of _ (by decide +kernel)) ggX8_split_X8_isFamily
set_option maxRecDepth 20000 in
theorem ggX8_split_X8_in : GoodIn wsX8_split wsX8_in := goodIn_r _ [9] (by decide +kernel) (by decide +kernel)
set_option maxRecDepth 20000 in
theorem gX8_split_X8_in : GoodIn wsX8_split (va_wsS RX8 88 yX8_in wsX8_in) := goodIn_app (goodIn_of _ (by decide +kernel)) ggX8_split_X8_in
set_option maxRecDepth 20000 in
theorem ggX8_split_X8_asItIs : GoodIn wsX8_split wsX8_asItIs := goodIn_r _ [13, 1, 2, 14, 15, 5, 16, 40, 41, 42, 43, 44, 45, 46, 47, 48, 49, 50, 51, 52, 53, 54, 55, 56, 57, 58, 59, 60, 61, 62, 63, 64, 65, 66, 67, 68, 69, 70] (by decide +kernel) (by decide +kernel)
set_option maxRecDepth 20000 in
theorem gX8_split_X8_asItIs : GoodIn wsX8_split (wsV RX8 195 RX8 yX8_asItIs wsX8_asItIs) := goodIn_app (goodIn_of _ (by decide +kernel)) ggX8_split_X8_asItIs
set_option maxRecDepth 20000 in
theorem ggX8_split_X8_findFloes : GoodIn wsX8_split wsX8_findFloes := goodIn_r _ [20, 21, 1, 22, 23, 24, 5, 25, 26, 27, 28, 29, 30, 31, 7, 8, 9, 40, 41, 42, 43, 44, 45, 46, 47, 48, 49, 50, 51, 52, 53, 54, 55, 56, 57, 58, 59, 60, 61, 62, 63, 64, 65, 66, 67, 68, 69, 70] (by decide +kernel) (by decide +kernel)
set_option maxRecDepth 20000 in
theorem gX8_split_X8_findFloes : GoodIn wsX8_split (wsV RX8 201 RX8 yX8_findFloes wsX8_findFloes) := goodIn_app (goodIn_of _ (by decide +kernel)) ggX8_split_X8_findFloes
set_option maxRecDepth 20000 in
theorem ggX8_split_X8_largest : GoodIn wsX8_split wsX8_largest := goodIn_r _ [35, 1, 21, 22, 23, 24, 5, 25, 26, 27, 36, 37, 38, 39, 40, 41, 42, 43, 44, 45, 46, 47, 48, 49, 50, 51, 52, 53, 54, 55, 56, 57, 58, 59, 60, 61, 62, 63, 64, 65, 66, 67, 68, 69, 70] (by decide +kernel) (by decide +kernel)
set_option maxRecDepth 20000 in
theorem gX8_split_X8_largest : GoodIn wsX8_split (wsV RX8 210 RX8 yX8_largest wsX8_largest) := goodIn_app (goodIn_of _ (by decide +kernel)) ggX8_split_X8_largest
set_option maxRecDepth 20000 in
theorem ggX8_split_X8_cells : GoodIn wsX8_split wsX8_cells := goodIn_r _ [25, 26, 27, 40, 41, 42, 43, 44, 45, 46, 47, 48, 49, 50, 51, 52, 53, 54, 55, 56, 57, 58, 59, 60, 61, 62, 63, 64, 65, 66, 67, 68, 69, 70] (by decide +kernel) (by decide +kernel)
set_option maxRecDepth 20000 in
theorem gX8_split_X8_cells : GoodIn wsX8_split (wsV RX8 84 RX8 yX8_cells wsX8_cells) := goodIn_app (goodIn_of _ (by decide +kernel)) ggX8_split_X8_cells
theorem dX8_split_0 : decode cX8_split 0 = .ok (.iload_n 1, 1) := by decide +kernel
theorem dX8_split_1 : decode cX8_split 1 = .ok (.invokestatic 204, 3) := by decide +kernel
theorem dX8_split_4 : decode cX8_split 4 = .ok (.ifCond .eq 12, 3) := by decide +kernel
theorem dX8_split_7 : decode cX8_split 7 = .ok (.iload_n 2, 1) := by decide +kernel
theorem dX8_split_8 : decode cX8_split 8 = .ok (.iconst 0, 1) := by decide +kernel
theorem dX8_split_9 : decode cX8_split 9 = .ok (.iconst 1, 1) := by decide +kernel
theorem dX8_split_10 : decode cX8_split 10 = .ok (.invokestatic 88, 3) := by decide +kernel
theorem dX8_split_13 : decode cX8_split 13 = .ok (.ifCond .ne 5, 3) := by decide +kernel
theorem dX8_split_16 : decode cX8_split 16 = .ok (.iconst (-1), 1) := by decide +kernel
theorem dX8_split_17 : decode cX8_split 17 = .ok (.ireturn, 1) := by decide +kernel
theorem dX8_split_18 : decode cX8_split 18 = .ok (.aload_n 0, 1) := by decide +kernel
theorem dX8_split_19 : decode cX8_split 19 = .ok (.invokevirtual 195, 3) := by decide +kernel
theorem dX8_split_22 : decode cX8_split 22 = .ok (.aload_n 0, 1) := by decide +kernel
theorem dX8_split_23 : decode cX8_split 23 = .ok (.invokevirtual 201, 3) := by decide +kernel
theorem dX8_split_26 : decode cX8_split 26 = .ok (.aload_n 0, 1) := by decide +kernel
theorem dX8_split_27 : decode cX8_split 27 = .ok (.iload_n 1, 1) := by decide +kernel
theorem dX8_split_28 : decode cX8_split 28 = .ok (.invokevirtual 210, 3) := by decide +kernel
theorem dX8_split_31 : decode cX8_split 31 = .ok (.istore_n 3, 1) := by decide +kernel
theorem dX8_split_32 : decode cX8_split 32 = .ok (.bipush (-4), 2) := by decide +kernel
theorem dX8_split_34 : decode cX8_split 34 = .ok (.istore 4, 2) := by decide +kernel
theorem dX8_split_36 : decode cX8_split 36 = .ok (.iconst 0, 1) := by decide +kernel
theorem dX8_split_37 : decode cX8_split 37 = .ok (.istore 5, 2) := by decide +kernel
theorem dX8_split_39 : decode cX8_split 39 = .ok (.iload 5, 2) := by decide +kernel
theorem dX8_split_41 : decode cX8_split 41 = .ok (.aload_n 0, 1) := by decide +kernel
theorem dX8_split_42 : decode cX8_split 42 = .ok (.invokevirtual 84, 3) := by decide +kernel
theorem dX8_split_45 : decode cX8_split 45 = .ok (.if_icmp .ge 83, 3) := by decide +kernel
theorem dX8_split_48 : decode cX8_split 48 = .ok (.aload_n 0, 1) := by decide +kernel
theorem dX8_split_49 : decode cX8_split 49 = .ok (.invokevirtual 195, 3) := by decide +kernel
theorem dX8_split_52 : decode cX8_split 52 = .ok (.aload_n 0, 1) := by decide +kernel
theorem dX8_split_53 : decode cX8_split 53 = .ok (.getfield 53, 3) := by decide +kernel
theorem dX8_split_56 : decode cX8_split 56 = .ok (.bipush 49, 2) := by decide +kernel
theorem dX8_split_58 : decode cX8_split 58 = .ok (.iload 5, 2) := by decide +kernel
theorem dX8_split_60 : decode cX8_split 60 = .ok (.iadd, 1) := by decide +kernel
theorem dX8_split_61 : decode cX8_split 61 = .ok (.iconst (-1), 1) := by decide +kernel
theorem dX8_split_62 : decode cX8_split 62 = .ok (.iastore, 1) := by decide +kernel
theorem dX8_split_63 : decode cX8_split 63 = .ok (.aload_n 0, 1) := by decide +kernel
theorem dX8_split_64 : decode cX8_split 64 = .ok (.invokevirtual 201, 3) := by decide +kernel
theorem dX8_split_67 : decode cX8_split 67 = .ok (.aload_n 0, 1) := by decide +kernel
theorem dX8_split_68 : decode cX8_split 68 = .ok (.iload_n 1, 1) := by decide +kernel
theorem dX8_split_69 : decode cX8_split 69 = .ok (.invokevirtual 210, 3) := by decide +kernel
theorem dX8_split_72 : decode cX8_split 72 = .ok (.istore 6, 2) := by decide +kernel
theorem dX8_split_74 : decode cX8_split 74 = .ok (.aload_n 0, 1) := by decide +kernel
theorem dX8_split_75 : decode cX8_split 75 = .ok (.getfield 26, 3) := by decide +kernel
theorem dX8_split_78 : decode cX8_split 78 = .ok (.iload 5, 2) := by decide +kernel
theorem dX8_split_80 : decode cX8_split 80 = .ok (.iaload, 1) := by decide +kernel
theorem dX8_split_81 : decode cX8_split 81 = .ok (.ifCond .le 14, 3) := by decide +kernel
theorem dX8_split_84 : decode cX8_split 84 = .ok (.iload 6, 2) := by decide +kernel
theorem dX8_split_86 : decode cX8_split 86 = .ok (.iload_n 3, 1) := by decide +kernel
theorem dX8_split_87 : decode cX8_split 87 = .ok (.if_icmp .ge 8, 3) := by decide +kernel
theorem dX8_split_90 : decode cX8_split 90 = .ok (.iload 5, 2) := by decide +kernel
theorem dX8_split_92 : decode cX8_split 92 = .ok (.goto 5, 3) := by decide +kernel
theorem dX8_split_95 : decode cX8_split 95 = .ok (.iload 4, 2) := by decide +kernel
theorem dX8_split_97 : decode cX8_split 97 = .ok (.istore 4, 2) := by decide +kernel
theorem dX8_split_99 : decode cX8_split 99 = .ok (.aload_n 0, 1) := by decide +kernel
theorem dX8_split_100 : decode cX8_split 100 = .ok (.getfield 26, 3) := by decide +kernel
theorem dX8_split_103 : decode cX8_split 103 = .ok (.iload 5, 2) := by decide +kernel
theorem dX8_split_105 : decode cX8_split 105 = .ok (.iaload, 1) := by decide +kernel
theorem dX8_split_106 : decode cX8_split 106 = .ok (.ifCond .le 14, 3) := by decide +kernel
theorem dX8_split_109 : decode cX8_split 109 = .ok (.iload 6, 2) := by decide +kernel
theorem dX8_split_111 : decode cX8_split 111 = .ok (.iload_n 3, 1) := by decide +kernel
theorem dX8_split_112 : decode cX8_split 112 = .ok (.if_icmp .ge 8, 3) := by decide +kernel
theorem dX8_split_115 : decode cX8_split 115 = .ok (.iload 6, 2) := by decide +kernel
theorem dX8_split_117 : decode cX8_split 117 = .ok (.goto 4, 3) := by decide +kernel
theorem dX8_split_120 : decode cX8_split 120 = .ok (.iload_n 3, 1) := by decide +kernel
theorem dX8_split_121 : decode cX8_split 121 = .ok (.istore_n 3, 1) := by decide +kernel
theorem dX8_split_122 : decode cX8_split 122 = .ok (.iinc 5 1, 3) := by decide +kernel
theorem dX8_split_125 : decode cX8_split 125 = .ok (.goto (-86), 3) := by decide +kernel
theorem dX8_split_128 : decode cX8_split 128 = .ok (.iload 4, 2) := by decide +kernel
theorem dX8_split_130 : decode cX8_split 130 = .ok (.bipush (-4), 2) := by decide +kernel
theorem dX8_split_132 : decode cX8_split 132 = .ok (.if_icmp .eq 7, 3) := by decide +kernel
theorem dX8_split_135 : decode cX8_split 135 = .ok (.iload_n 2, 1) := by decide +kernel
theorem dX8_split_136 : decode cX8_split 136 = .ok (.ifCond .ne 8, 3) := by decide +kernel
theorem dX8_split_139 : decode cX8_split 139 = .ok (.iload 4, 2) := by decide +kernel
theorem dX8_split_141 : decode cX8_split 141 = .ok (.goto 4, 3) := by decide +kernel
theorem dX8_split_144 : decode cX8_split 144 = .ok (.iload_n 3, 1) := by decide +kernel
theorem dX8_split_145 : decode cX8_split 145 = .ok (.ireturn, 1) := by decide +kernel
set_option maxRecDepth 20000 in
theorem ggX8_drill_X8_isCell : GoodIn wsX8_drill wsX8_isCell := goodIn_r _ [7, 8, 9, 10, 6, 11, 12, 13, 14, 15, 16, 17, 18, 19, 20, 21, 22, 23, 24, 25, 26, 27, 28, 29, 30, 31, 32, 33, 34, 35, 36, 37, 38, 39, 40, 41, 42, 43, 44, 45, 46, 47] (by decide +kernel) (by decide +kernel)
set_option maxRecDepth 20000 in
theorem gX8_drill_X8_isCell : GoodIn wsX8_drill (wsV RX8 192 RX8 yX8_isCell wsX8_isCell) := goodIn_app (goodIn_of _ (by decide +kernel)) ggX8_drill_X8_isCell
set_option maxRecDepth 20000 in
theorem ggX8_drill_X8_in : GoodIn wsX8_drill wsX8_in := goodIn_r _ [16] (by decide +kernel) (by decide +kernel)
set_option maxRecDepth 20000 in
theorem gX8_drill_X8_in : GoodIn wsX8_drill (va_wsS RX8 88 yX8_in wsX8_in) := goodIn_app (goodIn_of _ (by decide +kernel)) ggX8_drill_X8_in
theorem dX8_drill_0 : decode cX8_drill 0 = .ok (.aload_n 0, 1) := by decide +kernel
theorem dX8_drill_1 : decode cX8_drill 1 = .ok (.iload_n 1, 1) := by decide +kernel
theorem dX8_drill_2 : decode cX8_drill 2 = .ok (.invokevirtual 192, 3) := by decide +kernel
theorem dX8_drill_5 : decode cX8_drill 5 = .ok (.ifCond .eq 13, 3) := by decide +kernel
theorem dX8_drill_8 : decode cX8_drill 8 = .ok (.iload_n 2, 1) := by decide +kernel
theorem dX8_drill_9 : decode cX8_drill 9 = .ok (.iconst 0, 1) := by decide +kernel
theorem dX8_drill_10 : decode cX8_drill 10 = .ok (.bipush 60, 2) := by decide +kernel
theorem dX8_drill_12 : decode cX8_drill 12 = .ok (.invokestatic 88, 3) := by decide +kernel
theorem dX8_drill_15 : decode cX8_drill 15 = .ok (.ifCond .ne 5, 3) := by decide +kernel
theorem dX8_drill_18 : decode cX8_drill 18 = .ok (.iconst (-1), 1) := by decide +kernel
theorem dX8_drill_19 : decode cX8_drill 19 = .ok (.ireturn, 1) := by decide +kernel
theorem dX8_drill_20 : decode cX8_drill 20 = .ok (.aload_n 0, 1) := by decide +kernel
theorem dX8_drill_21 : decode cX8_drill 21 = .ok (.getfield 169, 3) := by decide +kernel
theorem dX8_drill_24 : decode cX8_drill 24 = .ok (.bipush 6, 2) := by decide +kernel
theorem dX8_drill_26 : decode cX8_drill 26 = .ok (.if_icmp .ne 6, 3) := by decide +kernel
theorem dX8_drill_29 : decode cX8_drill 29 = .ok (.bipush (-3), 2) := by decide +kernel
theorem dX8_drill_31 : decode cX8_drill 31 = .ok (.ireturn, 1) := by decide +kernel
theorem dX8_drill_32 : decode cX8_drill 32 = .ok (.aload_n 0, 1) := by decide +kernel
theorem dX8_drill_33 : decode cX8_drill 33 = .ok (.getfield 35, 3) := by decide +kernel
theorem dX8_drill_36 : decode cX8_drill 36 = .ok (.iconst 2, 1) := by decide +kernel
theorem dX8_drill_37 : decode cX8_drill 37 = .ok (.aload_n 0, 1) := by decide +kernel
theorem dX8_drill_38 : decode cX8_drill 38 = .ok (.getfield 169, 3) := by decide +kernel
theorem dX8_drill_41 : decode cX8_drill 41 = .ok (.imul, 1) := by decide +kernel
theorem dX8_drill_42 : decode cX8_drill 42 = .ok (.iload_n 1, 1) := by decide +kernel
theorem dX8_drill_43 : decode cX8_drill 43 = .ok (.iastore, 1) := by decide +kernel
theorem dX8_drill_44 : decode cX8_drill 44 = .ok (.aload_n 0, 1) := by decide +kernel
theorem dX8_drill_45 : decode cX8_drill 45 = .ok (.getfield 35, 3) := by decide +kernel
theorem dX8_drill_48 : decode cX8_drill 48 = .ok (.iconst 2, 1) := by decide +kernel
theorem dX8_drill_49 : decode cX8_drill 49 = .ok (.aload_n 0, 1) := by decide +kernel
theorem dX8_drill_50 : decode cX8_drill 50 = .ok (.getfield 169, 3) := by decide +kernel
theorem dX8_drill_53 : decode cX8_drill 53 = .ok (.imul, 1) := by decide +kernel
theorem dX8_drill_54 : decode cX8_drill 54 = .ok (.iconst 1, 1) := by decide +kernel
theorem dX8_drill_55 : decode cX8_drill 55 = .ok (.iadd, 1) := by decide +kernel
theorem dX8_drill_56 : decode cX8_drill 56 = .ok (.iload_n 2, 1) := by decide +kernel
theorem dX8_drill_57 : decode cX8_drill 57 = .ok (.iastore, 1) := by decide +kernel
theorem dX8_drill_58 : decode cX8_drill 58 = .ok (.aload_n 0, 1) := by decide +kernel
theorem dX8_drill_59 : decode cX8_drill 59 = .ok (.dup, 1) := by decide +kernel
theorem dX8_drill_60 : decode cX8_drill 60 = .ok (.getfield 169, 3) := by decide +kernel
theorem dX8_drill_63 : decode cX8_drill 63 = .ok (.iconst 1, 1) := by decide +kernel
theorem dX8_drill_64 : decode cX8_drill 64 = .ok (.iadd, 1) := by decide +kernel
theorem dX8_drill_65 : decode cX8_drill 65 = .ok (.putfield 169, 3) := by decide +kernel
theorem dX8_drill_68 : decode cX8_drill 68 = .ok (.aload_n 0, 1) := by decide +kernel
theorem dX8_drill_69 : decode cX8_drill 69 = .ok (.getfield 169, 3) := by decide +kernel
theorem dX8_drill_72 : decode cX8_drill 72 = .ok (.ireturn, 1) := by decide +kernel
theorem dX8_forget_0 : decode cX8_forget 0 = .ok (.aload_n 0, 1) := by decide +kernel
theorem dX8_forget_1 : decode cX8_forget 1 = .ok (.getfield 169, 3) := by decide +kernel
theorem dX8_forget_4 : decode cX8_forget 4 = .ok (.istore_n 1, 1) := by decide +kernel
theorem dX8_forget_5 : decode cX8_forget 5 = .ok (.aload_n 0, 1) := by decide +kernel
theorem dX8_forget_6 : decode cX8_forget 6 = .ok (.iconst 0, 1) := by decide +kernel
theorem dX8_forget_7 : decode cX8_forget 7 = .ok (.putfield 169, 3) := by decide +kernel
theorem dX8_forget_10 : decode cX8_forget 10 = .ok (.iload_n 1, 1) := by decide +kernel
theorem dX8_forget_11 : decode cX8_forget 11 = .ok (.ireturn, 1) := by decide +kernel
set_option maxRecDepth 20000 in
theorem ggX8_colds_X8_in : GoodIn wsX8_colds wsX8_in := goodIn_r _ [6] (by decide +kernel) (by decide +kernel)
set_option maxRecDepth 20000 in
theorem gX8_colds_X8_in : GoodIn wsX8_colds (va_wsS RX8 88 yX8_in wsX8_in) := goodIn_app (goodIn_of _ (by decide +kernel)) ggX8_colds_X8_in
set_option maxRecDepth 20000 in
theorem ggX8_colds_X8_asItIs : GoodIn wsX8_colds wsX8_asItIs := goodIn_r _ [10, 11, 12, 13, 14, 5, 15, 21, 22, 23, 24, 25, 26, 27, 28, 29, 30, 31, 32, 33, 34, 35, 36, 37, 38, 39, 40, 41, 42, 43, 44, 45, 46, 47, 48, 49, 50, 51] (by decide +kernel) (by decide +kernel)
set_option maxRecDepth 20000 in
theorem gX8_colds_X8_asItIs : GoodIn wsX8_colds (wsV RX8 195 RX8 yX8_asItIs wsX8_asItIs) := goodIn_app (goodIn_of _ (by decide +kernel)) ggX8_colds_X8_asItIs
set_option maxRecDepth 20000 in
theorem ggX8_colds_X8_thicker : GoodIn wsX8_colds wsX8_thicker := goodIn_r _ [19, 11, 20, 21, 22, 23, 24, 25, 26, 27, 28, 29, 30, 31, 32, 33, 34, 35, 36, 37, 38, 39, 40, 41, 42, 43, 44, 45, 46, 47, 48, 49, 50, 51] (by decide +kernel) (by decide +kernel)
set_option maxRecDepth 20000 in
theorem gX8_colds_X8_thicker : GoodIn wsX8_colds (wsV RX8 176 RX8 yX8_thicker wsX8_thicker) := goodIn_app (goodIn_of _ (by decide +kernel)) ggX8_colds_X8_thicker
theorem dX8_colds_0 : decode cX8_colds 0 = .ok (.iload_n 1, 1) := by decide +kernel
theorem dX8_colds_1 : decode cX8_colds 1 = .ok (.iconst 0, 1) := by decide +kernel
theorem dX8_colds_2 : decode cX8_colds 2 = .ok (.iconst 1, 1) := by decide +kernel
theorem dX8_colds_3 : decode cX8_colds 3 = .ok (.invokestatic 88, 3) := by decide +kernel
theorem dX8_colds_6 : decode cX8_colds 6 = .ok (.ifCond .ne 5, 3) := by decide +kernel
theorem dX8_colds_9 : decode cX8_colds 9 = .ok (.iconst (-1), 1) := by decide +kernel
theorem dX8_colds_10 : decode cX8_colds 10 = .ok (.ireturn, 1) := by decide +kernel
theorem dX8_colds_11 : decode cX8_colds 11 = .ok (.aload_n 0, 1) := by decide +kernel
theorem dX8_colds_12 : decode cX8_colds 12 = .ok (.invokevirtual 195, 3) := by decide +kernel
theorem dX8_colds_15 : decode cX8_colds 15 = .ok (.iconst 0, 1) := by decide +kernel
theorem dX8_colds_16 : decode cX8_colds 16 = .ok (.istore_n 2, 1) := by decide +kernel
theorem dX8_colds_17 : decode cX8_colds 17 = .ok (.bipush (-4), 2) := by decide +kernel
theorem dX8_colds_19 : decode cX8_colds 19 = .ok (.istore_n 3, 1) := by decide +kernel
theorem dX8_colds_20 : decode cX8_colds 20 = .ok (.bipush 40, 2) := by decide +kernel
theorem dX8_colds_22 : decode cX8_colds 22 = .ok (.istore 4, 2) := by decide +kernel
theorem dX8_colds_24 : decode cX8_colds 24 = .ok (.iload 4, 2) := by decide +kernel
theorem dX8_colds_26 : decode cX8_colds 26 = .ok (.ifCond .lt 99, 3) := by decide +kernel
theorem dX8_colds_29 : decode cX8_colds 29 = .ok (.iconst 1, 1) := by decide +kernel
theorem dX8_colds_30 : decode cX8_colds 30 = .ok (.istore 5, 2) := by decide +kernel
theorem dX8_colds_32 : decode cX8_colds 32 = .ok (.iconst 0, 1) := by decide +kernel
theorem dX8_colds_33 : decode cX8_colds 33 = .ok (.istore 6, 2) := by decide +kernel
theorem dX8_colds_35 : decode cX8_colds 35 = .ok (.iload 6, 2) := by decide +kernel
theorem dX8_colds_37 : decode cX8_colds 37 = .ok (.aload_n 0, 1) := by decide +kernel
theorem dX8_colds_38 : decode cX8_colds 38 = .ok (.getfield 169, 3) := by decide +kernel
theorem dX8_colds_41 : decode cX8_colds 41 = .ok (.if_icmp .ge 53, 3) := by decide +kernel
theorem dX8_colds_44 : decode cX8_colds 44 = .ok (.iload 5, 2) := by decide +kernel
theorem dX8_colds_46 : decode cX8_colds 46 = .ok (.ifCond .eq 39, 3) := by decide +kernel
theorem dX8_colds_49 : decode cX8_colds 49 = .ok (.aload_n 0, 1) := by decide +kernel
theorem dX8_colds_50 : decode cX8_colds 50 = .ok (.aload_n 0, 1) := by decide +kernel
theorem dX8_colds_51 : decode cX8_colds 51 = .ok (.getfield 35, 3) := by decide +kernel
theorem dX8_colds_54 : decode cX8_colds 54 = .ok (.iconst 2, 1) := by decide +kernel
theorem dX8_colds_55 : decode cX8_colds 55 = .ok (.iload 6, 2) := by decide +kernel
theorem dX8_colds_57 : decode cX8_colds 57 = .ok (.imul, 1) := by decide +kernel
theorem dX8_colds_58 : decode cX8_colds 58 = .ok (.iaload, 1) := by decide +kernel
theorem dX8_colds_59 : decode cX8_colds 59 = .ok (.iload 4, 2) := by decide +kernel
theorem dX8_colds_61 : decode cX8_colds 61 = .ok (.bipush 20, 2) := by decide +kernel
theorem dX8_colds_63 : decode cX8_colds 63 = .ok (.isub, 1) := by decide +kernel
theorem dX8_colds_64 : decode cX8_colds 64 = .ok (.invokevirtual 176, 3) := by decide +kernel
theorem dX8_colds_67 : decode cX8_colds 67 = .ok (.aload_n 0, 1) := by decide +kernel
theorem dX8_colds_68 : decode cX8_colds 68 = .ok (.getfield 35, 3) := by decide +kernel
theorem dX8_colds_71 : decode cX8_colds 71 = .ok (.iconst 2, 1) := by decide +kernel
theorem dX8_colds_72 : decode cX8_colds 72 = .ok (.iload 6, 2) := by decide +kernel
theorem dX8_colds_74 : decode cX8_colds 74 = .ok (.imul, 1) := by decide +kernel
theorem dX8_colds_75 : decode cX8_colds 75 = .ok (.iconst 1, 1) := by decide +kernel
theorem dX8_colds_76 : decode cX8_colds 76 = .ok (.iadd, 1) := by decide +kernel
theorem dX8_colds_77 : decode cX8_colds 77 = .ok (.iaload, 1) := by decide +kernel
theorem dX8_colds_78 : decode cX8_colds 78 = .ok (.if_icmp .ne 7, 3) := by decide +kernel
theorem dX8_colds_81 : decode cX8_colds 81 = .ok (.iconst 1, 1) := by decide +kernel
theorem dX8_colds_82 : decode cX8_colds 82 = .ok (.goto 4, 3) := by decide +kernel
theorem dX8_colds_85 : decode cX8_colds 85 = .ok (.iconst 0, 1) := by decide +kernel
theorem dX8_colds_86 : decode cX8_colds 86 = .ok (.istore 5, 2) := by decide +kernel
theorem dX8_colds_88 : decode cX8_colds 88 = .ok (.iinc 6 1, 3) := by decide +kernel
theorem dX8_colds_91 : decode cX8_colds 91 = .ok (.goto (-56), 3) := by decide +kernel
theorem dX8_colds_94 : decode cX8_colds 94 = .ok (.iload_n 2, 1) := by decide +kernel
theorem dX8_colds_95 : decode cX8_colds 95 = .ok (.iload 5, 2) := by decide +kernel
theorem dX8_colds_97 : decode cX8_colds 97 = .ok (.ifCond .eq 7, 3) := by decide +kernel
theorem dX8_colds_100 : decode cX8_colds 100 = .ok (.iconst 1, 1) := by decide +kernel
theorem dX8_colds_101 : decode cX8_colds 101 = .ok (.goto 4, 3) := by decide +kernel
theorem dX8_colds_104 : decode cX8_colds 104 = .ok (.iconst 0, 1) := by decide +kernel
theorem dX8_colds_105 : decode cX8_colds 105 = .ok (.iadd, 1) := by decide +kernel
theorem dX8_colds_106 : decode cX8_colds 106 = .ok (.istore_n 2, 1) := by decide +kernel
theorem dX8_colds_107 : decode cX8_colds 107 = .ok (.iload 5, 2) := by decide +kernel
theorem dX8_colds_109 : decode cX8_colds 109 = .ok (.ifCond .eq 8, 3) := by decide +kernel
theorem dX8_colds_112 : decode cX8_colds 112 = .ok (.iload 4, 2) := by decide +kernel
theorem dX8_colds_114 : decode cX8_colds 114 = .ok (.goto 4, 3) := by decide +kernel
theorem dX8_colds_117 : decode cX8_colds 117 = .ok (.iload_n 3, 1) := by decide +kernel
theorem dX8_colds_118 : decode cX8_colds 118 = .ok (.istore_n 3, 1) := by decide +kernel
theorem dX8_colds_119 : decode cX8_colds 119 = .ok (.iinc 4 (-1), 3) := by decide +kernel
theorem dX8_colds_122 : decode cX8_colds 122 = .ok (.goto (-98), 3) := by decide +kernel
theorem dX8_colds_125 : decode cX8_colds 125 = .ok (.iload_n 1, 1) := by decide +kernel
theorem dX8_colds_126 : decode cX8_colds 126 = .ok (.ifCond .ne 7, 3) := by decide +kernel
theorem dX8_colds_129 : decode cX8_colds 129 = .ok (.iload_n 2, 1) := by decide +kernel
theorem dX8_colds_130 : decode cX8_colds 130 = .ok (.goto 4, 3) := by decide +kernel
theorem dX8_colds_133 : decode cX8_colds 133 = .ok (.iload_n 3, 1) := by decide +kernel
theorem dX8_colds_134 : decode cX8_colds 134 = .ok (.ireturn, 1) := by decide +kernel
set_option maxRecDepth 20000 in
theorem ggX8_across_X8_asItIs : GoodIn wsX8_across wsX8_asItIs := goodIn_r _ [7, 8, 9, 10, 11, 6, 12, 38, 39, 40, 41, 42, 43, 44, 45, 46, 47, 48, 49, 50, 51, 52, 53, 54, 55, 56, 57, 58, 59, 60, 61, 62, 63, 64, 65, 66, 67, 68] (by decide +kernel) (by decide +kernel)
set_option maxRecDepth 20000 in
theorem gX8_across_X8_asItIs : GoodIn wsX8_across (wsV RX8 195 RX8 yX8_asItIs wsX8_asItIs) := goodIn_app (goodIn_of _ (by decide +kernel)) ggX8_across_X8_asItIs
set_option maxRecDepth 20000 in
theorem ggX8_across_X8_cells : GoodIn wsX8_across wsX8_cells := goodIn_r _ [16, 17, 2, 38, 39, 40, 41, 42, 43, 44, 45, 46, 47, 48, 49, 50, 51, 52, 53, 54, 55, 56, 57, 58, 59, 60, 61, 62, 63, 64, 65, 66, 67, 68] (by decide +kernel) (by decide +kernel)
set_option maxRecDepth 20000 in
theorem gX8_across_X8_cells : GoodIn wsX8_across (wsV RX8 84 RX8 yX8_cells wsX8_cells) := goodIn_app (goodIn_of _ (by decide +kernel)) ggX8_across_X8_cells
set_option maxRecDepth 20000 in
theorem ggX8_across_X8_costOf : GoodIn wsX8_across wsX8_costOf := goodIn_r _ [21, 8, 22, 23, 24, 6, 25, 26, 27, 28, 29, 30, 2, 17, 31, 32, 33, 38, 39, 40, 41, 42, 43, 44, 45, 46, 47, 48, 49, 50, 51, 52, 53, 54, 55, 56, 57, 58, 59, 60, 61, 62, 63, 64, 65, 66, 67, 68] (by decide +kernel) (by decide +kernel)
set_option maxRecDepth 20000 in
theorem gX8_across_X8_costOf : GoodIn wsX8_across (wsV RX8 219 RX8 yX8_costOf wsX8_costOf) := goodIn_app (goodIn_of _ (by decide +kernel)) ggX8_across_X8_costOf
set_option maxRecDepth 20000 in
theorem ggX8_across_X8_lowers : GoodIn wsX8_across wsX8_lowers := goodIn_r _ [37, 1, 13, 14, 15, 6, 16, 17, 2, 18, 19, 20, 21, 8, 22, 23, 24, 25, 26, 27, 28, 29, 30, 31, 32, 33, 38, 39, 40, 41, 42, 43, 44, 45, 46, 47, 48, 49, 50, 51, 52, 53, 54, 55, 56, 57, 58, 59, 60, 61, 62, 63, 64, 65, 66, 67, 68] (by decide +kernel) (by decide +kernel)
set_option maxRecDepth 20000 in
theorem gX8_across_X8_lowers : GoodIn wsX8_across (wsV RX8 223 RX8 yX8_lowers wsX8_lowers) := goodIn_app (goodIn_of _ (by decide +kernel)) ggX8_across_X8_lowers
theorem dX8_across_0 : decode cX8_across 0 = .ok (.aload_n 0, 1) := by decide +kernel
theorem dX8_across_1 : decode cX8_across 1 = .ok (.invokevirtual 195, 3) := by decide +kernel
theorem dX8_across_4 : decode cX8_across 4 = .ok (.iconst 0, 1) := by decide +kernel
theorem dX8_across_5 : decode cX8_across 5 = .ok (.istore_n 1, 1) := by decide +kernel
theorem dX8_across_6 : decode cX8_across 6 = .ok (.iload_n 1, 1) := by decide +kernel
theorem dX8_across_7 : decode cX8_across 7 = .ok (.aload_n 0, 1) := by decide +kernel
theorem dX8_across_8 : decode cX8_across 8 = .ok (.invokevirtual 84, 3) := by decide +kernel
theorem dX8_across_11 : decode cX8_across 11 = .ok (.if_icmp .ge 36, 3) := by decide +kernel
theorem dX8_across_14 : decode cX8_across 14 = .ok (.aload_n 0, 1) := by decide +kernel
theorem dX8_across_15 : decode cX8_across 15 = .ok (.getfield 62, 3) := by decide +kernel
theorem dX8_across_18 : decode cX8_across 18 = .ok (.iload_n 1, 1) := by decide +kernel
theorem dX8_across_19 : decode cX8_across 19 = .ok (.iload_n 1, 1) := by decide +kernel
theorem dX8_across_20 : decode cX8_across 20 = .ok (.aload_n 0, 1) := by decide +kernel
theorem dX8_across_21 : decode cX8_across 21 = .ok (.getfield 13, 3) := by decide +kernel
theorem dX8_across_24 : decode cX8_across 24 = .ok (.if_icmp .ge 13, 3) := by decide +kernel
theorem dX8_across_27 : decode cX8_across 27 = .ok (.aload_n 0, 1) := by decide +kernel
theorem dX8_across_28 : decode cX8_across 28 = .ok (.iload_n 1, 1) := by decide +kernel
theorem dX8_across_29 : decode cX8_across 29 = .ok (.iconst (-1), 1) := by decide +kernel
theorem dX8_across_30 : decode cX8_across 30 = .ok (.iconst 0, 1) := by decide +kernel
theorem dX8_across_31 : decode cX8_across 31 = .ok (.invokevirtual 219, 3) := by decide +kernel
theorem dX8_across_34 : decode cX8_across 34 = .ok (.goto 6, 3) := by decide +kernel
theorem dX8_across_37 : decode cX8_across 37 = .ok (.sipush 10000, 3) := by decide +kernel
theorem dX8_across_40 : decode cX8_across 40 = .ok (.iastore, 1) := by decide +kernel
theorem dX8_across_41 : decode cX8_across 41 = .ok (.iinc 1 1, 3) := by decide +kernel
theorem dX8_across_44 : decode cX8_across 44 = .ok (.goto (-38), 3) := by decide +kernel
theorem dX8_across_47 : decode cX8_across 47 = .ok (.aload_n 0, 1) := by decide +kernel
theorem dX8_across_48 : decode cX8_across 48 = .ok (.iconst (-1), 1) := by decide +kernel
theorem dX8_across_49 : decode cX8_across 49 = .ok (.iconst 0, 1) := by decide +kernel
theorem dX8_across_50 : decode cX8_across 50 = .ok (.invokevirtual 223, 3) := by decide +kernel
theorem dX8_across_53 : decode cX8_across 53 = .ok (.sipush 10000, 3) := by decide +kernel
theorem dX8_across_56 : decode cX8_across 56 = .ok (.istore_n 1, 1) := by decide +kernel
theorem dX8_across_57 : decode cX8_across 57 = .ok (.aload_n 0, 1) := by decide +kernel
theorem dX8_across_58 : decode cX8_across 58 = .ok (.invokevirtual 84, 3) := by decide +kernel
theorem dX8_across_61 : decode cX8_across 61 = .ok (.aload_n 0, 1) := by decide +kernel
theorem dX8_across_62 : decode cX8_across 62 = .ok (.getfield 13, 3) := by decide +kernel
theorem dX8_across_65 : decode cX8_across 65 = .ok (.isub, 1) := by decide +kernel
theorem dX8_across_66 : decode cX8_across 66 = .ok (.istore_n 2, 1) := by decide +kernel
theorem dX8_across_67 : decode cX8_across 67 = .ok (.iload_n 2, 1) := by decide +kernel
theorem dX8_across_68 : decode cX8_across 68 = .ok (.aload_n 0, 1) := by decide +kernel
theorem dX8_across_69 : decode cX8_across 69 = .ok (.invokevirtual 84, 3) := by decide +kernel
theorem dX8_across_72 : decode cX8_across 72 = .ok (.if_icmp .ge 30, 3) := by decide +kernel
theorem dX8_across_75 : decode cX8_across 75 = .ok (.aload_n 0, 1) := by decide +kernel
theorem dX8_across_76 : decode cX8_across 76 = .ok (.getfield 62, 3) := by decide +kernel
theorem dX8_across_79 : decode cX8_across 79 = .ok (.iload_n 2, 1) := by decide +kernel
theorem dX8_across_80 : decode cX8_across 80 = .ok (.iaload, 1) := by decide +kernel
theorem dX8_across_81 : decode cX8_across 81 = .ok (.iload_n 1, 1) := by decide +kernel
theorem dX8_across_82 : decode cX8_across 82 = .ok (.if_icmp .ge 12, 3) := by decide +kernel
theorem dX8_across_85 : decode cX8_across 85 = .ok (.aload_n 0, 1) := by decide +kernel
theorem dX8_across_86 : decode cX8_across 86 = .ok (.getfield 62, 3) := by decide +kernel
theorem dX8_across_89 : decode cX8_across 89 = .ok (.iload_n 2, 1) := by decide +kernel
theorem dX8_across_90 : decode cX8_across 90 = .ok (.iaload, 1) := by decide +kernel
theorem dX8_across_91 : decode cX8_across 91 = .ok (.goto 4, 3) := by decide +kernel
theorem dX8_across_94 : decode cX8_across 94 = .ok (.iload_n 1, 1) := by decide +kernel
theorem dX8_across_95 : decode cX8_across 95 = .ok (.istore_n 1, 1) := by decide +kernel
theorem dX8_across_96 : decode cX8_across 96 = .ok (.iinc 2 1, 3) := by decide +kernel
theorem dX8_across_99 : decode cX8_across 99 = .ok (.goto (-32), 3) := by decide +kernel
theorem dX8_across_102 : decode cX8_across 102 = .ok (.iload_n 1, 1) := by decide +kernel
theorem dX8_across_103 : decode cX8_across 103 = .ok (.ireturn, 1) := by decide +kernel
set_option maxRecDepth 20000 in
theorem ggX8_shares_X8_isCell : GoodIn wsX8_shares wsX8_isCell := goodIn_r _ [7, 8, 9, 10, 6, 11, 12, 13, 14, 15, 16, 41, 42, 43, 44, 45, 46, 47, 48, 49, 50, 51, 52, 53, 54, 55, 56, 57, 58, 59, 60, 61, 62, 63, 64, 65, 66, 67, 68, 69, 70, 71] (by decide +kernel) (by decide +kernel)
set_option maxRecDepth 20000 in
theorem gX8_shares_X8_isCell : GoodIn wsX8_shares (wsV RX8 192 RX8 yX8_isCell wsX8_isCell) := goodIn_app (goodIn_of _ (by decide +kernel)) ggX8_shares_X8_isCell
set_option maxRecDepth 20000 in
theorem ggX8_shares_X8_isFamily : GoodIn wsX8_shares wsX8_isFamily := goodIn_r _ [19, 14, 15, 6, 16] (by decide +kernel) (by decide +kernel)
set_option maxRecDepth 20000 in
theorem gX8_shares_X8_isFamily : GoodIn wsX8_shares (va_wsS RX8 204 yX8_isFamily wsX8_isFamily) := goodIn_app (goodIn_of _ (by decide +kernel)) ggX8_shares_X8_isFamily
set_option maxRecDepth 20000 in
theorem ggX8_shares_X8_in : GoodIn wsX8_shares wsX8_in := goodIn_r _ [16] (by decide +kernel) (by decide +kernel)
set_option maxRecDepth 20000 in
theorem gX8_shares_X8_in : GoodIn wsX8_shares (va_wsS RX8 88 yX8_in wsX8_in) := goodIn_app (goodIn_of _ (by decide +kernel)) ggX8_shares_X8_in
set_option maxRecDepth 20000 in
theorem ggX8_shares_X8_asItIs : GoodIn wsX8_shares wsX8_asItIs := goodIn_r _ [23, 24, 25, 26, 27, 6, 28, 41, 42, 43, 44, 45, 46, 47, 48, 49, 50, 51, 52, 53, 54, 55, 56, 57, 58, 59, 60, 61, 62, 63, 64, 65, 66, 67, 68, 69, 70, 71] (by decide +kernel) (by decide +kernel)
set_option maxRecDepth 20000 in
theorem gX8_shares_X8_asItIs : GoodIn wsX8_shares (wsV RX8 195 RX8 yX8_asItIs wsX8_asItIs) := goodIn_app (goodIn_of _ (by decide +kernel)) ggX8_shares_X8_asItIs
set_option maxRecDepth 20000 in
theorem ggX8_shares_X8_findFloes : GoodIn wsX8_shares wsX8_findFloes := goodIn_r _ [32, 1, 24, 8, 9, 10, 6, 11, 12, 13, 33, 34, 35, 36, 14, 15, 16, 41, 42, 43, 44, 45, 46, 47, 48, 49, 50, 51, 52, 53, 54, 55, 56, 57, 58, 59, 60, 61, 62, 63, 64, 65, 66, 67, 68, 69, 70, 71] (by decide +kernel) (by decide +kernel)
set_option maxRecDepth 20000 in
theorem gX8_shares_X8_findFloes : GoodIn wsX8_shares (wsV RX8 201 RX8 yX8_findFloes wsX8_findFloes) := goodIn_app (goodIn_of _ (by decide +kernel)) ggX8_shares_X8_findFloes
set_option maxRecDepth 20000 in
theorem ggX8_shares_X8_floeSize : GoodIn wsX8_shares wsX8_floeSize := goodIn_r _ [40, 1, 8, 9, 10, 6, 11, 12, 13, 41, 42, 43, 44, 45, 46, 47, 48, 49, 50, 51, 52, 53, 54, 55, 56, 57, 58, 59, 60, 61, 62, 63, 64, 65, 66, 67, 68, 69, 70, 71] (by decide +kernel) (by decide +kernel)
set_option maxRecDepth 20000 in
theorem gX8_shares_X8_floeSize : GoodIn wsX8_shares (wsV RX8 189 RX8 yX8_floeSize wsX8_floeSize) := goodIn_app (goodIn_of _ (by decide +kernel)) ggX8_shares_X8_floeSize
set_option maxRecDepth 20000 in
theorem ggX8_shares_X8_cells : GoodIn wsX8_shares wsX8_cells := goodIn_r _ [11, 12, 13, 41, 42, 43, 44, 45, 46, 47, 48, 49, 50, 51, 52, 53, 54, 55, 56, 57, 58, 59, 60, 61, 62, 63, 64, 65, 66, 67, 68, 69, 70, 71] (by decide +kernel) (by decide +kernel)
set_option maxRecDepth 20000 in
theorem gX8_shares_X8_cells : GoodIn wsX8_shares (wsV RX8 84 RX8 yX8_cells wsX8_cells) := goodIn_app (goodIn_of _ (by decide +kernel)) ggX8_shares_X8_cells
theorem dX8_shares_0 : decode cX8_shares 0 = .ok (.aload_n 0, 1) := by decide +kernel
theorem dX8_shares_1 : decode cX8_shares 1 = .ok (.iload_n 1, 1) := by decide +kernel
theorem dX8_shares_2 : decode cX8_shares 2 = .ok (.invokevirtual 192, 3) := by decide +kernel
theorem dX8_shares_5 : decode cX8_shares 5 = .ok (.ifCond .eq 19, 3) := by decide +kernel
theorem dX8_shares_8 : decode cX8_shares 8 = .ok (.iload_n 2, 1) := by decide +kernel
theorem dX8_shares_9 : decode cX8_shares 9 = .ok (.invokestatic 204, 3) := by decide +kernel
theorem dX8_shares_12 : decode cX8_shares 12 = .ok (.ifCond .eq 12, 3) := by decide +kernel
theorem dX8_shares_15 : decode cX8_shares 15 = .ok (.iload_n 3, 1) := by decide +kernel
theorem dX8_shares_16 : decode cX8_shares 16 = .ok (.iconst 0, 1) := by decide +kernel
theorem dX8_shares_17 : decode cX8_shares 17 = .ok (.iconst 1, 1) := by decide +kernel
theorem dX8_shares_18 : decode cX8_shares 18 = .ok (.invokestatic 88, 3) := by decide +kernel
theorem dX8_shares_21 : decode cX8_shares 21 = .ok (.ifCond .ne 5, 3) := by decide +kernel
theorem dX8_shares_24 : decode cX8_shares 24 = .ok (.iconst (-1), 1) := by decide +kernel
theorem dX8_shares_25 : decode cX8_shares 25 = .ok (.ireturn, 1) := by decide +kernel
theorem dX8_shares_26 : decode cX8_shares 26 = .ok (.aload_n 0, 1) := by decide +kernel
theorem dX8_shares_27 : decode cX8_shares 27 = .ok (.invokevirtual 195, 3) := by decide +kernel
theorem dX8_shares_30 : decode cX8_shares 30 = .ok (.aload_n 0, 1) := by decide +kernel
theorem dX8_shares_31 : decode cX8_shares 31 = .ok (.invokevirtual 201, 3) := by decide +kernel
theorem dX8_shares_34 : decode cX8_shares 34 = .ok (.aload_n 0, 1) := by decide +kernel
theorem dX8_shares_35 : decode cX8_shares 35 = .ok (.getfield 59, 3) := by decide +kernel
theorem dX8_shares_38 : decode cX8_shares 38 = .ok (.iload_n 1, 1) := by decide +kernel
theorem dX8_shares_39 : decode cX8_shares 39 = .ok (.iaload, 1) := by decide +kernel
theorem dX8_shares_40 : decode cX8_shares 40 = .ok (.ifCond .ge 6, 3) := by decide +kernel
theorem dX8_shares_43 : decode cX8_shares 43 = .ok (.bipush (-4), 2) := by decide +kernel
theorem dX8_shares_45 : decode cX8_shares 45 = .ok (.ireturn, 1) := by decide +kernel
theorem dX8_shares_46 : decode cX8_shares 46 = .ok (.iconst 0, 1) := by decide +kernel
theorem dX8_shares_47 : decode cX8_shares 47 = .ok (.istore 4, 2) := by decide +kernel
theorem dX8_shares_49 : decode cX8_shares 49 = .ok (.aload_n 0, 1) := by decide +kernel
theorem dX8_shares_50 : decode cX8_shares 50 = .ok (.aload_n 0, 1) := by decide +kernel
theorem dX8_shares_51 : decode cX8_shares 51 = .ok (.getfield 59, 3) := by decide +kernel
theorem dX8_shares_54 : decode cX8_shares 54 = .ok (.iload_n 1, 1) := by decide +kernel
theorem dX8_shares_55 : decode cX8_shares 55 = .ok (.iaload, 1) := by decide +kernel
theorem dX8_shares_56 : decode cX8_shares 56 = .ok (.invokevirtual 189, 3) := by decide +kernel
theorem dX8_shares_59 : decode cX8_shares 59 = .ok (.istore 5, 2) := by decide +kernel
theorem dX8_shares_61 : decode cX8_shares 61 = .ok (.iconst 0, 1) := by decide +kernel
theorem dX8_shares_62 : decode cX8_shares 62 = .ok (.istore 6, 2) := by decide +kernel
theorem dX8_shares_64 : decode cX8_shares 64 = .ok (.iload 6, 2) := by decide +kernel
theorem dX8_shares_66 : decode cX8_shares 66 = .ok (.aload_n 0, 1) := by decide +kernel
theorem dX8_shares_67 : decode cX8_shares 67 = .ok (.invokevirtual 84, 3) := by decide +kernel
theorem dX8_shares_70 : decode cX8_shares 70 = .ok (.if_icmp .ge 46, 3) := by decide +kernel
theorem dX8_shares_73 : decode cX8_shares 73 = .ok (.iload 4, 2) := by decide +kernel
theorem dX8_shares_75 : decode cX8_shares 75 = .ok (.aload_n 0, 1) := by decide +kernel
theorem dX8_shares_76 : decode cX8_shares 76 = .ok (.getfield 59, 3) := by decide +kernel
theorem dX8_shares_79 : decode cX8_shares 79 = .ok (.iload 6, 2) := by decide +kernel
theorem dX8_shares_81 : decode cX8_shares 81 = .ok (.iaload, 1) := by decide +kernel
theorem dX8_shares_82 : decode cX8_shares 82 = .ok (.aload_n 0, 1) := by decide +kernel
theorem dX8_shares_83 : decode cX8_shares 83 = .ok (.getfield 59, 3) := by decide +kernel
theorem dX8_shares_86 : decode cX8_shares 86 = .ok (.iload_n 1, 1) := by decide +kernel
theorem dX8_shares_87 : decode cX8_shares 87 = .ok (.iaload, 1) := by decide +kernel
theorem dX8_shares_88 : decode cX8_shares 88 = .ok (.if_icmp .ne 18, 3) := by decide +kernel
theorem dX8_shares_91 : decode cX8_shares 91 = .ok (.aload_n 0, 1) := by decide +kernel
theorem dX8_shares_92 : decode cX8_shares 92 = .ok (.getfield 20, 3) := by decide +kernel
theorem dX8_shares_95 : decode cX8_shares 95 = .ok (.iload 6, 2) := by decide +kernel
theorem dX8_shares_97 : decode cX8_shares 97 = .ok (.iaload, 1) := by decide +kernel
theorem dX8_shares_98 : decode cX8_shares 98 = .ok (.iload_n 2, 1) := by decide +kernel
theorem dX8_shares_99 : decode cX8_shares 99 = .ok (.if_icmp .ne 7, 3) := by decide +kernel
theorem dX8_shares_102 : decode cX8_shares 102 = .ok (.iconst 1, 1) := by decide +kernel
theorem dX8_shares_103 : decode cX8_shares 103 = .ok (.goto 4, 3) := by decide +kernel
theorem dX8_shares_106 : decode cX8_shares 106 = .ok (.iconst 0, 1) := by decide +kernel
theorem dX8_shares_107 : decode cX8_shares 107 = .ok (.iadd, 1) := by decide +kernel
theorem dX8_shares_108 : decode cX8_shares 108 = .ok (.istore 4, 2) := by decide +kernel
theorem dX8_shares_110 : decode cX8_shares 110 = .ok (.iinc 6 1, 3) := by decide +kernel
theorem dX8_shares_113 : decode cX8_shares 113 = .ok (.goto (-49), 3) := by decide +kernel
theorem dX8_shares_116 : decode cX8_shares 116 = .ok (.iload 4, 2) := by decide +kernel
theorem dX8_shares_118 : decode cX8_shares 118 = .ok (.istore 6, 2) := by decide +kernel
theorem dX8_shares_120 : decode cX8_shares 120 = .ok (.iload 5, 2) := by decide +kernel
theorem dX8_shares_122 : decode cX8_shares 122 = .ok (.istore 7, 2) := by decide +kernel
theorem dX8_shares_124 : decode cX8_shares 124 = .ok (.iload 7, 2) := by decide +kernel
theorem dX8_shares_126 : decode cX8_shares 126 = .ok (.ifCond .le 21, 3) := by decide +kernel
theorem dX8_shares_129 : decode cX8_shares 129 = .ok (.iload 6, 2) := by decide +kernel
theorem dX8_shares_131 : decode cX8_shares 131 = .ok (.iload 7, 2) := by decide +kernel
theorem dX8_shares_133 : decode cX8_shares 133 = .ok (.irem, 1) := by decide +kernel
theorem dX8_shares_134 : decode cX8_shares 134 = .ok (.istore 8, 2) := by decide +kernel
theorem dX8_shares_136 : decode cX8_shares 136 = .ok (.iload 7, 2) := by decide +kernel
theorem dX8_shares_138 : decode cX8_shares 138 = .ok (.istore 6, 2) := by decide +kernel
theorem dX8_shares_140 : decode cX8_shares 140 = .ok (.iload 8, 2) := by decide +kernel
theorem dX8_shares_142 : decode cX8_shares 142 = .ok (.istore 7, 2) := by decide +kernel
theorem dX8_shares_144 : decode cX8_shares 144 = .ok (.goto (-20), 3) := by decide +kernel
theorem dX8_shares_147 : decode cX8_shares 147 = .ok (.iload_n 3, 1) := by decide +kernel
theorem dX8_shares_148 : decode cX8_shares 148 = .ok (.ifCond .ne 8, 3) := by decide +kernel
theorem dX8_shares_151 : decode cX8_shares 151 = .ok (.iload 4, 2) := by decide +kernel
theorem dX8_shares_153 : decode cX8_shares 153 = .ok (.goto 5, 3) := by decide +kernel
theorem dX8_shares_156 : decode cX8_shares 156 = .ok (.iload 5, 2) := by decide +kernel
theorem dX8_shares_158 : decode cX8_shares 158 = .ok (.iload 6, 2) := by decide +kernel
theorem dX8_shares_160 : decode cX8_shares 160 = .ok (.idiv, 1) := by decide +kernel
theorem dX8_shares_161 : decode cX8_shares 161 = .ok (.ireturn, 1) := by decide +kernel
set_option maxRecDepth 20000 in
theorem ggX8_winter_X8_in : GoodIn wsX8_winter wsX8_in := goodIn_r _ [8] (by decide +kernel) (by decide +kernel)
set_option maxRecDepth 20000 in
theorem gX8_winter_X8_in : GoodIn wsX8_winter (va_wsS RX8 88 yX8_in wsX8_in) := goodIn_app (goodIn_of _ (by decide +kernel)) ggX8_winter_X8_in
set_option maxRecDepth 20000 in
theorem ggX8_winter_X8_asItIs : GoodIn wsX8_winter wsX8_asItIs := goodIn_r _ [12, 13, 14, 15, 16, 7, 17, 52, 53, 54, 55, 56, 57, 58, 59, 60, 61, 62, 63, 64, 65, 66, 67, 68, 69, 70, 71, 72, 73, 74, 75, 76, 77, 78, 79, 80, 81, 82] (by decide +kernel) (by decide +kernel)
set_option maxRecDepth 20000 in
theorem gX8_winter_X8_asItIs : GoodIn wsX8_winter (wsV RX8 195 RX8 yX8_asItIs wsX8_asItIs) := goodIn_app (goodIn_of _ (by decide +kernel)) ggX8_winter_X8_asItIs
set_option maxRecDepth 20000 in
theorem ggX8_winter_X8_goes : GoodIn wsX8_winter wsX8_goes := goodIn_r _ [21, 22, 13, 23, 24, 25, 7, 26, 27, 28, 29, 30, 31, 32, 33, 34, 35, 36, 37, 38, 39, 40, 41, 42, 43, 5, 6, 8, 52, 53, 54, 55, 56, 57, 58, 59, 60, 61, 62, 63, 64, 65, 66, 67, 68, 69, 70, 71, 72, 73, 74, 75, 76, 77, 78, 79, 80, 81, 82] (by decide +kernel) (by decide +kernel)
set_option maxRecDepth 20000 in
theorem gX8_winter_X8_goes : GoodIn wsX8_winter (wsV RX8 185 RX8 yX8_goes wsX8_goes) := goodIn_app (goodIn_of _ (by decide +kernel)) ggX8_winter_X8_goes
set_option maxRecDepth 20000 in
theorem ggX8_winter_X8_cellsOf : GoodIn wsX8_winter wsX8_cellsOf := goodIn_r _ [47, 13, 23, 24, 25, 7, 26, 27, 28, 52, 53, 54, 55, 56, 57, 58, 59, 60, 61, 62, 63, 64, 65, 66, 67, 68, 69, 70, 71, 72, 73, 74, 75, 76, 77, 78, 79, 80, 81, 82] (by decide +kernel) (by decide +kernel)
set_option maxRecDepth 20000 in
theorem gX8_winter_X8_cellsOf : GoodIn wsX8_winter (wsV RX8 207 RX8 yX8_cellsOf wsX8_cellsOf) := goodIn_app (goodIn_of _ (by decide +kernel)) ggX8_winter_X8_cellsOf
set_option maxRecDepth 20000 in
theorem ggX8_winter_X8_withIce : GoodIn wsX8_winter wsX8_withIce := goodIn_r _ [51, 13, 23, 24, 25, 7, 26, 27, 28, 52, 53, 54, 55, 56, 57, 58, 59, 60, 61, 62, 63, 64, 65, 66, 67, 68, 69, 70, 71, 72, 73, 74, 75, 76, 77, 78, 79, 80, 81, 82] (by decide +kernel) (by decide +kernel)
set_option maxRecDepth 20000 in
theorem gX8_winter_X8_withIce : GoodIn wsX8_winter (wsV RX8 235 RX8 yX8_withIce wsX8_withIce) := goodIn_app (goodIn_of _ (by decide +kernel)) ggX8_winter_X8_withIce
theorem dX8_winter_0 : decode cX8_winter 0 = .ok (.iload_n 1, 1) := by decide +kernel
theorem dX8_winter_1 : decode cX8_winter 1 = .ok (.iconst 0, 1) := by decide +kernel
theorem dX8_winter_2 : decode cX8_winter 2 = .ok (.sipush 9999, 3) := by decide +kernel
theorem dX8_winter_5 : decode cX8_winter 5 = .ok (.invokestatic 88, 3) := by decide +kernel
theorem dX8_winter_8 : decode cX8_winter 8 = .ok (.ifCond .eq 22, 3) := by decide +kernel
theorem dX8_winter_11 : decode cX8_winter 11 = .ok (.iload_n 2, 1) := by decide +kernel
theorem dX8_winter_12 : decode cX8_winter 12 = .ok (.iconst 1, 1) := by decide +kernel
theorem dX8_winter_13 : decode cX8_winter 13 = .ok (.bipush 60, 2) := by decide +kernel
theorem dX8_winter_15 : decode cX8_winter 15 = .ok (.invokestatic 88, 3) := by decide +kernel
theorem dX8_winter_18 : decode cX8_winter 18 = .ok (.ifCond .eq 12, 3) := by decide +kernel
theorem dX8_winter_21 : decode cX8_winter 21 = .ok (.iload_n 3, 1) := by decide +kernel
theorem dX8_winter_22 : decode cX8_winter 22 = .ok (.iconst (-1), 1) := by decide +kernel
theorem dX8_winter_23 : decode cX8_winter 23 = .ok (.iconst 3, 1) := by decide +kernel
theorem dX8_winter_24 : decode cX8_winter 24 = .ok (.invokestatic 88, 3) := by decide +kernel
theorem dX8_winter_27 : decode cX8_winter 27 = .ok (.ifCond .ne 5, 3) := by decide +kernel
theorem dX8_winter_30 : decode cX8_winter 30 = .ok (.iconst (-1), 1) := by decide +kernel
theorem dX8_winter_31 : decode cX8_winter 31 = .ok (.ireturn, 1) := by decide +kernel
theorem dX8_winter_32 : decode cX8_winter 32 = .ok (.aload_n 0, 1) := by decide +kernel
theorem dX8_winter_33 : decode cX8_winter 33 = .ok (.invokevirtual 195, 3) := by decide +kernel
theorem dX8_winter_36 : decode cX8_winter 36 = .ok (.iconst 0, 1) := by decide +kernel
theorem dX8_winter_37 : decode cX8_winter 37 = .ok (.istore 4, 2) := by decide +kernel
theorem dX8_winter_39 : decode cX8_winter 39 = .ok (.iconst 0, 1) := by decide +kernel
theorem dX8_winter_40 : decode cX8_winter 40 = .ok (.istore 5, 2) := by decide +kernel
theorem dX8_winter_42 : decode cX8_winter 42 = .ok (.iload 5, 2) := by decide +kernel
theorem dX8_winter_44 : decode cX8_winter 44 = .ok (.iload_n 2, 1) := by decide +kernel
theorem dX8_winter_45 : decode cX8_winter 45 = .ok (.if_icmp .ge 77, 3) := by decide +kernel
theorem dX8_winter_48 : decode cX8_winter 48 = .ok (.ldc2_w 227, 3) := by decide +kernel
theorem dX8_winter_51 : decode cX8_winter 51 = .ok (.iload_n 1, 1) := by decide +kernel
theorem dX8_winter_52 : decode cX8_winter 52 = .ok (.i2l, 1) := by decide +kernel
theorem dX8_winter_53 : decode cX8_winter 53 = .ok (.lmul, 1) := by decide +kernel
theorem dX8_winter_54 : decode cX8_winter 54 = .ok (.ldc2_w 229, 3) := by decide +kernel
theorem dX8_winter_57 : decode cX8_winter 57 = .ok (.iload 5, 2) := by decide +kernel
theorem dX8_winter_59 : decode cX8_winter 59 = .ok (.i2l, 1) := by decide +kernel
theorem dX8_winter_60 : decode cX8_winter 60 = .ok (.lmul, 1) := by decide +kernel
theorem dX8_winter_61 : decode cX8_winter 61 = .ok (.ladd, 1) := by decide +kernel
theorem dX8_winter_62 : decode cX8_winter 62 = .ok (.lconst 1, 1) := by decide +kernel
theorem dX8_winter_63 : decode cX8_winter 63 = .ok (.ladd, 1) := by decide +kernel
theorem dX8_winter_64 : decode cX8_winter 64 = .ok (.lstore 6, 2) := by decide +kernel
theorem dX8_winter_66 : decode cX8_winter 66 = .ok (.lload 6, 2) := by decide +kernel
theorem dX8_winter_68 : decode cX8_winter 68 = .ok (.lload 6, 2) := by decide +kernel
theorem dX8_winter_70 : decode cX8_winter 70 = .ok (.lmul, 1) := by decide +kernel
theorem dX8_winter_71 : decode cX8_winter 71 = .ok (.ldc2_w 231, 3) := by decide +kernel
theorem dX8_winter_74 : decode cX8_winter 74 = .ok (.lrem, 1) := by decide +kernel
theorem dX8_winter_75 : decode cX8_winter 75 = .ok (.ldc2_w 233, 3) := by decide +kernel
theorem dX8_winter_78 : decode cX8_winter 78 = .ok (.ldiv, 1) := by decide +kernel
theorem dX8_winter_79 : decode cX8_winter 79 = .ok (.l2i, 1) := by decide +kernel
theorem dX8_winter_80 : decode cX8_winter 80 = .ok (.istore 8, 2) := by decide +kernel
theorem dX8_winter_82 : decode cX8_winter 82 = .ok (.aload_n 0, 1) := by decide +kernel
theorem dX8_winter_83 : decode cX8_winter 83 = .ok (.iload 8, 2) := by decide +kernel
theorem dX8_winter_85 : decode cX8_winter 85 = .ok (.bipush 21, 2) := by decide +kernel
theorem dX8_winter_87 : decode cX8_winter 87 = .ok (.irem, 1) := by decide +kernel
theorem dX8_winter_88 : decode cX8_winter 88 = .ok (.bipush 8, 2) := by decide +kernel
theorem dX8_winter_90 : decode cX8_winter 90 = .ok (.isub, 1) := by decide +kernel
theorem dX8_winter_91 : decode cX8_winter 91 = .ok (.invokevirtual 185, 3) := by decide +kernel
theorem dX8_winter_94 : decode cX8_winter 94 = .ok (.iload 4, 2) := by decide +kernel
theorem dX8_winter_96 : decode cX8_winter 96 = .ok (.iload_n 3, 1) := by decide +kernel
theorem dX8_winter_97 : decode cX8_winter 97 = .ok (.ifCond .lt 15, 3) := by decide +kernel
theorem dX8_winter_100 : decode cX8_winter 100 = .ok (.aload_n 0, 1) := by decide +kernel
theorem dX8_winter_101 : decode cX8_winter 101 = .ok (.iload_n 3, 1) := by decide +kernel
theorem dX8_winter_102 : decode cX8_winter 102 = .ok (.invokevirtual 207, 3) := by decide +kernel
theorem dX8_winter_105 : decode cX8_winter 105 = .ok (.ifCond .ne 7, 3) := by decide +kernel
theorem dX8_winter_108 : decode cX8_winter 108 = .ok (.iconst 1, 1) := by decide +kernel
theorem dX8_winter_109 : decode cX8_winter 109 = .ok (.goto 4, 3) := by decide +kernel
theorem dX8_winter_112 : decode cX8_winter 112 = .ok (.iconst 0, 1) := by decide +kernel
theorem dX8_winter_113 : decode cX8_winter 113 = .ok (.iadd, 1) := by decide +kernel
theorem dX8_winter_114 : decode cX8_winter 114 = .ok (.istore 4, 2) := by decide +kernel
theorem dX8_winter_116 : decode cX8_winter 116 = .ok (.iinc 5 1, 3) := by decide +kernel
theorem dX8_winter_119 : decode cX8_winter 119 = .ok (.goto (-77), 3) := by decide +kernel
theorem dX8_winter_122 : decode cX8_winter 122 = .ok (.iload_n 3, 1) := by decide +kernel
theorem dX8_winter_123 : decode cX8_winter 123 = .ok (.ifCond .lt 8, 3) := by decide +kernel
theorem dX8_winter_126 : decode cX8_winter 126 = .ok (.iload 4, 2) := by decide +kernel
theorem dX8_winter_128 : decode cX8_winter 128 = .ok (.goto 7, 3) := by decide +kernel
theorem dX8_winter_131 : decode cX8_winter 131 = .ok (.aload_n 0, 1) := by decide +kernel
theorem dX8_winter_132 : decode cX8_winter 132 = .ok (.invokevirtual 235, 3) := by decide +kernel
theorem dX8_winter_135 : decode cX8_winter 135 = .ok (.ireturn, 1) := by decide +kernel
set_option maxRecDepth 20000 in
theorem ggX8_withIce_X8_cells : GoodIn wsX8_withIce wsX8_cells := goodIn_r _ [6, 7, 8, 9, 10, 11, 12, 13, 14, 15, 16, 17, 18, 19, 20, 21, 22, 23, 24, 25, 26, 27, 28, 29, 30, 31, 32, 33, 34, 35, 36, 37, 38, 39] (by decide +kernel) (by decide +kernel)
set_option maxRecDepth 20000 in
theorem gX8_withIce_X8_cells : GoodIn wsX8_withIce (wsV RX8 84 RX8 yX8_cells wsX8_cells) := goodIn_app (goodIn_of _ (by decide +kernel)) ggX8_withIce_X8_cells
theorem dX8_withIce_0 : decode cX8_withIce 0 = .ok (.iconst 0, 1) := by decide +kernel
theorem dX8_withIce_1 : decode cX8_withIce 1 = .ok (.istore_n 1, 1) := by decide +kernel
theorem dX8_withIce_2 : decode cX8_withIce 2 = .ok (.iconst 0, 1) := by decide +kernel
theorem dX8_withIce_3 : decode cX8_withIce 3 = .ok (.istore_n 2, 1) := by decide +kernel
theorem dX8_withIce_4 : decode cX8_withIce 4 = .ok (.iload_n 2, 1) := by decide +kernel
theorem dX8_withIce_5 : decode cX8_withIce 5 = .ok (.aload_n 0, 1) := by decide +kernel
theorem dX8_withIce_6 : decode cX8_withIce 6 = .ok (.invokevirtual 84, 3) := by decide +kernel
theorem dX8_withIce_9 : decode cX8_withIce 9 = .ok (.if_icmp .ge 26, 3) := by decide +kernel
theorem dX8_withIce_12 : decode cX8_withIce 12 = .ok (.iload_n 1, 1) := by decide +kernel
theorem dX8_withIce_13 : decode cX8_withIce 13 = .ok (.aload_n 0, 1) := by decide +kernel
theorem dX8_withIce_14 : decode cX8_withIce 14 = .ok (.getfield 53, 3) := by decide +kernel
theorem dX8_withIce_17 : decode cX8_withIce 17 = .ok (.iload_n 2, 1) := by decide +kernel
theorem dX8_withIce_18 : decode cX8_withIce 18 = .ok (.iaload, 1) := by decide +kernel
theorem dX8_withIce_19 : decode cX8_withIce 19 = .ok (.ifCond .le 7, 3) := by decide +kernel
theorem dX8_withIce_22 : decode cX8_withIce 22 = .ok (.iconst 1, 1) := by decide +kernel
theorem dX8_withIce_23 : decode cX8_withIce 23 = .ok (.goto 4, 3) := by decide +kernel
theorem dX8_withIce_26 : decode cX8_withIce 26 = .ok (.iconst 0, 1) := by decide +kernel
theorem dX8_withIce_27 : decode cX8_withIce 27 = .ok (.iadd, 1) := by decide +kernel
theorem dX8_withIce_28 : decode cX8_withIce 28 = .ok (.istore_n 1, 1) := by decide +kernel
theorem dX8_withIce_29 : decode cX8_withIce 29 = .ok (.iinc 2 1, 3) := by decide +kernel
theorem dX8_withIce_32 : decode cX8_withIce 32 = .ok (.goto (-28), 3) := by decide +kernel
theorem dX8_withIce_35 : decode cX8_withIce 35 = .ok (.iload_n 1, 1) := by decide +kernel
theorem dX8_withIce_36 : decode cX8_withIce 36 = .ok (.ireturn, 1) := by decide +kernel
set_option maxRecDepth 20000 in
theorem ggX8_keep_X8_put : GoodIn wsX8_keep wsX8_put := goodIn_r _ [7] (by decide +kernel) (by decide +kernel)
set_option maxRecDepth 20000 in
theorem gX8_keep_X8_put : GoodIn wsX8_keep (va_wsS RX8 159 yX8_put wsX8_put) := goodIn_app (goodIn_of _ (by decide +kernel)) ggX8_keep_X8_put
theorem dX8_keep_0 : decode cX8_keep 0 = .ok (.aload_n 0, 1) := by decide +kernel
theorem dX8_keep_1 : decode cX8_keep 1 = .ok (.getfield 166, 3) := by decide +kernel
theorem dX8_keep_4 : decode cX8_keep 4 = .ok (.iconst 2, 1) := by decide +kernel
theorem dX8_keep_5 : decode cX8_keep 5 = .ok (.if_icmp .ne 6, 3) := by decide +kernel
theorem dX8_keep_8 : decode cX8_keep 8 = .ok (.bipush (-3), 2) := by decide +kernel
theorem dX8_keep_10 : decode cX8_keep 10 = .ok (.ireturn, 1) := by decide +kernel
theorem dX8_keep_11 : decode cX8_keep 11 = .ok (.aload_n 0, 1) := by decide +kernel
theorem dX8_keep_12 : decode cX8_keep 12 = .ok (.getfield 32, 3) := by decide +kernel
theorem dX8_keep_15 : decode cX8_keep 15 = .ok (.bipush 99, 2) := by decide +kernel
theorem dX8_keep_17 : decode cX8_keep 17 = .ok (.aload_n 0, 1) := by decide +kernel
theorem dX8_keep_18 : decode cX8_keep 18 = .ok (.getfield 166, 3) := by decide +kernel
theorem dX8_keep_21 : decode cX8_keep 21 = .ok (.imul, 1) := by decide +kernel
theorem dX8_keep_22 : decode cX8_keep 22 = .ok (.aload_n 0, 1) := by decide +kernel
theorem dX8_keep_23 : decode cX8_keep 23 = .ok (.getfield 26, 3) := by decide +kernel
theorem dX8_keep_26 : decode cX8_keep 26 = .ok (.bipush 99, 2) := by decide +kernel
theorem dX8_keep_28 : decode cX8_keep 28 = .ok (.invokestatic 159, 3) := by decide +kernel
theorem dX8_keep_31 : decode cX8_keep 31 = .ok (.aload_n 0, 1) := by decide +kernel
theorem dX8_keep_32 : decode cX8_keep 32 = .ok (.dup, 1) := by decide +kernel
theorem dX8_keep_33 : decode cX8_keep 33 = .ok (.getfield 166, 3) := by decide +kernel
theorem dX8_keep_36 : decode cX8_keep 36 = .ok (.iconst 1, 1) := by decide +kernel
theorem dX8_keep_37 : decode cX8_keep 37 = .ok (.iadd, 1) := by decide +kernel
theorem dX8_keep_38 : decode cX8_keep 38 = .ok (.putfield 166, 3) := by decide +kernel
theorem dX8_keep_41 : decode cX8_keep 41 = .ok (.aload_n 0, 1) := by decide +kernel
theorem dX8_keep_42 : decode cX8_keep 42 = .ok (.getfield 166, 3) := by decide +kernel
theorem dX8_keep_45 : decode cX8_keep 45 = .ok (.ireturn, 1) := by decide +kernel
theorem dX8_back_0 : decode cX8_back 0 = .ok (.aload_n 0, 1) := by decide +kernel
theorem dX8_back_1 : decode cX8_back 1 = .ok (.getfield 166, 3) := by decide +kernel
theorem dX8_back_4 : decode cX8_back 4 = .ok (.ifCond .ne 6, 3) := by decide +kernel
theorem dX8_back_7 : decode cX8_back 7 = .ok (.bipush (-2), 2) := by decide +kernel
theorem dX8_back_9 : decode cX8_back 9 = .ok (.ireturn, 1) := by decide +kernel
theorem dX8_back_10 : decode cX8_back 10 = .ok (.aload_n 0, 1) := by decide +kernel
theorem dX8_back_11 : decode cX8_back 11 = .ok (.dup, 1) := by decide +kernel
theorem dX8_back_12 : decode cX8_back 12 = .ok (.getfield 166, 3) := by decide +kernel
theorem dX8_back_15 : decode cX8_back 15 = .ok (.iconst 1, 1) := by decide +kernel
theorem dX8_back_16 : decode cX8_back 16 = .ok (.isub, 1) := by decide +kernel
theorem dX8_back_17 : decode cX8_back 17 = .ok (.putfield 166, 3) := by decide +kernel
theorem dX8_back_20 : decode cX8_back 20 = .ok (.iconst 0, 1) := by decide +kernel
theorem dX8_back_21 : decode cX8_back 21 = .ok (.istore_n 1, 1) := by decide +kernel
theorem dX8_back_22 : decode cX8_back 22 = .ok (.iload_n 1, 1) := by decide +kernel
theorem dX8_back_23 : decode cX8_back 23 = .ok (.bipush 99, 2) := by decide +kernel
theorem dX8_back_25 : decode cX8_back 25 = .ok (.if_icmp .ge 29, 3) := by decide +kernel
theorem dX8_back_28 : decode cX8_back 28 = .ok (.aload_n 0, 1) := by decide +kernel
theorem dX8_back_29 : decode cX8_back 29 = .ok (.getfield 26, 3) := by decide +kernel
theorem dX8_back_32 : decode cX8_back 32 = .ok (.iload_n 1, 1) := by decide +kernel
theorem dX8_back_33 : decode cX8_back 33 = .ok (.aload_n 0, 1) := by decide +kernel
theorem dX8_back_34 : decode cX8_back 34 = .ok (.getfield 32, 3) := by decide +kernel
theorem dX8_back_37 : decode cX8_back 37 = .ok (.bipush 99, 2) := by decide +kernel
theorem dX8_back_39 : decode cX8_back 39 = .ok (.aload_n 0, 1) := by decide +kernel
theorem dX8_back_40 : decode cX8_back 40 = .ok (.getfield 166, 3) := by decide +kernel
theorem dX8_back_43 : decode cX8_back 43 = .ok (.imul, 1) := by decide +kernel
theorem dX8_back_44 : decode cX8_back 44 = .ok (.iload_n 1, 1) := by decide +kernel
theorem dX8_back_45 : decode cX8_back 45 = .ok (.iadd, 1) := by decide +kernel
theorem dX8_back_46 : decode cX8_back 46 = .ok (.iaload, 1) := by decide +kernel
theorem dX8_back_47 : decode cX8_back 47 = .ok (.iastore, 1) := by decide +kernel
theorem dX8_back_48 : decode cX8_back 48 = .ok (.iinc 1 1, 3) := by decide +kernel
theorem dX8_back_51 : decode cX8_back 51 = .ok (.goto (-29), 3) := by decide +kernel
theorem dX8_back_54 : decode cX8_back 54 = .ok (.aload_n 0, 1) := by decide +kernel
theorem dX8_back_55 : decode cX8_back 55 = .ok (.iconst 0, 1) := by decide +kernel
theorem dX8_back_56 : decode cX8_back 56 = .ok (.putfield 163, 3) := by decide +kernel
theorem dX8_back_59 : decode cX8_back 59 = .ok (.aload_n 0, 1) := by decide +kernel
theorem dX8_back_60 : decode cX8_back 60 = .ok (.getfield 166, 3) := by decide +kernel
theorem dX8_back_63 : decode cX8_back 63 = .ok (.ireturn, 1) := by decide +kernel
set_option maxRecDepth 20000 in
theorem ggX8_count_X8_asItIs : GoodIn wsX8_count wsX8_asItIs := goodIn_r _ [12, 13, 1, 14, 15, 11, 16, 26, 27, 28, 29, 30, 31, 32, 33, 34, 35, 36, 37, 38, 39, 40, 41, 42, 43, 44, 45, 46, 47, 48, 49, 50, 51, 52, 53, 54, 55, 56] (by decide +kernel) (by decide +kernel)
set_option maxRecDepth 20000 in
theorem gX8_count_X8_asItIs : GoodIn wsX8_count (wsV RX8 195 RX8 yX8_asItIs wsX8_asItIs) := goodIn_app (goodIn_of _ (by decide +kernel)) ggX8_count_X8_asItIs
set_option maxRecDepth 20000 in
theorem ggX8_count_X8_cells : GoodIn wsX8_count wsX8_cells := goodIn_r _ [20, 2, 21, 26, 27, 28, 29, 30, 31, 32, 33, 34, 35, 36, 37, 38, 39, 40, 41, 42, 43, 44, 45, 46, 47, 48, 49, 50, 51, 52, 53, 54, 55, 56] (by decide +kernel) (by decide +kernel)
set_option maxRecDepth 20000 in
theorem gX8_count_X8_cells : GoodIn wsX8_count (wsV RX8 84 RX8 yX8_cells wsX8_cells) := goodIn_app (goodIn_of _ (by decide +kernel)) ggX8_count_X8_cells
set_option maxRecDepth 20000 in
theorem ggX8_count_X8_withIce : GoodIn wsX8_count wsX8_withIce := goodIn_r _ [25, 13, 17, 18, 19, 11, 20, 2, 21, 26, 27, 28, 29, 30, 31, 32, 33, 34, 35, 36, 37, 38, 39, 40, 41, 42, 43, 44, 45, 46, 47, 48, 49, 50, 51, 52, 53, 54, 55, 56] (by decide +kernel) (by decide +kernel)
set_option maxRecDepth 20000 in
theorem gX8_count_X8_withIce : GoodIn wsX8_count (wsV RX8 235 RX8 yX8_withIce wsX8_withIce) := goodIn_app (goodIn_of _ (by decide +kernel)) ggX8_count_X8_withIce
theorem dX8_count_0 : decode cX8_count 0 = .ok (.aload_n 0, 1) := by decide +kernel
theorem dX8_count_1 : decode cX8_count 1 = .ok (.invokevirtual 195, 3) := by decide +kernel
theorem dX8_count_4 : decode cX8_count 4 = .ok (.iconst 0, 1) := by decide +kernel
theorem dX8_count_5 : decode cX8_count 5 = .ok (.istore_n 2, 1) := by decide +kernel
theorem dX8_count_6 : decode cX8_count 6 = .ok (.iconst 0, 1) := by decide +kernel
theorem dX8_count_7 : decode cX8_count 7 = .ok (.istore_n 3, 1) := by decide +kernel
theorem dX8_count_8 : decode cX8_count 8 = .ok (.iconst 0, 1) := by decide +kernel
theorem dX8_count_9 : decode cX8_count 9 = .ok (.istore 4, 2) := by decide +kernel
theorem dX8_count_11 : decode cX8_count 11 = .ok (.iload 4, 2) := by decide +kernel
theorem dX8_count_13 : decode cX8_count 13 = .ok (.aload_n 0, 1) := by decide +kernel
theorem dX8_count_14 : decode cX8_count 14 = .ok (.invokevirtual 84, 3) := by decide +kernel
theorem dX8_count_17 : decode cX8_count 17 = .ok (.if_icmp .ge 40, 3) := by decide +kernel
theorem dX8_count_20 : decode cX8_count 20 = .ok (.iload_n 2, 1) := by decide +kernel
theorem dX8_count_21 : decode cX8_count 21 = .ok (.aload_n 0, 1) := by decide +kernel
theorem dX8_count_22 : decode cX8_count 22 = .ok (.getfield 26, 3) := by decide +kernel
theorem dX8_count_25 : decode cX8_count 25 = .ok (.bipush 49, 2) := by decide +kernel
theorem dX8_count_27 : decode cX8_count 27 = .ok (.iload 4, 2) := by decide +kernel
theorem dX8_count_29 : decode cX8_count 29 = .ok (.iadd, 1) := by decide +kernel
theorem dX8_count_30 : decode cX8_count 30 = .ok (.iaload, 1) := by decide +kernel
theorem dX8_count_31 : decode cX8_count 31 = .ok (.ifCond .lt 7, 3) := by decide +kernel
theorem dX8_count_34 : decode cX8_count 34 = .ok (.iconst 1, 1) := by decide +kernel
theorem dX8_count_35 : decode cX8_count 35 = .ok (.goto 4, 3) := by decide +kernel
theorem dX8_count_38 : decode cX8_count 38 = .ok (.iconst 0, 1) := by decide +kernel
theorem dX8_count_39 : decode cX8_count 39 = .ok (.iadd, 1) := by decide +kernel
theorem dX8_count_40 : decode cX8_count 40 = .ok (.istore_n 2, 1) := by decide +kernel
theorem dX8_count_41 : decode cX8_count 41 = .ok (.iload_n 3, 1) := by decide +kernel
theorem dX8_count_42 : decode cX8_count 42 = .ok (.aload_n 0, 1) := by decide +kernel
theorem dX8_count_43 : decode cX8_count 43 = .ok (.getfield 26, 3) := by decide +kernel
theorem dX8_count_46 : decode cX8_count 46 = .ok (.iload 4, 2) := by decide +kernel
theorem dX8_count_48 : decode cX8_count 48 = .ok (.iaload, 1) := by decide +kernel
theorem dX8_count_49 : decode cX8_count 49 = .ok (.iadd, 1) := by decide +kernel
theorem dX8_count_50 : decode cX8_count 50 = .ok (.istore_n 3, 1) := by decide +kernel
theorem dX8_count_51 : decode cX8_count 51 = .ok (.iinc 4 1, 3) := by decide +kernel
theorem dX8_count_54 : decode cX8_count 54 = .ok (.goto (-43), 3) := by decide +kernel
theorem dX8_count_57 : decode cX8_count 57 = .ok (.iload_n 1, 1) := by decide +kernel
theorem dX8_count_58 : decode cX8_count 58 = .ok (.tableswitch 110 0 10 #[58, 63, 68, 73, 81, 86, 88, 90, 95, 100, 105], 58) := by decide +kernel
theorem dX8_count_116 : decode cX8_count 116 = .ok (.aload_n 0, 1) := by decide +kernel
theorem dX8_count_117 : decode cX8_count 117 = .ok (.invokevirtual 84, 3) := by decide +kernel
theorem dX8_count_120 : decode cX8_count 120 = .ok (.ireturn, 1) := by decide +kernel
theorem dX8_count_121 : decode cX8_count 121 = .ok (.aload_n 0, 1) := by decide +kernel
theorem dX8_count_122 : decode cX8_count 122 = .ok (.getfield 7, 3) := by decide +kernel
theorem dX8_count_125 : decode cX8_count 125 = .ok (.ireturn, 1) := by decide +kernel
theorem dX8_count_126 : decode cX8_count 126 = .ok (.aload_n 0, 1) := by decide +kernel
theorem dX8_count_127 : decode cX8_count 127 = .ok (.getfield 153, 3) := by decide +kernel
theorem dX8_count_130 : decode cX8_count 130 = .ok (.ireturn, 1) := by decide +kernel
theorem dX8_count_131 : decode cX8_count 131 = .ok (.aload_n 0, 1) := by decide +kernel
theorem dX8_count_132 : decode cX8_count 132 = .ok (.getfield 26, 3) := by decide +kernel
theorem dX8_count_135 : decode cX8_count 135 = .ok (.bipush 98, 2) := by decide +kernel
theorem dX8_count_137 : decode cX8_count 137 = .ok (.iaload, 1) := by decide +kernel
theorem dX8_count_138 : decode cX8_count 138 = .ok (.ireturn, 1) := by decide +kernel
theorem dX8_count_139 : decode cX8_count 139 = .ok (.aload_n 0, 1) := by decide +kernel
theorem dX8_count_140 : decode cX8_count 140 = .ok (.invokevirtual 235, 3) := by decide +kernel
theorem dX8_count_143 : decode cX8_count 143 = .ok (.ireturn, 1) := by decide +kernel
theorem dX8_count_144 : decode cX8_count 144 = .ok (.iload_n 2, 1) := by decide +kernel
theorem dX8_count_145 : decode cX8_count 145 = .ok (.ireturn, 1) := by decide +kernel
theorem dX8_count_146 : decode cX8_count 146 = .ok (.iload_n 3, 1) := by decide +kernel
theorem dX8_count_147 : decode cX8_count 147 = .ok (.ireturn, 1) := by decide +kernel
theorem dX8_count_148 : decode cX8_count 148 = .ok (.aload_n 0, 1) := by decide +kernel
theorem dX8_count_149 : decode cX8_count 149 = .ok (.getfield 169, 3) := by decide +kernel
theorem dX8_count_152 : decode cX8_count 152 = .ok (.ireturn, 1) := by decide +kernel
theorem dX8_count_153 : decode cX8_count 153 = .ok (.aload_n 0, 1) := by decide +kernel
theorem dX8_count_154 : decode cX8_count 154 = .ok (.getfield 163, 3) := by decide +kernel
theorem dX8_count_157 : decode cX8_count 157 = .ok (.ireturn, 1) := by decide +kernel
theorem dX8_count_158 : decode cX8_count 158 = .ok (.aload_n 0, 1) := by decide +kernel
theorem dX8_count_159 : decode cX8_count 159 = .ok (.getfield 166, 3) := by decide +kernel
theorem dX8_count_162 : decode cX8_count 162 = .ok (.ireturn, 1) := by decide +kernel
theorem dX8_count_163 : decode cX8_count 163 = .ok (.aload_n 0, 1) := by decide +kernel
theorem dX8_count_164 : decode cX8_count 164 = .ok (.getfield 92, 3) := by decide +kernel
theorem dX8_count_167 : decode cX8_count 167 = .ok (.ireturn, 1) := by decide +kernel
theorem dX8_count_168 : decode cX8_count 168 = .ok (.iconst (-1), 1) := by decide +kernel
theorem dX8_count_169 : decode cX8_count 169 = .ok (.ireturn, 1) := by decide +kernel
