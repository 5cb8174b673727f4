theorem dX9_choose_0 : decode cX9_choose 0 = .ok (.bipush (-4), 2) := by decide +kernel
theorem dX9_choose_2 : decode cX9_choose 2 = .ok (.istore 4, 2) := by decide +kernel
theorem dX9_choose_4 : decode cX9_choose 4 = .ok (.bipush (-4), 2) := by decide +kernel
theorem dX9_choose_6 : decode cX9_choose 6 = .ok (.istore 5, 2) := by decide +kernel
theorem dX9_choose_8 : decode cX9_choose 8 = .ok (.bipush (-4), 2) := by decide +kernel
theorem dX9_choose_10 : decode cX9_choose 10 = .ok (.istore 6, 2) := by decide +kernel
theorem dX9_choose_12 : decode cX9_choose 12 = .ok (.iconst 0, 1) := by decide +kernel
theorem dX9_choose_13 : decode cX9_choose 13 = .ok (.istore 7, 2) := by decide +kernel
theorem dX9_choose_15 : decode cX9_choose 15 = .ok (.iload 7, 2) := by decide +kernel
theorem dX9_choose_17 : decode cX9_choose 17 = .ok (.aload_n 0, 1) := by decide +kernel
theorem dX9_choose_18 : decode cX9_choose 18 = .ok (.getfield 54, 3) := by decide +kernel
theorem dX9_choose_21 : decode cX9_choose 21 = .ok (.if_icmp .ge 154, 3) := by decide +kernel
theorem dX9_choose_24 : decode cX9_choose 24 = .ok (.aload_n 0, 1) := by decide +kernel
theorem dX9_choose_25 : decode cX9_choose 25 = .ok (.iload 7, 2) := by decide +kernel
theorem dX9_choose_27 : decode cX9_choose 27 = .ok (.invokevirtual 114, 3) := by decide +kernel
theorem dX9_choose_30 : decode cX9_choose 30 = .ok (.iload_n 1, 1) := by decide +kernel
theorem dX9_choose_31 : decode cX9_choose 31 = .ok (.if_icmp .ne 138, 3) := by decide +kernel
theorem dX9_choose_34 : decode cX9_choose 34 = .ok (.aload_n 0, 1) := by decide +kernel
theorem dX9_choose_35 : decode cX9_choose 35 = .ok (.getfield 25, 3) := by decide +kernel
theorem dX9_choose_38 : decode cX9_choose 38 = .ok (.iload 7, 2) := by decide +kernel
theorem dX9_choose_40 : decode cX9_choose 40 = .ok (.iaload, 1) := by decide +kernel
theorem dX9_choose_41 : decode cX9_choose 41 = .ok (.ifCond .le 128, 3) := by decide +kernel
theorem dX9_choose_44 : decode cX9_choose 44 = .ok (.aload_n 0, 1) := by decide +kernel
theorem dX9_choose_45 : decode cX9_choose 45 = .ok (.iload 7, 2) := by decide +kernel
theorem dX9_choose_47 : decode cX9_choose 47 = .ok (.invokevirtual 108, 3) := by decide +kernel
theorem dX9_choose_50 : decode cX9_choose 50 = .ok (.istore 8, 2) := by decide +kernel
theorem dX9_choose_52 : decode cX9_choose 52 = .ok (.iload_n 2, 1) := by decide +kernel
theorem dX9_choose_53 : decode cX9_choose 53 = .ok (.iload 8, 2) := by decide +kernel
theorem dX9_choose_55 : decode cX9_choose 55 = .ok (.iadd, 1) := by decide +kernel
theorem dX9_choose_56 : decode cX9_choose 56 = .ok (.iload_n 3, 1) := by decide +kernel
theorem dX9_choose_57 : decode cX9_choose 57 = .ok (.if_icmp .lt 7, 3) := by decide +kernel
theorem dX9_choose_60 : decode cX9_choose 60 = .ok (.iconst 1, 1) := by decide +kernel
theorem dX9_choose_61 : decode cX9_choose 61 = .ok (.goto 4, 3) := by decide +kernel
theorem dX9_choose_64 : decode cX9_choose 64 = .ok (.iconst 0, 1) := by decide +kernel
theorem dX9_choose_65 : decode cX9_choose 65 = .ok (.istore 9, 2) := by decide +kernel
theorem dX9_choose_67 : decode cX9_choose 67 = .ok (.iload 9, 2) := by decide +kernel
theorem dX9_choose_69 : decode cX9_choose 69 = .ok (.ifCond .eq 26, 3) := by decide +kernel
theorem dX9_choose_72 : decode cX9_choose 72 = .ok (.iload 4, 2) := by decide +kernel
theorem dX9_choose_74 : decode cX9_choose 74 = .ok (.bipush (-4), 2) := by decide +kernel
theorem dX9_choose_76 : decode cX9_choose 76 = .ok (.if_icmp .eq 14, 3) := by decide +kernel
theorem dX9_choose_79 : decode cX9_choose 79 = .ok (.iload 8, 2) := by decide +kernel
theorem dX9_choose_81 : decode cX9_choose 81 = .ok (.aload_n 0, 1) := by decide +kernel
theorem dX9_choose_82 : decode cX9_choose 82 = .ok (.iload 4, 2) := by decide +kernel
theorem dX9_choose_84 : decode cX9_choose 84 = .ok (.invokevirtual 108, 3) := by decide +kernel
theorem dX9_choose_87 : decode cX9_choose 87 = .ok (.if_icmp .ge 8, 3) := by decide +kernel
theorem dX9_choose_90 : decode cX9_choose 90 = .ok (.iload 7, 2) := by decide +kernel
theorem dX9_choose_92 : decode cX9_choose 92 = .ok (.goto 5, 3) := by decide +kernel
theorem dX9_choose_95 : decode cX9_choose 95 = .ok (.iload 4, 2) := by decide +kernel
theorem dX9_choose_97 : decode cX9_choose 97 = .ok (.istore 4, 2) := by decide +kernel
theorem dX9_choose_99 : decode cX9_choose 99 = .ok (.iload 9, 2) := by decide +kernel
theorem dX9_choose_101 : decode cX9_choose 101 = .ok (.ifCond .ne 37, 3) := by decide +kernel
theorem dX9_choose_104 : decode cX9_choose 104 = .ok (.aload_n 0, 1) := by decide +kernel
theorem dX9_choose_105 : decode cX9_choose 105 = .ok (.iload_n 2, 1) := by decide +kernel
theorem dX9_choose_106 : decode cX9_choose 106 = .ok (.iload 8, 2) := by decide +kernel
theorem dX9_choose_108 : decode cX9_choose 108 = .ok (.iadd, 1) := by decide +kernel
theorem dX9_choose_109 : decode cX9_choose 109 = .ok (.invokevirtual 117, 3) := by decide +kernel
theorem dX9_choose_112 : decode cX9_choose 112 = .ok (.ifCond .eq 26, 3) := by decide +kernel
theorem dX9_choose_115 : decode cX9_choose 115 = .ok (.iload 5, 2) := by decide +kernel
theorem dX9_choose_117 : decode cX9_choose 117 = .ok (.bipush (-4), 2) := by decide +kernel
theorem dX9_choose_119 : decode cX9_choose 119 = .ok (.if_icmp .eq 14, 3) := by decide +kernel
theorem dX9_choose_122 : decode cX9_choose 122 = .ok (.iload 8, 2) := by decide +kernel
theorem dX9_choose_124 : decode cX9_choose 124 = .ok (.aload_n 0, 1) := by decide +kernel
theorem dX9_choose_125 : decode cX9_choose 125 = .ok (.iload 5, 2) := by decide +kernel
theorem dX9_choose_127 : decode cX9_choose 127 = .ok (.invokevirtual 108, 3) := by decide +kernel
theorem dX9_choose_130 : decode cX9_choose 130 = .ok (.if_icmp .le 8, 3) := by decide +kernel
theorem dX9_choose_133 : decode cX9_choose 133 = .ok (.iload 7, 2) := by decide +kernel
theorem dX9_choose_135 : decode cX9_choose 135 = .ok (.goto 5, 3) := by decide +kernel
theorem dX9_choose_138 : decode cX9_choose 138 = .ok (.iload 5, 2) := by decide +kernel
theorem dX9_choose_140 : decode cX9_choose 140 = .ok (.istore 5, 2) := by decide +kernel
theorem dX9_choose_142 : decode cX9_choose 142 = .ok (.iload 6, 2) := by decide +kernel
theorem dX9_choose_144 : decode cX9_choose 144 = .ok (.bipush (-4), 2) := by decide +kernel
theorem dX9_choose_146 : decode cX9_choose 146 = .ok (.if_icmp .eq 14, 3) := by decide +kernel
theorem dX9_choose_149 : decode cX9_choose 149 = .ok (.iload 8, 2) := by decide +kernel
theorem dX9_choose_151 : decode cX9_choose 151 = .ok (.aload_n 0, 1) := by decide +kernel
theorem dX9_choose_152 : decode cX9_choose 152 = .ok (.iload 6, 2) := by decide +kernel
theorem dX9_choose_154 : decode cX9_choose 154 = .ok (.invokevirtual 108, 3) := by decide +kernel
theorem dX9_choose_157 : decode cX9_choose 157 = .ok (.if_icmp .le 8, 3) := by decide +kernel
theorem dX9_choose_160 : decode cX9_choose 160 = .ok (.iload 7, 2) := by decide +kernel
theorem dX9_choose_162 : decode cX9_choose 162 = .ok (.goto 5, 3) := by decide +kernel
theorem dX9_choose_165 : decode cX9_choose 165 = .ok (.iload 6, 2) := by decide +kernel
theorem dX9_choose_167 : decode cX9_choose 167 = .ok (.istore 6, 2) := by decide +kernel
theorem dX9_choose_169 : decode cX9_choose 169 = .ok (.iinc 7 1, 3) := by decide +kernel
theorem dX9_choose_172 : decode cX9_choose 172 = .ok (.goto (-157), 3) := by decide +kernel
theorem dX9_choose_175 : decode cX9_choose 175 = .ok (.aload_n 0, 1) := by decide +kernel
theorem dX9_choose_176 : decode cX9_choose 176 = .ok (.iload 4, 2) := by decide +kernel
theorem dX9_choose_178 : decode cX9_choose 178 = .ok (.bipush (-4), 2) := by decide +kernel
theorem dX9_choose_180 : decode cX9_choose 180 = .ok (.if_icmp .eq 8, 3) := by decide +kernel
theorem dX9_choose_183 : decode cX9_choose 183 = .ok (.iload 4, 2) := by decide +kernel
theorem dX9_choose_185 : decode cX9_choose 185 = .ok (.goto 17, 3) := by decide +kernel
theorem dX9_choose_188 : decode cX9_choose 188 = .ok (.iload 5, 2) := by decide +kernel
theorem dX9_choose_190 : decode cX9_choose 190 = .ok (.bipush (-4), 2) := by decide +kernel
theorem dX9_choose_192 : decode cX9_choose 192 = .ok (.if_icmp .eq 8, 3) := by decide +kernel
theorem dX9_choose_195 : decode cX9_choose 195 = .ok (.iload 5, 2) := by decide +kernel
theorem dX9_choose_197 : decode cX9_choose 197 = .ok (.goto 5, 3) := by decide +kernel
theorem dX9_choose_200 : decode cX9_choose 200 = .ok (.iload 6, 2) := by decide +kernel
theorem dX9_choose_202 : decode cX9_choose 202 = .ok (.putfield 120, 3) := by decide +kernel
theorem dX9_choose_205 : decode cX9_choose 205 = .ok (.aload_n 0, 1) := by decide +kernel
theorem dX9_choose_206 : decode cX9_choose 206 = .ok (.getfield 120, 3) := by decide +kernel
theorem dX9_choose_209 : decode cX9_choose 209 = .ok (.bipush (-4), 2) := by decide +kernel
theorem dX9_choose_211 : decode cX9_choose 211 = .ok (.if_icmp .ne 5, 3) := by decide +kernel
theorem dX9_choose_214 : decode cX9_choose 214 = .ok (.iconst 0, 1) := by decide +kernel
theorem dX9_choose_215 : decode cX9_choose 215 = .ok (.ireturn, 1) := by decide +kernel
theorem dX9_choose_216 : decode cX9_choose 216 = .ok (.aload_n 0, 1) := by decide +kernel
theorem dX9_choose_217 : decode cX9_choose 217 = .ok (.iload 4, 2) := by decide +kernel
theorem dX9_choose_219 : decode cX9_choose 219 = .ok (.bipush (-4), 2) := by decide +kernel
theorem dX9_choose_221 : decode cX9_choose 221 = .ok (.if_icmp .eq 9, 3) := by decide +kernel
theorem dX9_choose_224 : decode cX9_choose 224 = .ok (.iload_n 3, 1) := by decide +kernel
theorem dX9_choose_225 : decode cX9_choose 225 = .ok (.iload_n 2, 1) := by decide +kernel
theorem dX9_choose_226 : decode cX9_choose 226 = .ok (.isub, 1) := by decide +kernel
theorem dX9_choose_227 : decode cX9_choose 227 = .ok (.goto 11, 3) := by decide +kernel
theorem dX9_choose_230 : decode cX9_choose 230 = .ok (.aload_n 0, 1) := by decide +kernel
theorem dX9_choose_231 : decode cX9_choose 231 = .ok (.aload_n 0, 1) := by decide +kernel
theorem dX9_choose_232 : decode cX9_choose 232 = .ok (.getfield 120, 3) := by decide +kernel
theorem dX9_choose_235 : decode cX9_choose 235 = .ok (.invokevirtual 108, 3) := by decide +kernel
theorem dX9_choose_238 : decode cX9_choose 238 = .ok (.putfield 123, 3) := by decide +kernel
theorem dX9_choose_241 : decode cX9_choose 241 = .ok (.iload 4, 2) := by decide +kernel
theorem dX9_choose_243 : decode cX9_choose 243 = .ok (.bipush (-4), 2) := by decide +kernel
theorem dX9_choose_245 : decode cX9_choose 245 = .ok (.if_icmp .ne 61, 3) := by decide +kernel
theorem dX9_choose_248 : decode cX9_choose 248 = .ok (.iload 5, 2) := by decide +kernel
theorem dX9_choose_250 : decode cX9_choose 250 = .ok (.bipush (-4), 2) := by decide +kernel
theorem dX9_choose_252 : decode cX9_choose 252 = .ok (.if_icmp .ne 54, 3) := by decide +kernel
theorem dX9_choose_255 : decode cX9_choose 255 = .ok (.aload_n 0, 1) := by decide +kernel
theorem dX9_choose_256 : decode cX9_choose 256 = .ok (.getfield 123, 3) := by decide +kernel
theorem dX9_choose_259 : decode cX9_choose 259 = .ok (.ifCond .le 47, 3) := by decide +kernel
theorem dX9_choose_262 : decode cX9_choose 262 = .ok (.aload_n 0, 1) := by decide +kernel
theorem dX9_choose_263 : decode cX9_choose 263 = .ok (.dup, 1) := by decide +kernel
theorem dX9_choose_264 : decode cX9_choose 264 = .ok (.getfield 123, 3) := by decide +kernel
theorem dX9_choose_267 : decode cX9_choose 267 = .ok (.iconst 1, 1) := by decide +kernel
theorem dX9_choose_268 : decode cX9_choose 268 = .ok (.isub, 1) := by decide +kernel
theorem dX9_choose_269 : decode cX9_choose 269 = .ok (.putfield 123, 3) := by decide +kernel
theorem dX9_choose_272 : decode cX9_choose 272 = .ok (.aload_n 0, 1) := by decide +kernel
theorem dX9_choose_273 : decode cX9_choose 273 = .ok (.getfield 123, 3) := by decide +kernel
theorem dX9_choose_276 : decode cX9_choose 276 = .ok (.ifCond .le 23, 3) := by decide +kernel
theorem dX9_choose_279 : decode cX9_choose 279 = .ok (.aload_n 0, 1) := by decide +kernel
theorem dX9_choose_280 : decode cX9_choose 280 = .ok (.iload_n 2, 1) := by decide +kernel
theorem dX9_choose_281 : decode cX9_choose 281 = .ok (.aload_n 0, 1) := by decide +kernel
theorem dX9_choose_282 : decode cX9_choose 282 = .ok (.getfield 123, 3) := by decide +kernel
theorem dX9_choose_285 : decode cX9_choose 285 = .ok (.iadd, 1) := by decide +kernel
theorem dX9_choose_286 : decode cX9_choose 286 = .ok (.invokevirtual 117, 3) := by decide +kernel
theorem dX9_choose_289 : decode cX9_choose 289 = .ok (.ifCond .eq 10, 3) := by decide +kernel
theorem dX9_choose_292 : decode cX9_choose 292 = .ok (.aload_n 0, 1) := by decide +kernel
theorem dX9_choose_293 : decode cX9_choose 293 = .ok (.getfield 120, 3) := by decide +kernel
theorem dX9_choose_296 : decode cX9_choose 296 = .ok (.goto 5, 3) := by decide +kernel
theorem dX9_choose_299 : decode cX9_choose 299 = .ok (.bipush (-4), 2) := by decide +kernel
theorem dX9_choose_301 : decode cX9_choose 301 = .ok (.istore 5, 2) := by decide +kernel
theorem dX9_choose_303 : decode cX9_choose 303 = .ok (.goto (-62), 3) := by decide +kernel
theorem dX9_choose_306 : decode cX9_choose 306 = .ok (.aload_n 0, 1) := by decide +kernel
theorem dX9_choose_307 : decode cX9_choose 307 = .ok (.getfield 123, 3) := by decide +kernel
theorem dX9_choose_310 : decode cX9_choose 310 = .ok (.ifCond .le 7, 3) := by decide +kernel
theorem dX9_choose_313 : decode cX9_choose 313 = .ok (.iconst 1, 1) := by decide +kernel
theorem dX9_choose_314 : decode cX9_choose 314 = .ok (.goto 4, 3) := by decide +kernel
theorem dX9_choose_317 : decode cX9_choose 317 = .ok (.iconst 0, 1) := by decide +kernel
theorem dX9_choose_318 : decode cX9_choose 318 = .ok (.ireturn, 1) := by decide +kernel
set_option maxRecDepth 20000 in
theorem ggX9_fill_X9_room : GoodIn wsX9_fill wsX9_room := goodIn_r _ [8, 9, 10, 11, 12, 7, 13, 14, 15, 16, 17, 1, 18, 19, 20, 21, 54, 55, 56, 57, 58, 59, 60, 61, 62, 63, 64, 65, 66, 67, 68, 69, 70, 71] (by decide +kernel) (by decide +kernel)
set_option maxRecDepth 20000 in
theorem gX9_fill_X9_room : GoodIn wsX9_fill (wsV RX9 126 RX9 yX9_room wsX9_room) := goodIn_app (goodIn_of _ (by decide +kernel)) ggX9_fill_X9_room
set_option maxRecDepth 20000 in
theorem ggX9_fill_X9_findJoints : GoodIn wsX9_fill wsX9_findJoints := goodIn_r _ [25, 26, 27, 28, 29, 30, 7, 31, 1, 32, 33, 34, 35, 54, 55, 56, 57, 58, 59, 60, 61, 62, 63, 64, 65, 66, 67, 68, 69, 70, 71] (by decide +kernel) (by decide +kernel)
set_option maxRecDepth 20000 in
theorem gX9_fill_X9_findJoints : GoodIn wsX9_fill (wsV RX9 129 RX9 yX9_findJoints wsX9_findJoints) := goodIn_app (goodIn_of _ (by decide +kernel)) ggX9_fill_X9_findJoints
set_option maxRecDepth 20000 in
theorem ggX9_fill_X9_choose : GoodIn wsX9_fill wsX9_choose := goodIn_r _ [39, 40, 1, 2, 3, 41, 42, 43, 7, 44, 45, 46, 47, 48, 49, 50, 51, 52, 53, 26, 27, 9, 54, 55, 56, 57, 58, 59, 60, 61, 62, 63, 64, 65, 66, 67, 68, 69, 70, 71] (by decide +kernel) (by decide +kernel)
set_option maxRecDepth 20000 in
theorem gX9_fill_X9_choose : GoodIn wsX9_fill (wsV RX9 133 RX9 yX9_choose wsX9_choose) := goodIn_app (goodIn_of _ (by decide +kernel)) ggX9_fill_X9_choose
theorem dX9_fill_0 : decode cX9_fill 0 = .ok (.aload_n 0, 1) := by decide +kernel
theorem dX9_fill_1 : decode cX9_fill 1 = .ok (.getfield 25, 3) := by decide +kernel
theorem dX9_fill_4 : decode cX9_fill 4 = .ok (.bipush 8, 2) := by decide +kernel
theorem dX9_fill_6 : decode cX9_fill 6 = .ok (.iaload, 1) := by decide +kernel
theorem dX9_fill_7 : decode cX9_fill 7 = .ok (.istore_n 2, 1) := by decide +kernel
theorem dX9_fill_8 : decode cX9_fill 8 = .ok (.aload_n 0, 1) := by decide +kernel
theorem dX9_fill_9 : decode cX9_fill 9 = .ok (.iload_n 2, 1) := by decide +kernel
theorem dX9_fill_10 : decode cX9_fill 10 = .ok (.invokevirtual 126, 3) := by decide +kernel
theorem dX9_fill_13 : decode cX9_fill 13 = .ok (.istore_n 3, 1) := by decide +kernel
theorem dX9_fill_14 : decode cX9_fill 14 = .ok (.bipush 9, 2) := by decide +kernel
theorem dX9_fill_16 : decode cX9_fill 16 = .ok (.bipush 62, 2) := by decide +kernel
theorem dX9_fill_18 : decode cX9_fill 18 = .ok (.iload_n 2, 1) := by decide +kernel
theorem dX9_fill_19 : decode cX9_fill 19 = .ok (.imul, 1) := by decide +kernel
theorem dX9_fill_20 : decode cX9_fill 20 = .ok (.iadd, 1) := by decide +kernel
theorem dX9_fill_21 : decode cX9_fill 21 = .ok (.istore 4, 2) := by decide +kernel
theorem dX9_fill_23 : decode cX9_fill 23 = .ok (.aload_n 0, 1) := by decide +kernel
theorem dX9_fill_24 : decode cX9_fill 24 = .ok (.getfield 25, 3) := by decide +kernel
theorem dX9_fill_27 : decode cX9_fill 27 = .ok (.iload 4, 2) := by decide +kernel
theorem dX9_fill_29 : decode cX9_fill 29 = .ok (.iload_n 1, 1) := by decide +kernel
theorem dX9_fill_30 : decode cX9_fill 30 = .ok (.iastore, 1) := by decide +kernel
theorem dX9_fill_31 : decode cX9_fill 31 = .ok (.aload_n 0, 1) := by decide +kernel
theorem dX9_fill_32 : decode cX9_fill 32 = .ok (.getfield 25, 3) := by decide +kernel
theorem dX9_fill_35 : decode cX9_fill 35 = .ok (.iload 4, 2) := by decide +kernel
theorem dX9_fill_37 : decode cX9_fill 37 = .ok (.iconst 1, 1) := by decide +kernel
theorem dX9_fill_38 : decode cX9_fill 38 = .ok (.iadd, 1) := by decide +kernel
theorem dX9_fill_39 : decode cX9_fill 39 = .ok (.iconst 0, 1) := by decide +kernel
theorem dX9_fill_40 : decode cX9_fill 40 = .ok (.iastore, 1) := by decide +kernel
theorem dX9_fill_41 : decode cX9_fill 41 = .ok (.aload_n 0, 1) := by decide +kernel
theorem dX9_fill_42 : decode cX9_fill 42 = .ok (.iload_n 2, 1) := by decide +kernel
theorem dX9_fill_43 : decode cX9_fill 43 = .ok (.iconst 1, 1) := by decide +kernel
theorem dX9_fill_44 : decode cX9_fill 44 = .ok (.isub, 1) := by decide +kernel
theorem dX9_fill_45 : decode cX9_fill 45 = .ok (.invokevirtual 129, 3) := by decide +kernel
theorem dX9_fill_48 : decode cX9_fill 48 = .ok (.iconst 0, 1) := by decide +kernel
theorem dX9_fill_49 : decode cX9_fill 49 = .ok (.istore 5, 2) := by decide +kernel
theorem dX9_fill_51 : decode cX9_fill 51 = .ok (.iload 5, 2) := by decide +kernel
theorem dX9_fill_53 : decode cX9_fill 53 = .ok (.iload_n 3, 1) := by decide +kernel
theorem dX9_fill_54 : decode cX9_fill 54 = .ok (.if_icmp .ge 99, 3) := by decide +kernel
theorem dX9_fill_57 : decode cX9_fill 57 = .ok (.aload_n 0, 1) := by decide +kernel
theorem dX9_fill_58 : decode cX9_fill 58 = .ok (.getfield 25, 3) := by decide +kernel
theorem dX9_fill_61 : decode cX9_fill 61 = .ok (.iload 4, 2) := by decide +kernel
theorem dX9_fill_63 : decode cX9_fill 63 = .ok (.iconst 1, 1) := by decide +kernel
theorem dX9_fill_64 : decode cX9_fill 64 = .ok (.iadd, 1) := by decide +kernel
theorem dX9_fill_65 : decode cX9_fill 65 = .ok (.iaload, 1) := by decide +kernel
theorem dX9_fill_66 : decode cX9_fill 66 = .ok (.bipush 60, 2) := by decide +kernel
theorem dX9_fill_68 : decode cX9_fill 68 = .ok (.if_icmp .eq 14, 3) := by decide +kernel
theorem dX9_fill_71 : decode cX9_fill 71 = .ok (.aload_n 0, 1) := by decide +kernel
theorem dX9_fill_72 : decode cX9_fill 72 = .ok (.iload_n 1, 1) := by decide +kernel
theorem dX9_fill_73 : decode cX9_fill 73 = .ok (.iload 5, 2) := by decide +kernel
theorem dX9_fill_75 : decode cX9_fill 75 = .ok (.iload_n 3, 1) := by decide +kernel
theorem dX9_fill_76 : decode cX9_fill 76 = .ok (.invokevirtual 133, 3) := by decide +kernel
theorem dX9_fill_79 : decode cX9_fill 79 = .ok (.ifCond .ne 5, 3) := by decide +kernel
theorem dX9_fill_82 : decode cX9_fill 82 = .ok (.iconst 0, 1) := by decide +kernel
theorem dX9_fill_83 : decode cX9_fill 83 = .ok (.ireturn, 1) := by decide +kernel
theorem dX9_fill_84 : decode cX9_fill 84 = .ok (.aload_n 0, 1) := by decide +kernel
theorem dX9_fill_85 : decode cX9_fill 85 = .ok (.getfield 25, 3) := by decide +kernel
theorem dX9_fill_88 : decode cX9_fill 88 = .ok (.aload_n 0, 1) := by decide +kernel
theorem dX9_fill_89 : decode cX9_fill 89 = .ok (.getfield 120, 3) := by decide +kernel
theorem dX9_fill_92 : decode cX9_fill 92 = .ok (.dup2, 1) := by decide +kernel
theorem dX9_fill_93 : decode cX9_fill 93 = .ok (.iaload, 1) := by decide +kernel
theorem dX9_fill_94 : decode cX9_fill 94 = .ok (.iconst 1, 1) := by decide +kernel
theorem dX9_fill_95 : decode cX9_fill 95 = .ok (.isub, 1) := by decide +kernel
theorem dX9_fill_96 : decode cX9_fill 96 = .ok (.iastore, 1) := by decide +kernel
theorem dX9_fill_97 : decode cX9_fill 97 = .ok (.aload_n 0, 1) := by decide +kernel
theorem dX9_fill_98 : decode cX9_fill 98 = .ok (.getfield 25, 3) := by decide +kernel
theorem dX9_fill_101 : decode cX9_fill 101 = .ok (.iload 4, 2) := by decide +kernel
theorem dX9_fill_103 : decode cX9_fill 103 = .ok (.iconst 2, 1) := by decide +kernel
theorem dX9_fill_104 : decode cX9_fill 104 = .ok (.iadd, 1) := by decide +kernel
theorem dX9_fill_105 : decode cX9_fill 105 = .ok (.aload_n 0, 1) := by decide +kernel
theorem dX9_fill_106 : decode cX9_fill 106 = .ok (.getfield 25, 3) := by decide +kernel
theorem dX9_fill_109 : decode cX9_fill 109 = .ok (.iload 4, 2) := by decide +kernel
theorem dX9_fill_111 : decode cX9_fill 111 = .ok (.iconst 1, 1) := by decide +kernel
theorem dX9_fill_112 : decode cX9_fill 112 = .ok (.iadd, 1) := by decide +kernel
theorem dX9_fill_113 : decode cX9_fill 113 = .ok (.iaload, 1) := by decide +kernel
theorem dX9_fill_114 : decode cX9_fill 114 = .ok (.iadd, 1) := by decide +kernel
theorem dX9_fill_115 : decode cX9_fill 115 = .ok (.bipush 64, 2) := by decide +kernel
theorem dX9_fill_117 : decode cX9_fill 117 = .ok (.aload_n 0, 1) := by decide +kernel
theorem dX9_fill_118 : decode cX9_fill 118 = .ok (.getfield 120, 3) := by decide +kernel
theorem dX9_fill_121 : decode cX9_fill 121 = .ok (.imul, 1) := by decide +kernel
theorem dX9_fill_122 : decode cX9_fill 122 = .ok (.aload_n 0, 1) := by decide +kernel
theorem dX9_fill_123 : decode cX9_fill 123 = .ok (.getfield 123, 3) := by decide +kernel
theorem dX9_fill_126 : decode cX9_fill 126 = .ok (.iadd, 1) := by decide +kernel
theorem dX9_fill_127 : decode cX9_fill 127 = .ok (.iastore, 1) := by decide +kernel
theorem dX9_fill_128 : decode cX9_fill 128 = .ok (.aload_n 0, 1) := by decide +kernel
theorem dX9_fill_129 : decode cX9_fill 129 = .ok (.getfield 25, 3) := by decide +kernel
theorem dX9_fill_132 : decode cX9_fill 132 = .ok (.iload 4, 2) := by decide +kernel
theorem dX9_fill_134 : decode cX9_fill 134 = .ok (.iconst 1, 1) := by decide +kernel
theorem dX9_fill_135 : decode cX9_fill 135 = .ok (.iadd, 1) := by decide +kernel
theorem dX9_fill_136 : decode cX9_fill 136 = .ok (.dup2, 1) := by decide +kernel
theorem dX9_fill_137 : decode cX9_fill 137 = .ok (.iaload, 1) := by decide +kernel
theorem dX9_fill_138 : decode cX9_fill 138 = .ok (.iconst 1, 1) := by decide +kernel
theorem dX9_fill_139 : decode cX9_fill 139 = .ok (.iadd, 1) := by decide +kernel
theorem dX9_fill_140 : decode cX9_fill 140 = .ok (.iastore, 1) := by decide +kernel
theorem dX9_fill_141 : decode cX9_fill 141 = .ok (.iload 5, 2) := by decide +kernel
theorem dX9_fill_143 : decode cX9_fill 143 = .ok (.aload_n 0, 1) := by decide +kernel
theorem dX9_fill_144 : decode cX9_fill 144 = .ok (.getfield 123, 3) := by decide +kernel
theorem dX9_fill_147 : decode cX9_fill 147 = .ok (.iadd, 1) := by decide +kernel
theorem dX9_fill_148 : decode cX9_fill 148 = .ok (.istore 5, 2) := by decide +kernel
theorem dX9_fill_150 : decode cX9_fill 150 = .ok (.goto (-99), 3) := by decide +kernel
theorem dX9_fill_153 : decode cX9_fill 153 = .ok (.iconst 1, 1) := by decide +kernel
theorem dX9_fill_154 : decode cX9_fill 154 = .ok (.ireturn, 1) := by decide +kernel
set_option maxRecDepth 20000 in
theorem ggX9_giveBack_X9_slateCount : GoodIn wsX9_giveBack wsX9_slateCount := goodIn_r _ [6, 1, 11, 12, 13, 14, 15, 16, 17, 18, 19, 20, 21, 22, 23, 24, 25, 26, 27, 28] (by decide +kernel) (by decide +kernel)
set_option maxRecDepth 20000 in
theorem gX9_giveBack_X9_slateCount : GoodIn wsX9_giveBack (wsV RX9 101 RX9 yX9_slateCount wsX9_slateCount) := goodIn_app (goodIn_of _ (by decide +kernel)) ggX9_giveBack_X9_slateCount
set_option maxRecDepth 20000 in
theorem ggX9_giveBack_X9_slateOf : GoodIn wsX9_giveBack wsX9_slateOf := goodIn_r _ [10, 1, 11, 12, 13, 14, 15, 16, 17, 18, 19, 20, 21, 22, 23, 24, 25, 26, 27, 28] (by decide +kernel) (by decide +kernel)
set_option maxRecDepth 20000 in
theorem gX9_giveBack_X9_slateOf : GoodIn wsX9_giveBack (wsV RX9 104 RX9 yX9_slateOf wsX9_slateOf) := goodIn_app (goodIn_of _ (by decide +kernel)) ggX9_giveBack_X9_slateOf
theorem dX9_giveBack_0 : decode cX9_giveBack 0 = .ok (.iconst 0, 1) := by decide +kernel
theorem dX9_giveBack_1 : decode cX9_giveBack 1 = .ok (.istore_n 2, 1) := by decide +kernel
theorem dX9_giveBack_2 : decode cX9_giveBack 2 = .ok (.iload_n 2, 1) := by decide +kernel
theorem dX9_giveBack_3 : decode cX9_giveBack 3 = .ok (.aload_n 0, 1) := by decide +kernel
theorem dX9_giveBack_4 : decode cX9_giveBack 4 = .ok (.iload_n 1, 1) := by decide +kernel
theorem dX9_giveBack_5 : decode cX9_giveBack 5 = .ok (.invokevirtual 101, 3) := by decide +kernel
theorem dX9_giveBack_8 : decode cX9_giveBack 8 = .ok (.if_icmp .ge 27, 3) := by decide +kernel
theorem dX9_giveBack_11 : decode cX9_giveBack 11 = .ok (.aload_n 0, 1) := by decide +kernel
theorem dX9_giveBack_12 : decode cX9_giveBack 12 = .ok (.getfield 25, 3) := by decide +kernel
theorem dX9_giveBack_15 : decode cX9_giveBack 15 = .ok (.aload_n 0, 1) := by decide +kernel
theorem dX9_giveBack_16 : decode cX9_giveBack 16 = .ok (.iload_n 1, 1) := by decide +kernel
theorem dX9_giveBack_17 : decode cX9_giveBack 17 = .ok (.iload_n 2, 1) := by decide +kernel
theorem dX9_giveBack_18 : decode cX9_giveBack 18 = .ok (.invokevirtual 104, 3) := by decide +kernel
theorem dX9_giveBack_21 : decode cX9_giveBack 21 = .ok (.bipush 64, 2) := by decide +kernel
theorem dX9_giveBack_23 : decode cX9_giveBack 23 = .ok (.idiv, 1) := by decide +kernel
theorem dX9_giveBack_24 : decode cX9_giveBack 24 = .ok (.dup2, 1) := by decide +kernel
theorem dX9_giveBack_25 : decode cX9_giveBack 25 = .ok (.iaload, 1) := by decide +kernel
theorem dX9_giveBack_26 : decode cX9_giveBack 26 = .ok (.iconst 1, 1) := by decide +kernel
theorem dX9_giveBack_27 : decode cX9_giveBack 27 = .ok (.iadd, 1) := by decide +kernel
theorem dX9_giveBack_28 : decode cX9_giveBack 28 = .ok (.iastore, 1) := by decide +kernel
theorem dX9_giveBack_29 : decode cX9_giveBack 29 = .ok (.iinc 2 1, 3) := by decide +kernel
theorem dX9_giveBack_32 : decode cX9_giveBack 32 = .ok (.goto (-30), 3) := by decide +kernel
theorem dX9_giveBack_35 : decode cX9_giveBack 35 = .ok (.return_, 1) := by decide +kernel
set_option maxRecDepth 20000 in
theorem ggX9_mayBegin_X9_heapLength : GoodIn wsX9_mayBegin wsX9_heapLength := goodIn_r _ [7, 8, 26, 27, 28, 29, 30, 31, 32, 33, 34, 35, 36, 37, 38, 39, 40, 41, 42, 43] (by decide +kernel) (by decide +kernel)
set_option maxRecDepth 20000 in
theorem gX9_mayBegin_X9_heapLength : GoodIn wsX9_mayBegin (wsV RX9 114 RX9 yX9_heapLength wsX9_heapLength) := goodIn_app (goodIn_of _ (by decide +kernel)) ggX9_mayBegin_X9_heapLength
set_option maxRecDepth 20000 in
theorem ggX9_mayBegin_X9_isReady : GoodIn wsX9_mayBegin wsX9_isReady := goodIn_r _ [12, 2, 13, 14, 15, 16, 6, 17, 18, 19, 20, 21, 22, 23, 24, 25, 26, 27, 28, 29, 30, 31, 32, 33, 34, 35, 36, 37, 38, 39, 40, 41, 42, 43] (by decide +kernel) (by decide +kernel)
set_option maxRecDepth 20000 in
theorem gX9_mayBegin_X9_isReady : GoodIn wsX9_mayBegin (wsV RX9 136 RX9 yX9_isReady wsX9_isReady) := goodIn_app (goodIn_of _ (by decide +kernel)) ggX9_mayBegin_X9_isReady
set_option maxRecDepth 20000 in
theorem ggX9_mayBegin_X9_courseLength : GoodIn wsX9_mayBegin wsX9_courseLength := goodIn_r _ [21, 2, 26, 27, 28, 29, 30, 31, 32, 33, 34, 35, 36, 37, 38, 39, 40, 41, 42, 43] (by decide +kernel) (by decide +kernel)
set_option maxRecDepth 20000 in
theorem gX9_mayBegin_X9_courseLength : GoodIn wsX9_mayBegin (wsV RX9 91 RX9 yX9_courseLength wsX9_courseLength) := goodIn_app (goodIn_of _ (by decide +kernel)) ggX9_mayBegin_X9_courseLength
theorem dX9_mayBegin_0 : decode cX9_mayBegin 0 = .ok (.iconst 0, 1) := by decide +kernel
theorem dX9_mayBegin_1 : decode cX9_mayBegin 1 = .ok (.istore_n 2, 1) := by decide +kernel
theorem dX9_mayBegin_2 : decode cX9_mayBegin 2 = .ok (.iconst 0, 1) := by decide +kernel
theorem dX9_mayBegin_3 : decode cX9_mayBegin 3 = .ok (.istore_n 3, 1) := by decide +kernel
theorem dX9_mayBegin_4 : decode cX9_mayBegin 4 = .ok (.iload_n 3, 1) := by decide +kernel
theorem dX9_mayBegin_5 : decode cX9_mayBegin 5 = .ok (.aload_n 0, 1) := by decide +kernel
theorem dX9_mayBegin_6 : decode cX9_mayBegin 6 = .ok (.getfield 54, 3) := by decide +kernel
theorem dX9_mayBegin_9 : decode cX9_mayBegin 9 = .ok (.if_icmp .ge 28, 3) := by decide +kernel
theorem dX9_mayBegin_12 : decode cX9_mayBegin 12 = .ok (.iload_n 2, 1) := by decide +kernel
theorem dX9_mayBegin_13 : decode cX9_mayBegin 13 = .ok (.ifCond .ne 12, 3) := by decide +kernel
theorem dX9_mayBegin_16 : decode cX9_mayBegin 16 = .ok (.aload_n 0, 1) := by decide +kernel
theorem dX9_mayBegin_17 : decode cX9_mayBegin 17 = .ok (.iload_n 3, 1) := by decide +kernel
theorem dX9_mayBegin_18 : decode cX9_mayBegin 18 = .ok (.invokevirtual 114, 3) := by decide +kernel
theorem dX9_mayBegin_21 : decode cX9_mayBegin 21 = .ok (.iload_n 1, 1) := by decide +kernel
theorem dX9_mayBegin_22 : decode cX9_mayBegin 22 = .ok (.if_icmp .ne 7, 3) := by decide +kernel
theorem dX9_mayBegin_25 : decode cX9_mayBegin 25 = .ok (.iconst 1, 1) := by decide +kernel
theorem dX9_mayBegin_26 : decode cX9_mayBegin 26 = .ok (.goto 4, 3) := by decide +kernel
theorem dX9_mayBegin_29 : decode cX9_mayBegin 29 = .ok (.iconst 0, 1) := by decide +kernel
theorem dX9_mayBegin_30 : decode cX9_mayBegin 30 = .ok (.istore_n 2, 1) := by decide +kernel
theorem dX9_mayBegin_31 : decode cX9_mayBegin 31 = .ok (.iinc 3 1, 3) := by decide +kernel
theorem dX9_mayBegin_34 : decode cX9_mayBegin 34 = .ok (.goto (-30), 3) := by decide +kernel
theorem dX9_mayBegin_37 : decode cX9_mayBegin 37 = .ok (.aload_n 0, 1) := by decide +kernel
theorem dX9_mayBegin_38 : decode cX9_mayBegin 38 = .ok (.getfield 25, 3) := by decide +kernel
theorem dX9_mayBegin_41 : decode cX9_mayBegin 41 = .ok (.bipush 8, 2) := by decide +kernel
theorem dX9_mayBegin_43 : decode cX9_mayBegin 43 = .ok (.iaload, 1) := by decide +kernel
theorem dX9_mayBegin_44 : decode cX9_mayBegin 44 = .ok (.istore_n 3, 1) := by decide +kernel
theorem dX9_mayBegin_45 : decode cX9_mayBegin 45 = .ok (.iload_n 2, 1) := by decide +kernel
theorem dX9_mayBegin_46 : decode cX9_mayBegin 46 = .ok (.ifCond .eq 35, 3) := by decide +kernel
theorem dX9_mayBegin_49 : decode cX9_mayBegin 49 = .ok (.iload_n 3, 1) := by decide +kernel
theorem dX9_mayBegin_50 : decode cX9_mayBegin 50 = .ok (.bipush 20, 2) := by decide +kernel
theorem dX9_mayBegin_52 : decode cX9_mayBegin 52 = .ok (.if_icmp .ge 29, 3) := by decide +kernel
theorem dX9_mayBegin_55 : decode cX9_mayBegin 55 = .ok (.aload_n 0, 1) := by decide +kernel
theorem dX9_mayBegin_56 : decode cX9_mayBegin 56 = .ok (.invokevirtual 136, 3) := by decide +kernel
theorem dX9_mayBegin_59 : decode cX9_mayBegin 59 = .ok (.ifCond .ne 22, 3) := by decide +kernel
theorem dX9_mayBegin_62 : decode cX9_mayBegin 62 = .ok (.iload_n 3, 1) := by decide +kernel
theorem dX9_mayBegin_63 : decode cX9_mayBegin 63 = .ok (.ifCond .eq 14, 3) := by decide +kernel
theorem dX9_mayBegin_66 : decode cX9_mayBegin 66 = .ok (.iload_n 1, 1) := by decide +kernel
theorem dX9_mayBegin_67 : decode cX9_mayBegin 67 = .ok (.aload_n 0, 1) := by decide +kernel
theorem dX9_mayBegin_68 : decode cX9_mayBegin 68 = .ok (.iload_n 3, 1) := by decide +kernel
theorem dX9_mayBegin_69 : decode cX9_mayBegin 69 = .ok (.iconst 1, 1) := by decide +kernel
theorem dX9_mayBegin_70 : decode cX9_mayBegin 70 = .ok (.isub, 1) := by decide +kernel
theorem dX9_mayBegin_71 : decode cX9_mayBegin 71 = .ok (.invokevirtual 91, 3) := by decide +kernel
theorem dX9_mayBegin_74 : decode cX9_mayBegin 74 = .ok (.if_icmp .gt 7, 3) := by decide +kernel
theorem dX9_mayBegin_77 : decode cX9_mayBegin 77 = .ok (.iconst 1, 1) := by decide +kernel
theorem dX9_mayBegin_78 : decode cX9_mayBegin 78 = .ok (.goto 4, 3) := by decide +kernel
theorem dX9_mayBegin_81 : decode cX9_mayBegin 81 = .ok (.iconst 0, 1) := by decide +kernel
theorem dX9_mayBegin_82 : decode cX9_mayBegin 82 = .ok (.ireturn, 1) := by decide +kernel
set_option maxRecDepth 20000 in
theorem ggX9_layCourse_X9_mayBegin : GoodIn wsX9_layCourse wsX9_mayBegin := goodIn_r _ [6, 7, 1, 8, 9, 10, 5, 11, 12, 13, 14, 15, 16, 17, 18, 19, 20, 21, 22, 23, 24, 25, 26, 27, 28, 29, 70, 71, 72, 73, 74, 75, 76, 77, 78, 79, 80, 81, 82, 83, 84, 85, 86, 87] (by decide +kernel) (by decide +kernel)
set_option maxRecDepth 20000 in
theorem gX9_layCourse_X9_mayBegin : GoodIn wsX9_layCourse (wsV RX9 139 RX9 yX9_mayBegin wsX9_mayBegin) := goodIn_app (goodIn_of _ (by decide +kernel)) ggX9_layCourse_X9_mayBegin
set_option maxRecDepth 20000 in
theorem ggX9_layCourse_X9_fill : GoodIn wsX9_layCourse wsX9_fill := goodIn_r _ [33, 1, 34, 35, 36, 37, 38, 5, 39, 17, 18, 19, 20, 21, 22, 23, 24, 25, 26, 27, 28, 29, 40, 41, 42, 43, 44, 45, 46, 47, 48, 49, 50, 51, 52, 53, 54, 55, 56, 57, 7, 8, 9, 10, 11, 12, 58, 59, 60, 61, 62, 63, 64, 65, 70, 71, 72, 73, 74, 75, 76, 77, 78, 79, 80, 81, 82, 83, 84, 85, 86, 87] (by decide +kernel) (by decide +kernel)
set_option maxRecDepth 20000 in
theorem gX9_layCourse_X9_fill : GoodIn wsX9_layCourse (wsV RX9 142 RX9 yX9_fill wsX9_fill) := goodIn_app (goodIn_of _ (by decide +kernel)) ggX9_layCourse_X9_fill
set_option maxRecDepth 20000 in
theorem ggX9_layCourse_X9_giveBack : GoodIn wsX9_layCourse wsX9_giveBack := goodIn_r _ [69, 1, 46, 47, 48, 5, 49, 50, 51, 52, 53, 70, 71, 72, 73, 74, 75, 76, 77, 78, 79, 80, 81, 82, 83, 84, 85, 86, 87] (by decide +kernel) (by decide +kernel)
set_option maxRecDepth 20000 in
theorem gX9_layCourse_X9_giveBack : GoodIn wsX9_layCourse (wsV RX9 145 RX9 yX9_giveBack wsX9_giveBack) := goodIn_app (goodIn_of _ (by decide +kernel)) ggX9_layCourse_X9_giveBack
theorem dX9_layCourse_0 : decode cX9_layCourse 0 = .ok (.aload_n 0, 1) := by decide +kernel
theorem dX9_layCourse_1 : decode cX9_layCourse 1 = .ok (.iload_n 1, 1) := by decide +kernel
theorem dX9_layCourse_2 : decode cX9_layCourse 2 = .ok (.invokevirtual 139, 3) := by decide +kernel
theorem dX9_layCourse_5 : decode cX9_layCourse 5 = .ok (.ifCond .ne 5, 3) := by decide +kernel
theorem dX9_layCourse_8 : decode cX9_layCourse 8 = .ok (.iconst 0, 1) := by decide +kernel
theorem dX9_layCourse_9 : decode cX9_layCourse 9 = .ok (.ireturn, 1) := by decide +kernel
theorem dX9_layCourse_10 : decode cX9_layCourse 10 = .ok (.aload_n 0, 1) := by decide +kernel
theorem dX9_layCourse_11 : decode cX9_layCourse 11 = .ok (.iload_n 1, 1) := by decide +kernel
theorem dX9_layCourse_12 : decode cX9_layCourse 12 = .ok (.invokevirtual 142, 3) := by decide +kernel
theorem dX9_layCourse_15 : decode cX9_layCourse 15 = .ok (.ifCond .ne 16, 3) := by decide +kernel
theorem dX9_layCourse_18 : decode cX9_layCourse 18 = .ok (.aload_n 0, 1) := by decide +kernel
theorem dX9_layCourse_19 : decode cX9_layCourse 19 = .ok (.aload_n 0, 1) := by decide +kernel
theorem dX9_layCourse_20 : decode cX9_layCourse 20 = .ok (.getfield 25, 3) := by decide +kernel
theorem dX9_layCourse_23 : decode cX9_layCourse 23 = .ok (.bipush 8, 2) := by decide +kernel
theorem dX9_layCourse_25 : decode cX9_layCourse 25 = .ok (.iaload, 1) := by decide +kernel
theorem dX9_layCourse_26 : decode cX9_layCourse 26 = .ok (.invokevirtual 145, 3) := by decide +kernel
theorem dX9_layCourse_29 : decode cX9_layCourse 29 = .ok (.iconst 0, 1) := by decide +kernel
theorem dX9_layCourse_30 : decode cX9_layCourse 30 = .ok (.ireturn, 1) := by decide +kernel
theorem dX9_layCourse_31 : decode cX9_layCourse 31 = .ok (.aload_n 0, 1) := by decide +kernel
theorem dX9_layCourse_32 : decode cX9_layCourse 32 = .ok (.getfield 25, 3) := by decide +kernel
theorem dX9_layCourse_35 : decode cX9_layCourse 35 = .ok (.bipush 8, 2) := by decide +kernel
theorem dX9_layCourse_37 : decode cX9_layCourse 37 = .ok (.dup2, 1) := by decide +kernel
theorem dX9_layCourse_38 : decode cX9_layCourse 38 = .ok (.iaload, 1) := by decide +kernel
theorem dX9_layCourse_39 : decode cX9_layCourse 39 = .ok (.iconst 1, 1) := by decide +kernel
theorem dX9_layCourse_40 : decode cX9_layCourse 40 = .ok (.iadd, 1) := by decide +kernel
theorem dX9_layCourse_41 : decode cX9_layCourse 41 = .ok (.iastore, 1) := by decide +kernel
theorem dX9_layCourse_42 : decode cX9_layCourse 42 = .ok (.iconst 1, 1) := by decide +kernel
theorem dX9_layCourse_43 : decode cX9_layCourse 43 = .ok (.ireturn, 1) := by decide +kernel
set_option maxRecDepth 20000 in
theorem ggX9_takeUp_X9_giveBack : GoodIn wsX9_takeUp wsX9_giveBack := goodIn_r _ [6, 1, 7, 8, 9, 5, 10, 11, 12, 13, 14, 15, 16, 17, 18, 19, 20, 21, 22, 23, 24, 25, 26, 27, 28, 29, 30, 31, 32] (by decide +kernel) (by decide +kernel)
set_option maxRecDepth 20000 in
theorem gX9_takeUp_X9_giveBack : GoodIn wsX9_takeUp (wsV RX9 145 RX9 yX9_giveBack wsX9_giveBack) := goodIn_app (goodIn_of _ (by decide +kernel)) ggX9_takeUp_X9_giveBack
theorem dX9_takeUp_0 : decode cX9_takeUp 0 = .ok (.aload_n 0, 1) := by decide +kernel
theorem dX9_takeUp_1 : decode cX9_takeUp 1 = .ok (.getfield 25, 3) := by decide +kernel
theorem dX9_takeUp_4 : decode cX9_takeUp 4 = .ok (.bipush 8, 2) := by decide +kernel
theorem dX9_takeUp_6 : decode cX9_takeUp 6 = .ok (.dup2, 1) := by decide +kernel
theorem dX9_takeUp_7 : decode cX9_takeUp 7 = .ok (.iaload, 1) := by decide +kernel
theorem dX9_takeUp_8 : decode cX9_takeUp 8 = .ok (.iconst 1, 1) := by decide +kernel
theorem dX9_takeUp_9 : decode cX9_takeUp 9 = .ok (.isub, 1) := by decide +kernel
theorem dX9_takeUp_10 : decode cX9_takeUp 10 = .ok (.iastore, 1) := by decide +kernel
theorem dX9_takeUp_11 : decode cX9_takeUp 11 = .ok (.aload_n 0, 1) := by decide +kernel
theorem dX9_takeUp_12 : decode cX9_takeUp 12 = .ok (.aload_n 0, 1) := by decide +kernel
theorem dX9_takeUp_13 : decode cX9_takeUp 13 = .ok (.getfield 25, 3) := by decide +kernel
theorem dX9_takeUp_16 : decode cX9_takeUp 16 = .ok (.bipush 8, 2) := by decide +kernel
theorem dX9_takeUp_18 : decode cX9_takeUp 18 = .ok (.iaload, 1) := by decide +kernel
theorem dX9_takeUp_19 : decode cX9_takeUp 19 = .ok (.invokevirtual 145, 3) := by decide +kernel
theorem dX9_takeUp_22 : decode cX9_takeUp 22 = .ok (.return_, 1) := by decide +kernel
set_option maxRecDepth 20000 in
theorem ggX9_save_X9_copyState : GoodIn wsX9_save wsX9_copyState := goodIn_r _ [7] (by decide +kernel) (by decide +kernel)
set_option maxRecDepth 20000 in
theorem gX9_save_X9_copyState : GoodIn wsX9_save (va_wsS RX9 148 yX9_copyState wsX9_copyState) := goodIn_app (goodIn_of _ (by decide +kernel)) ggX9_save_X9_copyState
theorem dX9_save_0 : decode cX9_save 0 = .ok (.aload_n 0, 1) := by decide +kernel
theorem dX9_save_1 : decode cX9_save 1 = .ok (.getfield 57, 3) := by decide +kernel
theorem dX9_save_4 : decode cX9_save 4 = .ok (.bipush 6, 2) := by decide +kernel
theorem dX9_save_6 : decode cX9_save 6 = .ok (.if_icmp .ne 44, 3) := by decide +kernel
theorem dX9_save_9 : decode cX9_save 9 = .ok (.iconst 0, 1) := by decide +kernel
theorem dX9_save_10 : decode cX9_save 10 = .ok (.istore_n 1, 1) := by decide +kernel
theorem dX9_save_11 : decode cX9_save 11 = .ok (.iload_n 1, 1) := by decide +kernel
theorem dX9_save_12 : decode cX9_save 12 = .ok (.sipush 6245, 3) := by decide +kernel
theorem dX9_save_15 : decode cX9_save 15 = .ok (.if_icmp .ge 25, 3) := by decide +kernel
theorem dX9_save_18 : decode cX9_save 18 = .ok (.aload_n 0, 1) := by decide +kernel
theorem dX9_save_19 : decode cX9_save 19 = .ok (.getfield 31, 3) := by decide +kernel
theorem dX9_save_22 : decode cX9_save 22 = .ok (.iload_n 1, 1) := by decide +kernel
theorem dX9_save_23 : decode cX9_save 23 = .ok (.aload_n 0, 1) := by decide +kernel
theorem dX9_save_24 : decode cX9_save 24 = .ok (.getfield 31, 3) := by decide +kernel
theorem dX9_save_27 : decode cX9_save 27 = .ok (.iload_n 1, 1) := by decide +kernel
theorem dX9_save_28 : decode cX9_save 28 = .ok (.sipush 1249, 3) := by decide +kernel
theorem dX9_save_31 : decode cX9_save 31 = .ok (.iadd, 1) := by decide +kernel
theorem dX9_save_32 : decode cX9_save 32 = .ok (.iaload, 1) := by decide +kernel
theorem dX9_save_33 : decode cX9_save 33 = .ok (.iastore, 1) := by decide +kernel
theorem dX9_save_34 : decode cX9_save 34 = .ok (.iinc 1 1, 3) := by decide +kernel
theorem dX9_save_37 : decode cX9_save 37 = .ok (.goto (-26), 3) := by decide +kernel
theorem dX9_save_40 : decode cX9_save 40 = .ok (.aload_n 0, 1) := by decide +kernel
theorem dX9_save_41 : decode cX9_save 41 = .ok (.dup, 1) := by decide +kernel
theorem dX9_save_42 : decode cX9_save 42 = .ok (.getfield 57, 3) := by decide +kernel
theorem dX9_save_45 : decode cX9_save 45 = .ok (.iconst 1, 1) := by decide +kernel
theorem dX9_save_46 : decode cX9_save 46 = .ok (.isub, 1) := by decide +kernel
theorem dX9_save_47 : decode cX9_save 47 = .ok (.putfield 57, 3) := by decide +kernel
theorem dX9_save_50 : decode cX9_save 50 = .ok (.aload_n 0, 1) := by decide +kernel
theorem dX9_save_51 : decode cX9_save 51 = .ok (.getfield 25, 3) := by decide +kernel
theorem dX9_save_54 : decode cX9_save 54 = .ok (.iconst 0, 1) := by decide +kernel
theorem dX9_save_55 : decode cX9_save 55 = .ok (.aload_n 0, 1) := by decide +kernel
theorem dX9_save_56 : decode cX9_save 56 = .ok (.getfield 31, 3) := by decide +kernel
theorem dX9_save_59 : decode cX9_save 59 = .ok (.sipush 1249, 3) := by decide +kernel
theorem dX9_save_62 : decode cX9_save 62 = .ok (.aload_n 0, 1) := by decide +kernel
theorem dX9_save_63 : decode cX9_save 63 = .ok (.getfield 57, 3) := by decide +kernel
theorem dX9_save_66 : decode cX9_save 66 = .ok (.imul, 1) := by decide +kernel
theorem dX9_save_67 : decode cX9_save 67 = .ok (.invokestatic 148, 3) := by decide +kernel
theorem dX9_save_70 : decode cX9_save 70 = .ok (.aload_n 0, 1) := by decide +kernel
theorem dX9_save_71 : decode cX9_save 71 = .ok (.dup, 1) := by decide +kernel
theorem dX9_save_72 : decode cX9_save 72 = .ok (.getfield 57, 3) := by decide +kernel
theorem dX9_save_75 : decode cX9_save 75 = .ok (.iconst 1, 1) := by decide +kernel
theorem dX9_save_76 : decode cX9_save 76 = .ok (.iadd, 1) := by decide +kernel
theorem dX9_save_77 : decode cX9_save 77 = .ok (.putfield 57, 3) := by decide +kernel
theorem dX9_save_80 : decode cX9_save 80 = .ok (.return_, 1) := by decide +kernel
set_option maxRecDepth 20000 in
theorem ggX9_canLay_X9_layCourse : GoodIn wsX9_canLay wsX9_layCourse := goodIn_r _ [5, 6, 7, 8, 9, 4, 10, 11, 12, 13, 14, 15, 16, 17, 18, 19, 20, 21, 22, 23, 24, 25, 26, 27, 28, 29, 30, 31, 32, 33, 34, 35, 36, 37, 38, 39, 40, 41, 42, 43, 44, 45, 46, 47, 48, 49, 50, 51, 52, 53, 54, 55, 56, 57, 58, 59, 60, 61, 62, 63, 64, 65, 66, 67, 68, 69, 70, 71, 72, 73, 78, 79, 80, 81, 82, 83, 84, 85, 86, 87, 88, 89, 90, 91, 92, 93, 94, 95] (by decide +kernel) (by decide +kernel)
set_option maxRecDepth 20000 in
theorem gX9_canLay_X9_layCourse : GoodIn wsX9_canLay (wsV RX9 152 RX9 yX9_layCourse wsX9_layCourse) := goodIn_app (goodIn_of _ (by decide +kernel)) ggX9_canLay_X9_layCourse
set_option maxRecDepth 20000 in
theorem ggX9_canLay_X9_takeUp : GoodIn wsX9_canLay wsX9_takeUp := goodIn_r _ [77, 6, 70, 71, 72, 4, 73, 50, 51, 52, 53, 54, 55, 56, 57, 78, 79, 80, 81, 82, 83, 84, 85, 86, 87, 88, 89, 90, 91, 92, 93, 94, 95] (by decide +kernel) (by decide +kernel)
set_option maxRecDepth 20000 in
theorem gX9_canLay_X9_takeUp : GoodIn wsX9_canLay (wsV RX9 155 RX9 yX9_takeUp wsX9_takeUp) := goodIn_app (goodIn_of _ (by decide +kernel)) ggX9_canLay_X9_takeUp
theorem dX9_canLay_0 : decode cX9_canLay 0 = .ok (.aload_n 0, 1) := by decide +kernel
theorem dX9_canLay_1 : decode cX9_canLay 1 = .ok (.iload_n 1, 1) := by decide +kernel
theorem dX9_canLay_2 : decode cX9_canLay 2 = .ok (.invokevirtual 152, 3) := by decide +kernel
theorem dX9_canLay_5 : decode cX9_canLay 5 = .ok (.istore_n 2, 1) := by decide +kernel
theorem dX9_canLay_6 : decode cX9_canLay 6 = .ok (.iload_n 2, 1) := by decide +kernel
theorem dX9_canLay_7 : decode cX9_canLay 7 = .ok (.ifCond .eq 7, 3) := by decide +kernel
theorem dX9_canLay_10 : decode cX9_canLay 10 = .ok (.aload_n 0, 1) := by decide +kernel
theorem dX9_canLay_11 : decode cX9_canLay 11 = .ok (.invokevirtual 155, 3) := by decide +kernel
theorem dX9_canLay_14 : decode cX9_canLay 14 = .ok (.iload_n 2, 1) := by decide +kernel
theorem dX9_canLay_15 : decode cX9_canLay 15 = .ok (.ireturn, 1) := by decide +kernel
set_option maxRecDepth 20000 in
theorem ggX9_course_X9_in : GoodIn wsX9_course wsX9_in := goodIn_r _ [5] (by decide +kernel) (by decide +kernel)
set_option maxRecDepth 20000 in
theorem gX9_course_X9_in : GoodIn wsX9_course (va_wsS RX9 66 yX9_in wsX9_in) := goodIn_app (goodIn_of _ (by decide +kernel)) ggX9_course_X9_in
set_option maxRecDepth 20000 in
theorem ggX9_course_X9_canLay : GoodIn wsX9_course wsX9_canLay := goodIn_r _ [9, 10, 11, 12, 4, 13, 1, 14, 15, 16, 17, 18, 19, 20, 21, 22, 23, 24, 25, 26, 27, 28, 29, 30, 31, 32, 33, 34, 35, 36, 37, 38, 39, 40, 41, 42, 43, 44, 45, 46, 47, 48, 49, 50, 51, 52, 53, 54, 55, 56, 57, 58, 59, 60, 61, 62, 63, 64, 65, 66, 67, 68, 69, 70, 71, 72, 73, 74, 75, 76, 77, 78, 79, 80, 81, 82, 83, 84, 94, 95, 96, 97, 98, 99, 100, 101, 102, 103, 104, 105, 106, 107, 108, 109, 110, 111] (by decide +kernel) (by decide +kernel)
set_option maxRecDepth 20000 in
theorem gX9_course_X9_canLay : GoodIn wsX9_course (wsV RX9 158 RX9 yX9_canLay wsX9_canLay) := goodIn_app (goodIn_of _ (by decide +kernel)) ggX9_course_X9_canLay
set_option maxRecDepth 20000 in
theorem ggX9_course_X9_save : GoodIn wsX9_course wsX9_save := goodIn_r _ [88, 89, 90, 1, 91, 92, 4, 93, 94, 95, 96, 97, 98, 99, 100, 101, 102, 103, 104, 105, 106, 107, 108, 109, 110, 111] (by decide +kernel) (by decide +kernel)
set_option maxRecDepth 20000 in
theorem gX9_course_X9_save : GoodIn wsX9_course (wsV RX9 161 RX9 yX9_save wsX9_save) := goodIn_app (goodIn_of _ (by decide +kernel)) ggX9_course_X9_save
set_option maxRecDepth 20000 in
theorem ggX9_course_X9_layCourse : GoodIn wsX9_course wsX9_layCourse := goodIn_r _ [13, 1, 14, 15, 16, 4, 17, 18, 19, 20, 21, 22, 23, 24, 25, 26, 27, 28, 29, 30, 31, 32, 33, 34, 35, 36, 37, 38, 39, 40, 41, 42, 43, 44, 45, 46, 47, 48, 49, 50, 51, 52, 53, 54, 55, 56, 57, 58, 59, 60, 61, 62, 63, 64, 65, 66, 67, 68, 69, 70, 71, 72, 73, 74, 75, 76, 77, 78, 79, 80, 94, 95, 96, 97, 98, 99, 100, 101, 102, 103, 104, 105, 106, 107, 108, 109, 110, 111] (by decide +kernel) (by decide +kernel)
set_option maxRecDepth 20000 in
theorem gX9_course_X9_layCourse : GoodIn wsX9_course (wsV RX9 152 RX9 yX9_layCourse wsX9_layCourse) := goodIn_app (goodIn_of _ (by decide +kernel)) ggX9_course_X9_layCourse
set_option maxRecDepth 20000 in
theorem ggX9_course_X9_slateCount : GoodIn wsX9_course wsX9_slateCount := goodIn_r _ [60, 1, 94, 95, 96, 97, 98, 99, 100, 101, 102, 103, 104, 105, 106, 107, 108, 109, 110, 111] (by decide +kernel) (by decide +kernel)
set_option maxRecDepth 20000 in
theorem gX9_course_X9_slateCount : GoodIn wsX9_course (wsV RX9 101 RX9 yX9_slateCount wsX9_slateCount) := goodIn_app (goodIn_of _ (by decide +kernel)) ggX9_course_X9_slateCount
theorem dX9_course_0 : decode cX9_course 0 = .ok (.iload_n 1, 1) := by decide +kernel
theorem dX9_course_1 : decode cX9_course 1 = .ok (.bipush 20, 2) := by decide +kernel
theorem dX9_course_3 : decode cX9_course 3 = .ok (.bipush 60, 2) := by decide +kernel
theorem dX9_course_5 : decode cX9_course 5 = .ok (.invokestatic 66, 3) := by decide +kernel
theorem dX9_course_8 : decode cX9_course 8 = .ok (.ifCond .ne 5, 3) := by decide +kernel
theorem dX9_course_11 : decode cX9_course 11 = .ok (.iconst (-1), 1) := by decide +kernel
theorem dX9_course_12 : decode cX9_course 12 = .ok (.ireturn, 1) := by decide +kernel
theorem dX9_course_13 : decode cX9_course 13 = .ok (.aload_n 0, 1) := by decide +kernel
theorem dX9_course_14 : decode cX9_course 14 = .ok (.iload_n 1, 1) := by decide +kernel
theorem dX9_course_15 : decode cX9_course 15 = .ok (.invokevirtual 158, 3) := by decide +kernel
theorem dX9_course_18 : decode cX9_course 18 = .ok (.ifCond .ne 6, 3) := by decide +kernel
theorem dX9_course_21 : decode cX9_course 21 = .ok (.bipush (-2), 2) := by decide +kernel
theorem dX9_course_23 : decode cX9_course 23 = .ok (.ireturn, 1) := by decide +kernel
theorem dX9_course_24 : decode cX9_course 24 = .ok (.aload_n 0, 1) := by decide +kernel
theorem dX9_course_25 : decode cX9_course 25 = .ok (.invokevirtual 161, 3) := by decide +kernel
theorem dX9_course_28 : decode cX9_course 28 = .ok (.aload_n 0, 1) := by decide +kernel
theorem dX9_course_29 : decode cX9_course 29 = .ok (.iload_n 1, 1) := by decide +kernel
theorem dX9_course_30 : decode cX9_course 30 = .ok (.invokevirtual 152, 3) := by decide +kernel
theorem dX9_course_33 : decode cX9_course 33 = .ok (.istore_n 2, 1) := by decide +kernel
theorem dX9_course_34 : decode cX9_course 34 = .ok (.aload_n 0, 1) := by decide +kernel
theorem dX9_course_35 : decode cX9_course 35 = .ok (.aload_n 0, 1) := by decide +kernel
theorem dX9_course_36 : decode cX9_course 36 = .ok (.getfield 25, 3) := by decide +kernel
theorem dX9_course_39 : decode cX9_course 39 = .ok (.bipush 8, 2) := by decide +kernel
theorem dX9_course_41 : decode cX9_course 41 = .ok (.iaload, 1) := by decide +kernel
theorem dX9_course_42 : decode cX9_course 42 = .ok (.iconst 1, 1) := by decide +kernel
theorem dX9_course_43 : decode cX9_course 43 = .ok (.isub, 1) := by decide +kernel
theorem dX9_course_44 : decode cX9_course 44 = .ok (.invokevirtual 101, 3) := by decide +kernel
theorem dX9_course_47 : decode cX9_course 47 = .ok (.ireturn, 1) := by decide +kernel
set_option maxRecDepth 20000 in
theorem ggX9_up_X9_save : GoodIn wsX9_up wsX9_save := goodIn_r _ [6, 7, 8, 1, 9, 10, 5, 11, 28, 29, 30, 31, 32, 33, 34, 35, 36, 37, 38, 39, 40, 41, 42, 43, 44, 45] (by decide +kernel) (by decide +kernel)
set_option maxRecDepth 20000 in
theorem gX9_up_X9_save : GoodIn wsX9_up (wsV RX9 161 RX9 yX9_save wsX9_save) := goodIn_app (goodIn_of _ (by decide +kernel)) ggX9_up_X9_save
set_option maxRecDepth 20000 in
theorem ggX9_up_X9_takeUp : GoodIn wsX9_up wsX9_takeUp := goodIn_r _ [15, 1, 16, 17, 18, 5, 19, 20, 21, 22, 23, 24, 25, 26, 27, 28, 29, 30, 31, 32, 33, 34, 35, 36, 37, 38, 39, 40, 41, 42, 43, 44, 45] (by decide +kernel) (by decide +kernel)
set_option maxRecDepth 20000 in
theorem gX9_up_X9_takeUp : GoodIn wsX9_up (wsV RX9 155 RX9 yX9_takeUp wsX9_takeUp) := goodIn_app (goodIn_of _ (by decide +kernel)) ggX9_up_X9_takeUp
theorem dX9_up_0 : decode cX9_up 0 = .ok (.aload_n 0, 1) := by decide +kernel
theorem dX9_up_1 : decode cX9_up 1 = .ok (.getfield 25, 3) := by decide +kernel
theorem dX9_up_4 : decode cX9_up 4 = .ok (.bipush 8, 2) := by decide +kernel
theorem dX9_up_6 : decode cX9_up 6 = .ok (.iaload, 1) := by decide +kernel
theorem dX9_up_7 : decode cX9_up 7 = .ok (.ifCond .ne 6, 3) := by decide +kernel
theorem dX9_up_10 : decode cX9_up 10 = .ok (.bipush (-2), 2) := by decide +kernel
theorem dX9_up_12 : decode cX9_up 12 = .ok (.ireturn, 1) := by decide +kernel
theorem dX9_up_13 : decode cX9_up 13 = .ok (.aload_n 0, 1) := by decide +kernel
theorem dX9_up_14 : decode cX9_up 14 = .ok (.invokevirtual 161, 3) := by decide +kernel
theorem dX9_up_17 : decode cX9_up 17 = .ok (.aload_n 0, 1) := by decide +kernel
theorem dX9_up_18 : decode cX9_up 18 = .ok (.invokevirtual 155, 3) := by decide +kernel
theorem dX9_up_21 : decode cX9_up 21 = .ok (.aload_n 0, 1) := by decide +kernel
theorem dX9_up_22 : decode cX9_up 22 = .ok (.getfield 25, 3) := by decide +kernel
theorem dX9_up_25 : decode cX9_up 25 = .ok (.bipush 8, 2) := by decide +kernel
theorem dX9_up_27 : decode cX9_up 27 = .ok (.iaload, 1) := by decide +kernel
theorem dX9_up_28 : decode cX9_up 28 = .ok (.ireturn, 1) := by decide +kernel
set_option maxRecDepth 20000 in
theorem ggX9_isHeap_X9_in : GoodIn wsX9_isHeap wsX9_in := goodIn_r _ [5] (by decide +kernel) (by decide +kernel)
set_option maxRecDepth 20000 in
theorem gX9_isHeap_X9_in : GoodIn wsX9_isHeap (va_wsS RX9 66 yX9_in wsX9_in) := goodIn_app (goodIn_of _ (by decide +kernel)) ggX9_isHeap_X9_in
theorem dX9_isHeap_0 : decode cX9_isHeap 0 = .ok (.iload_n 1, 1) := by decide +kernel
theorem dX9_isHeap_1 : decode cX9_isHeap 1 = .ok (.iconst 0, 1) := by decide +kernel
theorem dX9_isHeap_2 : decode cX9_isHeap 2 = .ok (.aload_n 0, 1) := by decide +kernel
theorem dX9_isHeap_3 : decode cX9_isHeap 3 = .ok (.getfield 54, 3) := by decide +kernel
theorem dX9_isHeap_6 : decode cX9_isHeap 6 = .ok (.iconst 1, 1) := by decide +kernel
theorem dX9_isHeap_7 : decode cX9_isHeap 7 = .ok (.isub, 1) := by decide +kernel
theorem dX9_isHeap_8 : decode cX9_isHeap 8 = .ok (.invokestatic 66, 3) := by decide +kernel
theorem dX9_isHeap_11 : decode cX9_isHeap 11 = .ok (.ireturn, 1) := by decide +kernel
set_option maxRecDepth 20000 in
theorem ggX9_bring_X9_isHeap : GoodIn wsX9_bring wsX9_isHeap := goodIn_r _ [6, 7, 8, 9, 5, 10, 20, 21, 22, 23, 24, 25, 26, 27, 28, 29, 30, 31, 32, 33, 34, 35, 36, 37] (by decide +kernel) (by decide +kernel)
set_option maxRecDepth 20000 in
theorem gX9_bring_X9_isHeap : GoodIn wsX9_bring (wsV RX9 164 RX9 yX9_isHeap wsX9_isHeap) := goodIn_app (goodIn_of _ (by decide +kernel)) ggX9_bring_X9_isHeap
set_option maxRecDepth 20000 in
theorem ggX9_bring_X9_in : GoodIn wsX9_bring wsX9_in := goodIn_r _ [10] (by decide +kernel) (by decide +kernel)
set_option maxRecDepth 20000 in
theorem gX9_bring_X9_in : GoodIn wsX9_bring (va_wsS RX9 66 yX9_in wsX9_in) := goodIn_app (goodIn_of _ (by decide +kernel)) ggX9_bring_X9_in
set_option maxRecDepth 20000 in
theorem ggX9_bring_X9_save : GoodIn wsX9_bring wsX9_save := goodIn_r _ [14, 15, 16, 1, 17, 18, 5, 19, 20, 21, 22, 23, 24, 25, 26, 27, 28, 29, 30, 31, 32, 33, 34, 35, 36, 37] (by decide +kernel) (by decide +kernel)
set_option maxRecDepth 20000 in
theorem gX9_bring_X9_save : GoodIn wsX9_bring (wsV RX9 161 RX9 yX9_save wsX9_save) := goodIn_app (goodIn_of _ (by decide +kernel)) ggX9_bring_X9_save
theorem dX9_bring_0 : decode cX9_bring 0 = .ok (.aload_n 0, 1) := by decide +kernel
theorem dX9_bring_1 : decode cX9_bring 1 = .ok (.iload_n 1, 1) := by decide +kernel
theorem dX9_bring_2 : decode cX9_bring 2 = .ok (.invokevirtual 164, 3) := by decide +kernel
theorem dX9_bring_5 : decode cX9_bring 5 = .ok (.ifCond .eq 13, 3) := by decide +kernel
theorem dX9_bring_8 : decode cX9_bring 8 = .ok (.iload_n 2, 1) := by decide +kernel
theorem dX9_bring_9 : decode cX9_bring 9 = .ok (.iconst 1, 1) := by decide +kernel
theorem dX9_bring_10 : decode cX9_bring 10 = .ok (.bipush 99, 2) := by decide +kernel
theorem dX9_bring_12 : decode cX9_bring 12 = .ok (.invokestatic 66, 3) := by decide +kernel
theorem dX9_bring_15 : decode cX9_bring 15 = .ok (.ifCond .ne 5, 3) := by decide +kernel
theorem dX9_bring_18 : decode cX9_bring 18 = .ok (.iconst (-1), 1) := by decide +kernel
theorem dX9_bring_19 : decode cX9_bring 19 = .ok (.ireturn, 1) := by decide +kernel
theorem dX9_bring_20 : decode cX9_bring 20 = .ok (.aload_n 0, 1) := by decide +kernel
theorem dX9_bring_21 : decode cX9_bring 21 = .ok (.getfield 25, 3) := by decide +kernel
theorem dX9_bring_24 : decode cX9_bring 24 = .ok (.iload_n 1, 1) := by decide +kernel
theorem dX9_bring_25 : decode cX9_bring 25 = .ok (.iaload, 1) := by decide +kernel
theorem dX9_bring_26 : decode cX9_bring 26 = .ok (.iload_n 2, 1) := by decide +kernel
theorem dX9_bring_27 : decode cX9_bring 27 = .ok (.iadd, 1) := by decide +kernel
theorem dX9_bring_28 : decode cX9_bring 28 = .ok (.sipush 999, 3) := by decide +kernel
theorem dX9_bring_31 : decode cX9_bring 31 = .ok (.if_icmp .le 6, 3) := by decide +kernel
theorem dX9_bring_34 : decode cX9_bring 34 = .ok (.bipush (-3), 2) := by decide +kernel
theorem dX9_bring_36 : decode cX9_bring 36 = .ok (.ireturn, 1) := by decide +kernel
theorem dX9_bring_37 : decode cX9_bring 37 = .ok (.aload_n 0, 1) := by decide +kernel
theorem dX9_bring_38 : decode cX9_bring 38 = .ok (.invokevirtual 161, 3) := by decide +kernel
theorem dX9_bring_41 : decode cX9_bring 41 = .ok (.aload_n 0, 1) := by decide +kernel
theorem dX9_bring_42 : decode cX9_bring 42 = .ok (.getfield 25, 3) := by decide +kernel
theorem dX9_bring_45 : decode cX9_bring 45 = .ok (.iload_n 1, 1) := by decide +kernel
theorem dX9_bring_46 : decode cX9_bring 46 = .ok (.dup2, 1) := by decide +kernel
theorem dX9_bring_47 : decode cX9_bring 47 = .ok (.iaload, 1) := by decide +kernel
theorem dX9_bring_48 : decode cX9_bring 48 = .ok (.iload_n 2, 1) := by decide +kernel
theorem dX9_bring_49 : decode cX9_bring 49 = .ok (.iadd, 1) := by decide +kernel
theorem dX9_bring_50 : decode cX9_bring 50 = .ok (.iastore, 1) := by decide +kernel
theorem dX9_bring_51 : decode cX9_bring 51 = .ok (.aload_n 0, 1) := by decide +kernel
theorem dX9_bring_52 : decode cX9_bring 52 = .ok (.getfield 25, 3) := by decide +kernel
theorem dX9_bring_55 : decode cX9_bring 55 = .ok (.iload_n 1, 1) := by decide +kernel
theorem dX9_bring_56 : decode cX9_bring 56 = .ok (.iaload, 1) := by decide +kernel
theorem dX9_bring_57 : decode cX9_bring 57 = .ok (.ireturn, 1) := by decide +kernel
set_option maxRecDepth 20000 in
theorem ggX9_undo_X9_copyState : GoodIn wsX9_undo wsX9_copyState := goodIn_r _ [7] (by decide +kernel) (by decide +kernel)
set_option maxRecDepth 20000 in
theorem gX9_undo_X9_copyState : GoodIn wsX9_undo (va_wsS RX9 148 yX9_copyState wsX9_copyState) := goodIn_app (goodIn_of _ (by decide +kernel)) ggX9_undo_X9_copyState
theorem dX9_undo_0 : decode cX9_undo 0 = .ok (.aload_n 0, 1) := by decide +kernel
theorem dX9_undo_1 : decode cX9_undo 1 = .ok (.getfield 57, 3) := by decide +kernel
theorem dX9_undo_4 : decode cX9_undo 4 = .ok (.ifCond .ne 6, 3) := by decide +kernel
theorem dX9_undo_7 : decode cX9_undo 7 = .ok (.bipush (-2), 2) := by decide +kernel
theorem dX9_undo_9 : decode cX9_undo 9 = .ok (.ireturn, 1) := by decide +kernel
theorem dX9_undo_10 : decode cX9_undo 10 = .ok (.aload_n 0, 1) := by decide +kernel
theorem dX9_undo_11 : decode cX9_undo 11 = .ok (.dup, 1) := by decide +kernel
theorem dX9_undo_12 : decode cX9_undo 12 = .ok (.getfield 57, 3) := by decide +kernel
theorem dX9_undo_15 : decode cX9_undo 15 = .ok (.iconst 1, 1) := by decide +kernel
theorem dX9_undo_16 : decode cX9_undo 16 = .ok (.isub, 1) := by decide +kernel
theorem dX9_undo_17 : decode cX9_undo 17 = .ok (.putfield 57, 3) := by decide +kernel
theorem dX9_undo_20 : decode cX9_undo 20 = .ok (.aload_n 0, 1) := by decide +kernel
theorem dX9_undo_21 : decode cX9_undo 21 = .ok (.getfield 31, 3) := by decide +kernel
theorem dX9_undo_24 : decode cX9_undo 24 = .ok (.sipush 1249, 3) := by decide +kernel
theorem dX9_undo_27 : decode cX9_undo 27 = .ok (.aload_n 0, 1) := by decide +kernel
theorem dX9_undo_28 : decode cX9_undo 28 = .ok (.getfield 57, 3) := by decide +kernel
theorem dX9_undo_31 : decode cX9_undo 31 = .ok (.imul, 1) := by decide +kernel
theorem dX9_undo_32 : decode cX9_undo 32 = .ok (.aload_n 0, 1) := by decide +kernel
theorem dX9_undo_33 : decode cX9_undo 33 = .ok (.getfield 25, 3) := by decide +kernel
theorem dX9_undo_36 : decode cX9_undo 36 = .ok (.iconst 0, 1) := by decide +kernel
theorem dX9_undo_37 : decode cX9_undo 37 = .ok (.invokestatic 148, 3) := by decide +kernel
theorem dX9_undo_40 : decode cX9_undo 40 = .ok (.aload_n 0, 1) := by decide +kernel
theorem dX9_undo_41 : decode cX9_undo 41 = .ok (.getfield 57, 3) := by decide +kernel
theorem dX9_undo_44 : decode cX9_undo 44 = .ok (.ireturn, 1) := by decide +kernel
set_option maxRecDepth 20000 in
theorem ggX9_laidOf_X9_slateCount : GoodIn wsX9_laidOf wsX9_slateCount := goodIn_r _ [6, 1, 11, 12, 13, 14, 15, 16, 17, 18, 19, 20, 21, 22, 23, 24, 25, 26, 27, 28] (by decide +kernel) (by decide +kernel)
set_option maxRecDepth 20000 in
theorem gX9_laidOf_X9_slateCount : GoodIn wsX9_laidOf (wsV RX9 101 RX9 yX9_slateCount wsX9_slateCount) := goodIn_app (goodIn_of _ (by decide +kernel)) ggX9_laidOf_X9_slateCount
set_option maxRecDepth 20000 in
theorem ggX9_laidOf_X9_slateOf : GoodIn wsX9_laidOf wsX9_slateOf := goodIn_r _ [10, 1, 11, 12, 13, 14, 15, 16, 17, 18, 19, 20, 21, 22, 23, 24, 25, 26, 27, 28] (by decide +kernel) (by decide +kernel)
set_option maxRecDepth 20000 in
theorem gX9_laidOf_X9_slateOf : GoodIn wsX9_laidOf (wsV RX9 104 RX9 yX9_slateOf wsX9_slateOf) := goodIn_app (goodIn_of _ (by decide +kernel)) ggX9_laidOf_X9_slateOf
theorem dX9_laidOf_0 : decode cX9_laidOf 0 = .ok (.iconst 0, 1) := by decide +kernel
theorem dX9_laidOf_1 : decode cX9_laidOf 1 = .ok (.istore_n 2, 1) := by decide +kernel
theorem dX9_laidOf_2 : decode cX9_laidOf 2 = .ok (.iconst 0, 1) := by decide +kernel
theorem dX9_laidOf_3 : decode cX9_laidOf 3 = .ok (.istore_n 3, 1) := by decide +kernel
theorem dX9_laidOf_4 : decode cX9_laidOf 4 = .ok (.iload_n 3, 1) := by decide +kernel
theorem dX9_laidOf_5 : decode cX9_laidOf 5 = .ok (.aload_n 0, 1) := by decide +kernel
theorem dX9_laidOf_6 : decode cX9_laidOf 6 = .ok (.getfield 25, 3) := by decide +kernel
theorem dX9_laidOf_9 : decode cX9_laidOf 9 = .ok (.bipush 8, 2) := by decide +kernel
theorem dX9_laidOf_11 : decode cX9_laidOf 11 = .ok (.iaload, 1) := by decide +kernel
theorem dX9_laidOf_12 : decode cX9_laidOf 12 = .ok (.if_icmp .ge 50, 3) := by decide +kernel
theorem dX9_laidOf_15 : decode cX9_laidOf 15 = .ok (.iconst 0, 1) := by decide +kernel
theorem dX9_laidOf_16 : decode cX9_laidOf 16 = .ok (.istore 4, 2) := by decide +kernel
theorem dX9_laidOf_18 : decode cX9_laidOf 18 = .ok (.iload 4, 2) := by decide +kernel
theorem dX9_laidOf_20 : decode cX9_laidOf 20 = .ok (.aload_n 0, 1) := by decide +kernel
theorem dX9_laidOf_21 : decode cX9_laidOf 21 = .ok (.iload_n 3, 1) := by decide +kernel
theorem dX9_laidOf_22 : decode cX9_laidOf 22 = .ok (.invokevirtual 101, 3) := by decide +kernel
theorem dX9_laidOf_25 : decode cX9_laidOf 25 = .ok (.if_icmp .ge 31, 3) := by decide +kernel
theorem dX9_laidOf_28 : decode cX9_laidOf 28 = .ok (.iload_n 2, 1) := by decide +kernel
theorem dX9_laidOf_29 : decode cX9_laidOf 29 = .ok (.aload_n 0, 1) := by decide +kernel
theorem dX9_laidOf_30 : decode cX9_laidOf 30 = .ok (.iload_n 3, 1) := by decide +kernel
theorem dX9_laidOf_31 : decode cX9_laidOf 31 = .ok (.iload 4, 2) := by decide +kernel
theorem dX9_laidOf_33 : decode cX9_laidOf 33 = .ok (.invokevirtual 104, 3) := by decide +kernel
theorem dX9_laidOf_36 : decode cX9_laidOf 36 = .ok (.bipush 64, 2) := by decide +kernel
theorem dX9_laidOf_38 : decode cX9_laidOf 38 = .ok (.idiv, 1) := by decide +kernel
theorem dX9_laidOf_39 : decode cX9_laidOf 39 = .ok (.iload_n 1, 1) := by decide +kernel
theorem dX9_laidOf_40 : decode cX9_laidOf 40 = .ok (.if_icmp .ne 7, 3) := by decide +kernel
theorem dX9_laidOf_43 : decode cX9_laidOf 43 = .ok (.iconst 1, 1) := by decide +kernel
theorem dX9_laidOf_44 : decode cX9_laidOf 44 = .ok (.goto 4, 3) := by decide +kernel
theorem dX9_laidOf_47 : decode cX9_laidOf 47 = .ok (.iconst 0, 1) := by decide +kernel
theorem dX9_laidOf_48 : decode cX9_laidOf 48 = .ok (.iadd, 1) := by decide +kernel
theorem dX9_laidOf_49 : decode cX9_laidOf 49 = .ok (.istore_n 2, 1) := by decide +kernel
theorem dX9_laidOf_50 : decode cX9_laidOf 50 = .ok (.iinc 4 1, 3) := by decide +kernel
theorem dX9_laidOf_53 : decode cX9_laidOf 53 = .ok (.goto (-35), 3) := by decide +kernel
theorem dX9_laidOf_56 : decode cX9_laidOf 56 = .ok (.iinc 3 1, 3) := by decide +kernel
theorem dX9_laidOf_59 : decode cX9_laidOf 59 = .ok (.goto (-55), 3) := by decide +kernel
theorem dX9_laidOf_62 : decode cX9_laidOf 62 = .ok (.iload_n 2, 1) := by decide +kernel
theorem dX9_laidOf_63 : decode cX9_laidOf 63 = .ok (.ireturn, 1) := by decide +kernel
set_option maxRecDepth 20000 in
theorem ggX9_heap_X9_isHeap : GoodIn wsX9_heap wsX9_isHeap := goodIn_r _ [7, 8, 9, 10, 6, 11, 24, 25, 26, 27, 28, 29, 30, 31, 32, 33, 34, 35, 36, 37, 38, 39, 40, 41] (by decide +kernel) (by decide +kernel)
set_option maxRecDepth 20000 in
theorem gX9_heap_X9_isHeap : GoodIn wsX9_heap (wsV RX9 164 RX9 yX9_isHeap wsX9_isHeap) := goodIn_app (goodIn_of _ (by decide +kernel)) ggX9_heap_X9_isHeap
set_option maxRecDepth 20000 in
theorem ggX9_heap_X9_in : GoodIn wsX9_heap wsX9_in := goodIn_r _ [11] (by decide +kernel) (by decide +kernel)
set_option maxRecDepth 20000 in
theorem gX9_heap_X9_in : GoodIn wsX9_heap (va_wsS RX9 66 yX9_in wsX9_in) := goodIn_app (goodIn_of _ (by decide +kernel)) ggX9_heap_X9_in
set_option maxRecDepth 20000 in
theorem ggX9_heap_X9_laidOf : GoodIn wsX9_heap wsX9_laidOf := goodIn_r _ [15, 2, 16, 17, 18, 6, 19, 20, 21, 22, 23, 24, 25, 26, 27, 28, 29, 30, 31, 32, 33, 34, 35, 36, 37, 38, 39, 40, 41] (by decide +kernel) (by decide +kernel)
set_option maxRecDepth 20000 in
theorem gX9_heap_X9_laidOf : GoodIn wsX9_heap (wsV RX9 167 RX9 yX9_laidOf wsX9_laidOf) := goodIn_app (goodIn_of _ (by decide +kernel)) ggX9_heap_X9_laidOf
theorem dX9_heap_0 : decode cX9_heap 0 = .ok (.aload_n 0, 1) := by decide +kernel
theorem dX9_heap_1 : decode cX9_heap 1 = .ok (.iload_n 1, 1) := by decide +kernel
theorem dX9_heap_2 : decode cX9_heap 2 = .ok (.invokevirtual 164, 3) := by decide +kernel
theorem dX9_heap_5 : decode cX9_heap 5 = .ok (.ifCond .eq 12, 3) := by decide +kernel
theorem dX9_heap_8 : decode cX9_heap 8 = .ok (.iload_n 2, 1) := by decide +kernel
theorem dX9_heap_9 : decode cX9_heap 9 = .ok (.iconst 0, 1) := by decide +kernel
theorem dX9_heap_10 : decode cX9_heap 10 = .ok (.iconst 3, 1) := by decide +kernel
theorem dX9_heap_11 : decode cX9_heap 11 = .ok (.invokestatic 66, 3) := by decide +kernel
theorem dX9_heap_14 : decode cX9_heap 14 = .ok (.ifCond .ne 5, 3) := by decide +kernel
theorem dX9_heap_17 : decode cX9_heap 17 = .ok (.iconst (-1), 1) := by decide +kernel
theorem dX9_heap_18 : decode cX9_heap 18 = .ok (.ireturn, 1) := by decide +kernel
theorem dX9_heap_19 : decode cX9_heap 19 = .ok (.iload_n 2, 1) := by decide +kernel
theorem dX9_heap_20 : decode cX9_heap 20 = .ok (.iconst 2, 1) := by decide +kernel
theorem dX9_heap_21 : decode cX9_heap 21 = .ok (.if_icmp .ge 16, 3) := by decide +kernel
theorem dX9_heap_24 : decode cX9_heap 24 = .ok (.aload_n 0, 1) := by decide +kernel
theorem dX9_heap_25 : decode cX9_heap 25 = .ok (.getfield 19, 3) := by decide +kernel
theorem dX9_heap_28 : decode cX9_heap 28 = .ok (.iconst 3, 1) := by decide +kernel
theorem dX9_heap_29 : decode cX9_heap 29 = .ok (.iload_n 1, 1) := by decide +kernel
theorem dX9_heap_30 : decode cX9_heap 30 = .ok (.imul, 1) := by decide +kernel
theorem dX9_heap_31 : decode cX9_heap 31 = .ok (.iload_n 2, 1) := by decide +kernel
theorem dX9_heap_32 : decode cX9_heap 32 = .ok (.iadd, 1) := by decide +kernel
theorem dX9_heap_33 : decode cX9_heap 33 = .ok (.iaload, 1) := by decide +kernel
theorem dX9_heap_34 : decode cX9_heap 34 = .ok (.goto 22, 3) := by decide +kernel
theorem dX9_heap_37 : decode cX9_heap 37 = .ok (.iload_n 2, 1) := by decide +kernel
theorem dX9_heap_38 : decode cX9_heap 38 = .ok (.iconst 2, 1) := by decide +kernel
theorem dX9_heap_39 : decode cX9_heap 39 = .ok (.if_icmp .ne 12, 3) := by decide +kernel
theorem dX9_heap_42 : decode cX9_heap 42 = .ok (.aload_n 0, 1) := by decide +kernel
theorem dX9_heap_43 : decode cX9_heap 43 = .ok (.getfield 25, 3) := by decide +kernel
theorem dX9_heap_46 : decode cX9_heap 46 = .ok (.iload_n 1, 1) := by decide +kernel
theorem dX9_heap_47 : decode cX9_heap 47 = .ok (.iaload, 1) := by decide +kernel
theorem dX9_heap_48 : decode cX9_heap 48 = .ok (.goto 8, 3) := by decide +kernel
theorem dX9_heap_51 : decode cX9_heap 51 = .ok (.aload_n 0, 1) := by decide +kernel
theorem dX9_heap_52 : decode cX9_heap 52 = .ok (.iload_n 1, 1) := by decide +kernel
theorem dX9_heap_53 : decode cX9_heap 53 = .ok (.invokevirtual 167, 3) := by decide +kernel
theorem dX9_heap_56 : decode cX9_heap 56 = .ok (.ireturn, 1) := by decide +kernel
set_option maxRecDepth 20000 in
theorem ggX9_isCourse_X9_in : GoodIn wsX9_isCourse wsX9_in := goodIn_r _ [5] (by decide +kernel) (by decide +kernel)
set_option maxRecDepth 20000 in
theorem gX9_isCourse_X9_in : GoodIn wsX9_isCourse (va_wsS RX9 66 yX9_in wsX9_in) := goodIn_app (goodIn_of _ (by decide +kernel)) ggX9_isCourse_X9_in
theorem dX9_isCourse_0 : decode cX9_isCourse 0 = .ok (.iload_n 1, 1) := by decide +kernel
theorem dX9_isCourse_1 : decode cX9_isCourse 1 = .ok (.iconst 0, 1) := by decide +kernel
theorem dX9_isCourse_2 : decode cX9_isCourse 2 = .ok (.aload_n 0, 1) := by decide +kernel
theorem dX9_isCourse_3 : decode cX9_isCourse 3 = .ok (.getfield 25, 3) := by decide +kernel
theorem dX9_isCourse_6 : decode cX9_isCourse 6 = .ok (.bipush 8, 2) := by decide +kernel
theorem dX9_isCourse_8 : decode cX9_isCourse 8 = .ok (.iaload, 1) := by decide +kernel
theorem dX9_isCourse_9 : decode cX9_isCourse 9 = .ok (.iconst 1, 1) := by decide +kernel
theorem dX9_isCourse_10 : decode cX9_isCourse 10 = .ok (.isub, 1) := by decide +kernel
theorem dX9_isCourse_11 : decode cX9_isCourse 11 = .ok (.invokestatic 66, 3) := by decide +kernel
theorem dX9_isCourse_14 : decode cX9_isCourse 14 = .ok (.ireturn, 1) := by decide +kernel
set_option maxRecDepth 20000 in
theorem ggX9_lapHeld_X9_courseLength : GoodIn wsX9_lapHeld wsX9_courseLength := goodIn_r _ [6, 1, 12, 13, 14, 15, 16, 17, 18, 19, 20, 21, 22, 23, 24, 25, 26, 27, 28, 29] (by decide +kernel) (by decide +kernel)
set_option maxRecDepth 20000 in
theorem gX9_lapHeld_X9_courseLength : GoodIn wsX9_lapHeld (wsV RX9 91 RX9 yX9_courseLength wsX9_courseLength) := goodIn_app (goodIn_of _ (by decide +kernel)) ggX9_lapHeld_X9_courseLength
set_option maxRecDepth 20000 in
theorem ggX9_lapHeld_X9_gauge : GoodIn wsX9_lapHeld wsX9_gauge := goodIn_r _ [10, 11, 12, 13, 14, 15, 16, 17, 18, 19, 20, 21, 22, 23, 24, 25, 26, 27, 28, 29] (by decide +kernel) (by decide +kernel)
set_option maxRecDepth 20000 in
theorem gX9_lapHeld_X9_gauge : GoodIn wsX9_lapHeld (wsV RX9 95 RX9 yX9_gauge wsX9_gauge) := goodIn_app (goodIn_of _ (by decide +kernel)) ggX9_lapHeld_X9_gauge
theorem dX9_lapHeld_0 : decode cX9_lapHeld 0 = .ok (.iload_n 1, 1) := by decide +kernel
theorem dX9_lapHeld_1 : decode cX9_lapHeld 1 = .ok (.iconst 1, 1) := by decide +kernel
theorem dX9_lapHeld_2 : decode cX9_lapHeld 2 = .ok (.iadd, 1) := by decide +kernel
theorem dX9_lapHeld_3 : decode cX9_lapHeld 3 = .ok (.aload_n 0, 1) := by decide +kernel
theorem dX9_lapHeld_4 : decode cX9_lapHeld 4 = .ok (.getfield 25, 3) := by decide +kernel
theorem dX9_lapHeld_7 : decode cX9_lapHeld 7 = .ok (.bipush 8, 2) := by decide +kernel
theorem dX9_lapHeld_9 : decode cX9_lapHeld 9 = .ok (.iaload, 1) := by decide +kernel
theorem dX9_lapHeld_10 : decode cX9_lapHeld 10 = .ok (.if_icmp .ne 8, 3) := by decide +kernel
theorem dX9_lapHeld_13 : decode cX9_lapHeld 13 = .ok (.bipush (-4), 2) := by decide +kernel
theorem dX9_lapHeld_15 : decode cX9_lapHeld 15 = .ok (.goto 30, 3) := by decide +kernel
theorem dX9_lapHeld_18 : decode cX9_lapHeld 18 = .ok (.aload_n 0, 1) := by decide +kernel
theorem dX9_lapHeld_19 : decode cX9_lapHeld 19 = .ok (.iload_n 1, 1) := by decide +kernel
theorem dX9_lapHeld_20 : decode cX9_lapHeld 20 = .ok (.invokevirtual 91, 3) := by decide +kernel
theorem dX9_lapHeld_23 : decode cX9_lapHeld 23 = .ok (.aload_n 0, 1) := by decide +kernel
theorem dX9_lapHeld_24 : decode cX9_lapHeld 24 = .ok (.aload_n 0, 1) := by decide +kernel
theorem dX9_lapHeld_25 : decode cX9_lapHeld 25 = .ok (.iload_n 1, 1) := by decide +kernel
theorem dX9_lapHeld_26 : decode cX9_lapHeld 26 = .ok (.invokevirtual 91, 3) := by decide +kernel
theorem dX9_lapHeld_29 : decode cX9_lapHeld 29 = .ok (.invokevirtual 95, 3) := by decide +kernel
theorem dX9_lapHeld_32 : decode cX9_lapHeld 32 = .ok (.isub, 1) := by decide +kernel
theorem dX9_lapHeld_33 : decode cX9_lapHeld 33 = .ok (.aload_n 0, 1) := by decide +kernel
theorem dX9_lapHeld_34 : decode cX9_lapHeld 34 = .ok (.aload_n 0, 1) := by decide +kernel
theorem dX9_lapHeld_35 : decode cX9_lapHeld 35 = .ok (.iload_n 1, 1) := by decide +kernel
theorem dX9_lapHeld_36 : decode cX9_lapHeld 36 = .ok (.iconst 1, 1) := by decide +kernel
theorem dX9_lapHeld_37 : decode cX9_lapHeld 37 = .ok (.iadd, 1) := by decide +kernel
theorem dX9_lapHeld_38 : decode cX9_lapHeld 38 = .ok (.invokevirtual 91, 3) := by decide +kernel
theorem dX9_lapHeld_41 : decode cX9_lapHeld 41 = .ok (.invokevirtual 95, 3) := by decide +kernel
theorem dX9_lapHeld_44 : decode cX9_lapHeld 44 = .ok (.isub, 1) := by decide +kernel
theorem dX9_lapHeld_45 : decode cX9_lapHeld 45 = .ok (.ireturn, 1) := by decide +kernel
set_option maxRecDepth 20000 in
theorem ggX9_told_X9_isCourse : GoodIn wsX9_told wsX9_isCourse := goodIn_r _ [5, 6, 7, 8, 4, 9, 52, 53, 54, 55, 56, 57, 58, 59, 60, 61, 62, 63, 64, 65, 66, 67, 68, 69] (by decide +kernel) (by decide +kernel)
set_option maxRecDepth 20000 in
theorem gX9_told_X9_isCourse : GoodIn wsX9_told (wsV RX9 170 RX9 yX9_isCourse wsX9_isCourse) := goodIn_app (goodIn_of _ (by decide +kernel)) ggX9_told_X9_isCourse
set_option maxRecDepth 20000 in
theorem ggX9_told_X9_in : GoodIn wsX9_told wsX9_in := goodIn_r _ [9] (by decide +kernel) (by decide +kernel)
set_option maxRecDepth 20000 in
theorem gX9_told_X9_in : GoodIn wsX9_told (va_wsS RX9 66 yX9_in wsX9_in) := goodIn_app (goodIn_of _ (by decide +kernel)) ggX9_told_X9_in
set_option maxRecDepth 20000 in
theorem ggX9_told_X9_courseLength : GoodIn wsX9_told wsX9_courseLength := goodIn_r _ [13, 6, 52, 53, 54, 55, 56, 57, 58, 59, 60, 61, 62, 63, 64, 65, 66, 67, 68, 69] (by decide +kernel) (by decide +kernel)
set_option maxRecDepth 20000 in
theorem gX9_told_X9_courseLength : GoodIn wsX9_told (wsV RX9 91 RX9 yX9_courseLength wsX9_courseLength) := goodIn_app (goodIn_of _ (by decide +kernel)) ggX9_told_X9_courseLength
set_option maxRecDepth 20000 in
theorem ggX9_told_X9_foot : GoodIn wsX9_told wsX9_foot := goodIn_r _ [17, 10, 11, 12, 4, 13, 6, 18, 19, 20, 21, 22, 52, 53, 54, 55, 56, 57, 58, 59, 60, 61, 62, 63, 64, 65, 66, 67, 68, 69] (by decide +kernel) (by decide +kernel)
set_option maxRecDepth 20000 in
theorem gX9_told_X9_foot : GoodIn wsX9_told (wsV RX9 98 RX9 yX9_foot wsX9_foot) := goodIn_app (goodIn_of _ (by decide +kernel)) ggX9_told_X9_foot
set_option maxRecDepth 20000 in
theorem ggX9_told_X9_gauge : GoodIn wsX9_told wsX9_gauge := goodIn_r _ [21, 22, 52, 53, 54, 55, 56, 57, 58, 59, 60, 61, 62, 63, 64, 65, 66, 67, 68, 69] (by decide +kernel) (by decide +kernel)
set_option maxRecDepth 20000 in
theorem gX9_told_X9_gauge : GoodIn wsX9_told (wsV RX9 95 RX9 yX9_gauge wsX9_gauge) := goodIn_app (goodIn_of _ (by decide +kernel)) ggX9_told_X9_gauge
set_option maxRecDepth 20000 in
theorem ggX9_told_X9_room : GoodIn wsX9_told wsX9_room := goodIn_r _ [26, 22, 14, 15, 16, 4, 17, 10, 11, 12, 13, 6, 18, 19, 20, 21, 52, 53, 54, 55, 56, 57, 58, 59, 60, 61, 62, 63, 64, 65, 66, 67, 68, 69] (by decide +kernel) (by decide +kernel)
set_option maxRecDepth 20000 in
theorem gX9_told_X9_room : GoodIn wsX9_told (wsV RX9 126 RX9 yX9_room wsX9_room) := goodIn_app (goodIn_of _ (by decide +kernel)) ggX9_told_X9_room
set_option maxRecDepth 20000 in
theorem ggX9_told_X9_slateCount : GoodIn wsX9_told wsX9_slateCount := goodIn_r _ [30, 6, 52, 53, 54, 55, 56, 57, 58, 59, 60, 61, 62, 63, 64, 65, 66, 67, 68, 69] (by decide +kernel) (by decide +kernel)
set_option maxRecDepth 20000 in
theorem gX9_told_X9_slateCount : GoodIn wsX9_told (wsV RX9 101 RX9 yX9_slateCount wsX9_slateCount) := goodIn_app (goodIn_of _ (by decide +kernel)) ggX9_told_X9_slateCount
set_option maxRecDepth 20000 in
theorem ggX9_told_X9_waste : GoodIn wsX9_told wsX9_waste := goodIn_r _ [34, 27, 28, 29, 4, 30, 6, 35, 36, 37, 38, 39, 40, 41, 42, 43, 10, 11, 12, 13, 52, 53, 54, 55, 56, 57, 58, 59, 60, 61, 62, 63, 64, 65, 66, 67, 68, 69] (by decide +kernel) (by decide +kernel)
set_option maxRecDepth 20000 in
theorem gX9_told_X9_waste : GoodIn wsX9_told (wsV RX9 173 RX9 yX9_waste wsX9_waste) := goodIn_app (goodIn_of _ (by decide +kernel)) ggX9_told_X9_waste
set_option maxRecDepth 20000 in
theorem ggX9_told_X9_lapHeld : GoodIn wsX9_told wsX9_lapHeld := goodIn_r _ [47, 6, 10, 11, 12, 4, 13, 18, 19, 20, 21, 22, 52, 53, 54, 55, 56, 57, 58, 59, 60, 61, 62, 63, 64, 65, 66, 67, 68, 69] (by decide +kernel) (by decide +kernel)
set_option maxRecDepth 20000 in
theorem gX9_told_X9_lapHeld : GoodIn wsX9_told (wsV RX9 176 RX9 yX9_lapHeld wsX9_lapHeld) := goodIn_app (goodIn_of _ (by decide +kernel)) ggX9_told_X9_lapHeld
set_option maxRecDepth 20000 in
theorem ggX9_told_X9_cutCount : GoodIn wsX9_told wsX9_cutCount := goodIn_r _ [51, 27, 28, 29, 4, 30, 6, 35, 36, 37, 38, 39, 40, 41, 42, 43, 52, 53, 54, 55, 56, 57, 58, 59, 60, 61, 62, 63, 64, 65, 66, 67, 68, 69] (by decide +kernel) (by decide +kernel)
set_option maxRecDepth 20000 in
theorem gX9_told_X9_cutCount : GoodIn wsX9_told (wsV RX9 179 RX9 yX9_cutCount wsX9_cutCount) := goodIn_app (goodIn_of _ (by decide +kernel)) ggX9_told_X9_cutCount
theorem dX9_told_0 : decode cX9_told 0 = .ok (.aload_n 0, 1) := by decide +kernel
theorem dX9_told_1 : decode cX9_told 1 = .ok (.iload_n 1, 1) := by decide +kernel
theorem dX9_told_2 : decode cX9_told 2 = .ok (.invokevirtual 170, 3) := by decide +kernel
theorem dX9_told_5 : decode cX9_told 5 = .ok (.ifCond .eq 13, 3) := by decide +kernel
theorem dX9_told_8 : decode cX9_told 8 = .ok (.iload_n 2, 1) := by decide +kernel
theorem dX9_told_9 : decode cX9_told 9 = .ok (.iconst 0, 1) := by decide +kernel
theorem dX9_told_10 : decode cX9_told 10 = .ok (.bipush 7, 2) := by decide +kernel
theorem dX9_told_12 : decode cX9_told 12 = .ok (.invokestatic 66, 3) := by decide +kernel
theorem dX9_told_15 : decode cX9_told 15 = .ok (.ifCond .ne 5, 3) := by decide +kernel
theorem dX9_told_18 : decode cX9_told 18 = .ok (.iconst (-1), 1) := by decide +kernel
theorem dX9_told_19 : decode cX9_told 19 = .ok (.ireturn, 1) := by decide +kernel
theorem dX9_told_20 : decode cX9_told 20 = .ok (.iload_n 2, 1) := by decide +kernel
theorem dX9_told_21 : decode cX9_told 21 = .ok (.tableswitch 89 0 6 #[43, 49, 55, 65, 71, 77, 83], 43) := by decide +kernel
theorem dX9_told_64 : decode cX9_told 64 = .ok (.aload_n 0, 1) := by decide +kernel
theorem dX9_told_65 : decode cX9_told 65 = .ok (.iload_n 1, 1) := by decide +kernel
theorem dX9_told_66 : decode cX9_told 66 = .ok (.invokevirtual 91, 3) := by decide +kernel
theorem dX9_told_69 : decode cX9_told 69 = .ok (.ireturn, 1) := by decide +kernel
theorem dX9_told_70 : decode cX9_told 70 = .ok (.aload_n 0, 1) := by decide +kernel
theorem dX9_told_71 : decode cX9_told 71 = .ok (.iload_n 1, 1) := by decide +kernel
theorem dX9_told_72 : decode cX9_told 72 = .ok (.invokevirtual 98, 3) := by decide +kernel
theorem dX9_told_75 : decode cX9_told 75 = .ok (.ireturn, 1) := by decide +kernel
theorem dX9_told_76 : decode cX9_told 76 = .ok (.aload_n 0, 1) := by decide +kernel
theorem dX9_told_77 : decode cX9_told 77 = .ok (.aload_n 0, 1) := by decide +kernel
theorem dX9_told_78 : decode cX9_told 78 = .ok (.iload_n 1, 1) := by decide +kernel
theorem dX9_told_79 : decode cX9_told 79 = .ok (.invokevirtual 91, 3) := by decide +kernel
theorem dX9_told_82 : decode cX9_told 82 = .ok (.invokevirtual 95, 3) := by decide +kernel
theorem dX9_told_85 : decode cX9_told 85 = .ok (.ireturn, 1) := by decide +kernel
theorem dX9_told_86 : decode cX9_told 86 = .ok (.aload_n 0, 1) := by decide +kernel
theorem dX9_told_87 : decode cX9_told 87 = .ok (.iload_n 1, 1) := by decide +kernel
theorem dX9_told_88 : decode cX9_told 88 = .ok (.invokevirtual 126, 3) := by decide +kernel
theorem dX9_told_91 : decode cX9_told 91 = .ok (.ireturn, 1) := by decide +kernel
theorem dX9_told_92 : decode cX9_told 92 = .ok (.aload_n 0, 1) := by decide +kernel
theorem dX9_told_93 : decode cX9_told 93 = .ok (.iload_n 1, 1) := by decide +kernel
theorem dX9_told_94 : decode cX9_told 94 = .ok (.invokevirtual 101, 3) := by decide +kernel
theorem dX9_told_97 : decode cX9_told 97 = .ok (.ireturn, 1) := by decide +kernel
theorem dX9_told_98 : decode cX9_told 98 = .ok (.aload_n 0, 1) := by decide +kernel
theorem dX9_told_99 : decode cX9_told 99 = .ok (.iload_n 1, 1) := by decide +kernel
theorem dX9_told_100 : decode cX9_told 100 = .ok (.invokevirtual 173, 3) := by decide +kernel
theorem dX9_told_103 : decode cX9_told 103 = .ok (.ireturn, 1) := by decide +kernel
theorem dX9_told_104 : decode cX9_told 104 = .ok (.aload_n 0, 1) := by decide +kernel
theorem dX9_told_105 : decode cX9_told 105 = .ok (.iload_n 1, 1) := by decide +kernel
theorem dX9_told_106 : decode cX9_told 106 = .ok (.invokevirtual 176, 3) := by decide +kernel
theorem dX9_told_109 : decode cX9_told 109 = .ok (.ireturn, 1) := by decide +kernel
theorem dX9_told_110 : decode cX9_told 110 = .ok (.aload_n 0, 1) := by decide +kernel
theorem dX9_told_111 : decode cX9_told 111 = .ok (.iload_n 1, 1) := by decide +kernel
theorem dX9_told_112 : decode cX9_told 112 = .ok (.invokevirtual 179, 3) := by decide +kernel
theorem dX9_told_115 : decode cX9_told 115 = .ok (.ireturn, 1) := by decide +kernel
set_option maxRecDepth 20000 in
theorem ggX9_joint_X9_isCourse : GoodIn wsX9_joint wsX9_isCourse := goodIn_r _ [7, 8, 9, 10, 6, 11, 24, 25, 26, 27, 28, 29, 30, 31, 32, 33, 34, 35, 36, 37, 38, 39, 40, 41] (by decide +kernel) (by decide +kernel)
set_option maxRecDepth 20000 in
theorem gX9_joint_X9_isCourse : GoodIn wsX9_joint (wsV RX9 170 RX9 yX9_isCourse wsX9_isCourse) := goodIn_app (goodIn_of _ (by decide +kernel)) ggX9_joint_X9_isCourse
set_option maxRecDepth 20000 in
theorem ggX9_joint_X9_findJoints : GoodIn wsX9_joint wsX9_findJoints := goodIn_r _ [15, 1, 2, 16, 17, 18, 6, 19, 8, 20, 21, 22, 23, 24, 25, 26, 27, 28, 29, 30, 31, 32, 33, 34, 35, 36, 37, 38, 39, 40, 41] (by decide +kernel) (by decide +kernel)
set_option maxRecDepth 20000 in
theorem gX9_joint_X9_findJoints : GoodIn wsX9_joint (wsV RX9 129 RX9 yX9_findJoints wsX9_findJoints) := goodIn_app (goodIn_of _ (by decide +kernel)) ggX9_joint_X9_findJoints
theorem dX9_joint_0 : decode cX9_joint 0 = .ok (.aload_n 0, 1) := by decide +kernel
theorem dX9_joint_1 : decode cX9_joint 1 = .ok (.iload_n 1, 1) := by decide +kernel
theorem dX9_joint_2 : decode cX9_joint 2 = .ok (.invokevirtual 170, 3) := by decide +kernel
theorem dX9_joint_5 : decode cX9_joint 5 = .ok (.ifCond .eq 7, 3) := by decide +kernel
theorem dX9_joint_8 : decode cX9_joint 8 = .ok (.iload_n 2, 1) := by decide +kernel
theorem dX9_joint_9 : decode cX9_joint 9 = .ok (.ifCond .ge 5, 3) := by decide +kernel
theorem dX9_joint_12 : decode cX9_joint 12 = .ok (.iconst (-1), 1) := by decide +kernel
theorem dX9_joint_13 : decode cX9_joint 13 = .ok (.ireturn, 1) := by decide +kernel
theorem dX9_joint_14 : decode cX9_joint 14 = .ok (.aload_n 0, 1) := by decide +kernel
theorem dX9_joint_15 : decode cX9_joint 15 = .ok (.iload_n 1, 1) := by decide +kernel
theorem dX9_joint_16 : decode cX9_joint 16 = .ok (.invokevirtual 129, 3) := by decide +kernel
theorem dX9_joint_19 : decode cX9_joint 19 = .ok (.iload_n 2, 1) := by decide +kernel
theorem dX9_joint_20 : decode cX9_joint 20 = .ok (.aload_n 0, 1) := by decide +kernel
theorem dX9_joint_21 : decode cX9_joint 21 = .ok (.getfield 111, 3) := by decide +kernel
theorem dX9_joint_24 : decode cX9_joint 24 = .ok (.if_icmp .ge 12, 3) := by decide +kernel
theorem dX9_joint_27 : decode cX9_joint 27 = .ok (.aload_n 0, 1) := by decide +kernel
theorem dX9_joint_28 : decode cX9_joint 28 = .ok (.getfield 37, 3) := by decide +kernel
theorem dX9_joint_31 : decode cX9_joint 31 = .ok (.iload_n 2, 1) := by decide +kernel
theorem dX9_joint_32 : decode cX9_joint 32 = .ok (.iaload, 1) := by decide +kernel
theorem dX9_joint_33 : decode cX9_joint 33 = .ok (.goto 5, 3) := by decide +kernel
theorem dX9_joint_36 : decode cX9_joint 36 = .ok (.bipush (-4), 2) := by decide +kernel
theorem dX9_joint_38 : decode cX9_joint 38 = .ok (.ireturn, 1) := by decide +kernel
set_option maxRecDepth 20000 in
theorem ggX9_slate_X9_isCourse : GoodIn wsX9_slate wsX9_isCourse := goodIn_r _ [5, 6, 7, 8, 4, 9, 18, 19, 20, 21, 22, 23, 24, 25, 26, 27, 28, 29, 30, 31, 32, 33, 34, 35] (by decide +kernel) (by decide +kernel)
set_option maxRecDepth 20000 in
theorem gX9_slate_X9_isCourse : GoodIn wsX9_slate (wsV RX9 170 RX9 yX9_isCourse wsX9_isCourse) := goodIn_app (goodIn_of _ (by decide +kernel)) ggX9_slate_X9_isCourse
set_option maxRecDepth 20000 in
theorem ggX9_slate_X9_in : GoodIn wsX9_slate wsX9_in := goodIn_r _ [9] (by decide +kernel) (by decide +kernel)
set_option maxRecDepth 20000 in
theorem gX9_slate_X9_in : GoodIn wsX9_slate (va_wsS RX9 66 yX9_in wsX9_in) := goodIn_app (goodIn_of _ (by decide +kernel)) ggX9_slate_X9_in
set_option maxRecDepth 20000 in
theorem ggX9_slate_X9_slateCount : GoodIn wsX9_slate wsX9_slateCount := goodIn_r _ [13, 6, 18, 19, 20, 21, 22, 23, 24, 25, 26, 27, 28, 29, 30, 31, 32, 33, 34, 35] (by decide +kernel) (by decide +kernel)
set_option maxRecDepth 20000 in
theorem gX9_slate_X9_slateCount : GoodIn wsX9_slate (wsV RX9 101 RX9 yX9_slateCount wsX9_slateCount) := goodIn_app (goodIn_of _ (by decide +kernel)) ggX9_slate_X9_slateCount
set_option maxRecDepth 20000 in
theorem ggX9_slate_X9_slateOf : GoodIn wsX9_slate wsX9_slateOf := goodIn_r _ [17, 6, 18, 19, 20, 21, 22, 23, 24, 25, 26, 27, 28, 29, 30, 31, 32, 33, 34, 35] (by decide +kernel) (by decide +kernel)
set_option maxRecDepth 20000 in
theorem gX9_slate_X9_slateOf : GoodIn wsX9_slate (wsV RX9 104 RX9 yX9_slateOf wsX9_slateOf) := goodIn_app (goodIn_of _ (by decide +kernel)) ggX9_slate_X9_slateOf
theorem dX9_slate_0 : decode cX9_slate 0 = .ok (.aload_n 0, 1) := by decide +kernel
theorem dX9_slate_1 : decode cX9_slate 1 = .ok (.iload_n 1, 1) := by decide +kernel
theorem dX9_slate_2 : decode cX9_slate 2 = .ok (.invokevirtual 170, 3) := by decide +kernel
theorem dX9_slate_5 : decode cX9_slate 5 = .ok (.ifCond .eq 16, 3) := by decide +kernel
theorem dX9_slate_8 : decode cX9_slate 8 = .ok (.iload_n 2, 1) := by decide +kernel
theorem dX9_slate_9 : decode cX9_slate 9 = .ok (.ifCond .lt 12, 3) := by decide +kernel
theorem dX9_slate_12 : decode cX9_slate 12 = .ok (.iload_n 3, 1) := by decide +kernel
theorem dX9_slate_13 : decode cX9_slate 13 = .ok (.iconst 0, 1) := by decide +kernel
theorem dX9_slate_14 : decode cX9_slate 14 = .ok (.iconst 1, 1) := by decide +kernel
theorem dX9_slate_15 : decode cX9_slate 15 = .ok (.invokestatic 66, 3) := by decide +kernel
theorem dX9_slate_18 : decode cX9_slate 18 = .ok (.ifCond .ne 5, 3) := by decide +kernel
theorem dX9_slate_21 : decode cX9_slate 21 = .ok (.iconst (-1), 1) := by decide +kernel
theorem dX9_slate_22 : decode cX9_slate 22 = .ok (.ireturn, 1) := by decide +kernel
theorem dX9_slate_23 : decode cX9_slate 23 = .ok (.iload_n 2, 1) := by decide +kernel
theorem dX9_slate_24 : decode cX9_slate 24 = .ok (.aload_n 0, 1) := by decide +kernel
theorem dX9_slate_25 : decode cX9_slate 25 = .ok (.iload_n 1, 1) := by decide +kernel
theorem dX9_slate_26 : decode cX9_slate 26 = .ok (.invokevirtual 101, 3) := by decide +kernel
theorem dX9_slate_29 : decode cX9_slate 29 = .ok (.if_icmp .lt 6, 3) := by decide +kernel
theorem dX9_slate_32 : decode cX9_slate 32 = .ok (.bipush (-4), 2) := by decide +kernel
theorem dX9_slate_34 : decode cX9_slate 34 = .ok (.ireturn, 1) := by decide +kernel
theorem dX9_slate_35 : decode cX9_slate 35 = .ok (.iload_n 3, 1) := by decide +kernel
theorem dX9_slate_36 : decode cX9_slate 36 = .ok (.ifCond .ne 15, 3) := by decide +kernel
theorem dX9_slate_39 : decode cX9_slate 39 = .ok (.aload_n 0, 1) := by decide +kernel
theorem dX9_slate_40 : decode cX9_slate 40 = .ok (.iload_n 1, 1) := by decide +kernel
theorem dX9_slate_41 : decode cX9_slate 41 = .ok (.iload_n 2, 1) := by decide +kernel
theorem dX9_slate_42 : decode cX9_slate 42 = .ok (.invokevirtual 104, 3) := by decide +kernel
theorem dX9_slate_45 : decode cX9_slate 45 = .ok (.bipush 64, 2) := by decide +kernel
theorem dX9_slate_47 : decode cX9_slate 47 = .ok (.idiv, 1) := by decide +kernel
theorem dX9_slate_48 : decode cX9_slate 48 = .ok (.goto 12, 3) := by decide +kernel
theorem dX9_slate_51 : decode cX9_slate 51 = .ok (.aload_n 0, 1) := by decide +kernel
theorem dX9_slate_52 : decode cX9_slate 52 = .ok (.iload_n 1, 1) := by decide +kernel
theorem dX9_slate_53 : decode cX9_slate 53 = .ok (.iload_n 2, 1) := by decide +kernel
theorem dX9_slate_54 : decode cX9_slate 54 = .ok (.invokevirtual 104, 3) := by decide +kernel
theorem dX9_slate_57 : decode cX9_slate 57 = .ok (.bipush 64, 2) := by decide +kernel
theorem dX9_slate_59 : decode cX9_slate 59 = .ok (.irem, 1) := by decide +kernel
theorem dX9_slate_60 : decode cX9_slate 60 = .ok (.ireturn, 1) := by decide +kernel
set_option maxRecDepth 20000 in
theorem ggX9_tried_X9_in : GoodIn wsX9_tried wsX9_in := goodIn_r _ [5] (by decide +kernel) (by decide +kernel)
set_option maxRecDepth 20000 in
theorem gX9_tried_X9_in : GoodIn wsX9_tried (va_wsS RX9 66 yX9_in wsX9_in) := goodIn_app (goodIn_of _ (by decide +kernel)) ggX9_tried_X9_in
set_option maxRecDepth 20000 in
theorem ggX9_tried_X9_layCourse : GoodIn wsX9_tried wsX9_layCourse := goodIn_r _ [9, 1, 10, 11, 12, 4, 13, 14, 15, 16, 17, 18, 19, 20, 21, 22, 23, 24, 25, 26, 27, 28, 29, 30, 31, 32, 33, 34, 35, 36, 37, 38, 39, 40, 41, 42, 43, 44, 45, 46, 47, 48, 49, 50, 51, 52, 53, 54, 55, 56, 57, 58, 59, 60, 61, 62, 63, 64, 65, 66, 67, 68, 69, 70, 71, 72, 73, 74, 75, 76, 85, 86, 87, 88, 89, 90, 91, 92, 93, 94, 95, 96, 97, 98, 99, 100, 101, 102] (by decide +kernel) (by decide +kernel)
set_option maxRecDepth 20000 in
theorem gX9_tried_X9_layCourse : GoodIn wsX9_tried (wsV RX9 152 RX9 yX9_layCourse wsX9_layCourse) := goodIn_app (goodIn_of _ (by decide +kernel)) ggX9_tried_X9_layCourse
set_option maxRecDepth 20000 in
theorem ggX9_tried_X9_slateCount : GoodIn wsX9_tried wsX9_slateCount := goodIn_r _ [56, 1, 85, 86, 87, 88, 89, 90, 91, 92, 93, 94, 95, 96, 97, 98, 99, 100, 101, 102] (by decide +kernel) (by decide +kernel)
set_option maxRecDepth 20000 in
theorem gX9_tried_X9_slateCount : GoodIn wsX9_tried (wsV RX9 101 RX9 yX9_slateCount wsX9_slateCount) := goodIn_app (goodIn_of _ (by decide +kernel)) ggX9_tried_X9_slateCount
set_option maxRecDepth 20000 in
theorem ggX9_tried_X9_waste : GoodIn wsX9_tried wsX9_waste := goodIn_r _ [80, 53, 54, 55, 4, 56, 1, 57, 58, 59, 60, 65, 66, 67, 68, 19, 29, 30, 31, 32, 85, 86, 87, 88, 89, 90, 91, 92, 93, 94, 95, 96, 97, 98, 99, 100, 101, 102] (by decide +kernel) (by decide +kernel)
set_option maxRecDepth 20000 in
theorem gX9_tried_X9_waste : GoodIn wsX9_tried (wsV RX9 173 RX9 yX9_waste wsX9_waste) := goodIn_app (goodIn_of _ (by decide +kernel)) ggX9_tried_X9_waste
set_option maxRecDepth 20000 in
theorem ggX9_tried_X9_takeUp : GoodIn wsX9_tried wsX9_takeUp := goodIn_r _ [84, 1, 73, 74, 75, 4, 76, 53, 54, 55, 56, 57, 58, 59, 60, 85, 86, 87, 88, 89, 90, 91, 92, 93, 94, 95, 96, 97, 98, 99, 100, 101, 102] (by decide +kernel) (by decide +kernel)
set_option maxRecDepth 20000 in
theorem gX9_tried_X9_takeUp : GoodIn wsX9_tried (wsV RX9 155 RX9 yX9_takeUp wsX9_takeUp) := goodIn_app (goodIn_of _ (by decide +kernel)) ggX9_tried_X9_takeUp
theorem dX9_tried_0 : decode cX9_tried 0 = .ok (.iload_n 1, 1) := by decide +kernel
theorem dX9_tried_1 : decode cX9_tried 1 = .ok (.bipush 20, 2) := by decide +kernel
theorem dX9_tried_3 : decode cX9_tried 3 = .ok (.bipush 60, 2) := by decide +kernel
theorem dX9_tried_5 : decode cX9_tried 5 = .ok (.invokestatic 66, 3) := by decide +kernel
theorem dX9_tried_8 : decode cX9_tried 8 = .ok (.ifCond .eq 12, 3) := by decide +kernel
theorem dX9_tried_11 : decode cX9_tried 11 = .ok (.iload_n 2, 1) := by decide +kernel
theorem dX9_tried_12 : decode cX9_tried 12 = .ok (.iconst 0, 1) := by decide +kernel
theorem dX9_tried_13 : decode cX9_tried 13 = .ok (.iconst 1, 1) := by decide +kernel
theorem dX9_tried_14 : decode cX9_tried 14 = .ok (.invokestatic 66, 3) := by decide +kernel
theorem dX9_tried_17 : decode cX9_tried 17 = .ok (.ifCond .ne 5, 3) := by decide +kernel
theorem dX9_tried_20 : decode cX9_tried 20 = .ok (.iconst (-1), 1) := by decide +kernel
theorem dX9_tried_21 : decode cX9_tried 21 = .ok (.ireturn, 1) := by decide +kernel
theorem dX9_tried_22 : decode cX9_tried 22 = .ok (.aload_n 0, 1) := by decide +kernel
theorem dX9_tried_23 : decode cX9_tried 23 = .ok (.iload_n 1, 1) := by decide +kernel
theorem dX9_tried_24 : decode cX9_tried 24 = .ok (.invokevirtual 152, 3) := by decide +kernel
theorem dX9_tried_27 : decode cX9_tried 27 = .ok (.ifCond .ne 6, 3) := by decide +kernel
theorem dX9_tried_30 : decode cX9_tried 30 = .ok (.bipush (-2), 2) := by decide +kernel
theorem dX9_tried_32 : decode cX9_tried 32 = .ok (.ireturn, 1) := by decide +kernel
theorem dX9_tried_33 : decode cX9_tried 33 = .ok (.aload_n 0, 1) := by decide +kernel
theorem dX9_tried_34 : decode cX9_tried 34 = .ok (.getfield 25, 3) := by decide +kernel
theorem dX9_tried_37 : decode cX9_tried 37 = .ok (.bipush 8, 2) := by decide +kernel
theorem dX9_tried_39 : decode cX9_tried 39 = .ok (.iaload, 1) := by decide +kernel
theorem dX9_tried_40 : decode cX9_tried 40 = .ok (.iconst 1, 1) := by decide +kernel
theorem dX9_tried_41 : decode cX9_tried 41 = .ok (.isub, 1) := by decide +kernel
theorem dX9_tried_42 : decode cX9_tried 42 = .ok (.istore_n 3, 1) := by decide +kernel
theorem dX9_tried_43 : decode cX9_tried 43 = .ok (.iload_n 2, 1) := by decide +kernel
theorem dX9_tried_44 : decode cX9_tried 44 = .ok (.ifCond .ne 11, 3) := by decide +kernel
theorem dX9_tried_47 : decode cX9_tried 47 = .ok (.aload_n 0, 1) := by decide +kernel
theorem dX9_tried_48 : decode cX9_tried 48 = .ok (.iload_n 3, 1) := by decide +kernel
theorem dX9_tried_49 : decode cX9_tried 49 = .ok (.invokevirtual 101, 3) := by decide +kernel
theorem dX9_tried_52 : decode cX9_tried 52 = .ok (.goto 8, 3) := by decide +kernel
theorem dX9_tried_55 : decode cX9_tried 55 = .ok (.aload_n 0, 1) := by decide +kernel
theorem dX9_tried_56 : decode cX9_tried 56 = .ok (.iload_n 3, 1) := by decide +kernel
theorem dX9_tried_57 : decode cX9_tried 57 = .ok (.invokevirtual 173, 3) := by decide +kernel
theorem dX9_tried_60 : decode cX9_tried 60 = .ok (.istore 4, 2) := by decide +kernel
theorem dX9_tried_62 : decode cX9_tried 62 = .ok (.aload_n 0, 1) := by decide +kernel
theorem dX9_tried_63 : decode cX9_tried 63 = .ok (.invokevirtual 155, 3) := by decide +kernel
theorem dX9_tried_66 : decode cX9_tried 66 = .ok (.iload 4, 2) := by decide +kernel
theorem dX9_tried_68 : decode cX9_tried 68 = .ok (.ireturn, 1) := by decide +kernel
set_option maxRecDepth 20000 in
theorem ggX9_nextLength_X9_heapLength : GoodIn wsX9_nextLength wsX9_heapLength := goodIn_r _ [7, 8, 82, 83, 84, 85, 86, 87, 88, 89, 90, 91, 92, 93, 94, 95, 96, 97, 98, 99] (by decide +kernel) (by decide +kernel)
set_option maxRecDepth 20000 in
theorem gX9_nextLength_X9_heapLength : GoodIn wsX9_nextLength (wsV RX9 114 RX9 yX9_heapLength wsX9_heapLength) := goodIn_app (goodIn_of _ (by decide +kernel)) ggX9_nextLength_X9_heapLength
set_option maxRecDepth 20000 in
theorem ggX9_nextLength_X9_layCourse : GoodIn wsX9_nextLength wsX9_layCourse := goodIn_r _ [12, 2, 13, 14, 15, 6, 16, 1, 3, 4, 5, 7, 8, 17, 18, 19, 20, 21, 22, 23, 24, 25, 26, 27, 28, 29, 30, 31, 32, 33, 34, 35, 36, 37, 38, 39, 40, 41, 42, 43, 44, 45, 46, 47, 48, 49, 50, 51, 52, 53, 54, 55, 56, 57, 58, 59, 60, 61, 62, 63, 64, 65, 66, 67, 68, 69, 70, 71, 72, 73, 82, 83, 84, 85, 86, 87, 88, 89, 90, 91, 92, 93, 94, 95, 96, 97, 98, 99] (by decide +kernel) (by decide +kernel)
set_option maxRecDepth 20000 in
theorem gX9_nextLength_X9_layCourse : GoodIn wsX9_nextLength (wsV RX9 152 RX9 yX9_layCourse wsX9_layCourse) := goodIn_app (goodIn_of _ (by decide +kernel)) ggX9_nextLength_X9_layCourse
set_option maxRecDepth 20000 in
theorem ggX9_nextLength_X9_waste : GoodIn wsX9_nextLength wsX9_waste := goodIn_r _ [77, 50, 51, 52, 6, 53, 2, 54, 55, 56, 57, 62, 63, 64, 65, 8, 26, 27, 28, 29, 82, 83, 84, 85, 86, 87, 88, 89, 90, 91, 92, 93, 94, 95, 96, 97, 98, 99] (by decide +kernel) (by decide +kernel)
set_option maxRecDepth 20000 in
theorem gX9_nextLength_X9_waste : GoodIn wsX9_nextLength (wsV RX9 173 RX9 yX9_waste wsX9_waste) := goodIn_app (goodIn_of _ (by decide +kernel)) ggX9_nextLength_X9_waste
set_option maxRecDepth 20000 in
theorem ggX9_nextLength_X9_gauge : GoodIn wsX9_nextLength wsX9_gauge := goodIn_r _ [33, 21, 82, 83, 84, 85, 86, 87, 88, 89, 90, 91, 92, 93, 94, 95, 96, 97, 98, 99] (by decide +kernel) (by decide +kernel)
set_option maxRecDepth 20000 in
theorem gX9_nextLength_X9_gauge : GoodIn wsX9_nextLength (wsV RX9 95 RX9 yX9_gauge wsX9_gauge) := goodIn_app (goodIn_of _ (by decide +kernel)) ggX9_nextLength_X9_gauge
set_option maxRecDepth 20000 in
theorem ggX9_nextLength_X9_takeUp : GoodIn wsX9_nextLength wsX9_takeUp := goodIn_r _ [81, 2, 70, 71, 72, 6, 73, 50, 51, 52, 53, 54, 55, 56, 57, 82, 83, 84, 85, 86, 87, 88, 89, 90, 91, 92, 93, 94, 95, 96, 97, 98, 99] (by decide +kernel) (by decide +kernel)
set_option maxRecDepth 20000 in
theorem gX9_nextLength_X9_takeUp : GoodIn wsX9_nextLength (wsV RX9 155 RX9 yX9_takeUp wsX9_takeUp) := goodIn_app (goodIn_of _ (by decide +kernel)) ggX9_nextLength_X9_takeUp
theorem dX9_nextLength_0 : decode cX9_nextLength 0 = .ok (.bipush (-4), 2) := by decide +kernel
theorem dX9_nextLength_2 : decode cX9_nextLength 2 = .ok (.istore_n 2, 1) := by decide +kernel
theorem dX9_nextLength_3 : decode cX9_nextLength 3 = .ok (.iconst 0, 1) := by decide +kernel
theorem dX9_nextLength_4 : decode cX9_nextLength 4 = .ok (.istore_n 3, 1) := by decide +kernel
theorem dX9_nextLength_5 : decode cX9_nextLength 5 = .ok (.iconst 0, 1) := by decide +kernel
theorem dX9_nextLength_6 : decode cX9_nextLength 6 = .ok (.istore 4, 2) := by decide +kernel
theorem dX9_nextLength_8 : decode cX9_nextLength 8 = .ok (.iload 4, 2) := by decide +kernel
theorem dX9_nextLength_10 : decode cX9_nextLength 10 = .ok (.aload_n 0, 1) := by decide +kernel
theorem dX9_nextLength_11 : decode cX9_nextLength 11 = .ok (.getfield 54, 3) := by decide +kernel
theorem dX9_nextLength_14 : decode cX9_nextLength 14 = .ok (.if_icmp .ge 123, 3) := by decide +kernel
theorem dX9_nextLength_17 : decode cX9_nextLength 17 = .ok (.aload_n 0, 1) := by decide +kernel
theorem dX9_nextLength_18 : decode cX9_nextLength 18 = .ok (.iload 4, 2) := by decide +kernel
theorem dX9_nextLength_20 : decode cX9_nextLength 20 = .ok (.invokevirtual 114, 3) := by decide +kernel
theorem dX9_nextLength_23 : decode cX9_nextLength 23 = .ok (.istore 5, 2) := by decide +kernel
theorem dX9_nextLength_25 : decode cX9_nextLength 25 = .ok (.iload 4, 2) := by decide +kernel
theorem dX9_nextLength_27 : decode cX9_nextLength 27 = .ok (.ifCond .eq 16, 3) := by decide +kernel
theorem dX9_nextLength_30 : decode cX9_nextLength 30 = .ok (.iload 5, 2) := by decide +kernel
theorem dX9_nextLength_32 : decode cX9_nextLength 32 = .ok (.aload_n 0, 1) := by decide +kernel
theorem dX9_nextLength_33 : decode cX9_nextLength 33 = .ok (.iload 4, 2) := by decide +kernel
theorem dX9_nextLength_35 : decode cX9_nextLength 35 = .ok (.iconst 1, 1) := by decide +kernel
theorem dX9_nextLength_36 : decode cX9_nextLength 36 = .ok (.isub, 1) := by decide +kernel
theorem dX9_nextLength_37 : decode cX9_nextLength 37 = .ok (.invokevirtual 114, 3) := by decide +kernel
theorem dX9_nextLength_40 : decode cX9_nextLength 40 = .ok (.if_icmp .eq 91, 3) := by decide +kernel
theorem dX9_nextLength_43 : decode cX9_nextLength 43 = .ok (.aload_n 0, 1) := by decide +kernel
theorem dX9_nextLength_44 : decode cX9_nextLength 44 = .ok (.iload 5, 2) := by decide +kernel
theorem dX9_nextLength_46 : decode cX9_nextLength 46 = .ok (.invokevirtual 152, 3) := by decide +kernel
theorem dX9_nextLength_49 : decode cX9_nextLength 49 = .ok (.ifCond .eq 82, 3) := by decide +kernel
theorem dX9_nextLength_52 : decode cX9_nextLength 52 = .ok (.aload_n 0, 1) := by decide +kernel
theorem dX9_nextLength_53 : decode cX9_nextLength 53 = .ok (.aload_n 0, 1) := by decide +kernel
theorem dX9_nextLength_54 : decode cX9_nextLength 54 = .ok (.getfield 25, 3) := by decide +kernel
theorem dX9_nextLength_57 : decode cX9_nextLength 57 = .ok (.bipush 8, 2) := by decide +kernel
theorem dX9_nextLength_59 : decode cX9_nextLength 59 = .ok (.iaload, 1) := by decide +kernel
theorem dX9_nextLength_60 : decode cX9_nextLength 60 = .ok (.iconst 1, 1) := by decide +kernel
theorem dX9_nextLength_61 : decode cX9_nextLength 61 = .ok (.isub, 1) := by decide +kernel
theorem dX9_nextLength_62 : decode cX9_nextLength 62 = .ok (.invokevirtual 173, 3) := by decide +kernel
theorem dX9_nextLength_65 : decode cX9_nextLength 65 = .ok (.istore 6, 2) := by decide +kernel
theorem dX9_nextLength_67 : decode cX9_nextLength 67 = .ok (.iload_n 2, 1) := by decide +kernel
theorem dX9_nextLength_68 : decode cX9_nextLength 68 = .ok (.bipush (-4), 2) := by decide +kernel
theorem dX9_nextLength_70 : decode cX9_nextLength 70 = .ok (.if_icmp .eq 26, 3) := by decide +kernel
theorem dX9_nextLength_73 : decode cX9_nextLength 73 = .ok (.iload_n 1, 1) := by decide +kernel
theorem dX9_nextLength_74 : decode cX9_nextLength 74 = .ok (.ifCond .ne 26, 3) := by decide +kernel
theorem dX9_nextLength_77 : decode cX9_nextLength 77 = .ok (.iload 6, 2) := by decide +kernel
theorem dX9_nextLength_79 : decode cX9_nextLength 79 = .ok (.aload_n 0, 1) := by decide +kernel
theorem dX9_nextLength_80 : decode cX9_nextLength 80 = .ok (.iload_n 2, 1) := by decide +kernel
theorem dX9_nextLength_81 : decode cX9_nextLength 81 = .ok (.invokevirtual 95, 3) := by decide +kernel
theorem dX9_nextLength_84 : decode cX9_nextLength 84 = .ok (.imul, 1) := by decide +kernel
theorem dX9_nextLength_85 : decode cX9_nextLength 85 = .ok (.iload_n 3, 1) := by decide +kernel
theorem dX9_nextLength_86 : decode cX9_nextLength 86 = .ok (.aload_n 0, 1) := by decide +kernel
theorem dX9_nextLength_87 : decode cX9_nextLength 87 = .ok (.iload 5, 2) := by decide +kernel
theorem dX9_nextLength_89 : decode cX9_nextLength 89 = .ok (.invokevirtual 95, 3) := by decide +kernel
theorem dX9_nextLength_92 : decode cX9_nextLength 92 = .ok (.imul, 1) := by decide +kernel
theorem dX9_nextLength_93 : decode cX9_nextLength 93 = .ok (.if_icmp .ge 7, 3) := by decide +kernel
theorem dX9_nextLength_96 : decode cX9_nextLength 96 = .ok (.iconst 1, 1) := by decide +kernel
theorem dX9_nextLength_97 : decode cX9_nextLength 97 = .ok (.goto 4, 3) := by decide +kernel
theorem dX9_nextLength_100 : decode cX9_nextLength 100 = .ok (.iconst 0, 1) := by decide +kernel
theorem dX9_nextLength_101 : decode cX9_nextLength 101 = .ok (.istore 7, 2) := by decide +kernel
theorem dX9_nextLength_103 : decode cX9_nextLength 103 = .ok (.iload 7, 2) := by decide +kernel
theorem dX9_nextLength_105 : decode cX9_nextLength 105 = .ok (.ifCond .eq 8, 3) := by decide +kernel
theorem dX9_nextLength_108 : decode cX9_nextLength 108 = .ok (.iload 5, 2) := by decide +kernel
theorem dX9_nextLength_110 : decode cX9_nextLength 110 = .ok (.goto 4, 3) := by decide +kernel
theorem dX9_nextLength_113 : decode cX9_nextLength 113 = .ok (.iload_n 2, 1) := by decide +kernel
theorem dX9_nextLength_114 : decode cX9_nextLength 114 = .ok (.istore_n 2, 1) := by decide +kernel
theorem dX9_nextLength_115 : decode cX9_nextLength 115 = .ok (.iload 7, 2) := by decide +kernel
theorem dX9_nextLength_117 : decode cX9_nextLength 117 = .ok (.ifCond .eq 8, 3) := by decide +kernel
theorem dX9_nextLength_120 : decode cX9_nextLength 120 = .ok (.iload 6, 2) := by decide +kernel
theorem dX9_nextLength_122 : decode cX9_nextLength 122 = .ok (.goto 4, 3) := by decide +kernel
theorem dX9_nextLength_125 : decode cX9_nextLength 125 = .ok (.iload_n 3, 1) := by decide +kernel
theorem dX9_nextLength_126 : decode cX9_nextLength 126 = .ok (.istore_n 3, 1) := by decide +kernel
theorem dX9_nextLength_127 : decode cX9_nextLength 127 = .ok (.aload_n 0, 1) := by decide +kernel
theorem dX9_nextLength_128 : decode cX9_nextLength 128 = .ok (.invokevirtual 155, 3) := by decide +kernel
theorem dX9_nextLength_131 : decode cX9_nextLength 131 = .ok (.iinc 4 1, 3) := by decide +kernel
theorem dX9_nextLength_134 : decode cX9_nextLength 134 = .ok (.goto (-126), 3) := by decide +kernel
theorem dX9_nextLength_137 : decode cX9_nextLength 137 = .ok (.iload_n 2, 1) := by decide +kernel
theorem dX9_nextLength_138 : decode cX9_nextLength 138 = .ok (.ireturn, 1) := by decide +kernel
set_option maxRecDepth 20000 in
theorem ggX9_next_X9_in : GoodIn wsX9_next wsX9_in := goodIn_r _ [4] (by decide +kernel) (by decide +kernel)
set_option maxRecDepth 20000 in
theorem gX9_next_X9_in : GoodIn wsX9_next (va_wsS RX9 66 yX9_in wsX9_in) := goodIn_app (goodIn_of _ (by decide +kernel)) ggX9_next_X9_in
set_option maxRecDepth 20000 in
theorem ggX9_next_X9_nextLength : GoodIn wsX9_next wsX9_nextLength := goodIn_r _ [8, 9, 10, 11, 12, 13, 3, 14, 15, 16, 17, 18, 19, 20, 21, 22, 23, 24, 25, 26, 27, 28, 29, 30, 31, 32, 33, 34, 35, 36, 37, 38, 39, 40, 41, 42, 43, 44, 45, 46, 47, 48, 49, 50, 51, 52, 53, 54, 55, 56, 57, 58, 59, 60, 61, 62, 63, 64, 65, 66, 67, 68, 69, 70, 71, 72, 73, 74, 75, 76, 77, 78, 79, 80, 81, 82, 83, 84, 85, 86, 87, 88, 89, 90, 91, 92, 93, 94, 95, 96, 97, 98, 99, 100, 101, 102, 103, 104, 105, 106] (by decide +kernel) (by decide +kernel)
set_option maxRecDepth 20000 in
theorem gX9_next_X9_nextLength : GoodIn wsX9_next (wsV RX9 182 RX9 yX9_nextLength wsX9_nextLength) := goodIn_app (goodIn_of _ (by decide +kernel)) ggX9_next_X9_nextLength
theorem dX9_next_0 : decode cX9_next 0 = .ok (.iload_n 1, 1) := by decide +kernel
theorem dX9_next_1 : decode cX9_next 1 = .ok (.iconst 0, 1) := by decide +kernel
theorem dX9_next_2 : decode cX9_next 2 = .ok (.iconst 1, 1) := by decide +kernel
theorem dX9_next_3 : decode cX9_next 3 = .ok (.invokestatic 66, 3) := by decide +kernel
theorem dX9_next_6 : decode cX9_next 6 = .ok (.ifCond .eq 11, 3) := by decide +kernel
theorem dX9_next_9 : decode cX9_next 9 = .ok (.aload_n 0, 1) := by decide +kernel
theorem dX9_next_10 : decode cX9_next 10 = .ok (.iload_n 1, 1) := by decide +kernel
theorem dX9_next_11 : decode cX9_next 11 = .ok (.invokevirtual 182, 3) := by decide +kernel
theorem dX9_next_14 : decode cX9_next 14 = .ok (.goto 4, 3) := by decide +kernel
theorem dX9_next_17 : decode cX9_next 17 = .ok (.iconst (-1), 1) := by decide +kernel
theorem dX9_next_18 : decode cX9_next 18 = .ok (.ireturn, 1) := by decide +kernel
set_option maxRecDepth 20000 in
theorem ggX9_itself_X9_in : GoodIn wsX9_itself wsX9_in := goodIn_r _ [6] (by decide +kernel) (by decide +kernel)
set_option maxRecDepth 20000 in
theorem gX9_itself_X9_in : GoodIn wsX9_itself (va_wsS RX9 66 yX9_in wsX9_in) := goodIn_app (goodIn_of _ (by decide +kernel)) ggX9_itself_X9_in
set_option maxRecDepth 20000 in
theorem ggX9_itself_X9_copyState : GoodIn wsX9_itself wsX9_copyState := goodIn_r _ [9] (by decide +kernel) (by decide +kernel)
set_option maxRecDepth 20000 in
theorem gX9_itself_X9_copyState : GoodIn wsX9_itself (va_wsS RX9 148 yX9_copyState wsX9_copyState) := goodIn_app (goodIn_of _ (by decide +kernel)) ggX9_itself_X9_copyState
set_option maxRecDepth 20000 in
theorem ggX9_itself_X9_nextLength : GoodIn wsX9_itself wsX9_nextLength := goodIn_r _ [13, 14, 1, 15, 16, 17, 5, 18, 19, 20, 21, 22, 23, 24, 25, 26, 27, 28, 29, 30, 31, 32, 33, 34, 35, 36, 37, 38, 39, 40, 41, 42, 43, 44, 45, 46, 47, 48, 49, 50, 51, 52, 53, 54, 55, 56, 57, 58, 59, 60, 61, 62, 63, 64, 65, 66, 67, 68, 69, 70, 71, 72, 73, 74, 75, 76, 77, 78, 79, 80, 81, 82, 83, 84, 85, 86, 87, 88, 89, 90, 91, 92, 93, 94, 95, 96, 97, 98, 99, 100, 101, 102, 103, 104, 105, 106, 107, 108, 109, 110] (by decide +kernel) (by decide +kernel)
set_option maxRecDepth 20000 in
theorem gX9_itself_X9_nextLength : GoodIn wsX9_itself (wsV RX9 182 RX9 yX9_nextLength wsX9_nextLength) := goodIn_app (goodIn_of _ (by decide +kernel)) ggX9_itself_X9_nextLength
set_option maxRecDepth 20000 in
theorem ggX9_itself_X9_layCourse : GoodIn wsX9_itself wsX9_layCourse := goodIn_r _ [23, 1, 24, 25, 26, 5, 27, 14, 15, 16, 17, 18, 19, 28, 29, 30, 31, 32, 33, 34, 35, 36, 37, 38, 39, 40, 41, 42, 43, 44, 45, 46, 47, 48, 49, 50, 51, 52, 53, 54, 55, 56, 57, 58, 59, 60, 61, 62, 63, 64, 65, 66, 67, 68, 69, 70, 71, 72, 73, 74, 75, 76, 77, 78, 79, 80, 81, 82, 83, 84, 93, 94, 95, 96, 97, 98, 99, 100, 101, 102, 103, 104, 105, 106, 107, 108, 109, 110] (by decide +kernel) (by decide +kernel)
set_option maxRecDepth 20000 in
theorem gX9_itself_X9_layCourse : GoodIn wsX9_itself (wsV RX9 152 RX9 yX9_layCourse wsX9_layCourse) := goodIn_app (goodIn_of _ (by decide +kernel)) ggX9_itself_X9_layCourse
set_option maxRecDepth 20000 in
theorem ggX9_itself_X9_waste : GoodIn wsX9_itself wsX9_waste := goodIn_r _ [88, 61, 62, 63, 5, 64, 1, 65, 66, 67, 68, 73, 74, 75, 76, 19, 37, 38, 39, 40, 93, 94, 95, 96, 97, 98, 99, 100, 101, 102, 103, 104, 105, 106, 107, 108, 109, 110] (by decide +kernel) (by decide +kernel)
set_option maxRecDepth 20000 in
theorem gX9_itself_X9_waste : GoodIn wsX9_itself (wsV RX9 173 RX9 yX9_waste wsX9_waste) := goodIn_app (goodIn_of _ (by decide +kernel)) ggX9_itself_X9_waste
set_option maxRecDepth 20000 in
theorem ggX9_itself_X9_isReady : GoodIn wsX9_itself wsX9_isReady := goodIn_r _ [31, 1, 32, 33, 34, 35, 5, 36, 37, 38, 39, 40, 41, 42, 43, 44, 93, 94, 95, 96, 97, 98, 99, 100, 101, 102, 103, 104, 105, 106, 107, 108, 109, 110] (by decide +kernel) (by decide +kernel)
set_option maxRecDepth 20000 in
theorem gX9_itself_X9_isReady : GoodIn wsX9_itself (wsV RX9 136 RX9 yX9_isReady wsX9_isReady) := goodIn_app (goodIn_of _ (by decide +kernel)) ggX9_itself_X9_isReady
theorem dX9_itself_0 : decode cX9_itself 0 = .ok (.iload_n 1, 1) := by decide +kernel
theorem dX9_itself_1 : decode cX9_itself 1 = .ok (.iconst 0, 1) := by decide +kernel
theorem dX9_itself_2 : decode cX9_itself 2 = .ok (.iconst 1, 1) := by decide +kernel
theorem dX9_itself_3 : decode cX9_itself 3 = .ok (.invokestatic 66, 3) := by decide +kernel
theorem dX9_itself_6 : decode cX9_itself 6 = .ok (.ifCond .eq 12, 3) := by decide +kernel
theorem dX9_itself_9 : decode cX9_itself 9 = .ok (.iload_n 2, 1) := by decide +kernel
theorem dX9_itself_10 : decode cX9_itself 10 = .ok (.iconst 0, 1) := by decide +kernel
theorem dX9_itself_11 : decode cX9_itself 11 = .ok (.iconst 2, 1) := by decide +kernel
theorem dX9_itself_12 : decode cX9_itself 12 = .ok (.invokestatic 66, 3) := by decide +kernel
theorem dX9_itself_15 : decode cX9_itself 15 = .ok (.ifCond .ne 5, 3) := by decide +kernel
theorem dX9_itself_18 : decode cX9_itself 18 = .ok (.iconst (-1), 1) := by decide +kernel
theorem dX9_itself_19 : decode cX9_itself 19 = .ok (.ireturn, 1) := by decide +kernel
theorem dX9_itself_20 : decode cX9_itself 20 = .ok (.aload_n 0, 1) := by decide +kernel
theorem dX9_itself_21 : decode cX9_itself 21 = .ok (.getfield 25, 3) := by decide +kernel
theorem dX9_itself_24 : decode cX9_itself 24 = .ok (.iconst 0, 1) := by decide +kernel
theorem dX9_itself_25 : decode cX9_itself 25 = .ok (.aload_n 0, 1) := by decide +kernel
theorem dX9_itself_26 : decode cX9_itself 26 = .ok (.getfield 28, 3) := by decide +kernel
theorem dX9_itself_29 : decode cX9_itself 29 = .ok (.iconst 0, 1) := by decide +kernel
theorem dX9_itself_30 : decode cX9_itself 30 = .ok (.invokestatic 148, 3) := by decide +kernel
theorem dX9_itself_33 : decode cX9_itself 33 = .ok (.aload_n 0, 1) := by decide +kernel
theorem dX9_itself_34 : decode cX9_itself 34 = .ok (.getfield 25, 3) := by decide +kernel
theorem dX9_itself_37 : decode cX9_itself 37 = .ok (.bipush 8, 2) := by decide +kernel
theorem dX9_itself_39 : decode cX9_itself 39 = .ok (.iaload, 1) := by decide +kernel
theorem dX9_itself_40 : decode cX9_itself 40 = .ok (.istore_n 3, 1) := by decide +kernel
theorem dX9_itself_41 : decode cX9_itself 41 = .ok (.iconst 0, 1) := by decide +kernel
theorem dX9_itself_42 : decode cX9_itself 42 = .ok (.istore 4, 2) := by decide +kernel
theorem dX9_itself_44 : decode cX9_itself 44 = .ok (.aload_n 0, 1) := by decide +kernel
theorem dX9_itself_45 : decode cX9_itself 45 = .ok (.iload_n 1, 1) := by decide +kernel
theorem dX9_itself_46 : decode cX9_itself 46 = .ok (.invokevirtual 182, 3) := by decide +kernel
theorem dX9_itself_49 : decode cX9_itself 49 = .ok (.istore 5, 2) := by decide +kernel
theorem dX9_itself_51 : decode cX9_itself 51 = .ok (.iload 5, 2) := by decide +kernel
theorem dX9_itself_53 : decode cX9_itself 53 = .ok (.bipush (-4), 2) := by decide +kernel
theorem dX9_itself_55 : decode cX9_itself 55 = .ok (.if_icmp .eq 39, 3) := by decide +kernel
theorem dX9_itself_58 : decode cX9_itself 58 = .ok (.aload_n 0, 1) := by decide +kernel
theorem dX9_itself_59 : decode cX9_itself 59 = .ok (.iload 5, 2) := by decide +kernel
theorem dX9_itself_61 : decode cX9_itself 61 = .ok (.invokevirtual 152, 3) := by decide +kernel
theorem dX9_itself_64 : decode cX9_itself 64 = .ok (.istore 6, 2) := by decide +kernel
theorem dX9_itself_66 : decode cX9_itself 66 = .ok (.iload 4, 2) := by decide +kernel
theorem dX9_itself_68 : decode cX9_itself 68 = .ok (.aload_n 0, 1) := by decide +kernel
theorem dX9_itself_69 : decode cX9_itself 69 = .ok (.aload_n 0, 1) := by decide +kernel
theorem dX9_itself_70 : decode cX9_itself 70 = .ok (.getfield 25, 3) := by decide +kernel
theorem dX9_itself_73 : decode cX9_itself 73 = .ok (.bipush 8, 2) := by decide +kernel
theorem dX9_itself_75 : decode cX9_itself 75 = .ok (.iaload, 1) := by decide +kernel
theorem dX9_itself_76 : decode cX9_itself 76 = .ok (.iconst 1, 1) := by decide +kernel
theorem dX9_itself_77 : decode cX9_itself 77 = .ok (.isub, 1) := by decide +kernel
theorem dX9_itself_78 : decode cX9_itself 78 = .ok (.invokevirtual 173, 3) := by decide +kernel
theorem dX9_itself_81 : decode cX9_itself 81 = .ok (.iadd, 1) := by decide +kernel
theorem dX9_itself_82 : decode cX9_itself 82 = .ok (.istore 4, 2) := by decide +kernel
theorem dX9_itself_84 : decode cX9_itself 84 = .ok (.aload_n 0, 1) := by decide +kernel
theorem dX9_itself_85 : decode cX9_itself 85 = .ok (.iload_n 1, 1) := by decide +kernel
theorem dX9_itself_86 : decode cX9_itself 86 = .ok (.invokevirtual 182, 3) := by decide +kernel
theorem dX9_itself_89 : decode cX9_itself 89 = .ok (.istore 5, 2) := by decide +kernel
theorem dX9_itself_91 : decode cX9_itself 91 = .ok (.goto (-40), 3) := by decide +kernel
theorem dX9_itself_94 : decode cX9_itself 94 = .ok (.iload_n 2, 1) := by decide +kernel
theorem dX9_itself_95 : decode cX9_itself 95 = .ok (.ifCond .ne 15, 3) := by decide +kernel
theorem dX9_itself_98 : decode cX9_itself 98 = .ok (.aload_n 0, 1) := by decide +kernel
theorem dX9_itself_99 : decode cX9_itself 99 = .ok (.getfield 25, 3) := by decide +kernel
theorem dX9_itself_102 : decode cX9_itself 102 = .ok (.bipush 8, 2) := by decide +kernel
theorem dX9_itself_104 : decode cX9_itself 104 = .ok (.iaload, 1) := by decide +kernel
theorem dX9_itself_105 : decode cX9_itself 105 = .ok (.iload_n 3, 1) := by decide +kernel
theorem dX9_itself_106 : decode cX9_itself 106 = .ok (.isub, 1) := by decide +kernel
theorem dX9_itself_107 : decode cX9_itself 107 = .ok (.goto 25, 3) := by decide +kernel
theorem dX9_itself_110 : decode cX9_itself 110 = .ok (.iload_n 2, 1) := by decide +kernel
theorem dX9_itself_111 : decode cX9_itself 111 = .ok (.iconst 1, 1) := by decide +kernel
theorem dX9_itself_112 : decode cX9_itself 112 = .ok (.if_icmp .ne 8, 3) := by decide +kernel
theorem dX9_itself_115 : decode cX9_itself 115 = .ok (.iload 4, 2) := by decide +kernel
theorem dX9_itself_117 : decode cX9_itself 117 = .ok (.goto 15, 3) := by decide +kernel
theorem dX9_itself_120 : decode cX9_itself 120 = .ok (.aload_n 0, 1) := by decide +kernel
theorem dX9_itself_121 : decode cX9_itself 121 = .ok (.invokevirtual 136, 3) := by decide +kernel
theorem dX9_itself_124 : decode cX9_itself 124 = .ok (.ifCond .eq 7, 3) := by decide +kernel
theorem dX9_itself_127 : decode cX9_itself 127 = .ok (.iconst 1, 1) := by decide +kernel
theorem dX9_itself_128 : decode cX9_itself 128 = .ok (.goto 4, 3) := by decide +kernel
theorem dX9_itself_131 : decode cX9_itself 131 = .ok (.iconst 0, 1) := by decide +kernel
theorem dX9_itself_132 : decode cX9_itself 132 = .ok (.istore 6, 2) := by decide +kernel
theorem dX9_itself_134 : decode cX9_itself 134 = .ok (.aload_n 0, 1) := by decide +kernel
theorem dX9_itself_135 : decode cX9_itself 135 = .ok (.getfield 28, 3) := by decide +kernel
theorem dX9_itself_138 : decode cX9_itself 138 = .ok (.iconst 0, 1) := by decide +kernel
theorem dX9_itself_139 : decode cX9_itself 139 = .ok (.aload_n 0, 1) := by decide +kernel
theorem dX9_itself_140 : decode cX9_itself 140 = .ok (.getfield 25, 3) := by decide +kernel
theorem dX9_itself_143 : decode cX9_itself 143 = .ok (.iconst 0, 1) := by decide +kernel
theorem dX9_itself_144 : decode cX9_itself 144 = .ok (.invokestatic 148, 3) := by decide +kernel
theorem dX9_itself_147 : decode cX9_itself 147 = .ok (.iload 6, 2) := by decide +kernel
theorem dX9_itself_149 : decode cX9_itself 149 = .ok (.ireturn, 1) := by decide +kernel
set_option maxRecDepth 20000 in
theorem ggX9_sumOf_X9_waste : GoodIn wsX9_sumOf wsX9_waste := goodIn_r _ [7, 8, 9, 10, 6, 11, 1, 12, 13, 14, 15, 16, 17, 18, 19, 20, 21, 22, 23, 24, 25, 26, 27, 28, 29, 30, 31, 32, 33, 34, 35, 36, 37, 38, 39, 40, 41, 42] (by decide +kernel) (by decide +kernel)
set_option maxRecDepth 20000 in
theorem gX9_sumOf_X9_waste : GoodIn wsX9_sumOf (wsV RX9 173 RX9 yX9_waste wsX9_waste) := goodIn_app (goodIn_of _ (by decide +kernel)) ggX9_sumOf_X9_waste
theorem dX9_sumOf_0 : decode cX9_sumOf 0 = .ok (.iconst 0, 1) := by decide +kernel
theorem dX9_sumOf_1 : decode cX9_sumOf 1 = .ok (.istore_n 2, 1) := by decide +kernel
theorem dX9_sumOf_2 : decode cX9_sumOf 2 = .ok (.iconst 0, 1) := by decide +kernel
theorem dX9_sumOf_3 : decode cX9_sumOf 3 = .ok (.istore_n 3, 1) := by decide +kernel
theorem dX9_sumOf_4 : decode cX9_sumOf 4 = .ok (.iload_n 3, 1) := by decide +kernel
theorem dX9_sumOf_5 : decode cX9_sumOf 5 = .ok (.aload_n 0, 1) := by decide +kernel
theorem dX9_sumOf_6 : decode cX9_sumOf 6 = .ok (.getfield 25, 3) := by decide +kernel
theorem dX9_sumOf_9 : decode cX9_sumOf 9 = .ok (.bipush 8, 2) := by decide +kernel
theorem dX9_sumOf_11 : decode cX9_sumOf 11 = .ok (.iaload, 1) := by decide +kernel
theorem dX9_sumOf_12 : decode cX9_sumOf 12 = .ok (.if_icmp .ge 23, 3) := by decide +kernel
theorem dX9_sumOf_15 : decode cX9_sumOf 15 = .ok (.iload_n 1, 1) := by decide +kernel
theorem dX9_sumOf_16 : decode cX9_sumOf 16 = .ok (.bipush 9, 2) := by decide +kernel
theorem dX9_sumOf_18 : decode cX9_sumOf 18 = .ok (.if_icmp .ne 17, 3) := by decide +kernel
theorem dX9_sumOf_21 : decode cX9_sumOf 21 = .ok (.iload_n 2, 1) := by decide +kernel
theorem dX9_sumOf_22 : decode cX9_sumOf 22 = .ok (.aload_n 0, 1) := by decide +kernel
theorem dX9_sumOf_23 : decode cX9_sumOf 23 = .ok (.iload_n 3, 1) := by decide +kernel
theorem dX9_sumOf_24 : decode cX9_sumOf 24 = .ok (.invokevirtual 173, 3) := by decide +kernel
theorem dX9_sumOf_27 : decode cX9_sumOf 27 = .ok (.iadd, 1) := by decide +kernel
theorem dX9_sumOf_28 : decode cX9_sumOf 28 = .ok (.istore_n 2, 1) := by decide +kernel
theorem dX9_sumOf_29 : decode cX9_sumOf 29 = .ok (.iinc 3 1, 3) := by decide +kernel
theorem dX9_sumOf_32 : decode cX9_sumOf 32 = .ok (.goto (-28), 3) := by decide +kernel
theorem dX9_sumOf_35 : decode cX9_sumOf 35 = .ok (.iconst 0, 1) := by decide +kernel
theorem dX9_sumOf_36 : decode cX9_sumOf 36 = .ok (.istore_n 3, 1) := by decide +kernel
theorem dX9_sumOf_37 : decode cX9_sumOf 37 = .ok (.iload_n 3, 1) := by decide +kernel
theorem dX9_sumOf_38 : decode cX9_sumOf 38 = .ok (.aload_n 0, 1) := by decide +kernel
theorem dX9_sumOf_39 : decode cX9_sumOf 39 = .ok (.getfield 54, 3) := by decide +kernel
theorem dX9_sumOf_42 : decode cX9_sumOf 42 = .ok (.if_icmp .ge 24, 3) := by decide +kernel
theorem dX9_sumOf_45 : decode cX9_sumOf 45 = .ok (.iload_n 1, 1) := by decide +kernel
theorem dX9_sumOf_46 : decode cX9_sumOf 46 = .ok (.bipush 10, 2) := by decide +kernel
theorem dX9_sumOf_48 : decode cX9_sumOf 48 = .ok (.if_icmp .ne 18, 3) := by decide +kernel
theorem dX9_sumOf_51 : decode cX9_sumOf 51 = .ok (.iload_n 2, 1) := by decide +kernel
theorem dX9_sumOf_52 : decode cX9_sumOf 52 = .ok (.aload_n 0, 1) := by decide +kernel
theorem dX9_sumOf_53 : decode cX9_sumOf 53 = .ok (.getfield 25, 3) := by decide +kernel
theorem dX9_sumOf_56 : decode cX9_sumOf 56 = .ok (.iload_n 3, 1) := by decide +kernel
theorem dX9_sumOf_57 : decode cX9_sumOf 57 = .ok (.iaload, 1) := by decide +kernel
theorem dX9_sumOf_58 : decode cX9_sumOf 58 = .ok (.iadd, 1) := by decide +kernel
theorem dX9_sumOf_59 : decode cX9_sumOf 59 = .ok (.istore_n 2, 1) := by decide +kernel
theorem dX9_sumOf_60 : decode cX9_sumOf 60 = .ok (.iinc 3 1, 3) := by decide +kernel
theorem dX9_sumOf_63 : decode cX9_sumOf 63 = .ok (.goto (-26), 3) := by decide +kernel
theorem dX9_sumOf_66 : decode cX9_sumOf 66 = .ok (.iload_n 2, 1) := by decide +kernel
theorem dX9_sumOf_67 : decode cX9_sumOf 67 = .ok (.ireturn, 1) := by decide +kernel
set_option maxRecDepth 20000 in
theorem ggX9_count_X9_foot : GoodIn wsX9_count wsX9_foot := goodIn_r _ [10, 11, 12, 13, 9, 14, 2, 15, 16, 17, 18, 3, 44, 45, 46, 47, 48, 49, 50, 51, 52, 53, 54, 55, 56, 57, 58, 59, 60, 61] (by decide +kernel) (by decide +kernel)
set_option maxRecDepth 20000 in
theorem gX9_count_X9_foot : GoodIn wsX9_count (wsV RX9 98 RX9 yX9_foot wsX9_foot) := goodIn_app (goodIn_of _ (by decide +kernel)) ggX9_count_X9_foot
set_option maxRecDepth 20000 in
theorem ggX9_count_X9_isReady : GoodIn wsX9_count wsX9_isReady := goodIn_r _ [22, 2, 3, 6, 7, 8, 9, 10, 11, 12, 13, 14, 15, 16, 17, 18, 44, 45, 46, 47, 48, 49, 50, 51, 52, 53, 54, 55, 56, 57, 58, 59, 60, 61] (by decide +kernel) (by decide +kernel)
set_option maxRecDepth 20000 in
theorem gX9_count_X9_isReady : GoodIn wsX9_count (wsV RX9 136 RX9 yX9_isReady wsX9_isReady) := goodIn_app (goodIn_of _ (by decide +kernel)) ggX9_count_X9_isReady
set_option maxRecDepth 20000 in
theorem ggX9_count_X9_sumOf : GoodIn wsX9_count wsX9_sumOf := goodIn_r _ [26, 2, 1, 27, 28, 29, 9, 30, 31, 32, 33, 34, 35, 36, 37, 38, 39, 40, 41, 42, 43, 11, 12, 13, 14, 44, 45, 46, 47, 48, 49, 50, 51, 52, 53, 54, 55, 56, 57, 58, 59, 60, 61] (by decide +kernel) (by decide +kernel)
set_option maxRecDepth 20000 in
theorem gX9_count_X9_sumOf : GoodIn wsX9_count (wsV RX9 185 RX9 yX9_sumOf wsX9_sumOf) := goodIn_app (goodIn_of _ (by decide +kernel)) ggX9_count_X9_sumOf
theorem dX9_count_0 : decode cX9_count 0 = .ok (.iload_n 1, 1) := by decide +kernel
theorem dX9_count_1 : decode cX9_count 1 = .ok (.tableswitch 130 0 12 #[67, 72, 80, 80, 80, 80, 80, 89, 101, 114, 114, 120, 125], 67) := by decide +kernel
theorem dX9_count_68 : decode cX9_count 68 = .ok (.aload_n 0, 1) := by decide +kernel
theorem dX9_count_69 : decode cX9_count 69 = .ok (.getfield 54, 3) := by decide +kernel
theorem dX9_count_72 : decode cX9_count 72 = .ok (.ireturn, 1) := by decide +kernel
theorem dX9_count_73 : decode cX9_count 73 = .ok (.aload_n 0, 1) := by decide +kernel
theorem dX9_count_74 : decode cX9_count 74 = .ok (.getfield 25, 3) := by decide +kernel
theorem dX9_count_77 : decode cX9_count 77 = .ok (.bipush 8, 2) := by decide +kernel
theorem dX9_count_79 : decode cX9_count 79 = .ok (.iaload, 1) := by decide +kernel
theorem dX9_count_80 : decode cX9_count 80 = .ok (.ireturn, 1) := by decide +kernel
theorem dX9_count_81 : decode cX9_count 81 = .ok (.aload_n 0, 1) := by decide +kernel
theorem dX9_count_82 : decode cX9_count 82 = .ok (.getfield 13, 3) := by decide +kernel
theorem dX9_count_85 : decode cX9_count 85 = .ok (.iload_n 1, 1) := by decide +kernel
theorem dX9_count_86 : decode cX9_count 86 = .ok (.iconst 2, 1) := by decide +kernel
theorem dX9_count_87 : decode cX9_count 87 = .ok (.isub, 1) := by decide +kernel
theorem dX9_count_88 : decode cX9_count 88 = .ok (.iaload, 1) := by decide +kernel
theorem dX9_count_89 : decode cX9_count 89 = .ok (.ireturn, 1) := by decide +kernel
theorem dX9_count_90 : decode cX9_count 90 = .ok (.aload_n 0, 1) := by decide +kernel
theorem dX9_count_91 : decode cX9_count 91 = .ok (.aload_n 0, 1) := by decide +kernel
theorem dX9_count_92 : decode cX9_count 92 = .ok (.getfield 25, 3) := by decide +kernel
theorem dX9_count_95 : decode cX9_count 95 = .ok (.bipush 8, 2) := by decide +kernel
theorem dX9_count_97 : decode cX9_count 97 = .ok (.iaload, 1) := by decide +kernel
theorem dX9_count_98 : decode cX9_count 98 = .ok (.invokevirtual 98, 3) := by decide +kernel
theorem dX9_count_101 : decode cX9_count 101 = .ok (.ireturn, 1) := by decide +kernel
theorem dX9_count_102 : decode cX9_count 102 = .ok (.aload_n 0, 1) := by decide +kernel
theorem dX9_count_103 : decode cX9_count 103 = .ok (.invokevirtual 136, 3) := by decide +kernel
theorem dX9_count_106 : decode cX9_count 106 = .ok (.ifCond .eq 7, 3) := by decide +kernel
theorem dX9_count_109 : decode cX9_count 109 = .ok (.iconst 1, 1) := by decide +kernel
theorem dX9_count_110 : decode cX9_count 110 = .ok (.goto 4, 3) := by decide +kernel
theorem dX9_count_113 : decode cX9_count 113 = .ok (.iconst 0, 1) := by decide +kernel
theorem dX9_count_114 : decode cX9_count 114 = .ok (.ireturn, 1) := by decide +kernel
theorem dX9_count_115 : decode cX9_count 115 = .ok (.aload_n 0, 1) := by decide +kernel
theorem dX9_count_116 : decode cX9_count 116 = .ok (.iload_n 1, 1) := by decide +kernel
theorem dX9_count_117 : decode cX9_count 117 = .ok (.invokevirtual 185, 3) := by decide +kernel
theorem dX9_count_120 : decode cX9_count 120 = .ok (.ireturn, 1) := by decide +kernel
theorem dX9_count_121 : decode cX9_count 121 = .ok (.aload_n 0, 1) := by decide +kernel
theorem dX9_count_122 : decode cX9_count 122 = .ok (.getfield 57, 3) := by decide +kernel
theorem dX9_count_125 : decode cX9_count 125 = .ok (.ireturn, 1) := by decide +kernel
theorem dX9_count_126 : decode cX9_count 126 = .ok (.aload_n 0, 1) := by decide +kernel
theorem dX9_count_127 : decode cX9_count 127 = .ok (.getfield 63, 3) := by decide +kernel
theorem dX9_count_130 : decode cX9_count 130 = .ok (.ireturn, 1) := by decide +kernel
theorem dX9_count_131 : decode cX9_count 131 = .ok (.iconst (-1), 1) := by decide +kernel
theorem dX9_count_132 : decode cX9_count 132 = .ok (.ireturn, 1) := by decide +kernel
theorem dJ9_abs_0f7a4_0 : decode cJ9_abs_0f7a4 0 = .ok (.iload_n 0, 1) := by decide +kernel
theorem dJ9_abs_0f7a4_1 : decode cJ9_abs_0f7a4 1 = .ok (.ifCond .ge 8, 3) := by decide +kernel
theorem dJ9_abs_0f7a4_4 : decode cJ9_abs_0f7a4 4 = .ok (.iload_n 0, 1) := by decide +kernel
theorem dJ9_abs_0f7a4_5 : decode cJ9_abs_0f7a4 5 = .ok (.ineg, 1) := by decide +kernel
theorem dJ9_abs_0f7a4_6 : decode cJ9_abs_0f7a4 6 = .ok (.goto 4, 3) := by decide +kernel
theorem dJ9_abs_0f7a4_9 : decode cJ9_abs_0f7a4 9 = .ok (.iload_n 0, 1) := by decide +kernel
theorem dJ9_abs_0f7a4_10 : decode cJ9_abs_0f7a4 10 = .ok (.ireturn, 1) := by decide +kernel
theorem dJ9_max_7cf53_0 : decode cJ9_max_7cf53 0 = .ok (.iload_n 0, 1) := by decide +kernel
theorem dJ9_max_7cf53_1 : decode cJ9_max_7cf53 1 = .ok (.iload_n 1, 1) := by decide +kernel
theorem dJ9_max_7cf53_2 : decode cJ9_max_7cf53 2 = .ok (.if_icmp .lt 7, 3) := by decide +kernel
theorem dJ9_max_7cf53_5 : decode cJ9_max_7cf53 5 = .ok (.iload_n 0, 1) := by decide +kernel
theorem dJ9_max_7cf53_6 : decode cJ9_max_7cf53 6 = .ok (.goto 4, 3) := by decide +kernel
theorem dJ9_max_7cf53_9 : decode cJ9_max_7cf53 9 = .ok (.iload_n 1, 1) := by decide +kernel
theorem dJ9_max_7cf53_10 : decode cJ9_max_7cf53 10 = .ok (.ireturn, 1) := by decide +kernel
set_option maxRecDepth 20000 in
theorem ggJ0_length_8abf5_J0_coder_7d493 : GoodIn wsJ0_length_8abf5 wsJ0_coder_7d493 := goodIn_r _ [6, 7, 8] (by decide +kernel) (by decide +kernel)
set_option maxRecDepth 20000 in
theorem gJ0_length_8abf5_J0_coder_7d493 : GoodIn wsJ0_length_8abf5 (wsV RJ0 335 RJ0 yJ0_coder_7d493 wsJ0_coder_7d493) := goodIn_app (goodIn_of _ (by decide +kernel)) ggJ0_length_8abf5_J0_coder_7d493
theorem dJ0_length_8abf5_0 : decode cJ0_length_8abf5 0 = .ok (.aload_n 0, 1) := by decide +kernel
theorem dJ0_length_8abf5_1 : decode cJ0_length_8abf5 1 = .ok (.getfield 9, 3) := by decide +kernel
theorem dJ0_length_8abf5_4 : decode cJ0_length_8abf5 4 = .ok (.arraylength, 1) := by decide +kernel
theorem dJ0_length_8abf5_5 : decode cJ0_length_8abf5 5 = .ok (.aload_n 0, 1) := by decide +kernel
theorem dJ0_length_8abf5_6 : decode cJ0_length_8abf5 6 = .ok (.invokevirtual 335, 3) := by decide +kernel
theorem dJ0_length_8abf5_9 : decode cJ0_length_8abf5 9 = .ok (.ishr, 1) := by decide +kernel
theorem dJ0_length_8abf5_10 : decode cJ0_length_8abf5 10 = .ok (.ireturn, 1) := by decide +kernel
set_option maxRecDepth 20000 in
theorem ggJ0_charAt_5068e_J0_isLatin1_aae02 : GoodIn wsJ0_charAt_5068e wsJ0_isLatin1_aae02 := goodIn_r _ [6, 7, 8] (by decide +kernel) (by decide +kernel)
set_option maxRecDepth 20000 in
theorem gJ0_charAt_5068e_J0_isLatin1_aae02 : GoodIn wsJ0_charAt_5068e (wsV RJ0 492 RJ0 yJ0_isLatin1_aae02 wsJ0_isLatin1_aae02) := goodIn_app (goodIn_of _ (by decide +kernel)) ggJ0_charAt_5068e_J0_isLatin1_aae02
set_option maxRecDepth 20000 in
theorem ggJ0_charAt_5068e_J1_charAt_3b067 : GoodIn wsJ0_charAt_5068e wsJ1_charAt_3b067 := goodIn_r _ [12, 13, 14, 5, 15, 16, 17, 18, 19, 20] (by decide +kernel) (by decide +kernel)
set_option maxRecDepth 20000 in
theorem gJ0_charAt_5068e_J1_charAt_3b067 : GoodIn wsJ0_charAt_5068e (va_wsS RJ0 495 yJ1_charAt_3b067 wsJ1_charAt_3b067) := goodIn_app (goodIn_of _ (by decide +kernel)) ggJ0_charAt_5068e_J1_charAt_3b067
set_option maxRecDepth 20000 in
theorem ggJ0_charAt_5068e_J2_charAt_3b067 : GoodIn wsJ0_charAt_5068e wsJ2_charAt_3b067 := goodIn_r _ [24, 25, 26, 23, 27, 28, 29, 30, 31, 14, 5, 15, 16, 17, 18, 19, 20, 32, 33, 34, 35, 36, 37] (by decide +kernel) (by decide +kernel)
set_option maxRecDepth 20000 in
theorem gJ0_charAt_5068e_J2_charAt_3b067 : GoodIn wsJ0_charAt_5068e (va_wsS RJ0 498 yJ2_charAt_3b067 wsJ2_charAt_3b067) := goodIn_app (goodIn_of _ (by decide +kernel)) ggJ0_charAt_5068e_J2_charAt_3b067
theorem dJ0_charAt_5068e_0 : decode cJ0_charAt_5068e 0 = .ok (.aload_n 0, 1) := by decide +kernel
theorem dJ0_charAt_5068e_1 : decode cJ0_charAt_5068e 1 = .ok (.invokevirtual 492, 3) := by decide +kernel
theorem dJ0_charAt_5068e_4 : decode cJ0_charAt_5068e 4 = .ok (.ifCond .eq 12, 3) := by decide +kernel
theorem dJ0_charAt_5068e_7 : decode cJ0_charAt_5068e 7 = .ok (.aload_n 0, 1) := by decide +kernel
theorem dJ0_charAt_5068e_8 : decode cJ0_charAt_5068e 8 = .ok (.getfield 9, 3) := by decide +kernel
theorem dJ0_charAt_5068e_11 : decode cJ0_charAt_5068e 11 = .ok (.iload_n 1, 1) := by decide +kernel
theorem dJ0_charAt_5068e_12 : decode cJ0_charAt_5068e 12 = .ok (.invokestatic 495, 3) := by decide +kernel
theorem dJ0_charAt_5068e_15 : decode cJ0_charAt_5068e 15 = .ok (.ireturn, 1) := by decide +kernel
theorem dJ0_charAt_5068e_16 : decode cJ0_charAt_5068e 16 = .ok (.aload_n 0, 1) := by decide +kernel
theorem dJ0_charAt_5068e_17 : decode cJ0_charAt_5068e 17 = .ok (.getfield 9, 3) := by decide +kernel
theorem dJ0_charAt_5068e_20 : decode cJ0_charAt_5068e 20 = .ok (.iload_n 1, 1) := by decide +kernel
theorem dJ0_charAt_5068e_21 : decode cJ0_charAt_5068e 21 = .ok (.invokestatic 498, 3) := by decide +kernel
theorem dJ0_charAt_5068e_24 : decode cJ0_charAt_5068e 24 = .ok (.ireturn, 1) := by decide +kernel
theorem dJ0_coder_7d493_0 : decode cJ0_coder_7d493 0 = .ok (.getstatic 38, 3) := by decide +kernel
theorem dJ0_coder_7d493_3 : decode cJ0_coder_7d493 3 = .ok (.ifCond .eq 10, 3) := by decide +kernel
theorem dJ0_coder_7d493_6 : decode cJ0_coder_7d493 6 = .ok (.aload_n 0, 1) := by decide +kernel
theorem dJ0_coder_7d493_7 : decode cJ0_coder_7d493 7 = .ok (.getfield 15, 3) := by decide +kernel
theorem dJ0_coder_7d493_10 : decode cJ0_coder_7d493 10 = .ok (.goto 4, 3) := by decide +kernel
theorem dJ0_coder_7d493_13 : decode cJ0_coder_7d493 13 = .ok (.iconst 1, 1) := by decide +kernel
theorem dJ0_coder_7d493_14 : decode cJ0_coder_7d493 14 = .ok (.ireturn, 1) := by decide +kernel
theorem dJ0_isLatin1_aae02_0 : decode cJ0_isLatin1_aae02 0 = .ok (.getstatic 38, 3) := by decide +kernel
theorem dJ0_isLatin1_aae02_3 : decode cJ0_isLatin1_aae02 3 = .ok (.ifCond .eq 14, 3) := by decide +kernel
theorem dJ0_isLatin1_aae02_6 : decode cJ0_isLatin1_aae02 6 = .ok (.aload_n 0, 1) := by decide +kernel
theorem dJ0_isLatin1_aae02_7 : decode cJ0_isLatin1_aae02 7 = .ok (.getfield 15, 3) := by decide +kernel
theorem dJ0_isLatin1_aae02_10 : decode cJ0_isLatin1_aae02 10 = .ok (.ifCond .ne 7, 3) := by decide +kernel
theorem dJ0_isLatin1_aae02_13 : decode cJ0_isLatin1_aae02 13 = .ok (.iconst 1, 1) := by decide +kernel
theorem dJ0_isLatin1_aae02_14 : decode cJ0_isLatin1_aae02 14 = .ok (.goto 4, 3) := by decide +kernel
theorem dJ0_isLatin1_aae02_17 : decode cJ0_isLatin1_aae02 17 = .ok (.iconst 0, 1) := by decide +kernel
theorem dJ0_isLatin1_aae02_18 : decode cJ0_isLatin1_aae02 18 = .ok (.ireturn, 1) := by decide +kernel
set_option maxRecDepth 20000 in
theorem ggJ0_checkIndex_df160_J3_checkIndex_8e157 : GoodIn wsJ0_checkIndex_df160 wsJ3_checkIndex_8e157 := goodIn_r _ [5] (by decide +kernel) (by decide +kernel)
set_option maxRecDepth 20000 in
theorem gJ0_checkIndex_df160_J3_checkIndex_8e157 : GoodIn wsJ0_checkIndex_df160 (va_wsS RJ0 1059 yJ3_checkIndex_8e157 wsJ3_checkIndex_8e157) := goodIn_app (goodIn_of _ (by decide +kernel)) ggJ0_checkIndex_df160_J3_checkIndex_8e157
theorem dJ0_checkIndex_df160_0 : decode cJ0_checkIndex_df160 0 = .ok (.iload_n 0, 1) := by decide +kernel
theorem dJ0_checkIndex_df160_1 : decode cJ0_checkIndex_df160 1 = .ok (.iload_n 1, 1) := by decide +kernel
theorem dJ0_checkIndex_df160_2 : decode cJ0_checkIndex_df160 2 = .ok (.getstatic 1053, 3) := by decide +kernel
theorem dJ0_checkIndex_df160_5 : decode cJ0_checkIndex_df160 5 = .ok (.invokestatic 1059, 3) := by decide +kernel
theorem dJ0_checkIndex_df160_8 : decode cJ0_checkIndex_df160 8 = .ok (.pop, 1) := by decide +kernel
theorem dJ0_checkIndex_df160_9 : decode cJ0_checkIndex_df160 9 = .ok (.return_, 1) := by decide +kernel
set_option maxRecDepth 20000 in
theorem ggJ1_charAt_3b067_J0_checkIndex_df160 : GoodIn wsJ1_charAt_3b067 wsJ0_checkIndex_df160 := goodIn_r _ [4, 5, 6, 7, 8, 9] (by decide +kernel) (by decide +kernel)
set_option maxRecDepth 20000 in
theorem gJ1_charAt_3b067_J0_checkIndex_df160 : GoodIn wsJ1_charAt_3b067 (va_wsS RJ1 9 yJ0_checkIndex_df160 wsJ0_checkIndex_df160) := goodIn_app (goodIn_of _ (by decide +kernel)) ggJ1_charAt_3b067_J0_checkIndex_df160
theorem dJ1_charAt_3b067_0 : decode cJ1_charAt_3b067 0 = .ok (.iload_n 1, 1) := by decide +kernel
theorem dJ1_charAt_3b067_1 : decode cJ1_charAt_3b067 1 = .ok (.aload_n 0, 1) := by decide +kernel
theorem dJ1_charAt_3b067_2 : decode cJ1_charAt_3b067 2 = .ok (.arraylength, 1) := by decide +kernel
theorem dJ1_charAt_3b067_3 : decode cJ1_charAt_3b067 3 = .ok (.invokestatic 9, 3) := by decide +kernel
theorem dJ1_charAt_3b067_6 : decode cJ1_charAt_3b067 6 = .ok (.aload_n 0, 1) := by decide +kernel
theorem dJ1_charAt_3b067_7 : decode cJ1_charAt_3b067 7 = .ok (.iload_n 1, 1) := by decide +kernel
theorem dJ1_charAt_3b067_8 : decode cJ1_charAt_3b067 8 = .ok (.baload, 1) := by decide +kernel
theorem dJ1_charAt_3b067_9 : decode cJ1_charAt_3b067 9 = .ok (.sipush 255, 3) := by decide +kernel
theorem dJ1_charAt_3b067_12 : decode cJ1_charAt_3b067 12 = .ok (.iand, 1) := by decide +kernel
theorem dJ1_charAt_3b067_13 : decode cJ1_charAt_3b067 13 = .ok (.i2c, 1) := by decide +kernel
theorem dJ1_charAt_3b067_14 : decode cJ1_charAt_3b067 14 = .ok (.ireturn, 1) := by decide +kernel
set_option maxRecDepth 20000 in
theorem ggJ2_getChar_3b067_J2_length_9d52b : GoodIn wsJ2_getChar_3b067 wsJ2_length_9d52b := goodIn_r _ [7] (by decide +kernel) (by decide +kernel)
set_option maxRecDepth 20000 in
theorem gJ2_getChar_3b067_J2_length_9d52b : GoodIn wsJ2_getChar_3b067 (va_wsS RJ2 48 yJ2_length_9d52b wsJ2_length_9d52b) := goodIn_app (goodIn_of _ (by decide +kernel)) ggJ2_getChar_3b067_J2_length_9d52b
theorem dJ2_getChar_3b067_0 : decode cJ2_getChar_3b067 0 = .ok (.getstatic 44, 3) := by decide +kernel
theorem dJ2_getChar_3b067_3 : decode cJ2_getChar_3b067 3 = .ok (.ifCond .ne 25, 3) := by decide +kernel
theorem dJ2_getChar_3b067_6 : decode cJ2_getChar_3b067 6 = .ok (.iload_n 1, 1) := by decide +kernel
theorem dJ2_getChar_3b067_7 : decode cJ2_getChar_3b067 7 = .ok (.ifCond .lt 11, 3) := by decide +kernel
theorem dJ2_getChar_3b067_10 : decode cJ2_getChar_3b067 10 = .ok (.iload_n 1, 1) := by decide +kernel
theorem dJ2_getChar_3b067_11 : decode cJ2_getChar_3b067 11 = .ok (.aload_n 0, 1) := by decide +kernel
theorem dJ2_getChar_3b067_12 : decode cJ2_getChar_3b067 12 = .ok (.invokestatic 48, 3) := by decide +kernel
theorem dJ2_getChar_3b067_15 : decode cJ2_getChar_3b067 15 = .ok (.if_icmp .lt 13, 3) := by decide +kernel
theorem dJ2_getChar_3b067_18 : decode cJ2_getChar_3b067 18 = .ok (.new 52, 3) := by decide +kernel
theorem dJ2_getChar_3b067_21 : decode cJ2_getChar_3b067 21 = .ok (.dup, 1) := by decide +kernel
theorem dJ2_getChar_3b067_22 : decode cJ2_getChar_3b067 22 = .ok (.ldc 54, 2) := by decide +kernel
theorem dJ2_getChar_3b067_24 : decode cJ2_getChar_3b067 24 = .ok (.invokespecial 56, 3) := by decide +kernel
theorem dJ2_getChar_3b067_27 : decode cJ2_getChar_3b067 27 = .ok (.athrow, 1) := by decide +kernel
theorem dJ2_getChar_3b067_28 : decode cJ2_getChar_3b067 28 = .ok (.iload_n 1, 1) := by decide +kernel
theorem dJ2_getChar_3b067_29 : decode cJ2_getChar_3b067 29 = .ok (.iconst 1, 1) := by decide +kernel
theorem dJ2_getChar_3b067_30 : decode cJ2_getChar_3b067 30 = .ok (.ishl, 1) := by decide +kernel
theorem dJ2_getChar_3b067_31 : decode cJ2_getChar_3b067 31 = .ok (.istore_n 1, 1) := by decide +kernel
theorem dJ2_getChar_3b067_32 : decode cJ2_getChar_3b067 32 = .ok (.aload_n 0, 1) := by decide +kernel
theorem dJ2_getChar_3b067_33 : decode cJ2_getChar_3b067 33 = .ok (.iload_n 1, 1) := by decide +kernel
theorem dJ2_getChar_3b067_34 : decode cJ2_getChar_3b067 34 = .ok (.iinc 1 1, 3) := by decide +kernel
theorem dJ2_getChar_3b067_37 : decode cJ2_getChar_3b067 37 = .ok (.baload, 1) := by decide +kernel
theorem dJ2_getChar_3b067_38 : decode cJ2_getChar_3b067 38 = .ok (.sipush 255, 3) := by decide +kernel
theorem dJ2_getChar_3b067_41 : decode cJ2_getChar_3b067 41 = .ok (.iand, 1) := by decide +kernel
theorem dJ2_getChar_3b067_42 : decode cJ2_getChar_3b067 42 = .ok (.getstatic 59, 3) := by decide +kernel
theorem dJ2_getChar_3b067_45 : decode cJ2_getChar_3b067 45 = .ok (.ishl, 1) := by decide +kernel
theorem dJ2_getChar_3b067_46 : decode cJ2_getChar_3b067 46 = .ok (.aload_n 0, 1) := by decide +kernel
theorem dJ2_getChar_3b067_47 : decode cJ2_getChar_3b067 47 = .ok (.iload_n 1, 1) := by decide +kernel
theorem dJ2_getChar_3b067_48 : decode cJ2_getChar_3b067 48 = .ok (.baload, 1) := by decide +kernel
theorem dJ2_getChar_3b067_49 : decode cJ2_getChar_3b067 49 = .ok (.sipush 255, 3) := by decide +kernel
theorem dJ2_getChar_3b067_52 : decode cJ2_getChar_3b067 52 = .ok (.iand, 1) := by decide +kernel
theorem dJ2_getChar_3b067_53 : decode cJ2_getChar_3b067 53 = .ok (.getstatic 63, 3) := by decide +kernel
theorem dJ2_getChar_3b067_56 : decode cJ2_getChar_3b067 56 = .ok (.ishl, 1) := by decide +kernel
theorem dJ2_getChar_3b067_57 : decode cJ2_getChar_3b067 57 = .ok (.ior, 1) := by decide +kernel
theorem dJ2_getChar_3b067_58 : decode cJ2_getChar_3b067 58 = .ok (.i2c, 1) := by decide +kernel
theorem dJ2_getChar_3b067_59 : decode cJ2_getChar_3b067 59 = .ok (.ireturn, 1) := by decide +kernel
theorem dJ2_length_9d52b_0 : decode cJ2_length_9d52b 0 = .ok (.aload_n 0, 1) := by decide +kernel
theorem dJ2_length_9d52b_1 : decode cJ2_length_9d52b 1 = .ok (.arraylength, 1) := by decide +kernel
theorem dJ2_length_9d52b_2 : decode cJ2_length_9d52b 2 = .ok (.iconst 1, 1) := by decide +kernel
theorem dJ2_length_9d52b_3 : decode cJ2_length_9d52b 3 = .ok (.ishr, 1) := by decide +kernel
theorem dJ2_length_9d52b_4 : decode cJ2_length_9d52b 4 = .ok (.ireturn, 1) := by decide +kernel
set_option maxRecDepth 20000 in
theorem ggJ2_charAt_3b067_J2_checkIndex_2214a : GoodIn wsJ2_charAt_3b067 wsJ2_checkIndex_2214a := goodIn_r _ [4, 5, 6, 3, 7, 8, 9, 10, 11, 12, 13, 14, 15, 16] (by decide +kernel) (by decide +kernel)
set_option maxRecDepth 20000 in
theorem gJ2_charAt_3b067_J2_checkIndex_2214a : GoodIn wsJ2_charAt_3b067 (va_wsS RJ2 67 yJ2_checkIndex_2214a wsJ2_checkIndex_2214a) := goodIn_app (goodIn_of _ (by decide +kernel)) ggJ2_charAt_3b067_J2_checkIndex_2214a
set_option maxRecDepth 20000 in
theorem ggJ2_charAt_3b067_J2_getChar_3b067 : GoodIn wsJ2_charAt_3b067 wsJ2_getChar_3b067 := goodIn_r _ [19, 20, 21, 22, 5, 6, 3, 7] (by decide +kernel) (by decide +kernel)
set_option maxRecDepth 20000 in
theorem gJ2_charAt_3b067_J2_getChar_3b067 : GoodIn wsJ2_charAt_3b067 (va_wsS RJ2 71 yJ2_getChar_3b067 wsJ2_getChar_3b067) := goodIn_app (goodIn_of _ (by decide +kernel)) ggJ2_charAt_3b067_J2_getChar_3b067
theorem dJ2_charAt_3b067_0 : decode cJ2_charAt_3b067 0 = .ok (.iload_n 1, 1) := by decide +kernel
theorem dJ2_charAt_3b067_1 : decode cJ2_charAt_3b067 1 = .ok (.aload_n 0, 1) := by decide +kernel
theorem dJ2_charAt_3b067_2 : decode cJ2_charAt_3b067 2 = .ok (.invokestatic 67, 3) := by decide +kernel
theorem dJ2_charAt_3b067_5 : decode cJ2_charAt_3b067 5 = .ok (.aload_n 0, 1) := by decide +kernel
theorem dJ2_charAt_3b067_6 : decode cJ2_charAt_3b067 6 = .ok (.iload_n 1, 1) := by decide +kernel
theorem dJ2_charAt_3b067_7 : decode cJ2_charAt_3b067 7 = .ok (.invokestatic 71, 3) := by decide +kernel
theorem dJ2_charAt_3b067_10 : decode cJ2_charAt_3b067 10 = .ok (.ireturn, 1) := by decide +kernel
set_option maxRecDepth 20000 in
theorem ggJ2_checkIndex_2214a_J2_length_9d52b : GoodIn wsJ2_checkIndex_2214a wsJ2_length_9d52b := goodIn_r _ [4] (by decide +kernel) (by decide +kernel)
set_option maxRecDepth 20000 in
theorem gJ2_checkIndex_2214a_J2_length_9d52b : GoodIn wsJ2_checkIndex_2214a (va_wsS RJ2 48 yJ2_length_9d52b wsJ2_length_9d52b) := goodIn_app (goodIn_of _ (by decide +kernel)) ggJ2_checkIndex_2214a_J2_length_9d52b
set_option maxRecDepth 20000 in
theorem ggJ2_checkIndex_2214a_J0_checkIndex_df160 : GoodIn wsJ2_checkIndex_2214a wsJ0_checkIndex_df160 := goodIn_r _ [8, 9, 10, 11, 12, 13] (by decide +kernel) (by decide +kernel)
set_option maxRecDepth 20000 in
theorem gJ2_checkIndex_2214a_J0_checkIndex_df160 : GoodIn wsJ2_checkIndex_2214a (va_wsS RJ2 414 yJ0_checkIndex_df160 wsJ0_checkIndex_df160) := goodIn_app (goodIn_of _ (by decide +kernel)) ggJ2_checkIndex_2214a_J0_checkIndex_df160
theorem dJ2_checkIndex_2214a_0 : decode cJ2_checkIndex_2214a 0 = .ok (.iload_n 0, 1) := by decide +kernel
theorem dJ2_checkIndex_2214a_1 : decode cJ2_checkIndex_2214a 1 = .ok (.aload_n 1, 1) := by decide +kernel
theorem dJ2_checkIndex_2214a_2 : decode cJ2_checkIndex_2214a 2 = .ok (.invokestatic 48, 3) := by decide +kernel
theorem dJ2_checkIndex_2214a_5 : decode cJ2_checkIndex_2214a 5 = .ok (.invokestatic 414, 3) := by decide +kernel
theorem dJ2_checkIndex_2214a_8 : decode cJ2_checkIndex_2214a 8 = .ok (.return_, 1) := by decide +kernel
theorem dJ3_checkIndex_8e157_0 : decode cJ3_checkIndex_8e157 0 = .ok (.iload_n 0, 1) := by decide +kernel
theorem dJ3_checkIndex_8e157_1 : decode cJ3_checkIndex_8e157 1 = .ok (.ifCond .lt 8, 3) := by decide +kernel
theorem dJ3_checkIndex_8e157_4 : decode cJ3_checkIndex_8e157 4 = .ok (.iload_n 0, 1) := by decide +kernel
theorem dJ3_checkIndex_8e157_5 : decode cJ3_checkIndex_8e157 5 = .ok (.iload_n 1, 1) := by decide +kernel
theorem dJ3_checkIndex_8e157_6 : decode cJ3_checkIndex_8e157 6 = .ok (.if_icmp .lt 10, 3) := by decide +kernel
theorem dJ3_checkIndex_8e157_9 : decode cJ3_checkIndex_8e157 9 = .ok (.aload_n 2, 1) := by decide +kernel
theorem dJ3_checkIndex_8e157_10 : decode cJ3_checkIndex_8e157 10 = .ok (.iload_n 0, 1) := by decide +kernel
theorem dJ3_checkIndex_8e157_11 : decode cJ3_checkIndex_8e157 11 = .ok (.iload_n 1, 1) := by decide +kernel
theorem dJ3_checkIndex_8e157_12 : decode cJ3_checkIndex_8e157 12 = .ok (.invokestatic 95, 3) := by decide +kernel
theorem dJ3_checkIndex_8e157_15 : decode cJ3_checkIndex_8e157 15 = .ok (.athrow, 1) := by decide +kernel
theorem dJ3_checkIndex_8e157_16 : decode cJ3_checkIndex_8e157 16 = .ok (.iload_n 0, 1) := by decide +kernel
theorem dJ3_checkIndex_8e157_17 : decode cJ3_checkIndex_8e157 17 = .ok (.ireturn, 1) := by decide +kernel
abbrev vwCl : List vw_C := [(RX0, TX0, 10), (RX1, TX1, 4), (RX2, TX2, 2), (RX3, TX3, 9), (RX4, TX4, 2), (RX5, TX5, 9), (RX6, TX6, 5), (RX7, TX7, 4), (RX8, TX8, 8), (RX9, TX9, 18)]
