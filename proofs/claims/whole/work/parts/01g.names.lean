theorem dX11_game_143 : decode cX11_game 143 = .ok (.invokestatic 232, 3) := by decide +kernel
theorem dX11_game_146 : decode cX11_game 146 = .ok (.invokestatic 229, 3) := by decide +kernel
theorem dX11_game_149 : decode cX11_game 149 = .ok (.istore 10, 2) := by decide +kernel
theorem dX11_game_151 : decode cX11_game 151 = .ok (.iload 9, 2) := by decide +kernel
theorem dX11_game_153 : decode cX11_game 153 = .ok (.iload 10, 2) := by decide +kernel
theorem dX11_game_155 : decode cX11_game 155 = .ok (.if_icmp .ne 15, 3) := by decide +kernel
theorem dX11_game_158 : decode cX11_game 158 = .ok (.iload_n 3, 1) := by decide +kernel
theorem dX11_game_159 : decode cX11_game 159 = .ok (.ifCond .ne 9, 3) := by decide +kernel
theorem dX11_game_162 : decode cX11_game 162 = .ok (.iload 9, 2) := by decide +kernel
theorem dX11_game_164 : decode cX11_game 164 = .ok (.i2l, 1) := by decide +kernel
theorem dX11_game_165 : decode cX11_game 165 = .ok (.goto 4, 3) := by decide +kernel
theorem dX11_game_168 : decode cX11_game 168 = .ok (.lconst 1, 1) := by decide +kernel
theorem dX11_game_169 : decode cX11_game 169 = .ok (.lreturn, 1) := by decide +kernel
theorem dX11_game_170 : decode cX11_game 170 = .ok (.iload 5, 2) := by decide +kernel
theorem dX11_game_172 : decode cX11_game 172 = .ok (.iload 8, 2) := by decide +kernel
theorem dX11_game_174 : decode cX11_game 174 = .ok (.imul, 1) := by decide +kernel
theorem dX11_game_175 : decode cX11_game 175 = .ok (.iload 7, 2) := by decide +kernel
theorem dX11_game_177 : decode cX11_game 177 = .ok (.iload 6, 2) := by decide +kernel
theorem dX11_game_179 : decode cX11_game 179 = .ok (.imul, 1) := by decide +kernel
theorem dX11_game_180 : decode cX11_game 180 = .ok (.isub, 1) := by decide +kernel
theorem dX11_game_181 : decode cX11_game 181 = .ok (.i2l, 1) := by decide +kernel
theorem dX11_game_182 : decode cX11_game 182 = .ok (.lstore 11, 2) := by decide +kernel
theorem dX11_game_184 : decode cX11_game 184 = .ok (.iload 5, 2) := by decide +kernel
theorem dX11_game_186 : decode cX11_game 186 = .ok (.iload 8, 2) := by decide +kernel
theorem dX11_game_188 : decode cX11_game 188 = .ok (.iadd, 1) := by decide +kernel
theorem dX11_game_189 : decode cX11_game 189 = .ok (.iload 7, 2) := by decide +kernel
theorem dX11_game_191 : decode cX11_game 191 = .ok (.isub, 1) := by decide +kernel
theorem dX11_game_192 : decode cX11_game 192 = .ok (.iload 6, 2) := by decide +kernel
theorem dX11_game_194 : decode cX11_game 194 = .ok (.isub, 1) := by decide +kernel
theorem dX11_game_195 : decode cX11_game 195 = .ok (.i2l, 1) := by decide +kernel
theorem dX11_game_196 : decode cX11_game 196 = .ok (.lstore 13, 2) := by decide +kernel
theorem dX11_game_198 : decode cX11_game 198 = .ok (.lload 13, 2) := by decide +kernel
theorem dX11_game_200 : decode cX11_game 200 = .ok (.lconst 0, 1) := by decide +kernel
theorem dX11_game_201 : decode cX11_game 201 = .ok (.lcmp, 1) := by decide +kernel
theorem dX11_game_202 : decode cX11_game 202 = .ok (.ifCond .ge 13, 3) := by decide +kernel
theorem dX11_game_205 : decode cX11_game 205 = .ok (.lload 11, 2) := by decide +kernel
theorem dX11_game_207 : decode cX11_game 207 = .ok (.lneg, 1) := by decide +kernel
theorem dX11_game_208 : decode cX11_game 208 = .ok (.lstore 11, 2) := by decide +kernel
theorem dX11_game_210 : decode cX11_game 210 = .ok (.lload 13, 2) := by decide +kernel
theorem dX11_game_212 : decode cX11_game 212 = .ok (.lneg, 1) := by decide +kernel
theorem dX11_game_213 : decode cX11_game 213 = .ok (.lstore 13, 2) := by decide +kernel
theorem dX11_game_215 : decode cX11_game 215 = .ok (.iload_n 3, 1) := by decide +kernel
theorem dX11_game_216 : decode cX11_game 216 = .ok (.ifCond .ne 8, 3) := by decide +kernel
theorem dX11_game_219 : decode cX11_game 219 = .ok (.lload 11, 2) := by decide +kernel
theorem dX11_game_221 : decode cX11_game 221 = .ok (.goto 5, 3) := by decide +kernel
theorem dX11_game_224 : decode cX11_game 224 = .ok (.lload 13, 2) := by decide +kernel
theorem dX11_game_226 : decode cX11_game 226 = .ok (.lload 11, 2) := by decide +kernel
theorem dX11_game_228 : decode cX11_game 228 = .ok (.lload 13, 2) := by decide +kernel
theorem dX11_game_230 : decode cX11_game 230 = .ok (.invokestatic 225, 3) := by decide +kernel
theorem dX11_game_233 : decode cX11_game 233 = .ok (.ldiv, 1) := by decide +kernel
theorem dX11_game_234 : decode cX11_game 234 = .ok (.lreturn, 1) := by decide +kernel
set_option maxRecDepth 20000 in
theorem ggX11_row_X11_bound : GoodIn wsX11_row wsX11_bound := goodIn_r _ [6] (by decide +kernel) (by decide +kernel)
set_option maxRecDepth 20000 in
theorem gX11_row_X11_bound : GoodIn wsX11_row (va_wsS RX11 73 yX11_bound wsX11_bound) := goodIn_app (goodIn_of _ (by decide +kernel)) ggX11_row_X11_bound
set_option maxRecDepth 20000 in
theorem ggX11_row_X11_no : GoodIn wsX11_row wsX11_no := goodIn_r _ [10, 11, 12, 13, 14, 15, 16, 17, 18, 19, 20, 21, 22, 23, 24, 25, 26, 27, 28, 29, 30, 31, 32, 33, 34, 35, 36, 37, 38, 39] (by decide +kernel) (by decide +kernel)
set_option maxRecDepth 20000 in
theorem gX11_row_X11_no : GoodIn wsX11_row (wsV RX11 80 RX11 yX11_no wsX11_no) := goodIn_app (goodIn_of _ (by decide +kernel)) ggX11_row_X11_no
theorem dX11_row_0 : decode cX11_row 0 = .ok (.iload_n 1, 1) := by decide +kernel
theorem dX11_row_1 : decode cX11_row 1 = .ok (.iconst 0, 1) := by decide +kernel
theorem dX11_row_2 : decode cX11_row 2 = .ok (.sipush 9999, 3) := by decide +kernel
theorem dX11_row_5 : decode cX11_row 5 = .ok (.invokestatic 73, 3) := by decide +kernel
theorem dX11_row_8 : decode cX11_row 8 = .ok (.istore_n 2, 1) := by decide +kernel
theorem dX11_row_9 : decode cX11_row 9 = .ok (.iload_n 2, 1) := by decide +kernel
theorem dX11_row_10 : decode cX11_row 10 = .ok (.ifCond .ne 15, 3) := by decide +kernel
theorem dX11_row_13 : decode cX11_row 13 = .ok (.aload_n 0, 1) := by decide +kernel
theorem dX11_row_14 : decode cX11_row 14 = .ok (.getfield 235, 3) := by decide +kernel
theorem dX11_row_17 : decode cX11_row 17 = .ok (.bipush 12, 2) := by decide +kernel
theorem dX11_row_19 : decode cX11_row 19 = .ok (.if_icmp .ne 6, 3) := by decide +kernel
theorem dX11_row_22 : decode cX11_row 22 = .ok (.bipush (-6), 2) := by decide +kernel
theorem dX11_row_24 : decode cX11_row 24 = .ok (.istore_n 2, 1) := by decide +kernel
theorem dX11_row_25 : decode cX11_row 25 = .ok (.iload_n 2, 1) := by decide +kernel
theorem dX11_row_26 : decode cX11_row 26 = .ok (.ifCond .eq 9, 3) := by decide +kernel
theorem dX11_row_29 : decode cX11_row 29 = .ok (.aload_n 0, 1) := by decide +kernel
theorem dX11_row_30 : decode cX11_row 30 = .ok (.iload_n 2, 1) := by decide +kernel
theorem dX11_row_31 : decode cX11_row 31 = .ok (.invokevirtual 80, 3) := by decide +kernel
theorem dX11_row_34 : decode cX11_row 34 = .ok (.ireturn, 1) := by decide +kernel
theorem dX11_row_35 : decode cX11_row 35 = .ok (.aload_n 0, 1) := by decide +kernel
theorem dX11_row_36 : decode cX11_row 36 = .ok (.getfield 59, 3) := by decide +kernel
theorem dX11_row_39 : decode cX11_row 39 = .ok (.aload_n 0, 1) := by decide +kernel
theorem dX11_row_40 : decode cX11_row 40 = .ok (.getfield 235, 3) := by decide +kernel
theorem dX11_row_43 : decode cX11_row 43 = .ok (.iload_n 1, 1) := by decide +kernel
theorem dX11_row_44 : decode cX11_row 44 = .ok (.iastore, 1) := by decide +kernel
theorem dX11_row_45 : decode cX11_row 45 = .ok (.aload_n 0, 1) := by decide +kernel
theorem dX11_row_46 : decode cX11_row 46 = .ok (.dup, 1) := by decide +kernel
theorem dX11_row_47 : decode cX11_row 47 = .ok (.getfield 235, 3) := by decide +kernel
theorem dX11_row_50 : decode cX11_row 50 = .ok (.iconst 1, 1) := by decide +kernel
theorem dX11_row_51 : decode cX11_row 51 = .ok (.iadd, 1) := by decide +kernel
theorem dX11_row_52 : decode cX11_row 52 = .ok (.putfield 235, 3) := by decide +kernel
theorem dX11_row_55 : decode cX11_row 55 = .ok (.aload_n 0, 1) := by decide +kernel
theorem dX11_row_56 : decode cX11_row 56 = .ok (.getfield 235, 3) := by decide +kernel
theorem dX11_row_59 : decode cX11_row 59 = .ok (.ireturn, 1) := by decide +kernel
theorem dX11_clear_0 : decode cX11_clear 0 = .ok (.aload_n 0, 1) := by decide +kernel
theorem dX11_clear_1 : decode cX11_clear 1 = .ok (.getfield 235, 3) := by decide +kernel
theorem dX11_clear_4 : decode cX11_clear 4 = .ok (.istore_n 1, 1) := by decide +kernel
theorem dX11_clear_5 : decode cX11_clear 5 = .ok (.aload_n 0, 1) := by decide +kernel
theorem dX11_clear_6 : decode cX11_clear 6 = .ok (.iconst 0, 1) := by decide +kernel
theorem dX11_clear_7 : decode cX11_clear 7 = .ok (.putfield 235, 3) := by decide +kernel
theorem dX11_clear_10 : decode cX11_clear 10 = .ok (.iload_n 1, 1) := by decide +kernel
theorem dX11_clear_11 : decode cX11_clear 11 = .ok (.ireturn, 1) := by decide +kernel
set_option maxRecDepth 20000 in
theorem ggX11_isThrown_X11_isPlayer : GoodIn wsX11_isThrown wsX11_isPlayer := goodIn_r _ [6, 7, 53, 54, 55, 56, 57, 58, 59, 60, 61, 62, 63, 64, 65, 66, 67, 68, 69, 70, 71, 72, 73, 74, 75, 76, 77, 78, 79, 80] (by decide +kernel) (by decide +kernel)
set_option maxRecDepth 20000 in
theorem gX11_isThrown_X11_isPlayer : GoodIn wsX11_isThrown (wsV RX11 69 RX11 yX11_isPlayer wsX11_isPlayer) := goodIn_app (goodIn_of _ (by decide +kernel)) ggX11_isThrown_X11_isPlayer
set_option maxRecDepth 20000 in
theorem ggX11_isThrown_X11_holds : GoodIn wsX11_isThrown wsX11_holds := goodIn_r _ [11, 1, 53, 54, 55, 56, 57, 58, 59, 60, 61, 62, 63, 64, 65, 66, 67, 68, 69, 70, 71, 72, 73, 74, 75, 76, 77, 78, 79, 80] (by decide +kernel) (by decide +kernel)
set_option maxRecDepth 20000 in
theorem gX11_isThrown_X11_holds : GoodIn wsX11_isThrown (wsV RX11 127 RX11 yX11_holds wsX11_holds) := goodIn_app (goodIn_of _ (by decide +kernel)) ggX11_isThrown_X11_holds
set_option maxRecDepth 20000 in
theorem ggX11_isThrown_X11_areAgainst : GoodIn wsX11_isThrown wsX11_areAgainst := goodIn_r _ [15, 16, 17, 18, 19, 5, 20, 21, 2, 3, 4, 6, 7, 53, 54, 55, 56, 57, 58, 59, 60, 61, 62, 63, 64, 65, 66, 67, 68, 69, 70, 71, 72, 73, 74, 75, 76, 77, 78, 79, 80] (by decide +kernel) (by decide +kernel)
set_option maxRecDepth 20000 in
theorem gX11_isThrown_X11_areAgainst : GoodIn wsX11_isThrown (wsV RX11 186 RX11 yX11_areAgainst wsX11_areAgainst) := goodIn_app (goodIn_of _ (by decide +kernel)) ggX11_isThrown_X11_areAgainst
set_option maxRecDepth 20000 in
theorem ggX11_isThrown_X11_finishes : GoodIn wsX11_isThrown wsX11_finishes := goodIn_r _ [25, 1, 16, 21, 26, 27, 28, 5, 29, 30, 31, 32, 33, 34, 35, 36, 37, 38, 39, 40, 7, 8, 9, 10, 11, 41, 42, 43, 44, 45, 46, 47, 48, 49, 50, 51, 52, 53, 54, 55, 56, 57, 58, 59, 60, 61, 62, 63, 64, 65, 66, 67, 68, 69, 70, 71, 72, 73, 74, 75, 76, 77, 78, 79, 80] (by decide +kernel) (by decide +kernel)
set_option maxRecDepth 20000 in
theorem gX11_isThrown_X11_finishes : GoodIn wsX11_isThrown (wsV RX11 205 RX11 yX11_finishes wsX11_finishes) := goodIn_app (goodIn_of _ (by decide +kernel)) ggX11_isThrown_X11_finishes
theorem dX11_isThrown_0 : decode cX11_isThrown 0 = .ok (.iload_n 1, 1) := by decide +kernel
theorem dX11_isThrown_1 : decode cX11_isThrown 1 = .ok (.sipush 1000, 3) := by decide +kernel
theorem dX11_isThrown_4 : decode cX11_isThrown 4 = .ok (.idiv, 1) := by decide +kernel
theorem dX11_isThrown_5 : decode cX11_isThrown 5 = .ok (.istore_n 2, 1) := by decide +kernel
theorem dX11_isThrown_6 : decode cX11_isThrown 6 = .ok (.iload_n 1, 1) := by decide +kernel
theorem dX11_isThrown_7 : decode cX11_isThrown 7 = .ok (.bipush 100, 2) := by decide +kernel
theorem dX11_isThrown_9 : decode cX11_isThrown 9 = .ok (.idiv, 1) := by decide +kernel
theorem dX11_isThrown_10 : decode cX11_isThrown 10 = .ok (.bipush 10, 2) := by decide +kernel
theorem dX11_isThrown_12 : decode cX11_isThrown 12 = .ok (.irem, 1) := by decide +kernel
theorem dX11_isThrown_13 : decode cX11_isThrown 13 = .ok (.istore_n 3, 1) := by decide +kernel
theorem dX11_isThrown_14 : decode cX11_isThrown 14 = .ok (.iload_n 1, 1) := by decide +kernel
theorem dX11_isThrown_15 : decode cX11_isThrown 15 = .ok (.bipush 10, 2) := by decide +kernel
theorem dX11_isThrown_17 : decode cX11_isThrown 17 = .ok (.idiv, 1) := by decide +kernel
theorem dX11_isThrown_18 : decode cX11_isThrown 18 = .ok (.bipush 10, 2) := by decide +kernel
theorem dX11_isThrown_20 : decode cX11_isThrown 20 = .ok (.irem, 1) := by decide +kernel
theorem dX11_isThrown_21 : decode cX11_isThrown 21 = .ok (.iconst 2, 1) := by decide +kernel
theorem dX11_isThrown_22 : decode cX11_isThrown 22 = .ok (.if_icmp .gt 36, 3) := by decide +kernel
theorem dX11_isThrown_25 : decode cX11_isThrown 25 = .ok (.iload_n 1, 1) := by decide +kernel
theorem dX11_isThrown_26 : decode cX11_isThrown 26 = .ok (.bipush 10, 2) := by decide +kernel
theorem dX11_isThrown_28 : decode cX11_isThrown 28 = .ok (.irem, 1) := by decide +kernel
theorem dX11_isThrown_29 : decode cX11_isThrown 29 = .ok (.iconst 2, 1) := by decide +kernel
theorem dX11_isThrown_30 : decode cX11_isThrown 30 = .ok (.if_icmp .gt 28, 3) := by decide +kernel
theorem dX11_isThrown_33 : decode cX11_isThrown 33 = .ok (.aload_n 0, 1) := by decide +kernel
theorem dX11_isThrown_34 : decode cX11_isThrown 34 = .ok (.iload_n 2, 1) := by decide +kernel
theorem dX11_isThrown_35 : decode cX11_isThrown 35 = .ok (.invokevirtual 69, 3) := by decide +kernel
theorem dX11_isThrown_38 : decode cX11_isThrown 38 = .ok (.ifCond .eq 20, 3) := by decide +kernel
theorem dX11_isThrown_41 : decode cX11_isThrown 41 = .ok (.aload_n 0, 1) := by decide +kernel
theorem dX11_isThrown_42 : decode cX11_isThrown 42 = .ok (.iload_n 2, 1) := by decide +kernel
theorem dX11_isThrown_43 : decode cX11_isThrown 43 = .ok (.invokevirtual 127, 3) := by decide +kernel
theorem dX11_isThrown_46 : decode cX11_isThrown 46 = .ok (.ifCond .eq 12, 3) := by decide +kernel
theorem dX11_isThrown_49 : decode cX11_isThrown 49 = .ok (.aload_n 0, 1) := by decide +kernel
theorem dX11_isThrown_50 : decode cX11_isThrown 50 = .ok (.iload_n 2, 1) := by decide +kernel
theorem dX11_isThrown_51 : decode cX11_isThrown 51 = .ok (.iload_n 3, 1) := by decide +kernel
theorem dX11_isThrown_52 : decode cX11_isThrown 52 = .ok (.invokevirtual 186, 3) := by decide +kernel
theorem dX11_isThrown_55 : decode cX11_isThrown 55 = .ok (.ifCond .ne 5, 3) := by decide +kernel
theorem dX11_isThrown_58 : decode cX11_isThrown 58 = .ok (.iconst 0, 1) := by decide +kernel
theorem dX11_isThrown_59 : decode cX11_isThrown 59 = .ok (.ireturn, 1) := by decide +kernel
theorem dX11_isThrown_60 : decode cX11_isThrown 60 = .ok (.iconst 0, 1) := by decide +kernel
theorem dX11_isThrown_61 : decode cX11_isThrown 61 = .ok (.istore 4, 2) := by decide +kernel
theorem dX11_isThrown_63 : decode cX11_isThrown 63 = .ok (.aload_n 0, 1) := by decide +kernel
theorem dX11_isThrown_64 : decode cX11_isThrown 64 = .ok (.getfield 28, 3) := by decide +kernel
theorem dX11_isThrown_67 : decode cX11_isThrown 67 = .ok (.iload 4, 2) := by decide +kernel
theorem dX11_isThrown_69 : decode cX11_isThrown 69 = .ok (.iaload, 1) := by decide +kernel
theorem dX11_isThrown_70 : decode cX11_isThrown 70 = .ok (.iload_n 2, 1) := by decide +kernel
theorem dX11_isThrown_71 : decode cX11_isThrown 71 = .ok (.if_icmp .eq 9, 3) := by decide +kernel
theorem dX11_isThrown_74 : decode cX11_isThrown 74 = .ok (.iinc 4 1, 3) := by decide +kernel
theorem dX11_isThrown_77 : decode cX11_isThrown 77 = .ok (.goto (-14), 3) := by decide +kernel
theorem dX11_isThrown_80 : decode cX11_isThrown 80 = .ok (.aload_n 0, 1) := by decide +kernel
theorem dX11_isThrown_81 : decode cX11_isThrown 81 = .ok (.iload 4, 2) := by decide +kernel
theorem dX11_isThrown_83 : decode cX11_isThrown 83 = .ok (.iload_n 3, 1) := by decide +kernel
theorem dX11_isThrown_84 : decode cX11_isThrown 84 = .ok (.iload_n 1, 1) := by decide +kernel
theorem dX11_isThrown_85 : decode cX11_isThrown 85 = .ok (.bipush 10, 2) := by decide +kernel
theorem dX11_isThrown_87 : decode cX11_isThrown 87 = .ok (.irem, 1) := by decide +kernel
theorem dX11_isThrown_88 : decode cX11_isThrown 88 = .ok (.invokevirtual 205, 3) := by decide +kernel
theorem dX11_isThrown_91 : decode cX11_isThrown 91 = .ok (.iconst 1, 1) := by decide +kernel
theorem dX11_isThrown_92 : decode cX11_isThrown 92 = .ok (.ireturn, 1) := by decide +kernel
set_option maxRecDepth 20000 in
theorem ggX11_judge_X11_passesAll : GoodIn wsX11_judge wsX11_passesAll := goodIn_r _ [7, 8, 9, 10, 11, 12, 13, 14, 15, 16, 17, 18, 19, 20, 21, 22, 23, 6, 24, 25, 26, 27, 28, 29, 77, 78, 79, 80, 81, 82, 83, 84, 85, 86, 87, 88, 89, 90, 91, 92, 93, 94, 95, 96, 97, 98, 99, 100, 101, 102, 103, 104] (by decide +kernel) (by decide +kernel)
set_option maxRecDepth 20000 in
theorem gX11_judge_X11_passesAll : GoodIn wsX11_judge (wsV RX11 144 RX11 yX11_passesAll wsX11_passesAll) := goodIn_app (goodIn_of _ (by decide +kernel)) ggX11_judge_X11_passesAll
set_option maxRecDepth 20000 in
theorem ggX11_judge_X11_isThrown : GoodIn wsX11_judge wsX11_isThrown := goodIn_r _ [33, 15, 34, 35, 36, 6, 37, 18, 38, 39, 40, 41, 42, 43, 44, 45, 10, 46, 47, 48, 49, 14, 50, 51, 52, 53, 54, 55, 56, 57, 16, 17, 58, 59, 60, 61, 20, 62, 63, 64, 65, 66, 67, 68, 69, 70, 71, 72, 73, 74, 75, 76, 19, 77, 78, 79, 80, 81, 82, 83, 84, 85, 86, 87, 88, 89, 90, 91, 92, 93, 94, 95, 96, 97, 98, 99, 100, 101, 102, 103, 104] (by decide +kernel) (by decide +kernel)
set_option maxRecDepth 20000 in
theorem gX11_judge_X11_isThrown : GoodIn wsX11_judge (wsV RX11 238 RX11 yX11_isThrown wsX11_isThrown) := goodIn_app (goodIn_of _ (by decide +kernel)) ggX11_judge_X11_isThrown
theorem dX11_judge_0 : decode cX11_judge 0 = .ok (.aload_n 0, 1) := by decide +kernel
theorem dX11_judge_1 : decode cX11_judge 1 = .ok (.iconst 1, 1) := by decide +kernel
theorem dX11_judge_2 : decode cX11_judge 2 = .ok (.iconst 1, 1) := by decide +kernel
theorem dX11_judge_3 : decode cX11_judge 3 = .ok (.invokevirtual 144, 3) := by decide +kernel
theorem dX11_judge_6 : decode cX11_judge 6 = .ok (.bipush (-9), 2) := by decide +kernel
theorem dX11_judge_8 : decode cX11_judge 8 = .ok (.istore_n 1, 1) := by decide +kernel
theorem dX11_judge_9 : decode cX11_judge 9 = .ok (.iconst 0, 1) := by decide +kernel
theorem dX11_judge_10 : decode cX11_judge 10 = .ok (.istore_n 2, 1) := by decide +kernel
theorem dX11_judge_11 : decode cX11_judge 11 = .ok (.iload_n 2, 1) := by decide +kernel
theorem dX11_judge_12 : decode cX11_judge 12 = .ok (.aload_n 0, 1) := by decide +kernel
theorem dX11_judge_13 : decode cX11_judge 13 = .ok (.getfield 235, 3) := by decide +kernel
theorem dX11_judge_16 : decode cX11_judge 16 = .ok (.if_icmp .ge 28, 3) := by decide +kernel
theorem dX11_judge_19 : decode cX11_judge 19 = .ok (.iload_n 1, 1) := by decide +kernel
theorem dX11_judge_20 : decode cX11_judge 20 = .ok (.ifCond .ge 24, 3) := by decide +kernel
theorem dX11_judge_23 : decode cX11_judge 23 = .ok (.aload_n 0, 1) := by decide +kernel
theorem dX11_judge_24 : decode cX11_judge 24 = .ok (.aload_n 0, 1) := by decide +kernel
theorem dX11_judge_25 : decode cX11_judge 25 = .ok (.getfield 59, 3) := by decide +kernel
theorem dX11_judge_28 : decode cX11_judge 28 = .ok (.iload_n 2, 1) := by decide +kernel
theorem dX11_judge_29 : decode cX11_judge 29 = .ok (.iaload, 1) := by decide +kernel
theorem dX11_judge_30 : decode cX11_judge 30 = .ok (.invokevirtual 238, 3) := by decide +kernel
theorem dX11_judge_33 : decode cX11_judge 33 = .ok (.ifCond .ne 5, 3) := by decide +kernel
theorem dX11_judge_36 : decode cX11_judge 36 = .ok (.iload_n 2, 1) := by decide +kernel
theorem dX11_judge_37 : decode cX11_judge 37 = .ok (.istore_n 1, 1) := by decide +kernel
theorem dX11_judge_38 : decode cX11_judge 38 = .ok (.iinc 2 1, 3) := by decide +kernel
theorem dX11_judge_41 : decode cX11_judge 41 = .ok (.goto (-30), 3) := by decide +kernel
theorem dX11_judge_44 : decode cX11_judge 44 = .ok (.aload_n 0, 1) := by decide +kernel
theorem dX11_judge_45 : decode cX11_judge 45 = .ok (.iconst 1, 1) := by decide +kernel
theorem dX11_judge_46 : decode cX11_judge 46 = .ok (.iconst 0, 1) := by decide +kernel
theorem dX11_judge_47 : decode cX11_judge 47 = .ok (.invokevirtual 144, 3) := by decide +kernel
theorem dX11_judge_50 : decode cX11_judge 50 = .ok (.iload_n 1, 1) := by decide +kernel
theorem dX11_judge_51 : decode cX11_judge 51 = .ok (.ireturn, 1) := by decide +kernel
theorem dX11_hereBits_0 : decode cX11_hereBits 0 = .ok (.iconst 0, 1) := by decide +kernel
theorem dX11_hereBits_1 : decode cX11_hereBits 1 = .ok (.istore_n 1, 1) := by decide +kernel
theorem dX11_hereBits_2 : decode cX11_hereBits 2 = .ok (.iconst 0, 1) := by decide +kernel
theorem dX11_hereBits_3 : decode cX11_hereBits 3 = .ok (.istore_n 2, 1) := by decide +kernel
theorem dX11_hereBits_4 : decode cX11_hereBits 4 = .ok (.iload_n 2, 1) := by decide +kernel
theorem dX11_hereBits_5 : decode cX11_hereBits 5 = .ok (.aload_n 0, 1) := by decide +kernel
theorem dX11_hereBits_6 : decode cX11_hereBits 6 = .ok (.getfield 65, 3) := by decide +kernel
theorem dX11_hereBits_9 : decode cX11_hereBits 9 = .ok (.if_icmp .ge 28, 3) := by decide +kernel
theorem dX11_hereBits_12 : decode cX11_hereBits 12 = .ok (.iload_n 1, 1) := by decide +kernel
theorem dX11_hereBits_13 : decode cX11_hereBits 13 = .ok (.aload_n 0, 1) := by decide +kernel
theorem dX11_hereBits_14 : decode cX11_hereBits 14 = .ok (.getfield 25, 3) := by decide +kernel
theorem dX11_hereBits_17 : decode cX11_hereBits 17 = .ok (.iload_n 2, 1) := by decide +kernel
theorem dX11_hereBits_18 : decode cX11_hereBits 18 = .ok (.iaload, 1) := by decide +kernel
theorem dX11_hereBits_19 : decode cX11_hereBits 19 = .ok (.ifCond .ne 9, 3) := by decide +kernel
theorem dX11_hereBits_22 : decode cX11_hereBits 22 = .ok (.iconst 1, 1) := by decide +kernel
theorem dX11_hereBits_23 : decode cX11_hereBits 23 = .ok (.iload_n 2, 1) := by decide +kernel
theorem dX11_hereBits_24 : decode cX11_hereBits 24 = .ok (.ishl, 1) := by decide +kernel
theorem dX11_hereBits_25 : decode cX11_hereBits 25 = .ok (.goto 4, 3) := by decide +kernel
theorem dX11_hereBits_28 : decode cX11_hereBits 28 = .ok (.iconst 0, 1) := by decide +kernel
theorem dX11_hereBits_29 : decode cX11_hereBits 29 = .ok (.ior, 1) := by decide +kernel
theorem dX11_hereBits_30 : decode cX11_hereBits 30 = .ok (.istore_n 1, 1) := by decide +kernel
theorem dX11_hereBits_31 : decode cX11_hereBits 31 = .ok (.iinc 2 1, 3) := by decide +kernel
theorem dX11_hereBits_34 : decode cX11_hereBits 34 = .ok (.goto (-30), 3) := by decide +kernel
theorem dX11_hereBits_37 : decode cX11_hereBits 37 = .ok (.iload_n 1, 1) := by decide +kernel
theorem dX11_hereBits_38 : decode cX11_hereBits 38 = .ok (.ireturn, 1) := by decide +kernel
set_option maxRecDepth 20000 in
theorem ggX11_ends_X11_passesAll : GoodIn wsX11_ends wsX11_passesAll := goodIn_r _ [7, 8, 9, 10, 11, 12, 13, 14, 15, 16, 17, 18, 19, 20, 21, 22, 23, 6, 24, 25, 26, 27, 28, 29, 81, 82, 83, 84, 85, 86, 87, 88, 89, 90, 91, 92, 93, 94, 95, 96, 97, 98, 99, 100, 101, 102, 103, 104, 105, 106, 107, 108] (by decide +kernel) (by decide +kernel)
set_option maxRecDepth 20000 in
theorem gX11_ends_X11_passesAll : GoodIn wsX11_ends (wsV RX11 144 RX11 yX11_passesAll wsX11_passesAll) := goodIn_app (goodIn_of _ (by decide +kernel)) ggX11_ends_X11_passesAll
set_option maxRecDepth 20000 in
theorem ggX11_ends_X11_isThrown : GoodIn wsX11_ends wsX11_isThrown := goodIn_r _ [33, 15, 34, 35, 36, 6, 37, 18, 38, 39, 40, 41, 42, 43, 44, 45, 10, 46, 47, 48, 49, 14, 50, 51, 52, 53, 54, 55, 56, 57, 16, 17, 58, 59, 60, 61, 20, 62, 63, 64, 65, 66, 67, 68, 69, 70, 71, 72, 73, 74, 75, 76, 19, 81, 82, 83, 84, 85, 86, 87, 88, 89, 90, 91, 92, 93, 94, 95, 96, 97, 98, 99, 100, 101, 102, 103, 104, 105, 106, 107, 108] (by decide +kernel) (by decide +kernel)
set_option maxRecDepth 20000 in
theorem gX11_ends_X11_isThrown : GoodIn wsX11_ends (wsV RX11 238 RX11 yX11_isThrown wsX11_isThrown) := goodIn_app (goodIn_of _ (by decide +kernel)) ggX11_ends_X11_isThrown
set_option maxRecDepth 20000 in
theorem ggX11_ends_X11_hereBits : GoodIn wsX11_ends wsX11_hereBits := goodIn_r _ [80, 18, 14, 81, 82, 83, 84, 85, 86, 87, 88, 89, 90, 91, 92, 93, 94, 95, 96, 97, 98, 99, 100, 101, 102, 103, 104, 105, 106, 107, 108] (by decide +kernel) (by decide +kernel)
set_option maxRecDepth 20000 in
theorem gX11_ends_X11_hereBits : GoodIn wsX11_ends (wsV RX11 241 RX11 yX11_hereBits wsX11_hereBits) := goodIn_app (goodIn_of _ (by decide +kernel)) ggX11_ends_X11_hereBits
theorem dX11_ends_0 : decode cX11_ends 0 = .ok (.aload_n 0, 1) := by decide +kernel
theorem dX11_ends_1 : decode cX11_ends 1 = .ok (.iconst 1, 1) := by decide +kernel
theorem dX11_ends_2 : decode cX11_ends 2 = .ok (.iconst 1, 1) := by decide +kernel
theorem dX11_ends_3 : decode cX11_ends 3 = .ok (.invokevirtual 144, 3) := by decide +kernel
theorem dX11_ends_6 : decode cX11_ends 6 = .ok (.iconst 0, 1) := by decide +kernel
theorem dX11_ends_7 : decode cX11_ends 7 = .ok (.istore_n 1, 1) := by decide +kernel
theorem dX11_ends_8 : decode cX11_ends 8 = .ok (.iload_n 1, 1) := by decide +kernel
theorem dX11_ends_9 : decode cX11_ends 9 = .ok (.aload_n 0, 1) := by decide +kernel
theorem dX11_ends_10 : decode cX11_ends 10 = .ok (.getfield 235, 3) := by decide +kernel
theorem dX11_ends_13 : decode cX11_ends 13 = .ok (.if_icmp .ge 22, 3) := by decide +kernel
theorem dX11_ends_16 : decode cX11_ends 16 = .ok (.aload_n 0, 1) := by decide +kernel
theorem dX11_ends_17 : decode cX11_ends 17 = .ok (.aload_n 0, 1) := by decide +kernel
theorem dX11_ends_18 : decode cX11_ends 18 = .ok (.getfield 59, 3) := by decide +kernel
theorem dX11_ends_21 : decode cX11_ends 21 = .ok (.iload_n 1, 1) := by decide +kernel
theorem dX11_ends_22 : decode cX11_ends 22 = .ok (.iaload, 1) := by decide +kernel
theorem dX11_ends_23 : decode cX11_ends 23 = .ok (.invokevirtual 238, 3) := by decide +kernel
theorem dX11_ends_26 : decode cX11_ends 26 = .ok (.ifCond .eq 9, 3) := by decide +kernel
theorem dX11_ends_29 : decode cX11_ends 29 = .ok (.iinc 1 1, 3) := by decide +kernel
theorem dX11_ends_32 : decode cX11_ends 32 = .ok (.goto (-24), 3) := by decide +kernel
theorem dX11_ends_35 : decode cX11_ends 35 = .ok (.aload_n 0, 1) := by decide +kernel
theorem dX11_ends_36 : decode cX11_ends 36 = .ok (.invokevirtual 241, 3) := by decide +kernel
theorem dX11_ends_39 : decode cX11_ends 39 = .ok (.istore_n 2, 1) := by decide +kernel
theorem dX11_ends_40 : decode cX11_ends 40 = .ok (.aload_n 0, 1) := by decide +kernel
theorem dX11_ends_41 : decode cX11_ends 41 = .ok (.iconst 1, 1) := by decide +kernel
theorem dX11_ends_42 : decode cX11_ends 42 = .ok (.iconst 0, 1) := by decide +kernel
theorem dX11_ends_43 : decode cX11_ends 43 = .ok (.invokevirtual 144, 3) := by decide +kernel
theorem dX11_ends_46 : decode cX11_ends 46 = .ok (.iload_n 2, 1) := by decide +kernel
theorem dX11_ends_47 : decode cX11_ends 47 = .ok (.ireturn, 1) := by decide +kernel
set_option maxRecDepth 20000 in
theorem ggX11_whose_X11_isPlayer : GoodIn wsX11_whose wsX11_isPlayer := goodIn_r _ [6, 1, 27, 28, 29, 30, 31, 32, 33, 34, 35, 36, 37, 38, 39, 40, 41, 42, 43, 44, 45, 46, 47, 48, 49, 50, 51, 52, 53, 54] (by decide +kernel) (by decide +kernel)
set_option maxRecDepth 20000 in
theorem gX11_whose_X11_isPlayer : GoodIn wsX11_whose (wsV RX11 69 RX11 yX11_isPlayer wsX11_isPlayer) := goodIn_app (goodIn_of _ (by decide +kernel)) ggX11_whose_X11_isPlayer
set_option maxRecDepth 20000 in
theorem ggX11_whose_X11_isHere : GoodIn wsX11_whose wsX11_isHere := goodIn_r _ [10, 11, 2, 3, 4, 5, 6, 1, 27, 28, 29, 30, 31, 32, 33, 34, 35, 36, 37, 38, 39, 40, 41, 42, 43, 44, 45, 46, 47, 48, 49, 50, 51, 52, 53, 54] (by decide +kernel) (by decide +kernel)
set_option maxRecDepth 20000 in
theorem gX11_whose_X11_isHere : GoodIn wsX11_whose (wsV RX11 124 RX11 yX11_isHere wsX11_isHere) := goodIn_app (goodIn_of _ (by decide +kernel)) ggX11_whose_X11_isHere
set_option maxRecDepth 20000 in
theorem ggX11_whose_X11_no : GoodIn wsX11_whose wsX11_no := goodIn_r _ [15, 16, 27, 28, 29, 30, 31, 32, 33, 34, 35, 36, 37, 38, 39, 40, 41, 42, 43, 44, 45, 46, 47, 48, 49, 50, 51, 52, 53, 54] (by decide +kernel) (by decide +kernel)
set_option maxRecDepth 20000 in
theorem gX11_whose_X11_no : GoodIn wsX11_whose (wsV RX11 80 RX11 yX11_no wsX11_no) := goodIn_app (goodIn_of _ (by decide +kernel)) ggX11_whose_X11_no
set_option maxRecDepth 20000 in
theorem ggX11_whose_X11_areAgainst : GoodIn wsX11_whose wsX11_areAgainst := goodIn_r _ [20, 21, 7, 8, 9, 5, 10, 11, 2, 3, 4, 6, 1, 27, 28, 29, 30, 31, 32, 33, 34, 35, 36, 37, 38, 39, 40, 41, 42, 43, 44, 45, 46, 47, 48, 49, 50, 51, 52, 53, 54] (by decide +kernel) (by decide +kernel)
set_option maxRecDepth 20000 in
theorem gX11_whose_X11_areAgainst : GoodIn wsX11_whose (wsV RX11 186 RX11 yX11_areAgainst wsX11_areAgainst) := goodIn_app (goodIn_of _ (by decide +kernel)) ggX11_whose_X11_areAgainst
set_option maxRecDepth 20000 in
theorem ggX11_whose_X11_holds : GoodIn wsX11_whose wsX11_holds := goodIn_r _ [25, 26, 27, 28, 29, 30, 31, 32, 33, 34, 35, 36, 37, 38, 39, 40, 41, 42, 43, 44, 45, 46, 47, 48, 49, 50, 51, 52, 53, 54] (by decide +kernel) (by decide +kernel)
set_option maxRecDepth 20000 in
theorem gX11_whose_X11_holds : GoodIn wsX11_whose (wsV RX11 127 RX11 yX11_holds wsX11_holds) := goodIn_app (goodIn_of _ (by decide +kernel)) ggX11_whose_X11_holds
theorem dX11_whose_0 : decode cX11_whose 0 = .ok (.aload_n 0, 1) := by decide +kernel
theorem dX11_whose_1 : decode cX11_whose 1 = .ok (.iload_n 1, 1) := by decide +kernel
theorem dX11_whose_2 : decode cX11_whose 2 = .ok (.invokevirtual 69, 3) := by decide +kernel
theorem dX11_whose_5 : decode cX11_whose 5 = .ok (.ifCond .ne 7, 3) := by decide +kernel
theorem dX11_whose_8 : decode cX11_whose 8 = .ok (.iconst (-1), 1) := by decide +kernel
theorem dX11_whose_9 : decode cX11_whose 9 = .ok (.goto 17, 3) := by decide +kernel
theorem dX11_whose_12 : decode cX11_whose 12 = .ok (.aload_n 0, 1) := by decide +kernel
theorem dX11_whose_13 : decode cX11_whose 13 = .ok (.iload_n 1, 1) := by decide +kernel
theorem dX11_whose_14 : decode cX11_whose 14 = .ok (.invokevirtual 124, 3) := by decide +kernel
theorem dX11_whose_17 : decode cX11_whose 17 = .ok (.ifCond .ne 8, 3) := by decide +kernel
theorem dX11_whose_20 : decode cX11_whose 20 = .ok (.bipush (-3), 2) := by decide +kernel
theorem dX11_whose_22 : decode cX11_whose 22 = .ok (.goto 4, 3) := by decide +kernel
theorem dX11_whose_25 : decode cX11_whose 25 = .ok (.iconst 0, 1) := by decide +kernel
theorem dX11_whose_26 : decode cX11_whose 26 = .ok (.istore_n 2, 1) := by decide +kernel
theorem dX11_whose_27 : decode cX11_whose 27 = .ok (.iload_n 2, 1) := by decide +kernel
theorem dX11_whose_28 : decode cX11_whose 28 = .ok (.ifCond .eq 9, 3) := by decide +kernel
theorem dX11_whose_31 : decode cX11_whose 31 = .ok (.aload_n 0, 1) := by decide +kernel
theorem dX11_whose_32 : decode cX11_whose 32 = .ok (.iload_n 2, 1) := by decide +kernel
theorem dX11_whose_33 : decode cX11_whose 33 = .ok (.invokevirtual 80, 3) := by decide +kernel
theorem dX11_whose_36 : decode cX11_whose 36 = .ok (.ireturn, 1) := by decide +kernel
theorem dX11_whose_37 : decode cX11_whose 37 = .ok (.iconst 0, 1) := by decide +kernel
theorem dX11_whose_38 : decode cX11_whose 38 = .ok (.istore_n 3, 1) := by decide +kernel
theorem dX11_whose_39 : decode cX11_whose 39 = .ok (.iconst 0, 1) := by decide +kernel
theorem dX11_whose_40 : decode cX11_whose 40 = .ok (.istore 4, 2) := by decide +kernel
theorem dX11_whose_42 : decode cX11_whose 42 = .ok (.iload 4, 2) := by decide +kernel
theorem dX11_whose_44 : decode cX11_whose 44 = .ok (.aload_n 0, 1) := by decide +kernel
theorem dX11_whose_45 : decode cX11_whose 45 = .ok (.getfield 65, 3) := by decide +kernel
theorem dX11_whose_48 : decode cX11_whose 48 = .ok (.if_icmp .ge 39, 3) := by decide +kernel
theorem dX11_whose_51 : decode cX11_whose 51 = .ok (.iload_n 3, 1) := by decide +kernel
theorem dX11_whose_52 : decode cX11_whose 52 = .ok (.aload_n 0, 1) := by decide +kernel
theorem dX11_whose_53 : decode cX11_whose 53 = .ok (.iload 4, 2) := by decide +kernel
theorem dX11_whose_55 : decode cX11_whose 55 = .ok (.iload_n 1, 1) := by decide +kernel
theorem dX11_whose_56 : decode cX11_whose 56 = .ok (.invokevirtual 186, 3) := by decide +kernel
theorem dX11_whose_59 : decode cX11_whose 59 = .ok (.ifCond .eq 19, 3) := by decide +kernel
theorem dX11_whose_62 : decode cX11_whose 62 = .ok (.aload_n 0, 1) := by decide +kernel
theorem dX11_whose_63 : decode cX11_whose 63 = .ok (.iload 4, 2) := by decide +kernel
theorem dX11_whose_65 : decode cX11_whose 65 = .ok (.invokevirtual 127, 3) := by decide +kernel
theorem dX11_whose_68 : decode cX11_whose 68 = .ok (.ifCond .eq 10, 3) := by decide +kernel
theorem dX11_whose_71 : decode cX11_whose 71 = .ok (.iconst 1, 1) := by decide +kernel
theorem dX11_whose_72 : decode cX11_whose 72 = .ok (.iload 4, 2) := by decide +kernel
theorem dX11_whose_74 : decode cX11_whose 74 = .ok (.ishl, 1) := by decide +kernel
theorem dX11_whose_75 : decode cX11_whose 75 = .ok (.goto 4, 3) := by decide +kernel
theorem dX11_whose_78 : decode cX11_whose 78 = .ok (.iconst 0, 1) := by decide +kernel
theorem dX11_whose_79 : decode cX11_whose 79 = .ok (.ior, 1) := by decide +kernel
theorem dX11_whose_80 : decode cX11_whose 80 = .ok (.istore_n 3, 1) := by decide +kernel
theorem dX11_whose_81 : decode cX11_whose 81 = .ok (.iinc 4 1, 3) := by decide +kernel
theorem dX11_whose_84 : decode cX11_whose 84 = .ok (.goto (-42), 3) := by decide +kernel
theorem dX11_whose_87 : decode cX11_whose 87 = .ok (.iload_n 3, 1) := by decide +kernel
theorem dX11_whose_88 : decode cX11_whose 88 = .ok (.ireturn, 1) := by decide +kernel
set_option maxRecDepth 20000 in
theorem ggX11_waits_X11_isIn : GoodIn wsX11_waits wsX11_isIn := goodIn_r _ [7] (by decide +kernel) (by decide +kernel)
set_option maxRecDepth 20000 in
theorem gX11_waits_X11_isIn : GoodIn wsX11_waits (va_wsS RX11 91 yX11_isIn wsX11_isIn) := goodIn_app (goodIn_of _ (by decide +kernel)) ggX11_waits_X11_isIn
set_option maxRecDepth 20000 in
theorem ggX11_waits_X11_bound : GoodIn wsX11_waits wsX11_bound := goodIn_r _ [10] (by decide +kernel) (by decide +kernel)
set_option maxRecDepth 20000 in
theorem gX11_waits_X11_bound : GoodIn wsX11_waits (va_wsS RX11 73 yX11_bound wsX11_bound) := goodIn_app (goodIn_of _ (by decide +kernel)) ggX11_waits_X11_bound
set_option maxRecDepth 20000 in
theorem ggX11_waits_X11_no : GoodIn wsX11_waits wsX11_no := goodIn_r _ [14, 15, 16, 17, 18, 19, 20, 21, 22, 23, 24, 25, 26, 27, 28, 29, 30, 31, 32, 33, 34, 35, 36, 37, 38, 39, 40, 41, 42, 43] (by decide +kernel) (by decide +kernel)
set_option maxRecDepth 20000 in
theorem gX11_waits_X11_no : GoodIn wsX11_waits (wsV RX11 80 RX11 yX11_no wsX11_no) := goodIn_app (goodIn_of _ (by decide +kernel)) ggX11_waits_X11_no
theorem dX11_waits_0 : decode cX11_waits 0 = .ok (.iload_n 1, 1) := by decide +kernel
theorem dX11_waits_1 : decode cX11_waits 1 = .ok (.iconst 0, 1) := by decide +kernel
theorem dX11_waits_2 : decode cX11_waits 2 = .ok (.iconst 1, 1) := by decide +kernel
theorem dX11_waits_3 : decode cX11_waits 3 = .ok (.invokestatic 91, 3) := by decide +kernel
theorem dX11_waits_6 : decode cX11_waits 6 = .ok (.ifCond .ne 7, 3) := by decide +kernel
theorem dX11_waits_9 : decode cX11_waits 9 = .ok (.iconst (-1), 1) := by decide +kernel
theorem dX11_waits_10 : decode cX11_waits 10 = .ok (.goto 10, 3) := by decide +kernel
theorem dX11_waits_13 : decode cX11_waits 13 = .ok (.iload_n 2, 1) := by decide +kernel
theorem dX11_waits_14 : decode cX11_waits 14 = .ok (.iconst 0, 1) := by decide +kernel
theorem dX11_waits_15 : decode cX11_waits 15 = .ok (.bipush 7, 2) := by decide +kernel
theorem dX11_waits_17 : decode cX11_waits 17 = .ok (.invokestatic 73, 3) := by decide +kernel
theorem dX11_waits_20 : decode cX11_waits 20 = .ok (.istore_n 3, 1) := by decide +kernel
theorem dX11_waits_21 : decode cX11_waits 21 = .ok (.iload_n 3, 1) := by decide +kernel
theorem dX11_waits_22 : decode cX11_waits 22 = .ok (.ifCond .eq 9, 3) := by decide +kernel
theorem dX11_waits_25 : decode cX11_waits 25 = .ok (.aload_n 0, 1) := by decide +kernel
theorem dX11_waits_26 : decode cX11_waits 26 = .ok (.iload_n 3, 1) := by decide +kernel
theorem dX11_waits_27 : decode cX11_waits 27 = .ok (.invokevirtual 80, 3) := by decide +kernel
theorem dX11_waits_30 : decode cX11_waits 30 = .ok (.ireturn, 1) := by decide +kernel
theorem dX11_waits_31 : decode cX11_waits 31 = .ok (.iconst 0, 1) := by decide +kernel
theorem dX11_waits_32 : decode cX11_waits 32 = .ok (.istore 4, 2) := by decide +kernel
theorem dX11_waits_34 : decode cX11_waits 34 = .ok (.iload 4, 2) := by decide +kernel
theorem dX11_waits_36 : decode cX11_waits 36 = .ok (.aload_n 0, 1) := by decide +kernel
theorem dX11_waits_37 : decode cX11_waits 37 = .ok (.getfield 65, 3) := by decide +kernel
theorem dX11_waits_40 : decode cX11_waits 40 = .ok (.if_icmp .ge 108, 3) := by decide +kernel
theorem dX11_waits_43 : decode cX11_waits 43 = .ok (.iconst 0, 1) := by decide +kernel
theorem dX11_waits_44 : decode cX11_waits 44 = .ok (.istore 5, 2) := by decide +kernel
theorem dX11_waits_46 : decode cX11_waits 46 = .ok (.iconst 0, 1) := by decide +kernel
theorem dX11_waits_47 : decode cX11_waits 47 = .ok (.istore 6, 2) := by decide +kernel
theorem dX11_waits_49 : decode cX11_waits 49 = .ok (.iload 6, 2) := by decide +kernel
theorem dX11_waits_51 : decode cX11_waits 51 = .ok (.aload_n 0, 1) := by decide +kernel
theorem dX11_waits_52 : decode cX11_waits 52 = .ok (.getfield 65, 3) := by decide +kernel
theorem dX11_waits_55 : decode cX11_waits 55 = .ok (.if_icmp .ge 57, 3) := by decide +kernel
theorem dX11_waits_58 : decode cX11_waits 58 = .ok (.iload 5, 2) := by decide +kernel
theorem dX11_waits_60 : decode cX11_waits 60 = .ok (.aload_n 0, 1) := by decide +kernel
theorem dX11_waits_61 : decode cX11_waits 61 = .ok (.getfield 13, 3) := by decide +kernel
theorem dX11_waits_64 : decode cX11_waits 64 = .ok (.iload 6, 2) := by decide +kernel
theorem dX11_waits_66 : decode cX11_waits 66 = .ok (.iaload, 1) := by decide +kernel
theorem dX11_waits_67 : decode cX11_waits 67 = .ok (.iload_n 1, 1) := by decide +kernel
theorem dX11_waits_68 : decode cX11_waits 68 = .ok (.if_icmp .ne 34, 3) := by decide +kernel
theorem dX11_waits_71 : decode cX11_waits 71 = .ok (.aload_n 0, 1) := by decide +kernel
theorem dX11_waits_72 : decode cX11_waits 72 = .ok (.getfield 25, 3) := by decide +kernel
theorem dX11_waits_75 : decode cX11_waits 75 = .ok (.iload 6, 2) := by decide +kernel
theorem dX11_waits_77 : decode cX11_waits 77 = .ok (.iaload, 1) := by decide +kernel
theorem dX11_waits_78 : decode cX11_waits 78 = .ok (.ifCond .le 24, 3) := by decide +kernel
theorem dX11_waits_81 : decode cX11_waits 81 = .ok (.aload_n 0, 1) := by decide +kernel
theorem dX11_waits_82 : decode cX11_waits 82 = .ok (.getfield 25, 3) := by decide +kernel
theorem dX11_waits_85 : decode cX11_waits 85 = .ok (.iload 6, 2) := by decide +kernel
theorem dX11_waits_87 : decode cX11_waits 87 = .ok (.iaload, 1) := by decide +kernel
theorem dX11_waits_88 : decode cX11_waits 88 = .ok (.aload_n 0, 1) := by decide +kernel
theorem dX11_waits_89 : decode cX11_waits 89 = .ok (.getfield 25, 3) := by decide +kernel
theorem dX11_waits_92 : decode cX11_waits 92 = .ok (.iload 4, 2) := by decide +kernel
theorem dX11_waits_94 : decode cX11_waits 94 = .ok (.iaload, 1) := by decide +kernel
theorem dX11_waits_95 : decode cX11_waits 95 = .ok (.if_icmp .ge 7, 3) := by decide +kernel
theorem dX11_waits_98 : decode cX11_waits 98 = .ok (.iconst 1, 1) := by decide +kernel
theorem dX11_waits_99 : decode cX11_waits 99 = .ok (.goto 4, 3) := by decide +kernel
theorem dX11_waits_102 : decode cX11_waits 102 = .ok (.iconst 0, 1) := by decide +kernel
theorem dX11_waits_103 : decode cX11_waits 103 = .ok (.iadd, 1) := by decide +kernel
theorem dX11_waits_104 : decode cX11_waits 104 = .ok (.istore 5, 2) := by decide +kernel
theorem dX11_waits_106 : decode cX11_waits 106 = .ok (.iinc 6 1, 3) := by decide +kernel
theorem dX11_waits_109 : decode cX11_waits 109 = .ok (.goto (-60), 3) := by decide +kernel
theorem dX11_waits_112 : decode cX11_waits 112 = .ok (.aload_n 0, 1) := by decide +kernel
theorem dX11_waits_113 : decode cX11_waits 113 = .ok (.getfield 13, 3) := by decide +kernel
theorem dX11_waits_116 : decode cX11_waits 116 = .ok (.iload 4, 2) := by decide +kernel
theorem dX11_waits_118 : decode cX11_waits 118 = .ok (.iaload, 1) := by decide +kernel
theorem dX11_waits_119 : decode cX11_waits 119 = .ok (.iload_n 1, 1) := by decide +kernel
theorem dX11_waits_120 : decode cX11_waits 120 = .ok (.if_icmp .ne 22, 3) := by decide +kernel
theorem dX11_waits_123 : decode cX11_waits 123 = .ok (.aload_n 0, 1) := by decide +kernel
theorem dX11_waits_124 : decode cX11_waits 124 = .ok (.getfield 25, 3) := by decide +kernel
theorem dX11_waits_127 : decode cX11_waits 127 = .ok (.iload 4, 2) := by decide +kernel
theorem dX11_waits_129 : decode cX11_waits 129 = .ok (.iaload, 1) := by decide +kernel
theorem dX11_waits_130 : decode cX11_waits 130 = .ok (.ifCond .le 12, 3) := by decide +kernel
theorem dX11_waits_133 : decode cX11_waits 133 = .ok (.iload 5, 2) := by decide +kernel
theorem dX11_waits_135 : decode cX11_waits 135 = .ok (.iload_n 2, 1) := by decide +kernel
theorem dX11_waits_136 : decode cX11_waits 136 = .ok (.if_icmp .ne 6, 3) := by decide +kernel
theorem dX11_waits_139 : decode cX11_waits 139 = .ok (.iload 4, 2) := by decide +kernel
theorem dX11_waits_141 : decode cX11_waits 141 = .ok (.ireturn, 1) := by decide +kernel
theorem dX11_waits_142 : decode cX11_waits 142 = .ok (.iinc 4 1, 3) := by decide +kernel
theorem dX11_waits_145 : decode cX11_waits 145 = .ok (.goto (-111), 3) := by decide +kernel
theorem dX11_waits_148 : decode cX11_waits 148 = .ok (.bipush (-9), 2) := by decide +kernel
theorem dX11_waits_150 : decode cX11_waits 150 = .ok (.ireturn, 1) := by decide +kernel
theorem dX11_draw_0 : decode cX11_draw 0 = .ok (.aload_n 0, 1) := by decide +kernel
theorem dX11_draw_1 : decode cX11_draw 1 = .ok (.aload_n 0, 1) := by decide +kernel
theorem dX11_draw_2 : decode cX11_draw 2 = .ok (.getfield 244, 3) := by decide +kernel
theorem dX11_draw_5 : decode cX11_draw 5 = .ok (.ldc 247, 2) := by decide +kernel
theorem dX11_draw_7 : decode cX11_draw 7 = .ok (.imul, 1) := by decide +kernel
theorem dX11_draw_8 : decode cX11_draw 8 = .ok (.ldc 248, 2) := by decide +kernel
theorem dX11_draw_10 : decode cX11_draw 10 = .ok (.iadd, 1) := by decide +kernel
theorem dX11_draw_11 : decode cX11_draw 11 = .ok (.putfield 244, 3) := by decide +kernel
theorem dX11_draw_14 : decode cX11_draw 14 = .ok (.aload_n 0, 1) := by decide +kernel
theorem dX11_draw_15 : decode cX11_draw 15 = .ok (.getfield 244, 3) := by decide +kernel
theorem dX11_draw_18 : decode cX11_draw 18 = .ok (.ldc 249, 2) := by decide +kernel
theorem dX11_draw_20 : decode cX11_draw 20 = .ok (.iand, 1) := by decide +kernel
theorem dX11_draw_21 : decode cX11_draw 21 = .ok (.sipush 256, 3) := by decide +kernel
theorem dX11_draw_24 : decode cX11_draw 24 = .ok (.idiv, 1) := by decide +kernel
theorem dX11_draw_25 : decode cX11_draw 25 = .ok (.iload_n 1, 1) := by decide +kernel
theorem dX11_draw_26 : decode cX11_draw 26 = .ok (.irem, 1) := by decide +kernel
theorem dX11_draw_27 : decode cX11_draw 27 = .ok (.ireturn, 1) := by decide +kernel
set_option maxRecDepth 20000 in
theorem ggX11_goesLot_X11_draw : GoodIn wsX11_goesLot wsX11_draw := goodIn_r _ [7, 8, 9, 10, 11, 95, 96, 97, 98, 99, 100, 101, 102, 103, 104, 105, 106, 107, 108, 109, 110, 111, 112, 113, 114, 115, 116, 117, 118, 119, 120, 121, 122] (by decide +kernel) (by decide +kernel)
set_option maxRecDepth 20000 in
theorem gX11_goesLot_X11_draw : GoodIn wsX11_goesLot (wsV RX11 250 RX11 yX11_draw wsX11_draw) := goodIn_app (goodIn_of _ (by decide +kernel)) ggX11_goesLot_X11_draw
set_option maxRecDepth 20000 in
theorem ggX11_goesLot_X11_canThrow : GoodIn wsX11_goesLot wsX11_canThrow := goodIn_r _ [15, 2, 16, 17, 18, 6, 19, 20, 21, 22, 23, 24, 25, 26, 27, 28, 29, 1, 95, 96, 97, 98, 99, 100, 101, 102, 103, 104, 105, 106, 107, 108, 109, 110, 111, 112, 113, 114, 115, 116, 117, 118, 119, 120, 121, 122] (by decide +kernel) (by decide +kernel)
set_option maxRecDepth 20000 in
theorem gX11_goesLot_X11_canThrow : GoodIn wsX11_goesLot (wsV RX11 202 RX11 yX11_canThrow wsX11_canThrow) := goodIn_app (goodIn_of _ (by decide +kernel)) ggX11_goesLot_X11_canThrow
set_option maxRecDepth 20000 in
theorem ggX11_goesLot_X11_hitOf : GoodIn wsX11_goesLot wsX11_hitOf := goodIn_r _ [33, 34, 35, 36, 6, 37, 38, 39, 40, 41, 42, 43, 44, 45, 46, 47, 48, 49, 50, 51, 52, 2, 95, 96, 97, 98, 99, 100, 101, 102, 103, 104, 105, 106, 107, 108, 109, 110, 111, 112, 113, 114, 115, 116, 117, 118, 119, 120, 121, 122] (by decide +kernel) (by decide +kernel)
set_option maxRecDepth 20000 in
theorem gX11_goesLot_X11_hitOf : GoodIn wsX11_goesLot (wsV RX11 189 RX11 yX11_hitOf wsX11_hitOf) := goodIn_app (goodIn_of _ (by decide +kernel)) ggX11_goesLot_X11_hitOf
set_option maxRecDepth 20000 in
theorem ggX11_goesLot_X11_caughtOf : GoodIn wsX11_goesLot wsX11_caughtOf := goodIn_r _ [56, 57, 58, 59, 6, 60, 39, 48, 38, 25, 20, 61, 62, 63, 64, 1, 41, 42, 43, 95, 96, 97, 98, 99, 100, 101, 102, 103, 104, 105, 106, 107, 108, 109, 110, 111, 112, 113, 114, 115, 116, 117, 118, 119, 120, 121, 122] (by decide +kernel) (by decide +kernel)
set_option maxRecDepth 20000 in
theorem gX11_goesLot_X11_caughtOf : GoodIn wsX11_goesLot (wsV RX11 192 RX11 yX11_caughtOf wsX11_caughtOf) := goodIn_app (goodIn_of _ (by decide +kernel)) ggX11_goesLot_X11_caughtOf
set_option maxRecDepth 20000 in
theorem ggX11_goesLot_X11_finishes : GoodIn wsX11_goesLot wsX11_finishes := goodIn_r _ [68, 2, 20, 25, 69, 70, 71, 6, 72, 73, 74, 75, 76, 77, 78, 79, 80, 81, 82, 83, 1, 49, 50, 51, 52, 84, 85, 86, 87, 88, 89, 90, 91, 92, 93, 94, 40, 95, 96, 97, 98, 99, 100, 101, 102, 103, 104, 105, 106, 107, 108, 109, 110, 111, 112, 113, 114, 115, 116, 117, 118, 119, 120, 121, 122] (by decide +kernel) (by decide +kernel)
set_option maxRecDepth 20000 in
theorem gX11_goesLot_X11_finishes : GoodIn wsX11_goesLot (wsV RX11 205 RX11 yX11_finishes wsX11_finishes) := goodIn_app (goodIn_of _ (by decide +kernel)) ggX11_goesLot_X11_finishes
theorem dX11_goesLot_0 : decode cX11_goesLot 0 = .ok (.aload_n 0, 1) := by decide +kernel
theorem dX11_goesLot_1 : decode cX11_goesLot 1 = .ok (.bipush 6, 2) := by decide +kernel
theorem dX11_goesLot_3 : decode cX11_goesLot 3 = .ok (.invokevirtual 250, 3) := by decide +kernel
theorem dX11_goesLot_6 : decode cX11_goesLot 6 = .ok (.istore_n 1, 1) := by decide +kernel
theorem dX11_goesLot_7 : decode cX11_goesLot 7 = .ok (.aload_n 0, 1) := by decide +kernel
theorem dX11_goesLot_8 : decode cX11_goesLot 8 = .ok (.aload_n 0, 1) := by decide +kernel
theorem dX11_goesLot_9 : decode cX11_goesLot 9 = .ok (.getfield 65, 3) := by decide +kernel
theorem dX11_goesLot_12 : decode cX11_goesLot 12 = .ok (.invokevirtual 250, 3) := by decide +kernel
theorem dX11_goesLot_15 : decode cX11_goesLot 15 = .ok (.istore_n 2, 1) := by decide +kernel
theorem dX11_goesLot_16 : decode cX11_goesLot 16 = .ok (.aload_n 0, 1) := by decide +kernel
theorem dX11_goesLot_17 : decode cX11_goesLot 17 = .ok (.iconst 3, 1) := by decide +kernel
theorem dX11_goesLot_18 : decode cX11_goesLot 18 = .ok (.invokevirtual 250, 3) := by decide +kernel
theorem dX11_goesLot_21 : decode cX11_goesLot 21 = .ok (.istore_n 3, 1) := by decide +kernel
theorem dX11_goesLot_22 : decode cX11_goesLot 22 = .ok (.aload_n 0, 1) := by decide +kernel
theorem dX11_goesLot_23 : decode cX11_goesLot 23 = .ok (.iload_n 1, 1) := by decide +kernel
theorem dX11_goesLot_24 : decode cX11_goesLot 24 = .ok (.iload_n 2, 1) := by decide +kernel
theorem dX11_goesLot_25 : decode cX11_goesLot 25 = .ok (.invokevirtual 202, 3) := by decide +kernel
theorem dX11_goesLot_28 : decode cX11_goesLot 28 = .ok (.ifCond .ne 4, 3) := by decide +kernel
theorem dX11_goesLot_31 : decode cX11_goesLot 31 = .ok (.return_, 1) := by decide +kernel
theorem dX11_goesLot_32 : decode cX11_goesLot 32 = .ok (.aload_n 0, 1) := by decide +kernel
theorem dX11_goesLot_33 : decode cX11_goesLot 33 = .ok (.aload_n 0, 1) := by decide +kernel
theorem dX11_goesLot_34 : decode cX11_goesLot 34 = .ok (.getfield 28, 3) := by decide +kernel
theorem dX11_goesLot_37 : decode cX11_goesLot 37 = .ok (.iload_n 1, 1) := by decide +kernel
theorem dX11_goesLot_38 : decode cX11_goesLot 38 = .ok (.iaload, 1) := by decide +kernel
theorem dX11_goesLot_39 : decode cX11_goesLot 39 = .ok (.iload_n 2, 1) := by decide +kernel
theorem dX11_goesLot_40 : decode cX11_goesLot 40 = .ok (.iload_n 3, 1) := by decide +kernel
theorem dX11_goesLot_41 : decode cX11_goesLot 41 = .ok (.invokevirtual 189, 3) := by decide +kernel
theorem dX11_goesLot_44 : decode cX11_goesLot 44 = .ok (.istore 4, 2) := by decide +kernel
theorem dX11_goesLot_46 : decode cX11_goesLot 46 = .ok (.aload_n 0, 1) := by decide +kernel
theorem dX11_goesLot_47 : decode cX11_goesLot 47 = .ok (.iload_n 2, 1) := by decide +kernel
theorem dX11_goesLot_48 : decode cX11_goesLot 48 = .ok (.iload_n 3, 1) := by decide +kernel
theorem dX11_goesLot_49 : decode cX11_goesLot 49 = .ok (.invokevirtual 192, 3) := by decide +kernel
theorem dX11_goesLot_52 : decode cX11_goesLot 52 = .ok (.istore 5, 2) := by decide +kernel
theorem dX11_goesLot_54 : decode cX11_goesLot 54 = .ok (.aload_n 0, 1) := by decide +kernel
theorem dX11_goesLot_55 : decode cX11_goesLot 55 = .ok (.bipush 40, 2) := by decide +kernel
theorem dX11_goesLot_57 : decode cX11_goesLot 57 = .ok (.invokevirtual 250, 3) := by decide +kernel
theorem dX11_goesLot_60 : decode cX11_goesLot 60 = .ok (.istore 6, 2) := by decide +kernel
theorem dX11_goesLot_62 : decode cX11_goesLot 62 = .ok (.aload_n 0, 1) := by decide +kernel
theorem dX11_goesLot_63 : decode cX11_goesLot 63 = .ok (.iload_n 1, 1) := by decide +kernel
theorem dX11_goesLot_64 : decode cX11_goesLot 64 = .ok (.iload_n 2, 1) := by decide +kernel
theorem dX11_goesLot_65 : decode cX11_goesLot 65 = .ok (.iload 6, 2) := by decide +kernel
theorem dX11_goesLot_67 : decode cX11_goesLot 67 = .ok (.iload 4, 2) := by decide +kernel
theorem dX11_goesLot_69 : decode cX11_goesLot 69 = .ok (.if_icmp .ge 7, 3) := by decide +kernel
theorem dX11_goesLot_72 : decode cX11_goesLot 72 = .ok (.iconst 0, 1) := by decide +kernel
theorem dX11_goesLot_73 : decode cX11_goesLot 73 = .ok (.goto 18, 3) := by decide +kernel
theorem dX11_goesLot_76 : decode cX11_goesLot 76 = .ok (.iload 6, 2) := by decide +kernel
theorem dX11_goesLot_78 : decode cX11_goesLot 78 = .ok (.iload 4, 2) := by decide +kernel
theorem dX11_goesLot_80 : decode cX11_goesLot 80 = .ok (.iload 5, 2) := by decide +kernel
theorem dX11_goesLot_82 : decode cX11_goesLot 82 = .ok (.iadd, 1) := by decide +kernel
theorem dX11_goesLot_83 : decode cX11_goesLot 83 = .ok (.if_icmp .ge 7, 3) := by decide +kernel
theorem dX11_goesLot_86 : decode cX11_goesLot 86 = .ok (.iconst 1, 1) := by decide +kernel
theorem dX11_goesLot_87 : decode cX11_goesLot 87 = .ok (.goto 4, 3) := by decide +kernel
theorem dX11_goesLot_90 : decode cX11_goesLot 90 = .ok (.iconst 2, 1) := by decide +kernel
theorem dX11_goesLot_91 : decode cX11_goesLot 91 = .ok (.invokevirtual 205, 3) := by decide +kernel
theorem dX11_goesLot_94 : decode cX11_goesLot 94 = .ok (.return_, 1) := by decide +kernel
set_option maxRecDepth 20000 in
theorem ggX11_lots_X11_bound : GoodIn wsX11_lots wsX11_bound := goodIn_r _ [6] (by decide +kernel) (by decide +kernel)
set_option maxRecDepth 20000 in
theorem gX11_lots_X11_bound : GoodIn wsX11_lots (va_wsS RX11 73 yX11_bound wsX11_bound) := goodIn_app (goodIn_of _ (by decide +kernel)) ggX11_lots_X11_bound
set_option maxRecDepth 20000 in
theorem ggX11_lots_X11_no : GoodIn wsX11_lots wsX11_no := goodIn_r _ [10, 11, 126, 127, 128, 129, 130, 131, 132, 133, 134, 135, 136, 137, 138, 139, 140, 141, 142, 143, 144, 145, 146, 147, 148, 149, 150, 151, 152, 153] (by decide +kernel) (by decide +kernel)
set_option maxRecDepth 20000 in
theorem gX11_lots_X11_no : GoodIn wsX11_lots (wsV RX11 80 RX11 yX11_no wsX11_no) := goodIn_app (goodIn_of _ (by decide +kernel)) ggX11_lots_X11_no
set_option maxRecDepth 20000 in
theorem ggX11_lots_X11_passesAll : GoodIn wsX11_lots wsX11_passesAll := goodIn_r _ [15, 16, 17, 18, 19, 20, 21, 22, 23, 24, 25, 1, 26, 27, 28, 29, 30, 5, 31, 32, 33, 34, 35, 36, 126, 127, 128, 129, 130, 131, 132, 133, 134, 135, 136, 137, 138, 139, 140, 141, 142, 143, 144, 145, 146, 147, 148, 149, 150, 151, 152, 153] (by decide +kernel) (by decide +kernel)
set_option maxRecDepth 20000 in
theorem gX11_lots_X11_passesAll : GoodIn wsX11_lots (wsV RX11 144 RX11 yX11_passesAll wsX11_passesAll) := goodIn_app (goodIn_of _ (by decide +kernel)) ggX11_lots_X11_passesAll
set_option maxRecDepth 20000 in
theorem ggX11_lots_X11_goesLot : GoodIn wsX11_lots wsX11_goesLot := goodIn_r _ [40, 1, 23, 41, 42, 43, 5, 44, 2, 45, 46, 47, 48, 49, 50, 51, 52, 53, 54, 55, 18, 56, 57, 58, 59, 22, 60, 61, 62, 63, 64, 65, 66, 67, 68, 69, 70, 71, 19, 20, 26, 72, 73, 74, 75, 76, 77, 78, 21, 79, 80, 81, 82, 83, 84, 85, 86, 87, 88, 89, 90, 91, 92, 93, 94, 95, 96, 97, 98, 99, 100, 101, 102, 24, 25, 103, 104, 105, 106, 27, 107, 108, 109, 110, 111, 112, 113, 114, 115, 116, 117, 118, 119, 120, 121, 126, 127, 128, 129, 130, 131, 132, 133, 134, 135, 136, 137, 138, 139, 140, 141, 142, 143, 144, 145, 146, 147, 148, 149, 150, 151, 152, 153] (by decide +kernel) (by decide +kernel)
set_option maxRecDepth 20000 in
theorem gX11_lots_X11_goesLot : GoodIn wsX11_lots (wsV RX11 253 RX11 yX11_goesLot wsX11_goesLot) := goodIn_app (goodIn_of _ (by decide +kernel)) ggX11_lots_X11_goesLot
set_option maxRecDepth 20000 in
theorem ggX11_lots_X11_hereBits : GoodIn wsX11_lots wsX11_hereBits := goodIn_r _ [125, 1, 22, 126, 127, 128, 129, 130, 131, 132, 133, 134, 135, 136, 137, 138, 139, 140, 141, 142, 143, 144, 145, 146, 147, 148, 149, 150, 151, 152, 153] (by decide +kernel) (by decide +kernel)
set_option maxRecDepth 20000 in
theorem gX11_lots_X11_hereBits : GoodIn wsX11_lots (wsV RX11 241 RX11 yX11_hereBits wsX11_hereBits) := goodIn_app (goodIn_of _ (by decide +kernel)) ggX11_lots_X11_hereBits
theorem dX11_lots_0 : decode cX11_lots 0 = .ok (.iload_n 1, 1) := by decide +kernel
theorem dX11_lots_1 : decode cX11_lots 1 = .ok (.iconst 1, 1) := by decide +kernel
theorem dX11_lots_2 : decode cX11_lots 2 = .ok (.bipush 30, 2) := by decide +kernel
theorem dX11_lots_4 : decode cX11_lots 4 = .ok (.invokestatic 73, 3) := by decide +kernel
theorem dX11_lots_7 : decode cX11_lots 7 = .ok (.istore_n 3, 1) := by decide +kernel
theorem dX11_lots_8 : decode cX11_lots 8 = .ok (.iload_n 3, 1) := by decide +kernel
theorem dX11_lots_9 : decode cX11_lots 9 = .ok (.ifCond .ne 13, 3) := by decide +kernel
theorem dX11_lots_12 : decode cX11_lots 12 = .ok (.aload_n 0, 1) := by decide +kernel
theorem dX11_lots_13 : decode cX11_lots 13 = .ok (.getfield 65, 3) := by decide +kernel
theorem dX11_lots_16 : decode cX11_lots 16 = .ok (.ifCond .ne 6, 3) := by decide +kernel
theorem dX11_lots_19 : decode cX11_lots 19 = .ok (.bipush (-3), 2) := by decide +kernel
theorem dX11_lots_21 : decode cX11_lots 21 = .ok (.istore_n 3, 1) := by decide +kernel
theorem dX11_lots_22 : decode cX11_lots 22 = .ok (.iload_n 3, 1) := by decide +kernel
theorem dX11_lots_23 : decode cX11_lots 23 = .ok (.ifCond .eq 9, 3) := by decide +kernel
theorem dX11_lots_26 : decode cX11_lots 26 = .ok (.aload_n 0, 1) := by decide +kernel
theorem dX11_lots_27 : decode cX11_lots 27 = .ok (.iload_n 3, 1) := by decide +kernel
theorem dX11_lots_28 : decode cX11_lots 28 = .ok (.invokevirtual 80, 3) := by decide +kernel
theorem dX11_lots_31 : decode cX11_lots 31 = .ok (.ireturn, 1) := by decide +kernel
theorem dX11_lots_32 : decode cX11_lots 32 = .ok (.aload_n 0, 1) := by decide +kernel
theorem dX11_lots_33 : decode cX11_lots 33 = .ok (.iconst 1, 1) := by decide +kernel
theorem dX11_lots_34 : decode cX11_lots 34 = .ok (.iconst 1, 1) := by decide +kernel
theorem dX11_lots_35 : decode cX11_lots 35 = .ok (.invokevirtual 144, 3) := by decide +kernel
theorem dX11_lots_38 : decode cX11_lots 38 = .ok (.aload_n 0, 1) := by decide +kernel
theorem dX11_lots_39 : decode cX11_lots 39 = .ok (.iload_n 2, 1) := by decide +kernel
theorem dX11_lots_40 : decode cX11_lots 40 = .ok (.putfield 244, 3) := by decide +kernel
theorem dX11_lots_43 : decode cX11_lots 43 = .ok (.iconst 0, 1) := by decide +kernel
theorem dX11_lots_44 : decode cX11_lots 44 = .ok (.istore 4, 2) := by decide +kernel
theorem dX11_lots_46 : decode cX11_lots 46 = .ok (.iload 4, 2) := by decide +kernel
theorem dX11_lots_48 : decode cX11_lots 48 = .ok (.iload_n 1, 1) := by decide +kernel
theorem dX11_lots_49 : decode cX11_lots 49 = .ok (.if_icmp .ge 13, 3) := by decide +kernel
theorem dX11_lots_52 : decode cX11_lots 52 = .ok (.aload_n 0, 1) := by decide +kernel
theorem dX11_lots_53 : decode cX11_lots 53 = .ok (.invokevirtual 253, 3) := by decide +kernel
theorem dX11_lots_56 : decode cX11_lots 56 = .ok (.iinc 4 1, 3) := by decide +kernel
theorem dX11_lots_59 : decode cX11_lots 59 = .ok (.goto (-13), 3) := by decide +kernel
theorem dX11_lots_62 : decode cX11_lots 62 = .ok (.aload_n 0, 1) := by decide +kernel
theorem dX11_lots_63 : decode cX11_lots 63 = .ok (.invokevirtual 241, 3) := by decide +kernel
theorem dX11_lots_66 : decode cX11_lots 66 = .ok (.istore 4, 2) := by decide +kernel
theorem dX11_lots_68 : decode cX11_lots 68 = .ok (.aload_n 0, 1) := by decide +kernel
theorem dX11_lots_69 : decode cX11_lots 69 = .ok (.iconst 1, 1) := by decide +kernel
theorem dX11_lots_70 : decode cX11_lots 70 = .ok (.iconst 0, 1) := by decide +kernel
theorem dX11_lots_71 : decode cX11_lots 71 = .ok (.invokevirtual 144, 3) := by decide +kernel
theorem dX11_lots_74 : decode cX11_lots 74 = .ok (.iload 4, 2) := by decide +kernel
theorem dX11_lots_76 : decode cX11_lots 76 = .ok (.ireturn, 1) := by decide +kernel
theorem dX11_lying_0 : decode cX11_lying 0 = .ok (.iconst 0, 1) := by decide +kernel
theorem dX11_lying_1 : decode cX11_lying 1 = .ok (.istore_n 2, 1) := by decide +kernel
theorem dX11_lying_2 : decode cX11_lying 2 = .ok (.iconst 0, 1) := by decide +kernel
theorem dX11_lying_3 : decode cX11_lying 3 = .ok (.istore_n 3, 1) := by decide +kernel
theorem dX11_lying_4 : decode cX11_lying 4 = .ok (.iload_n 3, 1) := by decide +kernel
theorem dX11_lying_5 : decode cX11_lying 5 = .ok (.bipush 6, 2) := by decide +kernel
theorem dX11_lying_7 : decode cX11_lying 7 = .ok (.if_icmp .ge 27, 3) := by decide +kernel
theorem dX11_lying_10 : decode cX11_lying 10 = .ok (.iload_n 2, 1) := by decide +kernel
theorem dX11_lying_11 : decode cX11_lying 11 = .ok (.aload_n 0, 1) := by decide +kernel
theorem dX11_lying_12 : decode cX11_lying 12 = .ok (.getfield 31, 3) := by decide +kernel
theorem dX11_lying_15 : decode cX11_lying 15 = .ok (.iload_n 3, 1) := by decide +kernel
theorem dX11_lying_16 : decode cX11_lying 16 = .ok (.iaload, 1) := by decide +kernel
theorem dX11_lying_17 : decode cX11_lying 17 = .ok (.iload_n 1, 1) := by decide +kernel
theorem dX11_lying_18 : decode cX11_lying 18 = .ok (.if_icmp .ne 7, 3) := by decide +kernel
theorem dX11_lying_21 : decode cX11_lying 21 = .ok (.iconst 1, 1) := by decide +kernel
theorem dX11_lying_22 : decode cX11_lying 22 = .ok (.goto 4, 3) := by decide +kernel
theorem dX11_lying_25 : decode cX11_lying 25 = .ok (.iconst 0, 1) := by decide +kernel
theorem dX11_lying_26 : decode cX11_lying 26 = .ok (.iadd, 1) := by decide +kernel
theorem dX11_lying_27 : decode cX11_lying 27 = .ok (.istore_n 2, 1) := by decide +kernel
theorem dX11_lying_28 : decode cX11_lying 28 = .ok (.iinc 3 1, 3) := by decide +kernel
theorem dX11_lying_31 : decode cX11_lying 31 = .ok (.goto (-27), 3) := by decide +kernel
theorem dX11_lying_34 : decode cX11_lying 34 = .ok (.iload_n 2, 1) := by decide +kernel
theorem dX11_lying_35 : decode cX11_lying 35 = .ok (.ireturn, 1) := by decide +kernel
set_option maxRecDepth 20000 in
theorem ggX11_count_X11_isIn : GoodIn wsX11_count wsX11_isIn := goodIn_r _ [9] (by decide +kernel) (by decide +kernel)
set_option maxRecDepth 20000 in
theorem gX11_count_X11_isIn : GoodIn wsX11_count (va_wsS RX11 91 yX11_isIn wsX11_isIn) := goodIn_app (goodIn_of _ (by decide +kernel)) ggX11_count_X11_isIn
set_option maxRecDepth 20000 in
theorem ggX11_count_X11_hereOf : GoodIn wsX11_count wsX11_hereOf := goodIn_r _ [13, 2, 14, 15, 21, 22, 23, 24, 25, 26, 27, 28, 29, 30, 31, 32, 33, 34, 35, 36, 37, 38, 39, 40, 41, 42, 43, 44, 45, 46, 47, 48] (by decide +kernel) (by decide +kernel)
set_option maxRecDepth 20000 in
theorem gX11_count_X11_hereOf : GoodIn wsX11_count (wsV RX11 174 RX11 yX11_hereOf wsX11_hereOf) := goodIn_app (goodIn_of _ (by decide +kernel)) ggX11_count_X11_hereOf
set_option maxRecDepth 20000 in
theorem ggX11_count_X11_lying : GoodIn wsX11_count wsX11_lying := goodIn_r _ [19, 20, 21, 22, 23, 24, 25, 26, 27, 28, 29, 30, 31, 32, 33, 34, 35, 36, 37, 38, 39, 40, 41, 42, 43, 44, 45, 46, 47, 48] (by decide +kernel) (by decide +kernel)
set_option maxRecDepth 20000 in
theorem gX11_count_X11_lying : GoodIn wsX11_count (wsV RX11 256 RX11 yX11_lying wsX11_lying) := goodIn_app (goodIn_of _ (by decide +kernel)) ggX11_count_X11_lying
theorem dX11_count_0 : decode cX11_count 0 = .ok (.iload_n 1, 1) := by decide +kernel
theorem dX11_count_1 : decode cX11_count 1 = .ok (.bipush 11, 2) := by decide +kernel
theorem dX11_count_3 : decode cX11_count 3 = .ok (.bipush 16, 2) := by decide +kernel
theorem dX11_count_5 : decode cX11_count 5 = .ok (.invokestatic 91, 3) := by decide +kernel
theorem dX11_count_8 : decode cX11_count 8 = .ok (.ifCond .eq 13, 3) := by decide +kernel
theorem dX11_count_11 : decode cX11_count 11 = .ok (.aload_n 0, 1) := by decide +kernel
theorem dX11_count_12 : decode cX11_count 12 = .ok (.getfield 7, 3) := by decide +kernel
theorem dX11_count_15 : decode cX11_count 15 = .ok (.iload_n 1, 1) := by decide +kernel
theorem dX11_count_16 : decode cX11_count 16 = .ok (.bipush 10, 2) := by decide +kernel
theorem dX11_count_18 : decode cX11_count 18 = .ok (.isub, 1) := by decide +kernel
theorem dX11_count_19 : decode cX11_count 19 = .ok (.iaload, 1) := by decide +kernel
theorem dX11_count_20 : decode cX11_count 20 = .ok (.ireturn, 1) := by decide +kernel
theorem dX11_count_21 : decode cX11_count 21 = .ok (.iload_n 1, 1) := by decide +kernel
theorem dX11_count_22 : decode cX11_count 22 = .ok (.tableswitch 82 0 7 #[46, 51, 51, 59, 64, 64, 72, 77], 46) := by decide +kernel
theorem dX11_count_68 : decode cX11_count 68 = .ok (.aload_n 0, 1) := by decide +kernel
theorem dX11_count_69 : decode cX11_count 69 = .ok (.getfield 65, 3) := by decide +kernel
theorem dX11_count_72 : decode cX11_count 72 = .ok (.ireturn, 1) := by decide +kernel
theorem dX11_count_73 : decode cX11_count 73 = .ok (.aload_n 0, 1) := by decide +kernel
theorem dX11_count_74 : decode cX11_count 74 = .ok (.iload_n 1, 1) := by decide +kernel
theorem dX11_count_75 : decode cX11_count 75 = .ok (.iconst 1, 1) := by decide +kernel
theorem dX11_count_76 : decode cX11_count 76 = .ok (.isub, 1) := by decide +kernel
theorem dX11_count_77 : decode cX11_count 77 = .ok (.invokevirtual 174, 3) := by decide +kernel
theorem dX11_count_80 : decode cX11_count 80 = .ok (.ireturn, 1) := by decide +kernel
theorem dX11_count_81 : decode cX11_count 81 = .ok (.aload_n 0, 1) := by decide +kernel
theorem dX11_count_82 : decode cX11_count 82 = .ok (.getfield 165, 3) := by decide +kernel
theorem dX11_count_85 : decode cX11_count 85 = .ok (.ireturn, 1) := by decide +kernel
theorem dX11_count_86 : decode cX11_count 86 = .ok (.aload_n 0, 1) := by decide +kernel
theorem dX11_count_87 : decode cX11_count 87 = .ok (.iload_n 1, 1) := by decide +kernel
theorem dX11_count_88 : decode cX11_count 88 = .ok (.iconst 4, 1) := by decide +kernel
theorem dX11_count_89 : decode cX11_count 89 = .ok (.isub, 1) := by decide +kernel
theorem dX11_count_90 : decode cX11_count 90 = .ok (.invokevirtual 256, 3) := by decide +kernel
theorem dX11_count_93 : decode cX11_count 93 = .ok (.ireturn, 1) := by decide +kernel
theorem dX11_count_94 : decode cX11_count 94 = .ok (.aload_n 0, 1) := by decide +kernel
theorem dX11_count_95 : decode cX11_count 95 = .ok (.getfield 235, 3) := by decide +kernel
theorem dX11_count_98 : decode cX11_count 98 = .ok (.ireturn, 1) := by decide +kernel
theorem dX11_count_99 : decode cX11_count 99 = .ok (.aload_n 0, 1) := by decide +kernel
theorem dX11_count_100 : decode cX11_count 100 = .ok (.getfield 77, 3) := by decide +kernel
theorem dX11_count_103 : decode cX11_count 103 = .ok (.ireturn, 1) := by decide +kernel
theorem dX11_count_104 : decode cX11_count 104 = .ok (.bipush (-9), 2) := by decide +kernel
theorem dX11_count_106 : decode cX11_count 106 = .ok (.ireturn, 1) := by decide +kernel
theorem dJ11_isValidCodePoint_9a6ad_0 : decode cJ11_isValidCodePoint_9a6ad 0 = .ok (.iload_n 0, 1) := by decide +kernel
theorem dJ11_isValidCodePoint_9a6ad_1 : decode cJ11_isValidCodePoint_9a6ad 1 = .ok (.bipush 16, 2) := by decide +kernel
theorem dJ11_isValidCodePoint_9a6ad_3 : decode cJ11_isValidCodePoint_9a6ad 3 = .ok (.iushr, 1) := by decide +kernel
theorem dJ11_isValidCodePoint_9a6ad_4 : decode cJ11_isValidCodePoint_9a6ad 4 = .ok (.istore_n 1, 1) := by decide +kernel
theorem dJ11_isValidCodePoint_9a6ad_5 : decode cJ11_isValidCodePoint_9a6ad 5 = .ok (.iload_n 1, 1) := by decide +kernel
theorem dJ11_isValidCodePoint_9a6ad_6 : decode cJ11_isValidCodePoint_9a6ad 6 = .ok (.bipush 17, 2) := by decide +kernel
theorem dJ11_isValidCodePoint_9a6ad_8 : decode cJ11_isValidCodePoint_9a6ad 8 = .ok (.if_icmp .ge 7, 3) := by decide +kernel
theorem dJ11_isValidCodePoint_9a6ad_11 : decode cJ11_isValidCodePoint_9a6ad 11 = .ok (.iconst 1, 1) := by decide +kernel
theorem dJ11_isValidCodePoint_9a6ad_12 : decode cJ11_isValidCodePoint_9a6ad 12 = .ok (.goto 4, 3) := by decide +kernel
theorem dJ11_isValidCodePoint_9a6ad_15 : decode cJ11_isValidCodePoint_9a6ad 15 = .ok (.iconst 0, 1) := by decide +kernel
theorem dJ11_isValidCodePoint_9a6ad_16 : decode cJ11_isValidCodePoint_9a6ad 16 = .ok (.ireturn, 1) := by decide +kernel
theorem dJ11_highSurrogate_5068e_0 : decode cJ11_highSurrogate_5068e 0 = .ok (.iload_n 0, 1) := by decide +kernel
theorem dJ11_highSurrogate_5068e_1 : decode cJ11_highSurrogate_5068e 1 = .ok (.bipush 10, 2) := by decide +kernel
theorem dJ11_highSurrogate_5068e_3 : decode cJ11_highSurrogate_5068e 3 = .ok (.iushr, 1) := by decide +kernel
theorem dJ11_highSurrogate_5068e_4 : decode cJ11_highSurrogate_5068e 4 = .ok (.ldc 110, 2) := by decide +kernel
theorem dJ11_highSurrogate_5068e_6 : decode cJ11_highSurrogate_5068e 6 = .ok (.iadd, 1) := by decide +kernel
theorem dJ11_highSurrogate_5068e_7 : decode cJ11_highSurrogate_5068e 7 = .ok (.i2c, 1) := by decide +kernel
theorem dJ11_highSurrogate_5068e_8 : decode cJ11_highSurrogate_5068e 8 = .ok (.ireturn, 1) := by decide +kernel
theorem dJ11_lowSurrogate_5068e_0 : decode cJ11_lowSurrogate_5068e 0 = .ok (.iload_n 0, 1) := by decide +kernel
theorem dJ11_lowSurrogate_5068e_1 : decode cJ11_lowSurrogate_5068e 1 = .ok (.sipush 1023, 3) := by decide +kernel
theorem dJ11_lowSurrogate_5068e_4 : decode cJ11_lowSurrogate_5068e 4 = .ok (.iand, 1) := by decide +kernel
theorem dJ11_lowSurrogate_5068e_5 : decode cJ11_lowSurrogate_5068e 5 = .ok (.ldc 76, 2) := by decide +kernel
theorem dJ11_lowSurrogate_5068e_7 : decode cJ11_lowSurrogate_5068e 7 = .ok (.iadd, 1) := by decide +kernel
theorem dJ11_lowSurrogate_5068e_8 : decode cJ11_lowSurrogate_5068e 8 = .ok (.i2c, 1) := by decide +kernel
theorem dJ11_lowSurrogate_5068e_9 : decode cJ11_lowSurrogate_5068e 9 = .ok (.ireturn, 1) := by decide +kernel
theorem dJ6_bitCount_0f7a4_0 : decode cJ6_bitCount_0f7a4 0 = .ok (.iload_n 0, 1) := by decide +kernel
theorem dJ6_bitCount_0f7a4_1 : decode cJ6_bitCount_0f7a4 1 = .ok (.iload_n 0, 1) := by decide +kernel
theorem dJ6_bitCount_0f7a4_2 : decode cJ6_bitCount_0f7a4 2 = .ok (.iconst 1, 1) := by decide +kernel
theorem dJ6_bitCount_0f7a4_3 : decode cJ6_bitCount_0f7a4 3 = .ok (.iushr, 1) := by decide +kernel
theorem dJ6_bitCount_0f7a4_4 : decode cJ6_bitCount_0f7a4 4 = .ok (.ldc_w 265, 3) := by decide +kernel
theorem dJ6_bitCount_0f7a4_7 : decode cJ6_bitCount_0f7a4 7 = .ok (.iand, 1) := by decide +kernel
theorem dJ6_bitCount_0f7a4_8 : decode cJ6_bitCount_0f7a4 8 = .ok (.isub, 1) := by decide +kernel
theorem dJ6_bitCount_0f7a4_9 : decode cJ6_bitCount_0f7a4 9 = .ok (.istore_n 0, 1) := by decide +kernel
theorem dJ6_bitCount_0f7a4_10 : decode cJ6_bitCount_0f7a4 10 = .ok (.iload_n 0, 1) := by decide +kernel
theorem dJ6_bitCount_0f7a4_11 : decode cJ6_bitCount_0f7a4 11 = .ok (.ldc_w 266, 3) := by decide +kernel
theorem dJ6_bitCount_0f7a4_14 : decode cJ6_bitCount_0f7a4 14 = .ok (.iand, 1) := by decide +kernel
theorem dJ6_bitCount_0f7a4_15 : decode cJ6_bitCount_0f7a4 15 = .ok (.iload_n 0, 1) := by decide +kernel
theorem dJ6_bitCount_0f7a4_16 : decode cJ6_bitCount_0f7a4 16 = .ok (.iconst 2, 1) := by decide +kernel
theorem dJ6_bitCount_0f7a4_17 : decode cJ6_bitCount_0f7a4 17 = .ok (.iushr, 1) := by decide +kernel
theorem dJ6_bitCount_0f7a4_18 : decode cJ6_bitCount_0f7a4 18 = .ok (.ldc_w 266, 3) := by decide +kernel
theorem dJ6_bitCount_0f7a4_21 : decode cJ6_bitCount_0f7a4 21 = .ok (.iand, 1) := by decide +kernel
theorem dJ6_bitCount_0f7a4_22 : decode cJ6_bitCount_0f7a4 22 = .ok (.iadd, 1) := by decide +kernel
theorem dJ6_bitCount_0f7a4_23 : decode cJ6_bitCount_0f7a4 23 = .ok (.istore_n 0, 1) := by decide +kernel
theorem dJ6_bitCount_0f7a4_24 : decode cJ6_bitCount_0f7a4 24 = .ok (.iload_n 0, 1) := by decide +kernel
theorem dJ6_bitCount_0f7a4_25 : decode cJ6_bitCount_0f7a4 25 = .ok (.iload_n 0, 1) := by decide +kernel
theorem dJ6_bitCount_0f7a4_26 : decode cJ6_bitCount_0f7a4 26 = .ok (.iconst 4, 1) := by decide +kernel
theorem dJ6_bitCount_0f7a4_27 : decode cJ6_bitCount_0f7a4 27 = .ok (.iushr, 1) := by decide +kernel
theorem dJ6_bitCount_0f7a4_28 : decode cJ6_bitCount_0f7a4 28 = .ok (.iadd, 1) := by decide +kernel
theorem dJ6_bitCount_0f7a4_29 : decode cJ6_bitCount_0f7a4 29 = .ok (.ldc_w 267, 3) := by decide +kernel
theorem dJ6_bitCount_0f7a4_32 : decode cJ6_bitCount_0f7a4 32 = .ok (.iand, 1) := by decide +kernel
theorem dJ6_bitCount_0f7a4_33 : decode cJ6_bitCount_0f7a4 33 = .ok (.istore_n 0, 1) := by decide +kernel
theorem dJ6_bitCount_0f7a4_34 : decode cJ6_bitCount_0f7a4 34 = .ok (.iload_n 0, 1) := by decide +kernel
theorem dJ6_bitCount_0f7a4_35 : decode cJ6_bitCount_0f7a4 35 = .ok (.iload_n 0, 1) := by decide +kernel
theorem dJ6_bitCount_0f7a4_36 : decode cJ6_bitCount_0f7a4 36 = .ok (.bipush 8, 2) := by decide +kernel
theorem dJ6_bitCount_0f7a4_38 : decode cJ6_bitCount_0f7a4 38 = .ok (.iushr, 1) := by decide +kernel
theorem dJ6_bitCount_0f7a4_39 : decode cJ6_bitCount_0f7a4 39 = .ok (.iadd, 1) := by decide +kernel
theorem dJ6_bitCount_0f7a4_40 : decode cJ6_bitCount_0f7a4 40 = .ok (.istore_n 0, 1) := by decide +kernel
theorem dJ6_bitCount_0f7a4_41 : decode cJ6_bitCount_0f7a4 41 = .ok (.iload_n 0, 1) := by decide +kernel
theorem dJ6_bitCount_0f7a4_42 : decode cJ6_bitCount_0f7a4 42 = .ok (.iload_n 0, 1) := by decide +kernel
theorem dJ6_bitCount_0f7a4_43 : decode cJ6_bitCount_0f7a4 43 = .ok (.bipush 16, 2) := by decide +kernel
theorem dJ6_bitCount_0f7a4_45 : decode cJ6_bitCount_0f7a4 45 = .ok (.iushr, 1) := by decide +kernel
theorem dJ6_bitCount_0f7a4_46 : decode cJ6_bitCount_0f7a4 46 = .ok (.iadd, 1) := by decide +kernel
theorem dJ6_bitCount_0f7a4_47 : decode cJ6_bitCount_0f7a4 47 = .ok (.istore_n 0, 1) := by decide +kernel
theorem dJ6_bitCount_0f7a4_48 : decode cJ6_bitCount_0f7a4 48 = .ok (.iload_n 0, 1) := by decide +kernel
theorem dJ6_bitCount_0f7a4_49 : decode cJ6_bitCount_0f7a4 49 = .ok (.bipush 63, 2) := by decide +kernel
theorem dJ6_bitCount_0f7a4_51 : decode cJ6_bitCount_0f7a4 51 = .ok (.iand, 1) := by decide +kernel
theorem dJ6_bitCount_0f7a4_52 : decode cJ6_bitCount_0f7a4 52 = .ok (.ireturn, 1) := by decide +kernel
theorem dJ9_max_7cf53_0 : decode cJ9_max_7cf53 0 = .ok (.iload_n 0, 1) := by decide +kernel
theorem dJ9_max_7cf53_1 : decode cJ9_max_7cf53 1 = .ok (.iload_n 1, 1) := by decide +kernel
theorem dJ9_max_7cf53_2 : decode cJ9_max_7cf53 2 = .ok (.if_icmp .lt 7, 3) := by decide +kernel
theorem dJ9_max_7cf53_5 : decode cJ9_max_7cf53 5 = .ok (.iload_n 0, 1) := by decide +kernel
theorem dJ9_max_7cf53_6 : decode cJ9_max_7cf53 6 = .ok (.goto 4, 3) := by decide +kernel
theorem dJ9_max_7cf53_9 : decode cJ9_max_7cf53 9 = .ok (.iload_n 1, 1) := by decide +kernel
theorem dJ9_max_7cf53_10 : decode cJ9_max_7cf53 10 = .ok (.ireturn, 1) := by decide +kernel
theorem dJ9_min_7cf53_0 : decode cJ9_min_7cf53 0 = .ok (.iload_n 0, 1) := by decide +kernel
theorem dJ9_min_7cf53_1 : decode cJ9_min_7cf53 1 = .ok (.iload_n 1, 1) := by decide +kernel
theorem dJ9_min_7cf53_2 : decode cJ9_min_7cf53 2 = .ok (.if_icmp .gt 7, 3) := by decide +kernel
theorem dJ9_min_7cf53_5 : decode cJ9_min_7cf53 5 = .ok (.iload_n 0, 1) := by decide +kernel
theorem dJ9_min_7cf53_6 : decode cJ9_min_7cf53 6 = .ok (.goto 4, 3) := by decide +kernel
theorem dJ9_min_7cf53_9 : decode cJ9_min_7cf53 9 = .ok (.iload_n 1, 1) := by decide +kernel
theorem dJ9_min_7cf53_10 : decode cJ9_min_7cf53 10 = .ok (.ireturn, 1) := by decide +kernel
set_option maxRecDepth 20000 in
theorem ggJ0_length_8abf5_J0_coder_7d493 : GoodIn wsJ0_length_8abf5 wsJ0_coder_7d493 := goodIn_r _ [6, 7, 8] (by decide +kernel) (by decide +kernel)
set_option maxRecDepth 20000 in
theorem gJ0_length_8abf5_J0_coder_7d493 : GoodIn wsJ0_length_8abf5 (wsV RJ0 335 RJ0 yJ0_coder_7d493 wsJ0_coder_7d493) := goodIn_app (goodIn_of _ (by decide +kernel)) ggJ0_length_8abf5_J0_coder_7d493
theorem dJ0_length_8abf5_0 : decode cJ0_length_8abf5 0 = .ok (.aload_n 0, 1) := by decide +kernel
theorem dJ0_length_8abf5_1 : decode cJ0_length_8abf5 1 = .ok (.getfield 9, 3) := by decide +kernel
theorem dJ0_length_8abf5_4 : decode cJ0_length_8abf5 4 = .ok (.arraylength, 1) := by decide +kernel
theorem dJ0_length_8abf5_5 : decode cJ0_length_8abf5 5 = .ok (.aload_n 0, 1) := by decide +kernel
theorem dJ0_length_8abf5_6 : decode cJ0_length_8abf5 6 = .ok (.invokevirtual 335, 3) := by decide +kernel
theorem dJ0_length_8abf5_9 : decode cJ0_length_8abf5 9 = .ok (.ishr, 1) := by decide +kernel
theorem dJ0_length_8abf5_10 : decode cJ0_length_8abf5 10 = .ok (.ireturn, 1) := by decide +kernel
theorem dJ0_isEmpty_aae02_0 : decode cJ0_isEmpty_aae02 0 = .ok (.aload_n 0, 1) := by decide +kernel
theorem dJ0_isEmpty_aae02_1 : decode cJ0_isEmpty_aae02 1 = .ok (.getfield 9, 3) := by decide +kernel
theorem dJ0_isEmpty_aae02_4 : decode cJ0_isEmpty_aae02 4 = .ok (.arraylength, 1) := by decide +kernel
theorem dJ0_isEmpty_aae02_5 : decode cJ0_isEmpty_aae02 5 = .ok (.ifCond .ne 7, 3) := by decide +kernel
theorem dJ0_isEmpty_aae02_8 : decode cJ0_isEmpty_aae02 8 = .ok (.iconst 1, 1) := by decide +kernel
theorem dJ0_isEmpty_aae02_9 : decode cJ0_isEmpty_aae02 9 = .ok (.goto 4, 3) := by decide +kernel
theorem dJ0_isEmpty_aae02_12 : decode cJ0_isEmpty_aae02 12 = .ok (.iconst 0, 1) := by decide +kernel
theorem dJ0_isEmpty_aae02_13 : decode cJ0_isEmpty_aae02 13 = .ok (.ireturn, 1) := by decide +kernel
set_option maxRecDepth 20000 in
theorem ggJ0_charAt_5068e_J0_isLatin1_aae02 : GoodIn wsJ0_charAt_5068e wsJ0_isLatin1_aae02 := goodIn_r _ [6, 7, 8] (by decide +kernel) (by decide +kernel)
set_option maxRecDepth 20000 in
theorem gJ0_charAt_5068e_J0_isLatin1_aae02 : GoodIn wsJ0_charAt_5068e (wsV RJ0 492 RJ0 yJ0_isLatin1_aae02 wsJ0_isLatin1_aae02) := goodIn_app (goodIn_of _ (by decide +kernel)) ggJ0_charAt_5068e_J0_isLatin1_aae02
set_option maxRecDepth 20000 in
theorem ggJ0_charAt_5068e_J1_charAt_3b067 : GoodIn wsJ0_charAt_5068e wsJ1_charAt_3b067 := goodIn_r _ [12, 13, 14, 5, 15, 16, 17, 18, 19, 20] (by decide +kernel) (by decide +kernel)
set_option maxRecDepth 20000 in
theorem gJ0_charAt_5068e_J1_charAt_3b067 : GoodIn wsJ0_charAt_5068e (va_wsS RJ0 495 yJ1_charAt_3b067 wsJ1_charAt_3b067) := goodIn_app (goodIn_of _ (by decide +kernel)) ggJ0_charAt_5068e_J1_charAt_3b067
set_option maxRecDepth 20000 in
theorem ggJ0_charAt_5068e_J2_charAt_3b067 : GoodIn wsJ0_charAt_5068e wsJ2_charAt_3b067 := goodIn_r _ [24, 25, 26, 23, 27, 28, 29, 30, 31, 14, 5, 15, 16, 17, 18, 19, 20, 32, 33, 34, 35, 36, 37] (by decide +kernel) (by decide +kernel)
set_option maxRecDepth 20000 in
theorem gJ0_charAt_5068e_J2_charAt_3b067 : GoodIn wsJ0_charAt_5068e (va_wsS RJ0 498 yJ2_charAt_3b067 wsJ2_charAt_3b067) := goodIn_app (goodIn_of _ (by decide +kernel)) ggJ0_charAt_5068e_J2_charAt_3b067
theorem dJ0_charAt_5068e_0 : decode cJ0_charAt_5068e 0 = .ok (.aload_n 0, 1) := by decide +kernel
theorem dJ0_charAt_5068e_1 : decode cJ0_charAt_5068e 1 = .ok (.invokevirtual 492, 3) := by decide +kernel
theorem dJ0_charAt_5068e_4 : decode cJ0_charAt_5068e 4 = .ok (.ifCond .eq 12, 3) := by decide +kernel
theorem dJ0_charAt_5068e_7 : decode cJ0_charAt_5068e 7 = .ok (.aload_n 0, 1) := by decide +kernel
theorem dJ0_charAt_5068e_8 : decode cJ0_charAt_5068e 8 = .ok (.getfield 9, 3) := by decide +kernel
theorem dJ0_charAt_5068e_11 : decode cJ0_charAt_5068e 11 = .ok (.iload_n 1, 1) := by decide +kernel
theorem dJ0_charAt_5068e_12 : decode cJ0_charAt_5068e 12 = .ok (.invokestatic 495, 3) := by decide +kernel
theorem dJ0_charAt_5068e_15 : decode cJ0_charAt_5068e 15 = .ok (.ireturn, 1) := by decide +kernel
theorem dJ0_charAt_5068e_16 : decode cJ0_charAt_5068e 16 = .ok (.aload_n 0, 1) := by decide +kernel
theorem dJ0_charAt_5068e_17 : decode cJ0_charAt_5068e 17 = .ok (.getfield 9, 3) := by decide +kernel
theorem dJ0_charAt_5068e_20 : decode cJ0_charAt_5068e 20 = .ok (.iload_n 1, 1) := by decide +kernel
theorem dJ0_charAt_5068e_21 : decode cJ0_charAt_5068e 21 = .ok (.invokestatic 498, 3) := by decide +kernel
theorem dJ0_charAt_5068e_24 : decode cJ0_charAt_5068e 24 = .ok (.ireturn, 1) := by decide +kernel
set_option maxRecDepth 20000 in
theorem ggJ0_indexOf_0f7a4_J0_indexOf_7cf53 : GoodIn wsJ0_indexOf_0f7a4 wsJ0_indexOf_7cf53 := goodIn_r _ [5, 6, 7, 8, 9, 4, 10, 11, 12, 13, 14, 15, 16, 17, 18, 19, 20, 21, 22, 23, 24, 25, 26, 27, 28, 29, 30, 31, 32, 33, 34, 35, 36, 37, 38, 39, 40, 41, 42, 43, 44, 45, 46, 47, 48, 49, 50, 51, 52, 53, 54, 55, 56, 57, 58, 59, 60, 61, 62, 63, 64, 65, 66, 67, 68, 69, 70, 71, 72, 73, 74, 75, 76, 77, 78, 79, 80, 81, 82, 83, 84, 85] (by decide +kernel) (by decide +kernel)
set_option maxRecDepth 20000 in
theorem gJ0_indexOf_0f7a4_J0_indexOf_7cf53 : GoodIn wsJ0_indexOf_0f7a4 (wsV RJ0 633 RJ0 yJ0_indexOf_7cf53 wsJ0_indexOf_7cf53) := goodIn_app (goodIn_of _ (by decide +kernel)) ggJ0_indexOf_0f7a4_J0_indexOf_7cf53
theorem dJ0_indexOf_0f7a4_0 : decode cJ0_indexOf_0f7a4 0 = .ok (.aload_n 0, 1) := by decide +kernel
theorem dJ0_indexOf_0f7a4_1 : decode cJ0_indexOf_0f7a4 1 = .ok (.iload_n 1, 1) := by decide +kernel
theorem dJ0_indexOf_0f7a4_2 : decode cJ0_indexOf_0f7a4 2 = .ok (.iconst 0, 1) := by decide +kernel
theorem dJ0_indexOf_0f7a4_3 : decode cJ0_indexOf_0f7a4 3 = .ok (.invokevirtual 633, 3) := by decide +kernel
theorem dJ0_indexOf_0f7a4_6 : decode cJ0_indexOf_0f7a4 6 = .ok (.ireturn, 1) := by decide +kernel
set_option maxRecDepth 20000 in
theorem ggJ0_indexOf_7cf53_J0_isLatin1_aae02 : GoodIn wsJ0_indexOf_7cf53 wsJ0_isLatin1_aae02 := goodIn_r _ [6, 7, 8] (by decide +kernel) (by decide +kernel)
set_option maxRecDepth 20000 in
theorem gJ0_indexOf_7cf53_J0_isLatin1_aae02 : GoodIn wsJ0_indexOf_7cf53 (wsV RJ0 492 RJ0 yJ0_isLatin1_aae02 wsJ0_isLatin1_aae02) := goodIn_app (goodIn_of _ (by decide +kernel)) ggJ0_indexOf_7cf53_J0_isLatin1_aae02
set_option maxRecDepth 20000 in
theorem ggJ0_indexOf_7cf53_J0_length_8abf5 : GoodIn wsJ0_indexOf_7cf53 wsJ0_length_8abf5 := goodIn_r _ [12, 1, 13, 14, 15, 5, 16, 7, 8] (by decide +kernel) (by decide +kernel)
set_option maxRecDepth 20000 in
theorem gJ0_indexOf_7cf53_J0_length_8abf5 : GoodIn wsJ0_indexOf_7cf53 (wsV RJ0 505 RJ0 yJ0_length_8abf5 wsJ0_length_8abf5) := goodIn_app (goodIn_of _ (by decide +kernel)) ggJ0_indexOf_7cf53_J0_length_8abf5
set_option maxRecDepth 20000 in
theorem ggJ0_indexOf_7cf53_J1_indexOf_4cfef : GoodIn wsJ0_indexOf_7cf53 wsJ1_indexOf_4cfef := goodIn_r _ [20, 21, 22, 23, 24, 25, 26, 27, 28, 29, 19, 30, 31, 32, 33] (by decide +kernel) (by decide +kernel)
set_option maxRecDepth 20000 in
theorem gJ0_indexOf_7cf53_J1_indexOf_4cfef : GoodIn wsJ0_indexOf_7cf53 (va_wsS RJ0 637 yJ1_indexOf_4cfef wsJ1_indexOf_4cfef) := goodIn_app (goodIn_of _ (by decide +kernel)) ggJ0_indexOf_7cf53_J1_indexOf_4cfef
set_option maxRecDepth 20000 in
theorem ggJ0_indexOf_7cf53_J2_indexOf_4cfef : GoodIn wsJ0_indexOf_7cf53 wsJ2_indexOf_4cfef := goodIn_r _ [37, 38, 22, 23, 24, 39, 26, 27, 40, 41, 42, 36, 43, 44, 45, 46, 47, 48, 49, 50, 51, 5, 52, 53, 54, 55, 56, 57, 58, 59, 60, 61, 62, 63, 64, 65, 66, 67, 68, 69, 70, 71, 72, 73, 74, 75, 76, 77, 78, 79, 80, 81] (by decide +kernel) (by decide +kernel)
set_option maxRecDepth 20000 in
theorem gJ0_indexOf_7cf53_J2_indexOf_4cfef : GoodIn wsJ0_indexOf_7cf53 (va_wsS RJ0 640 yJ2_indexOf_4cfef wsJ2_indexOf_4cfef) := goodIn_app (goodIn_of _ (by decide +kernel)) ggJ0_indexOf_7cf53_J2_indexOf_4cfef
theorem dJ0_indexOf_7cf53_0 : decode cJ0_indexOf_7cf53 0 = .ok (.aload_n 0, 1) := by decide +kernel
theorem dJ0_indexOf_7cf53_1 : decode cJ0_indexOf_7cf53 1 = .ok (.invokevirtual 492, 3) := by decide +kernel
theorem dJ0_indexOf_7cf53_4 : decode cJ0_indexOf_7cf53 4 = .ok (.ifCond .eq 19, 3) := by decide +kernel
theorem dJ0_indexOf_7cf53_7 : decode cJ0_indexOf_7cf53 7 = .ok (.aload_n 0, 1) := by decide +kernel
theorem dJ0_indexOf_7cf53_8 : decode cJ0_indexOf_7cf53 8 = .ok (.getfield 9, 3) := by decide +kernel
theorem dJ0_indexOf_7cf53_11 : decode cJ0_indexOf_7cf53 11 = .ok (.iload_n 1, 1) := by decide +kernel
theorem dJ0_indexOf_7cf53_12 : decode cJ0_indexOf_7cf53 12 = .ok (.iload_n 2, 1) := by decide +kernel
theorem dJ0_indexOf_7cf53_13 : decode cJ0_indexOf_7cf53 13 = .ok (.aload_n 0, 1) := by decide +kernel
theorem dJ0_indexOf_7cf53_14 : decode cJ0_indexOf_7cf53 14 = .ok (.invokevirtual 505, 3) := by decide +kernel
theorem dJ0_indexOf_7cf53_17 : decode cJ0_indexOf_7cf53 17 = .ok (.invokestatic 637, 3) := by decide +kernel
theorem dJ0_indexOf_7cf53_20 : decode cJ0_indexOf_7cf53 20 = .ok (.goto 16, 3) := by decide +kernel
theorem dJ0_indexOf_7cf53_23 : decode cJ0_indexOf_7cf53 23 = .ok (.aload_n 0, 1) := by decide +kernel
theorem dJ0_indexOf_7cf53_24 : decode cJ0_indexOf_7cf53 24 = .ok (.getfield 9, 3) := by decide +kernel
theorem dJ0_indexOf_7cf53_27 : decode cJ0_indexOf_7cf53 27 = .ok (.iload_n 1, 1) := by decide +kernel
theorem dJ0_indexOf_7cf53_28 : decode cJ0_indexOf_7cf53 28 = .ok (.iload_n 2, 1) := by decide +kernel
theorem dJ0_indexOf_7cf53_29 : decode cJ0_indexOf_7cf53 29 = .ok (.aload_n 0, 1) := by decide +kernel
theorem dJ0_indexOf_7cf53_30 : decode cJ0_indexOf_7cf53 30 = .ok (.invokevirtual 505, 3) := by decide +kernel
theorem dJ0_indexOf_7cf53_33 : decode cJ0_indexOf_7cf53 33 = .ok (.invokestatic 640, 3) := by decide +kernel
theorem dJ0_indexOf_7cf53_36 : decode cJ0_indexOf_7cf53 36 = .ok (.ireturn, 1) := by decide +kernel
theorem dJ0_coder_7d493_0 : decode cJ0_coder_7d493 0 = .ok (.getstatic 38, 3) := by decide +kernel
theorem dJ0_coder_7d493_3 : decode cJ0_coder_7d493 3 = .ok (.ifCond .eq 10, 3) := by decide +kernel
theorem dJ0_coder_7d493_6 : decode cJ0_coder_7d493 6 = .ok (.aload_n 0, 1) := by decide +kernel
theorem dJ0_coder_7d493_7 : decode cJ0_coder_7d493 7 = .ok (.getfield 15, 3) := by decide +kernel
theorem dJ0_coder_7d493_10 : decode cJ0_coder_7d493 10 = .ok (.goto 4, 3) := by decide +kernel
theorem dJ0_coder_7d493_13 : decode cJ0_coder_7d493 13 = .ok (.iconst 1, 1) := by decide +kernel
theorem dJ0_coder_7d493_14 : decode cJ0_coder_7d493 14 = .ok (.ireturn, 1) := by decide +kernel
theorem dJ0_isLatin1_aae02_0 : decode cJ0_isLatin1_aae02 0 = .ok (.getstatic 38, 3) := by decide +kernel
theorem dJ0_isLatin1_aae02_3 : decode cJ0_isLatin1_aae02 3 = .ok (.ifCond .eq 14, 3) := by decide +kernel
theorem dJ0_isLatin1_aae02_6 : decode cJ0_isLatin1_aae02 6 = .ok (.aload_n 0, 1) := by decide +kernel
theorem dJ0_isLatin1_aae02_7 : decode cJ0_isLatin1_aae02 7 = .ok (.getfield 15, 3) := by decide +kernel
theorem dJ0_isLatin1_aae02_10 : decode cJ0_isLatin1_aae02 10 = .ok (.ifCond .ne 7, 3) := by decide +kernel
theorem dJ0_isLatin1_aae02_13 : decode cJ0_isLatin1_aae02 13 = .ok (.iconst 1, 1) := by decide +kernel
theorem dJ0_isLatin1_aae02_14 : decode cJ0_isLatin1_aae02 14 = .ok (.goto 4, 3) := by decide +kernel
theorem dJ0_isLatin1_aae02_17 : decode cJ0_isLatin1_aae02 17 = .ok (.iconst 0, 1) := by decide +kernel
theorem dJ0_isLatin1_aae02_18 : decode cJ0_isLatin1_aae02 18 = .ok (.ireturn, 1) := by decide +kernel
set_option maxRecDepth 20000 in
theorem ggJ0_checkIndex_df160_J3_checkIndex_8e157 : GoodIn wsJ0_checkIndex_df160 wsJ3_checkIndex_8e157 := goodIn_r _ [5] (by decide +kernel) (by decide +kernel)
set_option maxRecDepth 20000 in
theorem gJ0_checkIndex_df160_J3_checkIndex_8e157 : GoodIn wsJ0_checkIndex_df160 (va_wsS RJ0 1059 yJ3_checkIndex_8e157 wsJ3_checkIndex_8e157) := goodIn_app (goodIn_of _ (by decide +kernel)) ggJ0_checkIndex_df160_J3_checkIndex_8e157
theorem dJ0_checkIndex_df160_0 : decode cJ0_checkIndex_df160 0 = .ok (.iload_n 0, 1) := by decide +kernel
theorem dJ0_checkIndex_df160_1 : decode cJ0_checkIndex_df160 1 = .ok (.iload_n 1, 1) := by decide +kernel
theorem dJ0_checkIndex_df160_2 : decode cJ0_checkIndex_df160 2 = .ok (.getstatic 1053, 3) := by decide +kernel
theorem dJ0_checkIndex_df160_5 : decode cJ0_checkIndex_df160 5 = .ok (.invokestatic 1059, 3) := by decide +kernel
theorem dJ0_checkIndex_df160_8 : decode cJ0_checkIndex_df160 8 = .ok (.pop, 1) := by decide +kernel
theorem dJ0_checkIndex_df160_9 : decode cJ0_checkIndex_df160 9 = .ok (.return_, 1) := by decide +kernel
set_option maxRecDepth 20000 in
theorem ggJ0_checkBoundsBeginEnd_23922_J3_checkFromToIndex_8c36e : GoodIn wsJ0_checkBoundsBeginEnd_23922 wsJ3_checkFromToIndex_8c36e := goodIn_r _ [5] (by decide +kernel) (by decide +kernel)
set_option maxRecDepth 20000 in
theorem gJ0_checkBoundsBeginEnd_23922_J3_checkFromToIndex_8c36e : GoodIn wsJ0_checkBoundsBeginEnd_23922 (va_wsS RJ0 1062 yJ3_checkFromToIndex_8c36e wsJ3_checkFromToIndex_8c36e) := goodIn_app (goodIn_of _ (by decide +kernel)) ggJ0_checkBoundsBeginEnd_23922_J3_checkFromToIndex_8c36e
theorem dJ0_checkBoundsBeginEnd_23922_0 : decode cJ0_checkBoundsBeginEnd_23922 0 = .ok (.iload_n 0, 1) := by decide +kernel
theorem dJ0_checkBoundsBeginEnd_23922_1 : decode cJ0_checkBoundsBeginEnd_23922 1 = .ok (.iload_n 1, 1) := by decide +kernel
theorem dJ0_checkBoundsBeginEnd_23922_2 : decode cJ0_checkBoundsBeginEnd_23922 2 = .ok (.iload_n 2, 1) := by decide +kernel
theorem dJ0_checkBoundsBeginEnd_23922_3 : decode cJ0_checkBoundsBeginEnd_23922 3 = .ok (.getstatic 1053, 3) := by decide +kernel
theorem dJ0_checkBoundsBeginEnd_23922_6 : decode cJ0_checkBoundsBeginEnd_23922 6 = .ok (.invokestatic 1062, 3) := by decide +kernel
theorem dJ0_checkBoundsBeginEnd_23922_9 : decode cJ0_checkBoundsBeginEnd_23922 9 = .ok (.pop, 1) := by decide +kernel
theorem dJ0_checkBoundsBeginEnd_23922_10 : decode cJ0_checkBoundsBeginEnd_23922 10 = .ok (.return_, 1) := by decide +kernel
set_option maxRecDepth 20000 in
theorem ggJ1_charAt_3b067_J0_checkIndex_df160 : GoodIn wsJ1_charAt_3b067 wsJ0_checkIndex_df160 := goodIn_r _ [4, 5, 6, 7, 8, 9] (by decide +kernel) (by decide +kernel)
set_option maxRecDepth 20000 in
theorem gJ1_charAt_3b067_J0_checkIndex_df160 : GoodIn wsJ1_charAt_3b067 (va_wsS RJ1 9 yJ0_checkIndex_df160 wsJ0_checkIndex_df160) := goodIn_app (goodIn_of _ (by decide +kernel)) ggJ1_charAt_3b067_J0_checkIndex_df160
theorem dJ1_charAt_3b067_0 : decode cJ1_charAt_3b067 0 = .ok (.iload_n 1, 1) := by decide +kernel
theorem dJ1_charAt_3b067_1 : decode cJ1_charAt_3b067 1 = .ok (.aload_n 0, 1) := by decide +kernel
theorem dJ1_charAt_3b067_2 : decode cJ1_charAt_3b067 2 = .ok (.arraylength, 1) := by decide +kernel
theorem dJ1_charAt_3b067_3 : decode cJ1_charAt_3b067 3 = .ok (.invokestatic 9, 3) := by decide +kernel
theorem dJ1_charAt_3b067_6 : decode cJ1_charAt_3b067 6 = .ok (.aload_n 0, 1) := by decide +kernel
theorem dJ1_charAt_3b067_7 : decode cJ1_charAt_3b067 7 = .ok (.iload_n 1, 1) := by decide +kernel
theorem dJ1_charAt_3b067_8 : decode cJ1_charAt_3b067 8 = .ok (.baload, 1) := by decide +kernel
theorem dJ1_charAt_3b067_9 : decode cJ1_charAt_3b067 9 = .ok (.sipush 255, 3) := by decide +kernel
theorem dJ1_charAt_3b067_12 : decode cJ1_charAt_3b067 12 = .ok (.iand, 1) := by decide +kernel
theorem dJ1_charAt_3b067_13 : decode cJ1_charAt_3b067 13 = .ok (.i2c, 1) := by decide +kernel
theorem dJ1_charAt_3b067_14 : decode cJ1_charAt_3b067 14 = .ok (.ireturn, 1) := by decide +kernel
theorem dJ1_canEncode_9a6ad_0 : decode cJ1_canEncode_9a6ad 0 = .ok (.iload_n 0, 1) := by decide +kernel
theorem dJ1_canEncode_9a6ad_1 : decode cJ1_canEncode_9a6ad 1 = .ok (.ifCond .lt 14, 3) := by decide +kernel
theorem dJ1_canEncode_9a6ad_4 : decode cJ1_canEncode_9a6ad 4 = .ok (.iload_n 0, 1) := by decide +kernel
theorem dJ1_canEncode_9a6ad_5 : decode cJ1_canEncode_9a6ad 5 = .ok (.sipush 255, 3) := by decide +kernel
theorem dJ1_canEncode_9a6ad_8 : decode cJ1_canEncode_9a6ad 8 = .ok (.if_icmp .gt 7, 3) := by decide +kernel
theorem dJ1_canEncode_9a6ad_11 : decode cJ1_canEncode_9a6ad 11 = .ok (.iconst 1, 1) := by decide +kernel
theorem dJ1_canEncode_9a6ad_12 : decode cJ1_canEncode_9a6ad 12 = .ok (.goto 4, 3) := by decide +kernel
theorem dJ1_canEncode_9a6ad_15 : decode cJ1_canEncode_9a6ad 15 = .ok (.iconst 0, 1) := by decide +kernel
theorem dJ1_canEncode_9a6ad_16 : decode cJ1_canEncode_9a6ad 16 = .ok (.ireturn, 1) := by decide +kernel
set_option maxRecDepth 20000 in
theorem ggJ1_indexOf_4cfef_J1_canEncode_9a6ad : GoodIn wsJ1_indexOf_4cfef wsJ1_canEncode_9a6ad := goodIn_r _ [11] (by decide +kernel) (by decide +kernel)
set_option maxRecDepth 20000 in
theorem gJ1_indexOf_4cfef_J1_canEncode_9a6ad : GoodIn wsJ1_indexOf_4cfef (va_wsS RJ1 88 yJ1_canEncode_9a6ad wsJ1_canEncode_9a6ad) := goodIn_app (goodIn_of _ (by decide +kernel)) ggJ1_indexOf_4cfef_J1_canEncode_9a6ad
set_option maxRecDepth 20000 in
theorem ggJ1_indexOf_4cfef_J1_indexOfChar_4cfef : GoodIn wsJ1_indexOf_4cfef wsJ1_indexOfChar_4cfef := goodIn_r _ [14] (by decide +kernel) (by decide +kernel)
set_option maxRecDepth 20000 in
theorem gJ1_indexOf_4cfef_J1_indexOfChar_4cfef : GoodIn wsJ1_indexOf_4cfef (va_wsS RJ1 95 yJ1_indexOfChar_4cfef wsJ1_indexOfChar_4cfef) := goodIn_app (goodIn_of _ (by decide +kernel)) ggJ1_indexOf_4cfef_J1_indexOfChar_4cfef
theorem dJ1_indexOf_4cfef_0 : decode cJ1_indexOf_4cfef 0 = .ok (.iload_n 1, 1) := by decide +kernel
theorem dJ1_indexOf_4cfef_1 : decode cJ1_indexOf_4cfef 1 = .ok (.invokestatic 88, 3) := by decide +kernel
theorem dJ1_indexOf_4cfef_4 : decode cJ1_indexOf_4cfef 4 = .ok (.ifCond .ne 5, 3) := by decide +kernel
theorem dJ1_indexOf_4cfef_7 : decode cJ1_indexOf_4cfef 7 = .ok (.iconst (-1), 1) := by decide +kernel
theorem dJ1_indexOf_4cfef_8 : decode cJ1_indexOf_4cfef 8 = .ok (.ireturn, 1) := by decide +kernel
theorem dJ1_indexOf_4cfef_9 : decode cJ1_indexOf_4cfef 9 = .ok (.iload_n 2, 1) := by decide +kernel
theorem dJ1_indexOf_4cfef_10 : decode cJ1_indexOf_4cfef 10 = .ok (.iconst 0, 1) := by decide +kernel
theorem dJ1_indexOf_4cfef_11 : decode cJ1_indexOf_4cfef 11 = .ok (.invokestatic 92, 3) := by decide +kernel
theorem dJ1_indexOf_4cfef_14 : decode cJ1_indexOf_4cfef 14 = .ok (.istore_n 2, 1) := by decide +kernel
theorem dJ1_indexOf_4cfef_15 : decode cJ1_indexOf_4cfef 15 = .ok (.iload_n 3, 1) := by decide +kernel
theorem dJ1_indexOf_4cfef_16 : decode cJ1_indexOf_4cfef 16 = .ok (.aload_n 0, 1) := by decide +kernel
theorem dJ1_indexOf_4cfef_17 : decode cJ1_indexOf_4cfef 17 = .ok (.arraylength, 1) := by decide +kernel
theorem dJ1_indexOf_4cfef_18 : decode cJ1_indexOf_4cfef 18 = .ok (.invokestatic 38, 3) := by decide +kernel
theorem dJ1_indexOf_4cfef_21 : decode cJ1_indexOf_4cfef 21 = .ok (.istore_n 3, 1) := by decide +kernel
theorem dJ1_indexOf_4cfef_22 : decode cJ1_indexOf_4cfef 22 = .ok (.iload_n 2, 1) := by decide +kernel
theorem dJ1_indexOf_4cfef_23 : decode cJ1_indexOf_4cfef 23 = .ok (.iload_n 3, 1) := by decide +kernel
theorem dJ1_indexOf_4cfef_24 : decode cJ1_indexOf_4cfef 24 = .ok (.if_icmp .lt 5, 3) := by decide +kernel
theorem dJ1_indexOf_4cfef_27 : decode cJ1_indexOf_4cfef 27 = .ok (.iconst (-1), 1) := by decide +kernel
theorem dJ1_indexOf_4cfef_28 : decode cJ1_indexOf_4cfef 28 = .ok (.ireturn, 1) := by decide +kernel
theorem dJ1_indexOf_4cfef_29 : decode cJ1_indexOf_4cfef 29 = .ok (.aload_n 0, 1) := by decide +kernel
theorem dJ1_indexOf_4cfef_30 : decode cJ1_indexOf_4cfef 30 = .ok (.iload_n 1, 1) := by decide +kernel
theorem dJ1_indexOf_4cfef_31 : decode cJ1_indexOf_4cfef 31 = .ok (.iload_n 2, 1) := by decide +kernel
theorem dJ1_indexOf_4cfef_32 : decode cJ1_indexOf_4cfef 32 = .ok (.iload_n 3, 1) := by decide +kernel
theorem dJ1_indexOf_4cfef_33 : decode cJ1_indexOf_4cfef 33 = .ok (.invokestatic 95, 3) := by decide +kernel
theorem dJ1_indexOf_4cfef_36 : decode cJ1_indexOf_4cfef 36 = .ok (.ireturn, 1) := by decide +kernel
theorem dJ1_indexOfChar_4cfef_0 : decode cJ1_indexOfChar_4cfef 0 = .ok (.iload_n 1, 1) := by decide +kernel
theorem dJ1_indexOfChar_4cfef_1 : decode cJ1_indexOfChar_4cfef 1 = .ok (.i2b, 1) := by decide +kernel
theorem dJ1_indexOfChar_4cfef_2 : decode cJ1_indexOfChar_4cfef 2 = .ok (.istore 4, 2) := by decide +kernel
theorem dJ1_indexOfChar_4cfef_4 : decode cJ1_indexOfChar_4cfef 4 = .ok (.iload_n 2, 1) := by decide +kernel
theorem dJ1_indexOfChar_4cfef_5 : decode cJ1_indexOfChar_4cfef 5 = .ok (.istore 5, 2) := by decide +kernel
theorem dJ1_indexOfChar_4cfef_7 : decode cJ1_indexOfChar_4cfef 7 = .ok (.iload 5, 2) := by decide +kernel
theorem dJ1_indexOfChar_4cfef_9 : decode cJ1_indexOfChar_4cfef 9 = .ok (.iload_n 3, 1) := by decide +kernel
theorem dJ1_indexOfChar_4cfef_10 : decode cJ1_indexOfChar_4cfef 10 = .ok (.if_icmp .ge 21, 3) := by decide +kernel
theorem dJ1_indexOfChar_4cfef_13 : decode cJ1_indexOfChar_4cfef 13 = .ok (.aload_n 0, 1) := by decide +kernel
theorem dJ1_indexOfChar_4cfef_14 : decode cJ1_indexOfChar_4cfef 14 = .ok (.iload 5, 2) := by decide +kernel
theorem dJ1_indexOfChar_4cfef_16 : decode cJ1_indexOfChar_4cfef 16 = .ok (.baload, 1) := by decide +kernel
theorem dJ1_indexOfChar_4cfef_17 : decode cJ1_indexOfChar_4cfef 17 = .ok (.iload 4, 2) := by decide +kernel
theorem dJ1_indexOfChar_4cfef_19 : decode cJ1_indexOfChar_4cfef 19 = .ok (.if_icmp .ne 6, 3) := by decide +kernel
theorem dJ1_indexOfChar_4cfef_22 : decode cJ1_indexOfChar_4cfef 22 = .ok (.iload 5, 2) := by decide +kernel
theorem dJ1_indexOfChar_4cfef_24 : decode cJ1_indexOfChar_4cfef 24 = .ok (.ireturn, 1) := by decide +kernel
theorem dJ1_indexOfChar_4cfef_25 : decode cJ1_indexOfChar_4cfef 25 = .ok (.iinc 5 1, 3) := by decide +kernel
theorem dJ1_indexOfChar_4cfef_28 : decode cJ1_indexOfChar_4cfef 28 = .ok (.goto (-21), 3) := by decide +kernel
theorem dJ1_indexOfChar_4cfef_31 : decode cJ1_indexOfChar_4cfef 31 = .ok (.iconst (-1), 1) := by decide +kernel
theorem dJ1_indexOfChar_4cfef_32 : decode cJ1_indexOfChar_4cfef 32 = .ok (.ireturn, 1) := by decide +kernel
set_option maxRecDepth 20000 in
theorem ggJ2_getChar_3b067_J2_length_9d52b : GoodIn wsJ2_getChar_3b067 wsJ2_length_9d52b := goodIn_r _ [7] (by decide +kernel) (by decide +kernel)
set_option maxRecDepth 20000 in
theorem gJ2_getChar_3b067_J2_length_9d52b : GoodIn wsJ2_getChar_3b067 (va_wsS RJ2 48 yJ2_length_9d52b wsJ2_length_9d52b) := goodIn_app (goodIn_of _ (by decide +kernel)) ggJ2_getChar_3b067_J2_length_9d52b
theorem dJ2_getChar_3b067_0 : decode cJ2_getChar_3b067 0 = .ok (.getstatic 44, 3) := by decide +kernel
theorem dJ2_getChar_3b067_3 : decode cJ2_getChar_3b067 3 = .ok (.ifCond .ne 25, 3) := by decide +kernel
theorem dJ2_getChar_3b067_6 : decode cJ2_getChar_3b067 6 = .ok (.iload_n 1, 1) := by decide +kernel
theorem dJ2_getChar_3b067_7 : decode cJ2_getChar_3b067 7 = .ok (.ifCond .lt 11, 3) := by decide +kernel
theorem dJ2_getChar_3b067_10 : decode cJ2_getChar_3b067 10 = .ok (.iload_n 1, 1) := by decide +kernel
theorem dJ2_getChar_3b067_11 : decode cJ2_getChar_3b067 11 = .ok (.aload_n 0, 1) := by decide +kernel
theorem dJ2_getChar_3b067_12 : decode cJ2_getChar_3b067 12 = .ok (.invokestatic 48, 3) := by decide +kernel
theorem dJ2_getChar_3b067_15 : decode cJ2_getChar_3b067 15 = .ok (.if_icmp .lt 13, 3) := by decide +kernel
theorem dJ2_getChar_3b067_18 : decode cJ2_getChar_3b067 18 = .ok (.new 52, 3) := by decide +kernel
theorem dJ2_getChar_3b067_21 : decode cJ2_getChar_3b067 21 = .ok (.dup, 1) := by decide +kernel
theorem dJ2_getChar_3b067_22 : decode cJ2_getChar_3b067 22 = .ok (.ldc 54, 2) := by decide +kernel
theorem dJ2_getChar_3b067_24 : decode cJ2_getChar_3b067 24 = .ok (.invokespecial 56, 3) := by decide +kernel
theorem dJ2_getChar_3b067_27 : decode cJ2_getChar_3b067 27 = .ok (.athrow, 1) := by decide +kernel
theorem dJ2_getChar_3b067_28 : decode cJ2_getChar_3b067 28 = .ok (.iload_n 1, 1) := by decide +kernel
theorem dJ2_getChar_3b067_29 : decode cJ2_getChar_3b067 29 = .ok (.iconst 1, 1) := by decide +kernel
theorem dJ2_getChar_3b067_30 : decode cJ2_getChar_3b067 30 = .ok (.ishl, 1) := by decide +kernel
theorem dJ2_getChar_3b067_31 : decode cJ2_getChar_3b067 31 = .ok (.istore_n 1, 1) := by decide +kernel
theorem dJ2_getChar_3b067_32 : decode cJ2_getChar_3b067 32 = .ok (.aload_n 0, 1) := by decide +kernel
theorem dJ2_getChar_3b067_33 : decode cJ2_getChar_3b067 33 = .ok (.iload_n 1, 1) := by decide +kernel
theorem dJ2_getChar_3b067_34 : decode cJ2_getChar_3b067 34 = .ok (.iinc 1 1, 3) := by decide +kernel
theorem dJ2_getChar_3b067_37 : decode cJ2_getChar_3b067 37 = .ok (.baload, 1) := by decide +kernel
theorem dJ2_getChar_3b067_38 : decode cJ2_getChar_3b067 38 = .ok (.sipush 255, 3) := by decide +kernel
theorem dJ2_getChar_3b067_41 : decode cJ2_getChar_3b067 41 = .ok (.iand, 1) := by decide +kernel
theorem dJ2_getChar_3b067_42 : decode cJ2_getChar_3b067 42 = .ok (.getstatic 59, 3) := by decide +kernel
theorem dJ2_getChar_3b067_45 : decode cJ2_getChar_3b067 45 = .ok (.ishl, 1) := by decide +kernel
theorem dJ2_getChar_3b067_46 : decode cJ2_getChar_3b067 46 = .ok (.aload_n 0, 1) := by decide +kernel
theorem dJ2_getChar_3b067_47 : decode cJ2_getChar_3b067 47 = .ok (.iload_n 1, 1) := by decide +kernel
theorem dJ2_getChar_3b067_48 : decode cJ2_getChar_3b067 48 = .ok (.baload, 1) := by decide +kernel
theorem dJ2_getChar_3b067_49 : decode cJ2_getChar_3b067 49 = .ok (.sipush 255, 3) := by decide +kernel
theorem dJ2_getChar_3b067_52 : decode cJ2_getChar_3b067 52 = .ok (.iand, 1) := by decide +kernel
theorem dJ2_getChar_3b067_53 : decode cJ2_getChar_3b067 53 = .ok (.getstatic 63, 3) := by decide +kernel
theorem dJ2_getChar_3b067_56 : decode cJ2_getChar_3b067 56 = .ok (.ishl, 1) := by decide +kernel
theorem dJ2_getChar_3b067_57 : decode cJ2_getChar_3b067 57 = .ok (.ior, 1) := by decide +kernel
theorem dJ2_getChar_3b067_58 : decode cJ2_getChar_3b067 58 = .ok (.i2c, 1) := by decide +kernel
theorem dJ2_getChar_3b067_59 : decode cJ2_getChar_3b067 59 = .ok (.ireturn, 1) := by decide +kernel
theorem dJ2_length_9d52b_0 : decode cJ2_length_9d52b 0 = .ok (.aload_n 0, 1) := by decide +kernel
theorem dJ2_length_9d52b_1 : decode cJ2_length_9d52b 1 = .ok (.arraylength, 1) := by decide +kernel
theorem dJ2_length_9d52b_2 : decode cJ2_length_9d52b 2 = .ok (.iconst 1, 1) := by decide +kernel
theorem dJ2_length_9d52b_3 : decode cJ2_length_9d52b 3 = .ok (.ishr, 1) := by decide +kernel
theorem dJ2_length_9d52b_4 : decode cJ2_length_9d52b 4 = .ok (.ireturn, 1) := by decide +kernel
set_option maxRecDepth 20000 in
theorem ggJ2_indexOf_4cfef_J2_indexOfChar_4cfef : GoodIn wsJ2_indexOf_4cfef wsJ2_indexOfChar_4cfef := goodIn_r _ [12, 13, 14, 11, 15, 16, 17, 18, 19, 20, 21, 22, 23, 24, 25, 26, 27, 28, 29, 30, 31, 32, 33, 34, 35, 36] (by decide +kernel) (by decide +kernel)
set_option maxRecDepth 20000 in
theorem gJ2_indexOf_4cfef_J2_indexOfChar_4cfef : GoodIn wsJ2_indexOf_4cfef (va_wsS RJ2 228 yJ2_indexOfChar_4cfef wsJ2_indexOfChar_4cfef) := goodIn_app (goodIn_of _ (by decide +kernel)) ggJ2_indexOf_4cfef_J2_indexOfChar_4cfef
set_option maxRecDepth 20000 in
theorem ggJ2_indexOf_4cfef_J2_indexOfSupplementary_4cfef : GoodIn wsJ2_indexOf_4cfef wsJ2_indexOfSupplementary_4cfef := goodIn_r _ [39, 40, 41, 42, 43, 44, 45, 46, 47, 48, 49, 50, 51, 13, 14, 11, 15, 16, 17, 18, 19, 20, 21, 22, 23, 24, 25, 26, 27, 31, 32, 33, 34, 35, 36] (by decide +kernel) (by decide +kernel)
set_option maxRecDepth 20000 in
theorem gJ2_indexOf_4cfef_J2_indexOfSupplementary_4cfef : GoodIn wsJ2_indexOf_4cfef (va_wsS RJ2 232 yJ2_indexOfSupplementary_4cfef wsJ2_indexOfSupplementary_4cfef) := goodIn_app (goodIn_of _ (by decide +kernel)) ggJ2_indexOf_4cfef_J2_indexOfSupplementary_4cfef
theorem dJ2_indexOf_4cfef_0 : decode cJ2_indexOf_4cfef 0 = .ok (.iload_n 2, 1) := by decide +kernel
theorem dJ2_indexOf_4cfef_1 : decode cJ2_indexOf_4cfef 1 = .ok (.iconst 0, 1) := by decide +kernel
theorem dJ2_indexOf_4cfef_2 : decode cJ2_indexOf_4cfef 2 = .ok (.invokestatic 224, 3) := by decide +kernel
theorem dJ2_indexOf_4cfef_5 : decode cJ2_indexOf_4cfef 5 = .ok (.istore_n 2, 1) := by decide +kernel
theorem dJ2_indexOf_4cfef_6 : decode cJ2_indexOf_4cfef 6 = .ok (.iload_n 3, 1) := by decide +kernel
theorem dJ2_indexOf_4cfef_7 : decode cJ2_indexOf_4cfef 7 = .ok (.aload_n 0, 1) := by decide +kernel
theorem dJ2_indexOf_4cfef_8 : decode cJ2_indexOf_4cfef 8 = .ok (.arraylength, 1) := by decide +kernel
theorem dJ2_indexOf_4cfef_9 : decode cJ2_indexOf_4cfef 9 = .ok (.iconst 1, 1) := by decide +kernel
theorem dJ2_indexOf_4cfef_10 : decode cJ2_indexOf_4cfef 10 = .ok (.ishr, 1) := by decide +kernel
theorem dJ2_indexOf_4cfef_11 : decode cJ2_indexOf_4cfef 11 = .ok (.invokestatic 183, 3) := by decide +kernel
theorem dJ2_indexOf_4cfef_14 : decode cJ2_indexOf_4cfef 14 = .ok (.istore_n 3, 1) := by decide +kernel
theorem dJ2_indexOf_4cfef_15 : decode cJ2_indexOf_4cfef 15 = .ok (.iload_n 2, 1) := by decide +kernel
theorem dJ2_indexOf_4cfef_16 : decode cJ2_indexOf_4cfef 16 = .ok (.iload_n 3, 1) := by decide +kernel
theorem dJ2_indexOf_4cfef_17 : decode cJ2_indexOf_4cfef 17 = .ok (.if_icmp .lt 5, 3) := by decide +kernel
theorem dJ2_indexOf_4cfef_20 : decode cJ2_indexOf_4cfef 20 = .ok (.iconst (-1), 1) := by decide +kernel
theorem dJ2_indexOf_4cfef_21 : decode cJ2_indexOf_4cfef 21 = .ok (.ireturn, 1) := by decide +kernel
theorem dJ2_indexOf_4cfef_22 : decode cJ2_indexOf_4cfef 22 = .ok (.iload_n 1, 1) := by decide +kernel
theorem dJ2_indexOf_4cfef_23 : decode cJ2_indexOf_4cfef 23 = .ok (.ldc 227, 2) := by decide +kernel
theorem dJ2_indexOf_4cfef_25 : decode cJ2_indexOf_4cfef 25 = .ok (.if_icmp .ge 11, 3) := by decide +kernel
theorem dJ2_indexOf_4cfef_28 : decode cJ2_indexOf_4cfef 28 = .ok (.aload_n 0, 1) := by decide +kernel
theorem dJ2_indexOf_4cfef_29 : decode cJ2_indexOf_4cfef 29 = .ok (.iload_n 1, 1) := by decide +kernel
theorem dJ2_indexOf_4cfef_30 : decode cJ2_indexOf_4cfef 30 = .ok (.iload_n 2, 1) := by decide +kernel
theorem dJ2_indexOf_4cfef_31 : decode cJ2_indexOf_4cfef 31 = .ok (.iload_n 3, 1) := by decide +kernel
theorem dJ2_indexOf_4cfef_32 : decode cJ2_indexOf_4cfef 32 = .ok (.invokestatic 228, 3) := by decide +kernel
theorem dJ2_indexOf_4cfef_35 : decode cJ2_indexOf_4cfef 35 = .ok (.ireturn, 1) := by decide +kernel
theorem dJ2_indexOf_4cfef_36 : decode cJ2_indexOf_4cfef 36 = .ok (.aload_n 0, 1) := by decide +kernel
theorem dJ2_indexOf_4cfef_37 : decode cJ2_indexOf_4cfef 37 = .ok (.iload_n 1, 1) := by decide +kernel
theorem dJ2_indexOf_4cfef_38 : decode cJ2_indexOf_4cfef 38 = .ok (.iload_n 2, 1) := by decide +kernel
theorem dJ2_indexOf_4cfef_39 : decode cJ2_indexOf_4cfef 39 = .ok (.iload_n 3, 1) := by decide +kernel
theorem dJ2_indexOf_4cfef_40 : decode cJ2_indexOf_4cfef 40 = .ok (.invokestatic 232, 3) := by decide +kernel
theorem dJ2_indexOf_4cfef_43 : decode cJ2_indexOf_4cfef 43 = .ok (.ireturn, 1) := by decide +kernel
set_option maxRecDepth 20000 in
theorem ggJ2_indexOfChar_4cfef_J2_checkBoundsBeginEnd_d044e : GoodIn wsJ2_indexOfChar_4cfef wsJ2_checkBoundsBeginEnd_d044e := goodIn_r _ [4, 5, 6, 3, 7, 8, 9, 10, 11, 12, 13, 14, 15, 16] (by decide +kernel) (by decide +kernel)
set_option maxRecDepth 20000 in
theorem gJ2_indexOfChar_4cfef_J2_checkBoundsBeginEnd_d044e : GoodIn wsJ2_indexOfChar_4cfef (va_wsS RJ2 96 yJ2_checkBoundsBeginEnd_d044e wsJ2_checkBoundsBeginEnd_d044e) := goodIn_app (goodIn_of _ (by decide +kernel)) ggJ2_indexOfChar_4cfef_J2_checkBoundsBeginEnd_d044e
set_option maxRecDepth 20000 in
theorem ggJ2_indexOfChar_4cfef_J2_indexOfCharUnsafe_4cfef : GoodIn wsJ2_indexOfChar_4cfef wsJ2_indexOfCharUnsafe_4cfef := goodIn_r _ [19, 20, 21, 3, 22, 23, 24, 25, 5, 6, 7] (by decide +kernel) (by decide +kernel)
set_option maxRecDepth 20000 in
theorem gJ2_indexOfChar_4cfef_J2_indexOfCharUnsafe_4cfef : GoodIn wsJ2_indexOfChar_4cfef (va_wsS RJ2 244 yJ2_indexOfCharUnsafe_4cfef wsJ2_indexOfCharUnsafe_4cfef) := goodIn_app (goodIn_of _ (by decide +kernel)) ggJ2_indexOfChar_4cfef_J2_indexOfCharUnsafe_4cfef
theorem dJ2_indexOfChar_4cfef_0 : decode cJ2_indexOfChar_4cfef 0 = .ok (.iload_n 2, 1) := by decide +kernel
theorem dJ2_indexOfChar_4cfef_1 : decode cJ2_indexOfChar_4cfef 1 = .ok (.iload_n 3, 1) := by decide +kernel
theorem dJ2_indexOfChar_4cfef_2 : decode cJ2_indexOfChar_4cfef 2 = .ok (.aload_n 0, 1) := by decide +kernel
theorem dJ2_indexOfChar_4cfef_3 : decode cJ2_indexOfChar_4cfef 3 = .ok (.invokestatic 96, 3) := by decide +kernel
theorem dJ2_indexOfChar_4cfef_6 : decode cJ2_indexOfChar_4cfef 6 = .ok (.aload_n 0, 1) := by decide +kernel
theorem dJ2_indexOfChar_4cfef_7 : decode cJ2_indexOfChar_4cfef 7 = .ok (.iload_n 1, 1) := by decide +kernel
theorem dJ2_indexOfChar_4cfef_8 : decode cJ2_indexOfChar_4cfef 8 = .ok (.iload_n 2, 1) := by decide +kernel
theorem dJ2_indexOfChar_4cfef_9 : decode cJ2_indexOfChar_4cfef 9 = .ok (.iload_n 3, 1) := by decide +kernel
theorem dJ2_indexOfChar_4cfef_10 : decode cJ2_indexOfChar_4cfef 10 = .ok (.invokestatic 244, 3) := by decide +kernel
theorem dJ2_indexOfChar_4cfef_13 : decode cJ2_indexOfChar_4cfef 13 = .ok (.ireturn, 1) := by decide +kernel
set_option maxRecDepth 20000 in
theorem ggJ2_indexOfCharUnsafe_4cfef_J2_getChar_3b067 : GoodIn wsJ2_indexOfCharUnsafe_4cfef wsJ2_getChar_3b067 := goodIn_r _ [4, 5, 6, 7, 8, 9, 3, 10] (by decide +kernel) (by decide +kernel)
set_option maxRecDepth 20000 in
theorem gJ2_indexOfCharUnsafe_4cfef_J2_getChar_3b067 : GoodIn wsJ2_indexOfCharUnsafe_4cfef (va_wsS RJ2 71 yJ2_getChar_3b067 wsJ2_getChar_3b067) := goodIn_app (goodIn_of _ (by decide +kernel)) ggJ2_indexOfCharUnsafe_4cfef_J2_getChar_3b067
theorem dJ2_indexOfCharUnsafe_4cfef_0 : decode cJ2_indexOfCharUnsafe_4cfef 0 = .ok (.iload_n 2, 1) := by decide +kernel
theorem dJ2_indexOfCharUnsafe_4cfef_1 : decode cJ2_indexOfCharUnsafe_4cfef 1 = .ok (.istore 4, 2) := by decide +kernel
theorem dJ2_indexOfCharUnsafe_4cfef_3 : decode cJ2_indexOfCharUnsafe_4cfef 3 = .ok (.iload 4, 2) := by decide +kernel
theorem dJ2_indexOfCharUnsafe_4cfef_5 : decode cJ2_indexOfCharUnsafe_4cfef 5 = .ok (.iload_n 3, 1) := by decide +kernel
theorem dJ2_indexOfCharUnsafe_4cfef_6 : decode cJ2_indexOfCharUnsafe_4cfef 6 = .ok (.if_icmp .ge 22, 3) := by decide +kernel
theorem dJ2_indexOfCharUnsafe_4cfef_9 : decode cJ2_indexOfCharUnsafe_4cfef 9 = .ok (.aload_n 0, 1) := by decide +kernel
theorem dJ2_indexOfCharUnsafe_4cfef_10 : decode cJ2_indexOfCharUnsafe_4cfef 10 = .ok (.iload 4, 2) := by decide +kernel
theorem dJ2_indexOfCharUnsafe_4cfef_12 : decode cJ2_indexOfCharUnsafe_4cfef 12 = .ok (.invokestatic 71, 3) := by decide +kernel
theorem dJ2_indexOfCharUnsafe_4cfef_15 : decode cJ2_indexOfCharUnsafe_4cfef 15 = .ok (.iload_n 1, 1) := by decide +kernel
theorem dJ2_indexOfCharUnsafe_4cfef_16 : decode cJ2_indexOfCharUnsafe_4cfef 16 = .ok (.if_icmp .ne 6, 3) := by decide +kernel
theorem dJ2_indexOfCharUnsafe_4cfef_19 : decode cJ2_indexOfCharUnsafe_4cfef 19 = .ok (.iload 4, 2) := by decide +kernel
theorem dJ2_indexOfCharUnsafe_4cfef_21 : decode cJ2_indexOfCharUnsafe_4cfef 21 = .ok (.ireturn, 1) := by decide +kernel
theorem dJ2_indexOfCharUnsafe_4cfef_22 : decode cJ2_indexOfCharUnsafe_4cfef 22 = .ok (.iinc 4 1, 3) := by decide +kernel
theorem dJ2_indexOfCharUnsafe_4cfef_25 : decode cJ2_indexOfCharUnsafe_4cfef 25 = .ok (.goto (-22), 3) := by decide +kernel
theorem dJ2_indexOfCharUnsafe_4cfef_28 : decode cJ2_indexOfCharUnsafe_4cfef 28 = .ok (.iconst (-1), 1) := by decide +kernel
theorem dJ2_indexOfCharUnsafe_4cfef_29 : decode cJ2_indexOfCharUnsafe_4cfef 29 = .ok (.ireturn, 1) := by decide +kernel
set_option maxRecDepth 20000 in
theorem ggJ2_indexOfSupplementary_4cfef_J11_isValidCodePoint_9a6ad : GoodIn wsJ2_indexOfSupplementary_4cfef wsJ11_isValidCodePoint_9a6ad := goodIn_r _ [4] (by decide +kernel) (by decide +kernel)
set_option maxRecDepth 20000 in
theorem gJ2_indexOfSupplementary_4cfef_J11_isValidCodePoint_9a6ad : GoodIn wsJ2_indexOfSupplementary_4cfef (va_wsS RJ2 164 yJ11_isValidCodePoint_9a6ad wsJ11_isValidCodePoint_9a6ad) := goodIn_app (goodIn_of _ (by decide +kernel)) ggJ2_indexOfSupplementary_4cfef_J11_isValidCodePoint_9a6ad
set_option maxRecDepth 20000 in
theorem ggJ2_indexOfSupplementary_4cfef_J11_highSurrogate_5068e : GoodIn wsJ2_indexOfSupplementary_4cfef wsJ11_highSurrogate_5068e := goodIn_r _ [7, 8] (by decide +kernel) (by decide +kernel)
set_option maxRecDepth 20000 in
theorem gJ2_indexOfSupplementary_4cfef_J11_highSurrogate_5068e : GoodIn wsJ2_indexOfSupplementary_4cfef (va_wsS RJ2 157 yJ11_highSurrogate_5068e wsJ11_highSurrogate_5068e) := goodIn_app (goodIn_of _ (by decide +kernel)) ggJ2_indexOfSupplementary_4cfef_J11_highSurrogate_5068e
set_option maxRecDepth 20000 in
theorem ggJ2_indexOfSupplementary_4cfef_J11_lowSurrogate_5068e : GoodIn wsJ2_indexOfSupplementary_4cfef wsJ11_lowSurrogate_5068e := goodIn_r _ [11, 12] (by decide +kernel) (by decide +kernel)
set_option maxRecDepth 20000 in
theorem gJ2_indexOfSupplementary_4cfef_J11_lowSurrogate_5068e : GoodIn wsJ2_indexOfSupplementary_4cfef (va_wsS RJ2 161 yJ11_lowSurrogate_5068e wsJ11_lowSurrogate_5068e) := goodIn_app (goodIn_of _ (by decide +kernel)) ggJ2_indexOfSupplementary_4cfef_J11_lowSurrogate_5068e
set_option maxRecDepth 20000 in
theorem ggJ2_indexOfSupplementary_4cfef_J2_checkBoundsBeginEnd_d044e : GoodIn wsJ2_indexOfSupplementary_4cfef wsJ2_checkBoundsBeginEnd_d044e := goodIn_r _ [16, 17, 18, 15, 19, 20, 21, 22, 23, 24, 25, 26, 27, 28] (by decide +kernel) (by decide +kernel)
set_option maxRecDepth 20000 in
theorem gJ2_indexOfSupplementary_4cfef_J2_checkBoundsBeginEnd_d044e : GoodIn wsJ2_indexOfSupplementary_4cfef (va_wsS RJ2 96 yJ2_checkBoundsBeginEnd_d044e wsJ2_checkBoundsBeginEnd_d044e) := goodIn_app (goodIn_of _ (by decide +kernel)) ggJ2_indexOfSupplementary_4cfef_J2_checkBoundsBeginEnd_d044e
set_option maxRecDepth 20000 in
theorem ggJ2_indexOfSupplementary_4cfef_J2_getChar_3b067 : GoodIn wsJ2_indexOfSupplementary_4cfef wsJ2_getChar_3b067 := goodIn_r _ [31, 32, 33, 34, 17, 18, 15, 19] (by decide +kernel) (by decide +kernel)
set_option maxRecDepth 20000 in
theorem gJ2_indexOfSupplementary_4cfef_J2_getChar_3b067 : GoodIn wsJ2_indexOfSupplementary_4cfef (va_wsS RJ2 71 yJ2_getChar_3b067 wsJ2_getChar_3b067) := goodIn_app (goodIn_of _ (by decide +kernel)) ggJ2_indexOfSupplementary_4cfef_J2_getChar_3b067
theorem dJ2_indexOfSupplementary_4cfef_0 : decode cJ2_indexOfSupplementary_4cfef 0 = .ok (.iload_n 1, 1) := by decide +kernel
theorem dJ2_indexOfSupplementary_4cfef_1 : decode cJ2_indexOfSupplementary_4cfef 1 = .ok (.invokestatic 164, 3) := by decide +kernel
theorem dJ2_indexOfSupplementary_4cfef_4 : decode cJ2_indexOfSupplementary_4cfef 4 = .ok (.ifCond .eq 65, 3) := by decide +kernel
theorem dJ2_indexOfSupplementary_4cfef_7 : decode cJ2_indexOfSupplementary_4cfef 7 = .ok (.iload_n 1, 1) := by decide +kernel
theorem dJ2_indexOfSupplementary_4cfef_8 : decode cJ2_indexOfSupplementary_4cfef 8 = .ok (.invokestatic 157, 3) := by decide +kernel
theorem dJ2_indexOfSupplementary_4cfef_11 : decode cJ2_indexOfSupplementary_4cfef 11 = .ok (.istore 4, 2) := by decide +kernel
theorem dJ2_indexOfSupplementary_4cfef_13 : decode cJ2_indexOfSupplementary_4cfef 13 = .ok (.iload_n 1, 1) := by decide +kernel
theorem dJ2_indexOfSupplementary_4cfef_14 : decode cJ2_indexOfSupplementary_4cfef 14 = .ok (.invokestatic 161, 3) := by decide +kernel
theorem dJ2_indexOfSupplementary_4cfef_17 : decode cJ2_indexOfSupplementary_4cfef 17 = .ok (.istore 5, 2) := by decide +kernel
