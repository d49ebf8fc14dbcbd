theorem dX10_two_64 : decode cX10_two 64 = .ok (.getfield 19, 3) := by decide +kernel
theorem dX10_two_67 : decode cX10_two 67 = .ok (.iload_n 1, 1) := by decide +kernel
theorem dX10_two_68 : decode cX10_two 68 = .ok (.iload_n 3, 1) := by decide +kernel
theorem dX10_two_69 : decode cX10_two 69 = .ok (.invokevirtual 160, 3) := by decide +kernel
theorem dX10_two_72 : decode cX10_two 72 = .ok (.ifCond .eq 15, 3) := by decide +kernel
theorem dX10_two_75 : decode cX10_two 75 = .ok (.aload_n 0, 1) := by decide +kernel
theorem dX10_two_76 : decode cX10_two 76 = .ok (.getfield 19, 3) := by decide +kernel
theorem dX10_two_79 : decode cX10_two 79 = .ok (.iload_n 2, 1) := by decide +kernel
theorem dX10_two_80 : decode cX10_two 80 = .ok (.iload_n 3, 1) := by decide +kernel
theorem dX10_two_81 : decode cX10_two 81 = .ok (.invokevirtual 160, 3) := by decide +kernel
theorem dX10_two_84 : decode cX10_two 84 = .ok (.ifCond .ne 10, 3) := by decide +kernel
theorem dX10_two_87 : decode cX10_two 87 = .ok (.aload_n 0, 1) := by decide +kernel
theorem dX10_two_88 : decode cX10_two 88 = .ok (.bipush (-3), 2) := by decide +kernel
theorem dX10_two_90 : decode cX10_two 90 = .ok (.invokevirtual 43, 3) := by decide +kernel
theorem dX10_two_93 : decode cX10_two 93 = .ok (.ireturn, 1) := by decide +kernel
theorem dX10_two_94 : decode cX10_two 94 = .ok (.bipush 40, 2) := by decide +kernel
theorem dX10_two_96 : decode cX10_two 96 = .ok (.aload_n 0, 1) := by decide +kernel
theorem dX10_two_97 : decode cX10_two 97 = .ok (.getfield 19, 3) := by decide +kernel
theorem dX10_two_100 : decode cX10_two 100 = .ok (.iload_n 1, 1) := by decide +kernel
theorem dX10_two_101 : decode cX10_two 101 = .ok (.iload_n 3, 1) := by decide +kernel
theorem dX10_two_102 : decode cX10_two 102 = .ok (.iload 4, 2) := by decide +kernel
theorem dX10_two_104 : decode cX10_two 104 = .ok (.invokevirtual 121, 3) := by decide +kernel
theorem dX10_two_107 : decode cX10_two 107 = .ok (.isub, 1) := by decide +kernel
theorem dX10_two_108 : decode cX10_two 108 = .ok (.bipush 40, 2) := by decide +kernel
theorem dX10_two_110 : decode cX10_two 110 = .ok (.aload_n 0, 1) := by decide +kernel
theorem dX10_two_111 : decode cX10_two 111 = .ok (.getfield 19, 3) := by decide +kernel
theorem dX10_two_114 : decode cX10_two 114 = .ok (.iload_n 2, 1) := by decide +kernel
theorem dX10_two_115 : decode cX10_two 115 = .ok (.iload_n 3, 1) := by decide +kernel
theorem dX10_two_116 : decode cX10_two 116 = .ok (.iload 4, 2) := by decide +kernel
theorem dX10_two_118 : decode cX10_two 118 = .ok (.invokevirtual 121, 3) := by decide +kernel
theorem dX10_two_121 : decode cX10_two 121 = .ok (.isub, 1) := by decide +kernel
theorem dX10_two_122 : decode cX10_two 122 = .ok (.imul, 1) := by decide +kernel
theorem dX10_two_123 : decode cX10_two 123 = .ok (.istore 5, 2) := by decide +kernel
theorem dX10_two_125 : decode cX10_two 125 = .ok (.sipush 1600, 3) := by decide +kernel
theorem dX10_two_128 : decode cX10_two 128 = .ok (.iload 5, 2) := by decide +kernel
theorem dX10_two_130 : decode cX10_two 130 = .ok (.isub, 1) := by decide +kernel
theorem dX10_two_131 : decode cX10_two 131 = .ok (.ireturn, 1) := by decide +kernel
set_option maxRecDepth 20000 in
theorem ggX10_worth_X1_isPlayer : GoodIn wsX10_worth wsX1_isPlayer := goodIn_r _ [8, 9, 10, 201, 202, 203, 204, 205, 206, 207, 208] (by decide +kernel) (by decide +kernel)
set_option maxRecDepth 20000 in
theorem gX10_worth_X1_isPlayer : GoodIn wsX10_worth (wsV RX10 74 RX1 yX1_isPlayer wsX1_isPlayer) := goodIn_app (goodIn_of _ (by decide +kernel)) ggX10_worth_X1_isPlayer
set_option maxRecDepth 20000 in
theorem ggX10_worth_X10_refused : GoodIn wsX10_worth wsX10_refused := goodIn_r _ [15, 16, 191, 192, 193, 194, 195, 196, 197, 198, 199, 200] (by decide +kernel) (by decide +kernel)
set_option maxRecDepth 20000 in
theorem gX10_worth_X10_refused : GoodIn wsX10_worth (wsV RX10 43 RX10 yX10_refused wsX10_refused) := goodIn_app (goodIn_of _ (by decide +kernel)) ggX10_worth_X10_refused
set_option maxRecDepth 20000 in
theorem ggX10_worth_X1_isIn : GoodIn wsX10_worth wsX1_isIn := goodIn_r _ [20, 21, 5, 6, 7, 8, 9, 10, 22, 23, 24, 25, 26, 27, 201, 202, 203, 204, 205, 206, 207, 208, 209, 210, 211] (by decide +kernel) (by decide +kernel)
set_option maxRecDepth 20000 in
theorem gX10_worth_X1_isIn : GoodIn wsX10_worth (wsV RX10 84 RX1 yX1_isIn wsX1_isIn) := goodIn_app (goodIn_of _ (by decide +kernel)) ggX10_worth_X1_isIn
set_option maxRecDepth 20000 in
theorem ggX10_worth_X1_sideOf : GoodIn wsX10_worth wsX1_sideOf := goodIn_r _ [31, 10, 21, 5, 6, 7, 8, 9, 201, 202, 203, 204, 205, 206, 207, 208, 212, 213, 214, 215, 216, 217, 218, 219, 220, 221, 222, 223, 224, 225, 226, 227, 228, 229, 230, 231, 232, 233, 234, 235] (by decide +kernel) (by decide +kernel)
set_option maxRecDepth 20000 in
theorem gX10_worth_X1_sideOf : GoodIn wsX10_worth (wsV RX10 78 RX1 yX1_sideOf wsX1_sideOf) := goodIn_app (goodIn_of _ (by decide +kernel)) ggX10_worth_X1_sideOf
set_option maxRecDepth 20000 in
theorem ggX10_worth_X1_becomeLike : GoodIn wsX10_worth wsX1_becomeLike := goodIn_r _ [35, 10, 9, 26, 27, 36, 37, 38, 39, 40, 41, 42, 43, 44, 45, 46, 47, 48, 49, 50, 51, 52, 201, 202, 203, 204, 205, 206, 207, 208, 209, 210, 211] (by decide +kernel) (by decide +kernel)
set_option maxRecDepth 20000 in
theorem gX10_worth_X1_becomeLike : GoodIn wsX10_worth (wsV RX10 63 RX1 yX1_becomeLike wsX1_becomeLike) := goodIn_app (goodIn_of _ (by decide +kernel)) ggX10_worth_X1_becomeLike
set_option maxRecDepth 20000 in
theorem ggX10_worth_X1_goOut : GoodIn wsX10_worth wsX1_goOut := goodIn_r _ [56, 36, 57, 18, 19, 7, 20, 21, 5, 6, 8, 9, 10, 22, 23, 24, 25, 26, 27, 58, 29, 30, 31, 59, 60, 61, 62, 41, 42, 63, 14, 64, 65, 66, 67, 68, 69, 70, 71, 47, 72, 49, 52, 50, 201, 202, 203, 204, 205, 206, 207, 208, 209, 210, 211, 212, 213, 214, 215, 216, 217, 218, 219, 220, 221, 222, 223, 224, 225, 226, 227, 228, 229, 230, 231, 232, 233, 234, 235] (by decide +kernel) (by decide +kernel)
set_option maxRecDepth 20000 in
theorem gX10_worth_X1_goOut : GoodIn wsX10_worth (wsV RX10 163 RX1 yX1_goOut wsX1_goOut) := goodIn_app (goodIn_of _ (by decide +kernel)) ggX10_worth_X1_goOut
set_option maxRecDepth 20000 in
theorem ggX10_worth_X1_gainAt : GoodIn wsX10_worth wsX1_gainAt := goodIn_r _ [76, 9, 58, 29, 30, 7, 31, 10, 21, 5, 6, 8, 77, 78, 79, 80, 57, 18, 19, 20, 22, 23, 24, 25, 26, 27, 81, 82, 83, 84, 85, 86, 87, 88, 89, 90, 91, 92, 43, 93, 94, 95, 96, 97, 98, 99, 100, 101, 102, 103, 104, 105, 106, 107, 108, 109, 110, 111, 112, 113, 114, 115, 116, 117, 118, 119, 120, 121, 122, 123, 36, 124, 125, 126, 127, 128, 129, 130, 131, 132, 133, 134, 135, 136, 137, 138, 139, 140, 141, 142, 143, 144, 145, 146, 147, 148, 14, 149, 150, 151, 152, 153, 154, 155, 156, 157, 158, 159, 160, 161, 162, 163, 164, 165, 166, 167, 168, 169, 170, 171, 172, 173, 174, 175, 176, 177, 178, 179, 180, 181, 182, 183, 184, 185, 186, 187, 188, 189, 190, 201, 202, 203, 204, 205, 206, 207, 208, 212, 213, 214, 215, 216, 217, 218, 219, 220, 221, 222, 223, 224, 225, 226, 227, 228, 229, 230, 231, 232, 233, 234, 235, 209, 210, 211] (by decide +kernel) (by decide +kernel)
set_option maxRecDepth 20000 in
theorem gX10_worth_X1_gainAt : GoodIn wsX10_worth (wsV RX10 166 RX1 yX1_gainAt wsX1_gainAt) := goodIn_app (goodIn_of _ (by decide +kernel)) ggX10_worth_X1_gainAt
theorem dX10_worth_0 : decode cX10_worth 0 = .ok (.aload_n 0, 1) := by decide +kernel
theorem dX10_worth_1 : decode cX10_worth 1 = .ok (.getfield 19, 3) := by decide +kernel
theorem dX10_worth_4 : decode cX10_worth 4 = .ok (.iload_n 1, 1) := by decide +kernel
theorem dX10_worth_5 : decode cX10_worth 5 = .ok (.invokevirtual 74, 3) := by decide +kernel
theorem dX10_worth_8 : decode cX10_worth 8 = .ok (.ifCond .ne 12, 3) := by decide +kernel
theorem dX10_worth_11 : decode cX10_worth 11 = .ok (.ldc 149, 2) := by decide +kernel
theorem dX10_worth_13 : decode cX10_worth 13 = .ok (.aload_n 0, 1) := by decide +kernel
theorem dX10_worth_14 : decode cX10_worth 14 = .ok (.iconst (-1), 1) := by decide +kernel
theorem dX10_worth_15 : decode cX10_worth 15 = .ok (.invokevirtual 43, 3) := by decide +kernel
theorem dX10_worth_18 : decode cX10_worth 18 = .ok (.isub, 1) := by decide +kernel
theorem dX10_worth_19 : decode cX10_worth 19 = .ok (.ireturn, 1) := by decide +kernel
theorem dX10_worth_20 : decode cX10_worth 20 = .ok (.aload_n 0, 1) := by decide +kernel
theorem dX10_worth_21 : decode cX10_worth 21 = .ok (.getfield 19, 3) := by decide +kernel
theorem dX10_worth_24 : decode cX10_worth 24 = .ok (.iload_n 1, 1) := by decide +kernel
theorem dX10_worth_25 : decode cX10_worth 25 = .ok (.invokevirtual 84, 3) := by decide +kernel
theorem dX10_worth_28 : decode cX10_worth 28 = .ok (.ifCond .ne 13, 3) := by decide +kernel
theorem dX10_worth_31 : decode cX10_worth 31 = .ok (.ldc 149, 2) := by decide +kernel
theorem dX10_worth_33 : decode cX10_worth 33 = .ok (.aload_n 0, 1) := by decide +kernel
theorem dX10_worth_34 : decode cX10_worth 34 = .ok (.bipush (-3), 2) := by decide +kernel
theorem dX10_worth_36 : decode cX10_worth 36 = .ok (.invokevirtual 43, 3) := by decide +kernel
theorem dX10_worth_39 : decode cX10_worth 39 = .ok (.isub, 1) := by decide +kernel
theorem dX10_worth_40 : decode cX10_worth 40 = .ok (.ireturn, 1) := by decide +kernel
theorem dX10_worth_41 : decode cX10_worth 41 = .ok (.aload_n 0, 1) := by decide +kernel
theorem dX10_worth_42 : decode cX10_worth 42 = .ok (.getfield 19, 3) := by decide +kernel
theorem dX10_worth_45 : decode cX10_worth 45 = .ok (.iload_n 1, 1) := by decide +kernel
theorem dX10_worth_46 : decode cX10_worth 46 = .ok (.invokevirtual 78, 3) := by decide +kernel
theorem dX10_worth_49 : decode cX10_worth 49 = .ok (.istore_n 2, 1) := by decide +kernel
theorem dX10_worth_50 : decode cX10_worth 50 = .ok (.aload_n 0, 1) := by decide +kernel
theorem dX10_worth_51 : decode cX10_worth 51 = .ok (.getfield 23, 3) := by decide +kernel
theorem dX10_worth_54 : decode cX10_worth 54 = .ok (.aload_n 0, 1) := by decide +kernel
theorem dX10_worth_55 : decode cX10_worth 55 = .ok (.getfield 19, 3) := by decide +kernel
theorem dX10_worth_58 : decode cX10_worth 58 = .ok (.invokevirtual 63, 3) := by decide +kernel
theorem dX10_worth_61 : decode cX10_worth 61 = .ok (.aload_n 0, 1) := by decide +kernel
theorem dX10_worth_62 : decode cX10_worth 62 = .ok (.getfield 23, 3) := by decide +kernel
theorem dX10_worth_65 : decode cX10_worth 65 = .ok (.iload_n 1, 1) := by decide +kernel
theorem dX10_worth_66 : decode cX10_worth 66 = .ok (.invokevirtual 163, 3) := by decide +kernel
theorem dX10_worth_69 : decode cX10_worth 69 = .ok (.pop, 1) := by decide +kernel
theorem dX10_worth_70 : decode cX10_worth 70 = .ok (.aload_n 0, 1) := by decide +kernel
theorem dX10_worth_71 : decode cX10_worth 71 = .ok (.getfield 23, 3) := by decide +kernel
theorem dX10_worth_74 : decode cX10_worth 74 = .ok (.iload_n 2, 1) := by decide +kernel
theorem dX10_worth_75 : decode cX10_worth 75 = .ok (.invokevirtual 166, 3) := by decide +kernel
theorem dX10_worth_78 : decode cX10_worth 78 = .ok (.aload_n 0, 1) := by decide +kernel
theorem dX10_worth_79 : decode cX10_worth 79 = .ok (.getfield 19, 3) := by decide +kernel
theorem dX10_worth_82 : decode cX10_worth 82 = .ok (.iload_n 2, 1) := by decide +kernel
theorem dX10_worth_83 : decode cX10_worth 83 = .ok (.invokevirtual 166, 3) := by decide +kernel
theorem dX10_worth_86 : decode cX10_worth 86 = .ok (.isub, 1) := by decide +kernel
theorem dX10_worth_87 : decode cX10_worth 87 = .ok (.ireturn, 1) := by decide +kernel
set_option maxRecDepth 20000 in
theorem ggX10_duel_X10_refused : GoodIn wsX10_duel wsX10_refused := goodIn_r _ [7, 8, 48, 49, 50, 51, 52, 53, 54, 55, 56, 57] (by decide +kernel) (by decide +kernel)
set_option maxRecDepth 20000 in
theorem gX10_duel_X10_refused : GoodIn wsX10_duel (wsV RX10 43 RX10 yX10_refused wsX10_refused) := goodIn_app (goodIn_of _ (by decide +kernel)) ggX10_duel_X10_refused
set_option maxRecDepth 20000 in
theorem ggX10_duel_X2_begin : GoodIn wsX10_duel wsX2_begin := goodIn_r _ [13, 14, 15, 16, 17, 18, 19, 20, 12, 21, 22, 23, 24, 25, 26, 58, 59, 60, 61, 62, 63] (by decide +kernel) (by decide +kernel)
set_option maxRecDepth 20000 in
theorem gX10_duel_X2_begin : GoodIn wsX10_duel (wsV RX10 171 RX2 yX2_begin wsX2_begin) := goodIn_app (goodIn_of _ (by decide +kernel)) ggX10_duel_X2_begin
set_option maxRecDepth 20000 in
theorem ggX10_duel_X2_throwNext : GoodIn wsX10_duel wsX2_throwNext := goodIn_r _ [30, 22, 31, 32, 33, 34, 35, 16, 17, 36, 18, 19, 20, 12, 21, 37, 38, 39, 40, 14, 15, 23, 24, 25, 26, 58, 59, 60, 61, 62, 63] (by decide +kernel) (by decide +kernel)
set_option maxRecDepth 20000 in
theorem gX10_duel_X2_throwNext : GoodIn wsX10_duel (wsV RX10 175 RX2 yX2_throwNext wsX2_throwNext) := goodIn_app (goodIn_of _ (by decide +kernel)) ggX10_duel_X2_throwNext
set_option maxRecDepth 20000 in
theorem ggX10_duel_X2_waysWonBy : GoodIn wsX10_duel wsX2_waysWonBy := goodIn_r _ [44, 22, 58, 59, 60, 61, 62, 63] (by decide +kernel) (by decide +kernel)
set_option maxRecDepth 20000 in
theorem gX10_duel_X2_waysWonBy : GoodIn wsX10_duel (wsV RX10 178 RX2 yX2_waysWonBy wsX2_waysWonBy) := goodIn_app (goodIn_of _ (by decide +kernel)) ggX10_duel_X2_waysWonBy
set_option maxRecDepth 20000 in
theorem ggX10_duel_X10_commonDivisor : GoodIn wsX10_duel wsX10_commonDivisor := goodIn_r _ [47] (by decide +kernel) (by decide +kernel)
set_option maxRecDepth 20000 in
theorem gX10_duel_X10_commonDivisor : GoodIn wsX10_duel (va_wsS RX10 186 yX10_commonDivisor wsX10_commonDivisor) := goodIn_app (goodIn_of _ (by decide +kernel)) ggX10_duel_X10_commonDivisor
theorem dX10_duel_0 : decode cX10_duel 0 = .ok (.iload_n 1, 1) := by decide +kernel
theorem dX10_duel_1 : decode cX10_duel 1 = .ok (.iconst 1, 1) := by decide +kernel
theorem dX10_duel_2 : decode cX10_duel 2 = .ok (.if_icmp .lt 25, 3) := by decide +kernel
theorem dX10_duel_5 : decode cX10_duel 5 = .ok (.iload_n 2, 1) := by decide +kernel
theorem dX10_duel_6 : decode cX10_duel 6 = .ok (.iconst 1, 1) := by decide +kernel
theorem dX10_duel_7 : decode cX10_duel 7 = .ok (.if_icmp .lt 20, 3) := by decide +kernel
theorem dX10_duel_10 : decode cX10_duel 10 = .ok (.iload_n 3, 1) := by decide +kernel
theorem dX10_duel_11 : decode cX10_duel 11 = .ok (.iconst 1, 1) := by decide +kernel
theorem dX10_duel_12 : decode cX10_duel 12 = .ok (.if_icmp .lt 15, 3) := by decide +kernel
theorem dX10_duel_15 : decode cX10_duel 15 = .ok (.iload 4, 2) := by decide +kernel
theorem dX10_duel_17 : decode cX10_duel 17 = .ok (.iconst 1, 1) := by decide +kernel
theorem dX10_duel_18 : decode cX10_duel 18 = .ok (.if_icmp .lt 9, 3) := by decide +kernel
theorem dX10_duel_21 : decode cX10_duel 21 = .ok (.iload 5, 2) := by decide +kernel
theorem dX10_duel_23 : decode cX10_duel 23 = .ok (.iconst 1, 1) := by decide +kernel
theorem dX10_duel_24 : decode cX10_duel 24 = .ok (.if_icmp .ge 15, 3) := by decide +kernel
theorem dX10_duel_27 : decode cX10_duel 27 = .ok (.ldc2_w 169, 3) := by decide +kernel
theorem dX10_duel_30 : decode cX10_duel 30 = .ok (.aload_n 0, 1) := by decide +kernel
theorem dX10_duel_31 : decode cX10_duel 31 = .ok (.bipush (-4), 2) := by decide +kernel
theorem dX10_duel_33 : decode cX10_duel 33 = .ok (.invokevirtual 43, 3) := by decide +kernel
theorem dX10_duel_36 : decode cX10_duel 36 = .ok (.i2l, 1) := by decide +kernel
theorem dX10_duel_37 : decode cX10_duel 37 = .ok (.lsub, 1) := by decide +kernel
theorem dX10_duel_38 : decode cX10_duel 38 = .ok (.lreturn, 1) := by decide +kernel
theorem dX10_duel_39 : decode cX10_duel 39 = .ok (.iload_n 1, 1) := by decide +kernel
theorem dX10_duel_40 : decode cX10_duel 40 = .ok (.iconst 4, 1) := by decide +kernel
theorem dX10_duel_41 : decode cX10_duel 41 = .ok (.if_icmp .gt 28, 3) := by decide +kernel
theorem dX10_duel_44 : decode cX10_duel 44 = .ok (.iload_n 2, 1) := by decide +kernel
theorem dX10_duel_45 : decode cX10_duel 45 = .ok (.iconst 4, 1) := by decide +kernel
theorem dX10_duel_46 : decode cX10_duel 46 = .ok (.if_icmp .gt 23, 3) := by decide +kernel
theorem dX10_duel_49 : decode cX10_duel 49 = .ok (.iload_n 3, 1) := by decide +kernel
theorem dX10_duel_50 : decode cX10_duel 50 = .ok (.bipush 19, 2) := by decide +kernel
theorem dX10_duel_52 : decode cX10_duel 52 = .ok (.if_icmp .gt 17, 3) := by decide +kernel
theorem dX10_duel_55 : decode cX10_duel 55 = .ok (.iload 4, 2) := by decide +kernel
theorem dX10_duel_57 : decode cX10_duel 57 = .ok (.bipush 19, 2) := by decide +kernel
theorem dX10_duel_59 : decode cX10_duel 59 = .ok (.if_icmp .gt 10, 3) := by decide +kernel
theorem dX10_duel_62 : decode cX10_duel 62 = .ok (.iload 5, 2) := by decide +kernel
theorem dX10_duel_64 : decode cX10_duel 64 = .ok (.bipush 9, 2) := by decide +kernel
theorem dX10_duel_66 : decode cX10_duel 66 = .ok (.if_icmp .le 15, 3) := by decide +kernel
theorem dX10_duel_69 : decode cX10_duel 69 = .ok (.ldc2_w 169, 3) := by decide +kernel
theorem dX10_duel_72 : decode cX10_duel 72 = .ok (.aload_n 0, 1) := by decide +kernel
theorem dX10_duel_73 : decode cX10_duel 73 = .ok (.bipush (-6), 2) := by decide +kernel
theorem dX10_duel_75 : decode cX10_duel 75 = .ok (.invokevirtual 43, 3) := by decide +kernel
theorem dX10_duel_78 : decode cX10_duel 78 = .ok (.i2l, 1) := by decide +kernel
theorem dX10_duel_79 : decode cX10_duel 79 = .ok (.lsub, 1) := by decide +kernel
theorem dX10_duel_80 : decode cX10_duel 80 = .ok (.lreturn, 1) := by decide +kernel
theorem dX10_duel_81 : decode cX10_duel 81 = .ok (.iload 6, 2) := by decide +kernel
theorem dX10_duel_83 : decode cX10_duel 83 = .ok (.ifCond .lt 9, 3) := by decide +kernel
theorem dX10_duel_86 : decode cX10_duel 86 = .ok (.iload 6, 2) := by decide +kernel
theorem dX10_duel_88 : decode cX10_duel 88 = .ok (.iconst 3, 1) := by decide +kernel
theorem dX10_duel_89 : decode cX10_duel 89 = .ok (.if_icmp .le 15, 3) := by decide +kernel
theorem dX10_duel_92 : decode cX10_duel 92 = .ok (.ldc2_w 169, 3) := by decide +kernel
theorem dX10_duel_95 : decode cX10_duel 95 = .ok (.aload_n 0, 1) := by decide +kernel
theorem dX10_duel_96 : decode cX10_duel 96 = .ok (.bipush (-2), 2) := by decide +kernel
theorem dX10_duel_98 : decode cX10_duel 98 = .ok (.invokevirtual 43, 3) := by decide +kernel
theorem dX10_duel_101 : decode cX10_duel 101 = .ok (.i2l, 1) := by decide +kernel
theorem dX10_duel_102 : decode cX10_duel 102 = .ok (.lsub, 1) := by decide +kernel
theorem dX10_duel_103 : decode cX10_duel 103 = .ok (.lreturn, 1) := by decide +kernel
theorem dX10_duel_104 : decode cX10_duel 104 = .ok (.aload_n 0, 1) := by decide +kernel
theorem dX10_duel_105 : decode cX10_duel 105 = .ok (.getfield 32, 3) := by decide +kernel
theorem dX10_duel_108 : decode cX10_duel 108 = .ok (.iload_n 1, 1) := by decide +kernel
theorem dX10_duel_109 : decode cX10_duel 109 = .ok (.iload_n 2, 1) := by decide +kernel
theorem dX10_duel_110 : decode cX10_duel 110 = .ok (.iload_n 3, 1) := by decide +kernel
theorem dX10_duel_111 : decode cX10_duel 111 = .ok (.iload 4, 2) := by decide +kernel
theorem dX10_duel_113 : decode cX10_duel 113 = .ok (.invokevirtual 171, 3) := by decide +kernel
theorem dX10_duel_116 : decode cX10_duel 116 = .ok (.iconst 0, 1) := by decide +kernel
theorem dX10_duel_117 : decode cX10_duel 117 = .ok (.istore 7, 2) := by decide +kernel
theorem dX10_duel_119 : decode cX10_duel 119 = .ok (.iload 7, 2) := by decide +kernel
theorem dX10_duel_121 : decode cX10_duel 121 = .ok (.iload 5, 2) := by decide +kernel
theorem dX10_duel_123 : decode cX10_duel 123 = .ok (.if_icmp .ge 16, 3) := by decide +kernel
theorem dX10_duel_126 : decode cX10_duel 126 = .ok (.aload_n 0, 1) := by decide +kernel
theorem dX10_duel_127 : decode cX10_duel 127 = .ok (.getfield 32, 3) := by decide +kernel
theorem dX10_duel_130 : decode cX10_duel 130 = .ok (.invokevirtual 175, 3) := by decide +kernel
theorem dX10_duel_133 : decode cX10_duel 133 = .ok (.iinc 7 1, 3) := by decide +kernel
theorem dX10_duel_136 : decode cX10_duel 136 = .ok (.goto (-17), 3) := by decide +kernel
theorem dX10_duel_139 : decode cX10_duel 139 = .ok (.aload_n 0, 1) := by decide +kernel
theorem dX10_duel_140 : decode cX10_duel 140 = .ok (.getfield 32, 3) := by decide +kernel
theorem dX10_duel_143 : decode cX10_duel 143 = .ok (.iload 6, 2) := by decide +kernel
theorem dX10_duel_145 : decode cX10_duel 145 = .ok (.iconst 2, 1) := by decide +kernel
theorem dX10_duel_146 : decode cX10_duel 146 = .ok (.idiv, 1) := by decide +kernel
theorem dX10_duel_147 : decode cX10_duel 147 = .ok (.invokevirtual 178, 3) := by decide +kernel
theorem dX10_duel_150 : decode cX10_duel 150 = .ok (.lstore 7, 2) := by decide +kernel
theorem dX10_duel_152 : decode cX10_duel 152 = .ok (.aload_n 0, 1) := by decide +kernel
theorem dX10_duel_153 : decode cX10_duel 153 = .ok (.getfield 32, 3) := by decide +kernel
theorem dX10_duel_156 : decode cX10_duel 156 = .ok (.getfield 182, 3) := by decide +kernel
theorem dX10_duel_159 : decode cX10_duel 159 = .ok (.lstore 9, 2) := by decide +kernel
theorem dX10_duel_161 : decode cX10_duel 161 = .ok (.lload 7, 2) := by decide +kernel
theorem dX10_duel_163 : decode cX10_duel 163 = .ok (.lload 9, 2) := by decide +kernel
theorem dX10_duel_165 : decode cX10_duel 165 = .ok (.invokestatic 186, 3) := by decide +kernel
theorem dX10_duel_168 : decode cX10_duel 168 = .ok (.lstore 11, 2) := by decide +kernel
theorem dX10_duel_170 : decode cX10_duel 170 = .ok (.lload 11, 2) := by decide +kernel
theorem dX10_duel_172 : decode cX10_duel 172 = .ok (.lconst 1, 1) := by decide +kernel
theorem dX10_duel_173 : decode cX10_duel 173 = .ok (.lcmp, 1) := by decide +kernel
theorem dX10_duel_174 : decode cX10_duel 174 = .ok (.ifCond .ge 6, 3) := by decide +kernel
theorem dX10_duel_177 : decode cX10_duel 177 = .ok (.lconst 1, 1) := by decide +kernel
theorem dX10_duel_178 : decode cX10_duel 178 = .ok (.lstore 11, 2) := by decide +kernel
theorem dX10_duel_180 : decode cX10_duel 180 = .ok (.iload 6, 2) := by decide +kernel
theorem dX10_duel_182 : decode cX10_duel 182 = .ok (.iconst 2, 1) := by decide +kernel
theorem dX10_duel_183 : decode cX10_duel 183 = .ok (.irem, 1) := by decide +kernel
theorem dX10_duel_184 : decode cX10_duel 184 = .ok (.ifCond .ne 8, 3) := by decide +kernel
theorem dX10_duel_187 : decode cX10_duel 187 = .ok (.lload 7, 2) := by decide +kernel
theorem dX10_duel_189 : decode cX10_duel 189 = .ok (.goto 5, 3) := by decide +kernel
theorem dX10_duel_192 : decode cX10_duel 192 = .ok (.lload 9, 2) := by decide +kernel
theorem dX10_duel_194 : decode cX10_duel 194 = .ok (.lload 11, 2) := by decide +kernel
theorem dX10_duel_196 : decode cX10_duel 196 = .ok (.ldiv, 1) := by decide +kernel
theorem dX10_duel_197 : decode cX10_duel 197 = .ok (.lreturn, 1) := by decide +kernel
set_option maxRecDepth 20000 in
theorem ggX10_game_X1_isPlayer : GoodIn wsX10_game wsX1_isPlayer := goodIn_r _ [7, 8, 9, 157, 158, 159, 160, 161, 162, 163, 164] (by decide +kernel) (by decide +kernel)
set_option maxRecDepth 20000 in
theorem gX10_game_X1_isPlayer : GoodIn wsX10_game (wsV RX10 74 RX1 yX1_isPlayer wsX1_isPlayer) := goodIn_app (goodIn_of _ (by decide +kernel)) ggX10_game_X1_isPlayer
set_option maxRecDepth 20000 in
theorem ggX10_game_X10_refused : GoodIn wsX10_game wsX10_refused := goodIn_r _ [14, 15, 147, 148, 149, 150, 151, 152, 153, 154, 155, 156] (by decide +kernel) (by decide +kernel)
set_option maxRecDepth 20000 in
theorem gX10_game_X10_refused : GoodIn wsX10_game (wsV RX10 43 RX10 yX10_refused wsX10_refused) := goodIn_app (goodIn_of _ (by decide +kernel)) ggX10_game_X10_refused
set_option maxRecDepth 20000 in
theorem ggX10_game_X1_areOpposed : GoodIn wsX10_game wsX1_areOpposed := goodIn_r _ [19, 20, 21, 22, 6, 23, 24, 4, 5, 7, 8, 9, 25, 26, 27, 28, 29, 30, 31, 32, 33, 34, 157, 158, 159, 160, 161, 162, 163, 164, 165, 166, 167, 168, 169, 170, 171, 172, 173, 174, 175, 176, 177, 178, 179, 180, 181, 182, 183, 184, 185, 186, 187, 188, 189, 190, 191] (by decide +kernel) (by decide +kernel)
set_option maxRecDepth 20000 in
theorem gX10_game_X1_areOpposed : GoodIn wsX10_game (wsV RX10 117 RX1 yX1_areOpposed wsX1_areOpposed) := goodIn_app (goodIn_of _ (by decide +kernel)) ggX10_game_X1_areOpposed
set_option maxRecDepth 20000 in
theorem ggX10_game_X10_catchOrDodge : GoodIn wsX10_game wsX10_catchOrDodge := goodIn_r _ [38, 1, 39, 40, 41, 42, 43, 44, 45, 6, 46, 47, 48, 49, 50, 9, 51, 24, 4, 5, 7, 8, 52, 53, 54, 55, 56, 57, 58, 59, 60, 61, 62, 63, 64, 65, 66, 67, 68, 69, 70, 71, 72, 73, 74, 75, 76, 77, 78, 79, 80, 81, 82, 83, 84, 85, 86, 87, 88, 89, 90, 91, 92, 93, 94, 95, 96, 97, 98, 99, 100, 101, 102, 103, 104, 105, 106, 107, 13, 108, 109, 110, 111, 112, 113, 114, 115, 116, 117, 118, 119, 120, 121, 122, 123, 29, 30, 124, 125, 126, 127, 128, 129, 130, 131, 132, 133, 134, 135, 136, 137, 138, 139, 140, 141, 142, 143, 144, 145, 146, 147, 148, 149, 150, 151, 152, 153, 154, 155, 156, 157, 158, 159, 160, 161, 162, 163, 164, 168, 169, 170, 171, 172, 173, 174, 175, 176, 177, 178, 179, 180, 181, 182, 183, 184, 185, 186, 187, 188, 189, 190, 191, 165, 166, 167] (by decide +kernel) (by decide +kernel)
set_option maxRecDepth 20000 in
theorem gX10_game_X10_catchOrDodge : GoodIn wsX10_game (wsV RX10 190 RX10 yX10_catchOrDodge wsX10_catchOrDodge) := goodIn_app (goodIn_of _ (by decide +kernel)) ggX10_game_X10_catchOrDodge
theorem dX10_game_0 : decode cX10_game 0 = .ok (.aload_n 0, 1) := by decide +kernel
theorem dX10_game_1 : decode cX10_game 1 = .ok (.getfield 19, 3) := by decide +kernel
theorem dX10_game_4 : decode cX10_game 4 = .ok (.iload_n 1, 1) := by decide +kernel
theorem dX10_game_5 : decode cX10_game 5 = .ok (.invokevirtual 74, 3) := by decide +kernel
theorem dX10_game_8 : decode cX10_game 8 = .ok (.ifCond .eq 14, 3) := by decide +kernel
theorem dX10_game_11 : decode cX10_game 11 = .ok (.aload_n 0, 1) := by decide +kernel
theorem dX10_game_12 : decode cX10_game 12 = .ok (.getfield 19, 3) := by decide +kernel
theorem dX10_game_15 : decode cX10_game 15 = .ok (.iload_n 2, 1) := by decide +kernel
theorem dX10_game_16 : decode cX10_game 16 = .ok (.invokevirtual 74, 3) := by decide +kernel
theorem dX10_game_19 : decode cX10_game 19 = .ok (.ifCond .ne 14, 3) := by decide +kernel
theorem dX10_game_22 : decode cX10_game 22 = .ok (.ldc2_w 169, 3) := by decide +kernel
theorem dX10_game_25 : decode cX10_game 25 = .ok (.aload_n 0, 1) := by decide +kernel
theorem dX10_game_26 : decode cX10_game 26 = .ok (.iconst (-1), 1) := by decide +kernel
theorem dX10_game_27 : decode cX10_game 27 = .ok (.invokevirtual 43, 3) := by decide +kernel
theorem dX10_game_30 : decode cX10_game 30 = .ok (.i2l, 1) := by decide +kernel
theorem dX10_game_31 : decode cX10_game 31 = .ok (.lsub, 1) := by decide +kernel
theorem dX10_game_32 : decode cX10_game 32 = .ok (.lreturn, 1) := by decide +kernel
theorem dX10_game_33 : decode cX10_game 33 = .ok (.iload_n 3, 1) := by decide +kernel
theorem dX10_game_34 : decode cX10_game 34 = .ok (.ifCond .eq 20, 3) := by decide +kernel
theorem dX10_game_37 : decode cX10_game 37 = .ok (.iload_n 3, 1) := by decide +kernel
theorem dX10_game_38 : decode cX10_game 38 = .ok (.iconst 1, 1) := by decide +kernel
theorem dX10_game_39 : decode cX10_game 39 = .ok (.if_icmp .eq 15, 3) := by decide +kernel
theorem dX10_game_42 : decode cX10_game 42 = .ok (.ldc2_w 169, 3) := by decide +kernel
theorem dX10_game_45 : decode cX10_game 45 = .ok (.aload_n 0, 1) := by decide +kernel
theorem dX10_game_46 : decode cX10_game 46 = .ok (.bipush (-2), 2) := by decide +kernel
theorem dX10_game_48 : decode cX10_game 48 = .ok (.invokevirtual 43, 3) := by decide +kernel
theorem dX10_game_51 : decode cX10_game 51 = .ok (.i2l, 1) := by decide +kernel
theorem dX10_game_52 : decode cX10_game 52 = .ok (.lsub, 1) := by decide +kernel
theorem dX10_game_53 : decode cX10_game 53 = .ok (.lreturn, 1) := by decide +kernel
theorem dX10_game_54 : decode cX10_game 54 = .ok (.aload_n 0, 1) := by decide +kernel
theorem dX10_game_55 : decode cX10_game 55 = .ok (.getfield 19, 3) := by decide +kernel
theorem dX10_game_58 : decode cX10_game 58 = .ok (.iload_n 1, 1) := by decide +kernel
theorem dX10_game_59 : decode cX10_game 59 = .ok (.iload_n 2, 1) := by decide +kernel
theorem dX10_game_60 : decode cX10_game 60 = .ok (.invokevirtual 117, 3) := by decide +kernel
theorem dX10_game_63 : decode cX10_game 63 = .ok (.ifCond .ne 15, 3) := by decide +kernel
theorem dX10_game_66 : decode cX10_game 66 = .ok (.ldc2_w 169, 3) := by decide +kernel
theorem dX10_game_69 : decode cX10_game 69 = .ok (.aload_n 0, 1) := by decide +kernel
theorem dX10_game_70 : decode cX10_game 70 = .ok (.bipush (-3), 2) := by decide +kernel
theorem dX10_game_72 : decode cX10_game 72 = .ok (.invokevirtual 43, 3) := by decide +kernel
theorem dX10_game_75 : decode cX10_game 75 = .ok (.i2l, 1) := by decide +kernel
theorem dX10_game_76 : decode cX10_game 76 = .ok (.lsub, 1) := by decide +kernel
theorem dX10_game_77 : decode cX10_game 77 = .ok (.lreturn, 1) := by decide +kernel
theorem dX10_game_78 : decode cX10_game 78 = .ok (.iload_n 3, 1) := by decide +kernel
theorem dX10_game_79 : decode cX10_game 79 = .ok (.ifCond .ne 13, 3) := by decide +kernel
theorem dX10_game_82 : decode cX10_game 82 = .ok (.aload_n 0, 1) := by decide +kernel
theorem dX10_game_83 : decode cX10_game 83 = .ok (.iload_n 1, 1) := by decide +kernel
theorem dX10_game_84 : decode cX10_game 84 = .ok (.iload_n 2, 1) := by decide +kernel
theorem dX10_game_85 : decode cX10_game 85 = .ok (.invokevirtual 190, 3) := by decide +kernel
theorem dX10_game_88 : decode cX10_game 88 = .ok (.i2l, 1) := by decide +kernel
theorem dX10_game_89 : decode cX10_game 89 = .ok (.goto 4, 3) := by decide +kernel
theorem dX10_game_92 : decode cX10_game 92 = .ok (.lconst 1, 1) := by decide +kernel
theorem dX10_game_93 : decode cX10_game 93 = .ok (.lreturn, 1) := by decide +kernel
set_option maxRecDepth 20000 in
theorem ggX10_row_X10_refused : GoodIn wsX10_row wsX10_refused := goodIn_r _ [7, 8, 9, 10, 11, 12, 13, 14, 15, 16, 17, 18] (by decide +kernel) (by decide +kernel)
set_option maxRecDepth 20000 in
theorem gX10_row_X10_refused : GoodIn wsX10_row (wsV RX10 43 RX10 yX10_refused wsX10_refused) := goodIn_app (goodIn_of _ (by decide +kernel)) ggX10_row_X10_refused
theorem dX10_row_0 : decode cX10_row 0 = .ok (.iload_n 1, 1) := by decide +kernel
theorem dX10_row_1 : decode cX10_row 1 = .ok (.ifCond .ge 10, 3) := by decide +kernel
theorem dX10_row_4 : decode cX10_row 4 = .ok (.aload_n 0, 1) := by decide +kernel
theorem dX10_row_5 : decode cX10_row 5 = .ok (.bipush (-4), 2) := by decide +kernel
theorem dX10_row_7 : decode cX10_row 7 = .ok (.invokevirtual 43, 3) := by decide +kernel
theorem dX10_row_10 : decode cX10_row 10 = .ok (.ireturn, 1) := by decide +kernel
theorem dX10_row_11 : decode cX10_row 11 = .ok (.iload_n 1, 1) := by decide +kernel
theorem dX10_row_12 : decode cX10_row 12 = .ok (.sipush 9999, 3) := by decide +kernel
theorem dX10_row_15 : decode cX10_row 15 = .ok (.if_icmp .gt 12, 3) := by decide +kernel
theorem dX10_row_18 : decode cX10_row 18 = .ok (.aload_n 0, 1) := by decide +kernel
theorem dX10_row_19 : decode cX10_row 19 = .ok (.getfield 193, 3) := by decide +kernel
theorem dX10_row_22 : decode cX10_row 22 = .ok (.bipush 12, 2) := by decide +kernel
theorem dX10_row_24 : decode cX10_row 24 = .ok (.if_icmp .lt 10, 3) := by decide +kernel
theorem dX10_row_27 : decode cX10_row 27 = .ok (.aload_n 0, 1) := by decide +kernel
theorem dX10_row_28 : decode cX10_row 28 = .ok (.bipush (-6), 2) := by decide +kernel
theorem dX10_row_30 : decode cX10_row 30 = .ok (.invokevirtual 43, 3) := by decide +kernel
theorem dX10_row_33 : decode cX10_row 33 = .ok (.ireturn, 1) := by decide +kernel
theorem dX10_row_34 : decode cX10_row 34 = .ok (.aload_n 0, 1) := by decide +kernel
theorem dX10_row_35 : decode cX10_row 35 = .ok (.getfield 36, 3) := by decide +kernel
theorem dX10_row_38 : decode cX10_row 38 = .ok (.aload_n 0, 1) := by decide +kernel
theorem dX10_row_39 : decode cX10_row 39 = .ok (.getfield 193, 3) := by decide +kernel
theorem dX10_row_42 : decode cX10_row 42 = .ok (.iload_n 1, 1) := by decide +kernel
theorem dX10_row_43 : decode cX10_row 43 = .ok (.iastore, 1) := by decide +kernel
theorem dX10_row_44 : decode cX10_row 44 = .ok (.aload_n 0, 1) := by decide +kernel
theorem dX10_row_45 : decode cX10_row 45 = .ok (.dup, 1) := by decide +kernel
theorem dX10_row_46 : decode cX10_row 46 = .ok (.getfield 193, 3) := by decide +kernel
theorem dX10_row_49 : decode cX10_row 49 = .ok (.iconst 1, 1) := by decide +kernel
theorem dX10_row_50 : decode cX10_row 50 = .ok (.iadd, 1) := by decide +kernel
theorem dX10_row_51 : decode cX10_row 51 = .ok (.putfield 193, 3) := by decide +kernel
theorem dX10_row_54 : decode cX10_row 54 = .ok (.aload_n 0, 1) := by decide +kernel
theorem dX10_row_55 : decode cX10_row 55 = .ok (.getfield 193, 3) := by decide +kernel
theorem dX10_row_58 : decode cX10_row 58 = .ok (.ireturn, 1) := by decide +kernel
set_option maxRecDepth 20000 in
theorem ggX10_judge_X10_playRowInMind : GoodIn wsX10_judge wsX10_playRowInMind := goodIn_r _ [5, 6, 7, 8, 9, 10, 11, 12, 13, 14, 15, 16, 17, 18, 19, 20, 21, 22, 23, 24, 25, 26, 27, 28, 29, 30, 31, 32, 33, 34, 35, 36, 37, 38, 4, 39, 40, 41, 42, 43, 44, 45, 46, 47, 48, 49, 50, 51, 52, 53, 54, 55, 56, 57, 58, 59, 60, 61, 62, 63, 64, 65, 66, 67, 68, 69, 70, 71, 72, 73, 74, 75, 76, 77, 78, 79, 80, 81, 82, 83, 84, 85, 86, 87, 88, 89, 90, 91, 92, 93, 94, 95, 96, 97, 98, 99, 100, 101, 102, 103, 104, 105, 106, 107, 108, 109, 110, 111, 112, 113, 114, 115, 116, 117, 118, 119, 120, 121, 122, 123, 124, 125, 126, 127, 128, 129, 130, 131, 132, 133, 134, 135, 136, 137, 138, 139, 140, 141, 142, 143, 144, 145, 146, 147, 148, 149, 150, 151, 152, 153, 154, 155, 156, 157, 158, 159, 160, 161, 162, 163, 164, 165, 166, 167, 168, 169, 170, 171, 172, 173, 174, 175] (by decide +kernel) (by decide +kernel)
set_option maxRecDepth 20000 in
theorem gX10_judge_X10_playRowInMind : GoodIn wsX10_judge (wsV RX10 196 RX10 yX10_playRowInMind wsX10_playRowInMind) := goodIn_app (goodIn_of _ (by decide +kernel)) ggX10_judge_X10_playRowInMind
theorem dX10_judge_0 : decode cX10_judge 0 = .ok (.aload_n 0, 1) := by decide +kernel
theorem dX10_judge_1 : decode cX10_judge 1 = .ok (.invokevirtual 196, 3) := by decide +kernel
theorem dX10_judge_4 : decode cX10_judge 4 = .ok (.ireturn, 1) := by decide +kernel
set_option maxRecDepth 20000 in
theorem ggX10_ends_X10_playRowInMind : GoodIn wsX10_ends wsX10_playRowInMind := goodIn_r _ [6, 1, 7, 8, 9, 10, 11, 12, 13, 14, 15, 16, 17, 18, 19, 20, 21, 22, 23, 24, 25, 26, 27, 28, 29, 30, 31, 32, 33, 34, 35, 36, 37, 38, 5, 39, 40, 41, 42, 43, 44, 45, 46, 47, 48, 49, 50, 51, 52, 53, 54, 55, 56, 57, 58, 59, 60, 61, 62, 63, 64, 65, 66, 67, 68, 69, 70, 71, 72, 73, 74, 75, 76, 77, 78, 79, 80, 81, 82, 83, 84, 85, 86, 87, 88, 89, 90, 91, 92, 93, 94, 95, 96, 97, 98, 99, 100, 101, 102, 103, 104, 105, 106, 107, 108, 109, 110, 111, 112, 113, 114, 115, 116, 117, 118, 119, 120, 121, 122, 123, 124, 125, 126, 127, 128, 129, 130, 132, 133, 134, 135, 136, 137, 138, 139, 140, 141, 142, 143, 144, 145, 146, 147, 148, 149, 150, 151, 152, 153, 154, 155, 156, 157, 158, 159, 160, 161, 162, 163, 164, 165, 166, 167, 168, 169, 170, 171, 172, 173, 174, 175, 176] (by decide +kernel) (by decide +kernel)
set_option maxRecDepth 20000 in
theorem gX10_ends_X10_playRowInMind : GoodIn wsX10_ends (wsV RX10 196 RX10 yX10_playRowInMind wsX10_playRowInMind) := goodIn_app (goodIn_of _ (by decide +kernel)) ggX10_ends_X10_playRowInMind
set_option maxRecDepth 20000 in
theorem ggX10_ends_X1_inBits : GoodIn wsX10_ends wsX1_inBits := goodIn_r _ [75, 17, 18, 142, 143, 144, 145, 146, 147, 148, 149, 150, 151, 152] (by decide +kernel) (by decide +kernel)
set_option maxRecDepth 20000 in
theorem gX10_ends_X1_inBits : GoodIn wsX10_ends (wsV RX10 199 RX1 yX1_inBits wsX1_inBits) := goodIn_app (goodIn_of _ (by decide +kernel)) ggX10_ends_X1_inBits
theorem dX10_ends_0 : decode cX10_ends 0 = .ok (.aload_n 0, 1) := by decide +kernel
theorem dX10_ends_1 : decode cX10_ends 1 = .ok (.invokevirtual 196, 3) := by decide +kernel
theorem dX10_ends_4 : decode cX10_ends 4 = .ok (.pop, 1) := by decide +kernel
theorem dX10_ends_5 : decode cX10_ends 5 = .ok (.aload_n 0, 1) := by decide +kernel
theorem dX10_ends_6 : decode cX10_ends 6 = .ok (.getfield 23, 3) := by decide +kernel
theorem dX10_ends_9 : decode cX10_ends 9 = .ok (.invokevirtual 199, 3) := by decide +kernel
theorem dX10_ends_12 : decode cX10_ends 12 = .ok (.ireturn, 1) := by decide +kernel
theorem dX10_clear_0 : decode cX10_clear 0 = .ok (.aload_n 0, 1) := by decide +kernel
theorem dX10_clear_1 : decode cX10_clear 1 = .ok (.getfield 193, 3) := by decide +kernel
theorem dX10_clear_4 : decode cX10_clear 4 = .ok (.istore_n 1, 1) := by decide +kernel
theorem dX10_clear_5 : decode cX10_clear 5 = .ok (.aload_n 0, 1) := by decide +kernel
theorem dX10_clear_6 : decode cX10_clear 6 = .ok (.iconst 0, 1) := by decide +kernel
theorem dX10_clear_7 : decode cX10_clear 7 = .ok (.putfield 193, 3) := by decide +kernel
theorem dX10_clear_10 : decode cX10_clear 10 = .ok (.iload_n 1, 1) := by decide +kernel
theorem dX10_clear_11 : decode cX10_clear 11 = .ok (.ireturn, 1) := by decide +kernel
set_option maxRecDepth 20000 in
theorem ggX10_whose_X1_isPlayer : GoodIn wsX10_whose wsX1_isPlayer := goodIn_r _ [6, 7, 8, 54, 55, 56, 57, 58, 59, 60, 61] (by decide +kernel) (by decide +kernel)
set_option maxRecDepth 20000 in
theorem gX10_whose_X1_isPlayer : GoodIn wsX10_whose (wsV RX10 74 RX1 yX1_isPlayer wsX1_isPlayer) := goodIn_app (goodIn_of _ (by decide +kernel)) ggX10_whose_X1_isPlayer
set_option maxRecDepth 20000 in
theorem ggX10_whose_X10_refused : GoodIn wsX10_whose wsX10_refused := goodIn_r _ [13, 14, 44, 45, 46, 47, 48, 49, 50, 51, 52, 53] (by decide +kernel) (by decide +kernel)
set_option maxRecDepth 20000 in
theorem gX10_whose_X10_refused : GoodIn wsX10_whose (wsV RX10 43 RX10 yX10_refused wsX10_refused) := goodIn_app (goodIn_of _ (by decide +kernel)) ggX10_whose_X10_refused
set_option maxRecDepth 20000 in
theorem ggX10_whose_X1_isIn : GoodIn wsX10_whose wsX1_isIn := goodIn_r _ [18, 19, 3, 4, 5, 6, 7, 8, 20, 21, 22, 23, 24, 25, 54, 55, 56, 57, 58, 59, 60, 61, 62, 63, 64] (by decide +kernel) (by decide +kernel)
set_option maxRecDepth 20000 in
theorem gX10_whose_X1_isIn : GoodIn wsX10_whose (wsV RX10 84 RX1 yX1_isIn wsX1_isIn) := goodIn_app (goodIn_of _ (by decide +kernel)) ggX10_whose_X1_isIn
set_option maxRecDepth 20000 in
theorem ggX10_whose_X1_couldThrowAt : GoodIn wsX10_whose wsX1_couldThrowAt := goodIn_r _ [29, 30, 31, 32, 5, 33, 34, 16, 17, 18, 19, 3, 4, 6, 7, 8, 20, 21, 22, 23, 24, 25, 35, 36, 37, 38, 39, 40, 41, 42, 43, 54, 55, 56, 57, 58, 59, 60, 61, 62, 63, 64, 65, 66, 67, 68, 69, 70, 71, 72, 73, 74, 75, 76, 77, 78, 79, 80, 81, 82, 83, 84, 85, 86, 87, 88] (by decide +kernel) (by decide +kernel)
set_option maxRecDepth 20000 in
theorem gX10_whose_X1_couldThrowAt : GoodIn wsX10_whose (wsV RX10 160 RX1 yX1_couldThrowAt wsX1_couldThrowAt) := goodIn_app (goodIn_of _ (by decide +kernel)) ggX10_whose_X1_couldThrowAt
theorem dX10_whose_0 : decode cX10_whose 0 = .ok (.aload_n 0, 1) := by decide +kernel
theorem dX10_whose_1 : decode cX10_whose 1 = .ok (.getfield 19, 3) := by decide +kernel
theorem dX10_whose_4 : decode cX10_whose 4 = .ok (.iload_n 1, 1) := by decide +kernel
theorem dX10_whose_5 : decode cX10_whose 5 = .ok (.invokevirtual 74, 3) := by decide +kernel
theorem dX10_whose_8 : decode cX10_whose 8 = .ok (.ifCond .ne 9, 3) := by decide +kernel
theorem dX10_whose_11 : decode cX10_whose 11 = .ok (.aload_n 0, 1) := by decide +kernel
theorem dX10_whose_12 : decode cX10_whose 12 = .ok (.iconst (-1), 1) := by decide +kernel
theorem dX10_whose_13 : decode cX10_whose 13 = .ok (.invokevirtual 43, 3) := by decide +kernel
theorem dX10_whose_16 : decode cX10_whose 16 = .ok (.ireturn, 1) := by decide +kernel
theorem dX10_whose_17 : decode cX10_whose 17 = .ok (.aload_n 0, 1) := by decide +kernel
theorem dX10_whose_18 : decode cX10_whose 18 = .ok (.getfield 19, 3) := by decide +kernel
theorem dX10_whose_21 : decode cX10_whose 21 = .ok (.iload_n 1, 1) := by decide +kernel
theorem dX10_whose_22 : decode cX10_whose 22 = .ok (.invokevirtual 84, 3) := by decide +kernel
theorem dX10_whose_25 : decode cX10_whose 25 = .ok (.ifCond .ne 10, 3) := by decide +kernel
theorem dX10_whose_28 : decode cX10_whose 28 = .ok (.aload_n 0, 1) := by decide +kernel
theorem dX10_whose_29 : decode cX10_whose 29 = .ok (.bipush (-3), 2) := by decide +kernel
theorem dX10_whose_31 : decode cX10_whose 31 = .ok (.invokevirtual 43, 3) := by decide +kernel
theorem dX10_whose_34 : decode cX10_whose 34 = .ok (.ireturn, 1) := by decide +kernel
theorem dX10_whose_35 : decode cX10_whose 35 = .ok (.iconst 0, 1) := by decide +kernel
theorem dX10_whose_36 : decode cX10_whose 36 = .ok (.istore_n 2, 1) := by decide +kernel
theorem dX10_whose_37 : decode cX10_whose 37 = .ok (.iconst 0, 1) := by decide +kernel
theorem dX10_whose_38 : decode cX10_whose 38 = .ok (.istore_n 3, 1) := by decide +kernel
theorem dX10_whose_39 : decode cX10_whose 39 = .ok (.iload_n 3, 1) := by decide +kernel
theorem dX10_whose_40 : decode cX10_whose 40 = .ok (.aload_n 0, 1) := by decide +kernel
theorem dX10_whose_41 : decode cX10_whose 41 = .ok (.getfield 19, 3) := by decide +kernel
theorem dX10_whose_44 : decode cX10_whose 44 = .ok (.getfield 202, 3) := by decide +kernel
theorem dX10_whose_47 : decode cX10_whose 47 = .ok (.if_icmp .ge 27, 3) := by decide +kernel
theorem dX10_whose_50 : decode cX10_whose 50 = .ok (.aload_n 0, 1) := by decide +kernel
theorem dX10_whose_51 : decode cX10_whose 51 = .ok (.getfield 19, 3) := by decide +kernel
theorem dX10_whose_54 : decode cX10_whose 54 = .ok (.iload_n 3, 1) := by decide +kernel
theorem dX10_whose_55 : decode cX10_whose 55 = .ok (.iload_n 1, 1) := by decide +kernel
theorem dX10_whose_56 : decode cX10_whose 56 = .ok (.invokevirtual 160, 3) := by decide +kernel
theorem dX10_whose_59 : decode cX10_whose 59 = .ok (.ifCond .eq 9, 3) := by decide +kernel
theorem dX10_whose_62 : decode cX10_whose 62 = .ok (.iload_n 2, 1) := by decide +kernel
theorem dX10_whose_63 : decode cX10_whose 63 = .ok (.iconst 1, 1) := by decide +kernel
theorem dX10_whose_64 : decode cX10_whose 64 = .ok (.iload_n 3, 1) := by decide +kernel
theorem dX10_whose_65 : decode cX10_whose 65 = .ok (.ishl, 1) := by decide +kernel
theorem dX10_whose_66 : decode cX10_whose 66 = .ok (.ior, 1) := by decide +kernel
theorem dX10_whose_67 : decode cX10_whose 67 = .ok (.istore_n 2, 1) := by decide +kernel
theorem dX10_whose_68 : decode cX10_whose 68 = .ok (.iinc 3 1, 3) := by decide +kernel
theorem dX10_whose_71 : decode cX10_whose 71 = .ok (.goto (-32), 3) := by decide +kernel
theorem dX10_whose_74 : decode cX10_whose 74 = .ok (.iload_n 2, 1) := by decide +kernel
theorem dX10_whose_75 : decode cX10_whose 75 = .ok (.ireturn, 1) := by decide +kernel
set_option maxRecDepth 20000 in
theorem ggX10_waits_X10_isSide : GoodIn wsX10_waits wsX10_isSide := goodIn_r _ [5] (by decide +kernel) (by decide +kernel)
set_option maxRecDepth 20000 in
theorem gX10_waits_X10_isSide : GoodIn wsX10_waits (va_wsS RX10 205 yX10_isSide wsX10_isSide) := goodIn_app (goodIn_of _ (by decide +kernel)) ggX10_waits_X10_isSide
set_option maxRecDepth 20000 in
theorem ggX10_waits_X10_refused : GoodIn wsX10_waits wsX10_refused := goodIn_r _ [9, 10, 25, 26, 27, 28, 29, 30, 31, 32, 33, 34] (by decide +kernel) (by decide +kernel)
set_option maxRecDepth 20000 in
theorem gX10_waits_X10_refused : GoodIn wsX10_waits (wsV RX10 43 RX10 yX10_refused wsX10_refused) := goodIn_app (goodIn_of _ (by decide +kernel)) ggX10_waits_X10_refused
set_option maxRecDepth 20000 in
theorem ggX10_waits_X1_sideAt : GoodIn wsX10_waits wsX1_sideAt := goodIn_r _ [15, 16, 17, 35, 36, 37, 38, 39, 40, 41, 42] (by decide +kernel) (by decide +kernel)
set_option maxRecDepth 20000 in
theorem gX10_waits_X1_sideAt : GoodIn wsX10_waits (wsV RX10 208 RX1 yX1_sideAt wsX1_sideAt) := goodIn_app (goodIn_of _ (by decide +kernel)) ggX10_waits_X1_sideAt
set_option maxRecDepth 20000 in
theorem ggX10_waits_X6_waitsAt : GoodIn wsX10_waits wsX6_waitsAt := goodIn_r _ [22, 23, 24, 43, 44, 45] (by decide +kernel) (by decide +kernel)
set_option maxRecDepth 20000 in
theorem gX10_waits_X6_waitsAt : GoodIn wsX10_waits (wsV RX10 212 RX6 yX6_waitsAt wsX6_waitsAt) := goodIn_app (goodIn_of _ (by decide +kernel)) ggX10_waits_X6_waitsAt
theorem dX10_waits_0 : decode cX10_waits 0 = .ok (.iload_n 1, 1) := by decide +kernel
theorem dX10_waits_1 : decode cX10_waits 1 = .ok (.invokestatic 205, 3) := by decide +kernel
theorem dX10_waits_4 : decode cX10_waits 4 = .ok (.ifCond .ne 9, 3) := by decide +kernel
theorem dX10_waits_7 : decode cX10_waits 7 = .ok (.aload_n 0, 1) := by decide +kernel
theorem dX10_waits_8 : decode cX10_waits 8 = .ok (.iconst (-1), 1) := by decide +kernel
theorem dX10_waits_9 : decode cX10_waits 9 = .ok (.invokevirtual 43, 3) := by decide +kernel
theorem dX10_waits_12 : decode cX10_waits 12 = .ok (.ireturn, 1) := by decide +kernel
theorem dX10_waits_13 : decode cX10_waits 13 = .ok (.iload_n 2, 1) := by decide +kernel
theorem dX10_waits_14 : decode cX10_waits 14 = .ok (.ifCond .ge 10, 3) := by decide +kernel
theorem dX10_waits_17 : decode cX10_waits 17 = .ok (.aload_n 0, 1) := by decide +kernel
theorem dX10_waits_18 : decode cX10_waits 18 = .ok (.bipush (-4), 2) := by decide +kernel
theorem dX10_waits_20 : decode cX10_waits 20 = .ok (.invokevirtual 43, 3) := by decide +kernel
theorem dX10_waits_23 : decode cX10_waits 23 = .ok (.ireturn, 1) := by decide +kernel
theorem dX10_waits_24 : decode cX10_waits 24 = .ok (.iload_n 2, 1) := by decide +kernel
theorem dX10_waits_25 : decode cX10_waits 25 = .ok (.bipush 8, 2) := by decide +kernel
theorem dX10_waits_27 : decode cX10_waits 27 = .ok (.if_icmp .lt 10, 3) := by decide +kernel
theorem dX10_waits_30 : decode cX10_waits 30 = .ok (.aload_n 0, 1) := by decide +kernel
theorem dX10_waits_31 : decode cX10_waits 31 = .ok (.bipush (-6), 2) := by decide +kernel
theorem dX10_waits_33 : decode cX10_waits 33 = .ok (.invokevirtual 43, 3) := by decide +kernel
theorem dX10_waits_36 : decode cX10_waits 36 = .ok (.ireturn, 1) := by decide +kernel
theorem dX10_waits_37 : decode cX10_waits 37 = .ok (.aload_n 0, 1) := by decide +kernel
theorem dX10_waits_38 : decode cX10_waits 38 = .ok (.getfield 19, 3) := by decide +kernel
theorem dX10_waits_41 : decode cX10_waits 41 = .ok (.iload_n 1, 1) := by decide +kernel
theorem dX10_waits_42 : decode cX10_waits 42 = .ok (.invokevirtual 208, 3) := by decide +kernel
theorem dX10_waits_45 : decode cX10_waits 45 = .ok (.iload_n 2, 1) := by decide +kernel
theorem dX10_waits_46 : decode cX10_waits 46 = .ok (.invokevirtual 212, 3) := by decide +kernel
theorem dX10_waits_49 : decode cX10_waits 49 = .ok (.ireturn, 1) := by decide +kernel
set_option maxRecDepth 20000 in
theorem ggX10_lots_X10_refused : GoodIn wsX10_lots wsX10_refused := goodIn_r _ [8, 9, 232, 233, 234, 235, 236, 237, 238, 239, 240, 241] (by decide +kernel) (by decide +kernel)
set_option maxRecDepth 20000 in
theorem gX10_lots_X10_refused : GoodIn wsX10_lots (wsV RX10 43 RX10 yX10_refused wsX10_refused) := goodIn_app (goodIn_of _ (by decide +kernel)) ggX10_lots_X10_refused
set_option maxRecDepth 20000 in
theorem ggX10_lots_X1_becomeLike : GoodIn wsX10_lots wsX1_becomeLike := goodIn_r _ [14, 15, 16, 17, 18, 19, 20, 21, 22, 23, 24, 25, 26, 27, 28, 29, 30, 31, 32, 33, 34, 35, 242, 243, 244, 245, 246, 247, 248, 249, 250, 251, 252] (by decide +kernel) (by decide +kernel)
set_option maxRecDepth 20000 in
theorem gX10_lots_X1_becomeLike : GoodIn wsX10_lots (wsV RX10 63 RX1 yX1_becomeLike wsX1_becomeLike) := goodIn_app (goodIn_of _ (by decide +kernel)) ggX10_lots_X1_becomeLike
set_option maxRecDepth 20000 in
theorem ggX10_lots_X10_throwByLot : GoodIn wsX10_lots wsX10_throwByLot := goodIn_r _ [39, 2, 40, 41, 42, 7, 43, 3, 44, 45, 46, 47, 48, 49, 13, 50, 51, 52, 53, 54, 19, 55, 56, 57, 58, 59, 60, 61, 62, 63, 64, 65, 66, 67, 68, 16, 15, 69, 70, 71, 72, 17, 18, 73, 74, 75, 76, 77, 78, 79, 80, 81, 82, 83, 84, 85, 26, 86, 87, 88, 89, 90, 91, 92, 93, 94, 95, 96, 97, 98, 99, 100, 101, 102, 103, 104, 105, 106, 107, 108, 109, 110, 111, 112, 113, 114, 115, 116, 117, 118, 119, 120, 121, 122, 123, 124, 125, 126, 127, 128, 129, 130, 131, 132, 133, 134, 135, 136, 137, 138, 139, 140, 141, 142, 143, 144, 145, 146, 147, 148, 149, 150, 151, 152, 153, 154, 155, 156, 157, 158, 159, 160, 161, 162, 163, 164, 165, 166, 167, 168, 169, 170, 171, 172, 173, 174, 175, 176, 177, 178, 179, 180, 181, 182, 183, 184, 185, 186, 187, 188, 189, 190, 191, 24, 25, 192, 193, 194, 195, 196, 197, 198, 199, 200, 201, 202, 30, 203, 32, 35, 33, 204, 205, 206, 207, 208, 209, 210, 211, 212, 213, 214, 215, 216, 217, 218, 219, 220, 221, 222, 223, 224, 225, 226, 227, 228, 229, 230, 232, 233, 234, 235, 236, 237, 238, 239, 240, 241, 242, 243, 244, 245, 246, 247, 248, 249, 250, 251, 252, 253, 254, 255, 256, 257, 258, 259, 260, 261, 262, 263, 264, 265, 266, 267, 268, 269, 270, 271, 272, 273, 274, 275, 276] (by decide +kernel) (by decide +kernel)
set_option maxRecDepth 20000 in
theorem gX10_lots_X10_throwByLot : GoodIn wsX10_lots (wsV RX10 220 RX10 yX10_throwByLot wsX10_throwByLot) := goodIn_app (goodIn_of _ (by decide +kernel)) ggX10_lots_X10_throwByLot
set_option maxRecDepth 20000 in
theorem ggX10_lots_X1_inBits : GoodIn wsX10_lots wsX1_inBits := goodIn_r _ [72, 17, 18, 242, 243, 244, 245, 246, 247, 248, 249, 250, 251, 252] (by decide +kernel) (by decide +kernel)
set_option maxRecDepth 20000 in
theorem gX10_lots_X1_inBits : GoodIn wsX10_lots (wsV RX10 199 RX1 yX1_inBits wsX1_inBits) := goodIn_app (goodIn_of _ (by decide +kernel)) ggX10_lots_X1_inBits
theorem dX10_lots_0 : decode cX10_lots 0 = .ok (.iload_n 1, 1) := by decide +kernel
theorem dX10_lots_1 : decode cX10_lots 1 = .ok (.iconst 1, 1) := by decide +kernel
theorem dX10_lots_2 : decode cX10_lots 2 = .ok (.if_icmp .ge 10, 3) := by decide +kernel
theorem dX10_lots_5 : decode cX10_lots 5 = .ok (.aload_n 0, 1) := by decide +kernel
theorem dX10_lots_6 : decode cX10_lots 6 = .ok (.bipush (-4), 2) := by decide +kernel
theorem dX10_lots_8 : decode cX10_lots 8 = .ok (.invokevirtual 43, 3) := by decide +kernel
theorem dX10_lots_11 : decode cX10_lots 11 = .ok (.ireturn, 1) := by decide +kernel
theorem dX10_lots_12 : decode cX10_lots 12 = .ok (.iload_n 1, 1) := by decide +kernel
theorem dX10_lots_13 : decode cX10_lots 13 = .ok (.bipush 30, 2) := by decide +kernel
theorem dX10_lots_15 : decode cX10_lots 15 = .ok (.if_icmp .le 10, 3) := by decide +kernel
theorem dX10_lots_18 : decode cX10_lots 18 = .ok (.aload_n 0, 1) := by decide +kernel
theorem dX10_lots_19 : decode cX10_lots 19 = .ok (.bipush (-6), 2) := by decide +kernel
theorem dX10_lots_21 : decode cX10_lots 21 = .ok (.invokevirtual 43, 3) := by decide +kernel
theorem dX10_lots_24 : decode cX10_lots 24 = .ok (.ireturn, 1) := by decide +kernel
theorem dX10_lots_25 : decode cX10_lots 25 = .ok (.aload_n 0, 1) := by decide +kernel
theorem dX10_lots_26 : decode cX10_lots 26 = .ok (.getfield 19, 3) := by decide +kernel
theorem dX10_lots_29 : decode cX10_lots 29 = .ok (.getfield 202, 3) := by decide +kernel
theorem dX10_lots_32 : decode cX10_lots 32 = .ok (.ifCond .ne 10, 3) := by decide +kernel
theorem dX10_lots_35 : decode cX10_lots 35 = .ok (.aload_n 0, 1) := by decide +kernel
theorem dX10_lots_36 : decode cX10_lots 36 = .ok (.bipush (-3), 2) := by decide +kernel
theorem dX10_lots_38 : decode cX10_lots 38 = .ok (.invokevirtual 43, 3) := by decide +kernel
theorem dX10_lots_41 : decode cX10_lots 41 = .ok (.ireturn, 1) := by decide +kernel
theorem dX10_lots_42 : decode cX10_lots 42 = .ok (.aload_n 0, 1) := by decide +kernel
theorem dX10_lots_43 : decode cX10_lots 43 = .ok (.getfield 23, 3) := by decide +kernel
theorem dX10_lots_46 : decode cX10_lots 46 = .ok (.aload_n 0, 1) := by decide +kernel
theorem dX10_lots_47 : decode cX10_lots 47 = .ok (.getfield 19, 3) := by decide +kernel
theorem dX10_lots_50 : decode cX10_lots 50 = .ok (.invokevirtual 63, 3) := by decide +kernel
theorem dX10_lots_53 : decode cX10_lots 53 = .ok (.aload_n 0, 1) := by decide +kernel
theorem dX10_lots_54 : decode cX10_lots 54 = .ok (.iload_n 2, 1) := by decide +kernel
theorem dX10_lots_55 : decode cX10_lots 55 = .ok (.putfield 217, 3) := by decide +kernel
theorem dX10_lots_58 : decode cX10_lots 58 = .ok (.iconst 0, 1) := by decide +kernel
theorem dX10_lots_59 : decode cX10_lots 59 = .ok (.istore_n 3, 1) := by decide +kernel
theorem dX10_lots_60 : decode cX10_lots 60 = .ok (.iload_n 3, 1) := by decide +kernel
theorem dX10_lots_61 : decode cX10_lots 61 = .ok (.iload_n 1, 1) := by decide +kernel
theorem dX10_lots_62 : decode cX10_lots 62 = .ok (.if_icmp .ge 13, 3) := by decide +kernel
theorem dX10_lots_65 : decode cX10_lots 65 = .ok (.aload_n 0, 1) := by decide +kernel
theorem dX10_lots_66 : decode cX10_lots 66 = .ok (.invokevirtual 220, 3) := by decide +kernel
theorem dX10_lots_69 : decode cX10_lots 69 = .ok (.iinc 3 1, 3) := by decide +kernel
theorem dX10_lots_72 : decode cX10_lots 72 = .ok (.goto (-12), 3) := by decide +kernel
theorem dX10_lots_75 : decode cX10_lots 75 = .ok (.aload_n 0, 1) := by decide +kernel
theorem dX10_lots_76 : decode cX10_lots 76 = .ok (.getfield 23, 3) := by decide +kernel
theorem dX10_lots_79 : decode cX10_lots 79 = .ok (.invokevirtual 199, 3) := by decide +kernel
theorem dX10_lots_82 : decode cX10_lots 82 = .ok (.ireturn, 1) := by decide +kernel
set_option maxRecDepth 20000 in
theorem ggX10_image_X1_becomeLike : GoodIn wsX10_image wsX1_becomeLike := goodIn_r _ [8, 9, 10, 11, 12, 13, 14, 15, 16, 17, 18, 19, 20, 21, 22, 23, 24, 25, 26, 27, 28, 29, 40, 41, 42, 43, 44, 45, 46, 47, 48, 49, 50] (by decide +kernel) (by decide +kernel)
set_option maxRecDepth 20000 in
theorem gX10_image_X1_becomeLike : GoodIn wsX10_image (wsV RX10 63 RX1 yX1_becomeLike wsX1_becomeLike) := goodIn_app (goodIn_of _ (by decide +kernel)) ggX10_image_X1_becomeLike
theorem dX10_image_0 : decode cX10_image 0 = .ok (.aload_n 0, 1) := by decide +kernel
theorem dX10_image_1 : decode cX10_image 1 = .ok (.getfield 26, 3) := by decide +kernel
theorem dX10_image_4 : decode cX10_image 4 = .ok (.aload_n 0, 1) := by decide +kernel
theorem dX10_image_5 : decode cX10_image 5 = .ok (.getfield 19, 3) := by decide +kernel
theorem dX10_image_8 : decode cX10_image 8 = .ok (.invokevirtual 63, 3) := by decide +kernel
theorem dX10_image_11 : decode cX10_image 11 = .ok (.aload_n 0, 1) := by decide +kernel
theorem dX10_image_12 : decode cX10_image 12 = .ok (.iconst 1, 1) := by decide +kernel
theorem dX10_image_13 : decode cX10_image 13 = .ok (.putfield 223, 3) := by decide +kernel
theorem dX10_image_16 : decode cX10_image 16 = .ok (.aload_n 0, 1) := by decide +kernel
theorem dX10_image_17 : decode cX10_image 17 = .ok (.getfield 19, 3) := by decide +kernel
theorem dX10_image_20 : decode cX10_image 20 = .ok (.getfield 132, 3) := by decide +kernel
theorem dX10_image_23 : decode cX10_image 23 = .ok (.ireturn, 1) := by decide +kernel
set_option maxRecDepth 20000 in
theorem ggX10_on_X10_refused : GoodIn wsX10_on wsX10_refused := goodIn_r _ [8, 9, 36, 37, 38, 39, 40, 41, 42, 43, 44, 45] (by decide +kernel) (by decide +kernel)
set_option maxRecDepth 20000 in
theorem gX10_on_X10_refused : GoodIn wsX10_on (wsV RX10 43 RX10 yX10_refused wsX10_refused) := goodIn_app (goodIn_of _ (by decide +kernel)) ggX10_on_X10_refused
set_option maxRecDepth 20000 in
theorem ggX10_on_X1_becomeLike : GoodIn wsX10_on wsX1_becomeLike := goodIn_r _ [14, 15, 16, 17, 18, 19, 20, 21, 22, 23, 24, 25, 26, 27, 28, 29, 30, 31, 32, 33, 34, 35, 46, 47, 48, 49, 50, 51, 52, 53, 54, 55, 56] (by decide +kernel) (by decide +kernel)
set_option maxRecDepth 20000 in
theorem gX10_on_X1_becomeLike : GoodIn wsX10_on (wsV RX10 63 RX1 yX1_becomeLike wsX1_becomeLike) := goodIn_app (goodIn_of _ (by decide +kernel)) ggX10_on_X1_becomeLike
theorem dX10_on_0 : decode cX10_on 0 = .ok (.aload_n 0, 1) := by decide +kernel
theorem dX10_on_1 : decode cX10_on 1 = .ok (.getfield 223, 3) := by decide +kernel
theorem dX10_on_4 : decode cX10_on 4 = .ok (.ifCond .ne 10, 3) := by decide +kernel
theorem dX10_on_7 : decode cX10_on 7 = .ok (.aload_n 0, 1) := by decide +kernel
theorem dX10_on_8 : decode cX10_on 8 = .ok (.bipush (-3), 2) := by decide +kernel
theorem dX10_on_10 : decode cX10_on 10 = .ok (.invokevirtual 43, 3) := by decide +kernel
theorem dX10_on_13 : decode cX10_on 13 = .ok (.ireturn, 1) := by decide +kernel
theorem dX10_on_14 : decode cX10_on 14 = .ok (.aload_n 0, 1) := by decide +kernel
theorem dX10_on_15 : decode cX10_on 15 = .ok (.getfield 19, 3) := by decide +kernel
theorem dX10_on_18 : decode cX10_on 18 = .ok (.aload_n 0, 1) := by decide +kernel
theorem dX10_on_19 : decode cX10_on 19 = .ok (.getfield 26, 3) := by decide +kernel
theorem dX10_on_22 : decode cX10_on 22 = .ok (.invokevirtual 63, 3) := by decide +kernel
theorem dX10_on_25 : decode cX10_on 25 = .ok (.aload_n 0, 1) := by decide +kernel
theorem dX10_on_26 : decode cX10_on 26 = .ok (.getfield 19, 3) := by decide +kernel
theorem dX10_on_29 : decode cX10_on 29 = .ok (.getfield 132, 3) := by decide +kernel
theorem dX10_on_32 : decode cX10_on 32 = .ok (.ireturn, 1) := by decide +kernel
set_option maxRecDepth 20000 in
theorem ggX10_count_X1_sideAt : GoodIn wsX10_count wsX1_sideAt := goodIn_r _ [8, 9, 10, 45, 46, 47, 48, 49, 50, 51, 52] (by decide +kernel) (by decide +kernel)
set_option maxRecDepth 20000 in
theorem gX10_count_X1_sideAt : GoodIn wsX10_count (wsV RX10 208 RX1 yX1_sideAt wsX1_sideAt) := goodIn_app (goodIn_of _ (by decide +kernel)) ggX10_count_X1_sideAt
set_option maxRecDepth 20000 in
theorem ggX10_count_X6_inCount : GoodIn wsX10_count wsX6_inCount := goodIn_r _ [15, 16, 17, 18, 19, 20, 21, 22, 23, 55, 56, 57] (by decide +kernel) (by decide +kernel)
set_option maxRecDepth 20000 in
theorem gX10_count_X6_inCount : GoodIn wsX10_count (wsV RX10 227 RX6 yX6_inCount wsX6_inCount) := goodIn_app (goodIn_of _ (by decide +kernel)) ggX10_count_X6_inCount
set_option maxRecDepth 20000 in
theorem ggX10_count_X1_lyingCount : GoodIn wsX10_count wsX1_lyingCount := goodIn_r _ [27, 28, 45, 46, 47, 48, 49, 50, 51, 52] (by decide +kernel) (by decide +kernel)
set_option maxRecDepth 20000 in
theorem gX10_count_X1_lyingCount : GoodIn wsX10_count (wsV RX10 230 RX1 yX1_lyingCount wsX1_lyingCount) := goodIn_app (goodIn_of _ (by decide +kernel)) ggX10_count_X1_lyingCount
set_option maxRecDepth 20000 in
theorem ggX10_count_X10_refusalCount : GoodIn wsX10_count wsX10_refusalCount := goodIn_r _ [33, 34, 35, 36, 37, 38, 39, 40, 41, 42, 43, 44] (by decide +kernel) (by decide +kernel)
set_option maxRecDepth 20000 in
theorem gX10_count_X10_refusalCount : GoodIn wsX10_count (wsV RX10 233 RX10 yX10_refusalCount wsX10_refusalCount) := goodIn_app (goodIn_of _ (by decide +kernel)) ggX10_count_X10_refusalCount
theorem dX10_count_0 : decode cX10_count 0 = .ok (.iload_n 1, 1) := by decide +kernel
theorem dX10_count_1 : decode cX10_count 1 = .ok (.tableswitch 118 0 7 #[47, 55, 67, 79, 87, 96, 105, 110], 47) := by decide +kernel
theorem dX10_count_48 : decode cX10_count 48 = .ok (.aload_n 0, 1) := by decide +kernel
theorem dX10_count_49 : decode cX10_count 49 = .ok (.getfield 19, 3) := by decide +kernel
theorem dX10_count_52 : decode cX10_count 52 = .ok (.getfield 202, 3) := by decide +kernel
theorem dX10_count_55 : decode cX10_count 55 = .ok (.ireturn, 1) := by decide +kernel
theorem dX10_count_56 : decode cX10_count 56 = .ok (.aload_n 0, 1) := by decide +kernel
theorem dX10_count_57 : decode cX10_count 57 = .ok (.getfield 19, 3) := by decide +kernel
theorem dX10_count_60 : decode cX10_count 60 = .ok (.iconst 0, 1) := by decide +kernel
theorem dX10_count_61 : decode cX10_count 61 = .ok (.invokevirtual 208, 3) := by decide +kernel
theorem dX10_count_64 : decode cX10_count 64 = .ok (.invokevirtual 227, 3) := by decide +kernel
theorem dX10_count_67 : decode cX10_count 67 = .ok (.ireturn, 1) := by decide +kernel
theorem dX10_count_68 : decode cX10_count 68 = .ok (.aload_n 0, 1) := by decide +kernel
theorem dX10_count_69 : decode cX10_count 69 = .ok (.getfield 19, 3) := by decide +kernel
theorem dX10_count_72 : decode cX10_count 72 = .ok (.iconst 1, 1) := by decide +kernel
theorem dX10_count_73 : decode cX10_count 73 = .ok (.invokevirtual 208, 3) := by decide +kernel
theorem dX10_count_76 : decode cX10_count 76 = .ok (.invokevirtual 227, 3) := by decide +kernel
theorem dX10_count_79 : decode cX10_count 79 = .ok (.ireturn, 1) := by decide +kernel
theorem dX10_count_80 : decode cX10_count 80 = .ok (.aload_n 0, 1) := by decide +kernel
theorem dX10_count_81 : decode cX10_count 81 = .ok (.getfield 19, 3) := by decide +kernel
theorem dX10_count_84 : decode cX10_count 84 = .ok (.getfield 132, 3) := by decide +kernel
theorem dX10_count_87 : decode cX10_count 87 = .ok (.ireturn, 1) := by decide +kernel
theorem dX10_count_88 : decode cX10_count 88 = .ok (.aload_n 0, 1) := by decide +kernel
theorem dX10_count_89 : decode cX10_count 89 = .ok (.getfield 19, 3) := by decide +kernel
theorem dX10_count_92 : decode cX10_count 92 = .ok (.iconst 0, 1) := by decide +kernel
theorem dX10_count_93 : decode cX10_count 93 = .ok (.invokevirtual 230, 3) := by decide +kernel
theorem dX10_count_96 : decode cX10_count 96 = .ok (.ireturn, 1) := by decide +kernel
theorem dX10_count_97 : decode cX10_count 97 = .ok (.aload_n 0, 1) := by decide +kernel
theorem dX10_count_98 : decode cX10_count 98 = .ok (.getfield 19, 3) := by decide +kernel
theorem dX10_count_101 : decode cX10_count 101 = .ok (.iconst 1, 1) := by decide +kernel
theorem dX10_count_102 : decode cX10_count 102 = .ok (.invokevirtual 230, 3) := by decide +kernel
theorem dX10_count_105 : decode cX10_count 105 = .ok (.ireturn, 1) := by decide +kernel
theorem dX10_count_106 : decode cX10_count 106 = .ok (.aload_n 0, 1) := by decide +kernel
theorem dX10_count_107 : decode cX10_count 107 = .ok (.getfield 193, 3) := by decide +kernel
theorem dX10_count_110 : decode cX10_count 110 = .ok (.ireturn, 1) := by decide +kernel
theorem dX10_count_111 : decode cX10_count 111 = .ok (.aload_n 0, 1) := by decide +kernel
theorem dX10_count_112 : decode cX10_count 112 = .ok (.getfield 10, 3) := by decide +kernel
theorem dX10_count_115 : decode cX10_count 115 = .ok (.getfield 55, 3) := by decide +kernel
theorem dX10_count_118 : decode cX10_count 118 = .ok (.ireturn, 1) := by decide +kernel
theorem dX10_count_119 : decode cX10_count 119 = .ok (.aload_n 0, 1) := by decide +kernel
theorem dX10_count_120 : decode cX10_count 120 = .ok (.iload_n 1, 1) := by decide +kernel
theorem dX10_count_121 : decode cX10_count 121 = .ok (.bipush 10, 2) := by decide +kernel
theorem dX10_count_123 : decode cX10_count 123 = .ok (.isub, 1) := by decide +kernel
theorem dX10_count_124 : decode cX10_count 124 = .ok (.invokevirtual 233, 3) := by decide +kernel
theorem dX10_count_127 : decode cX10_count 127 = .ok (.ireturn, 1) := by decide +kernel
theorem dX10_refused_0 : decode cX10_refused 0 = .ok (.iload_n 1, 1) := by decide +kernel
theorem dX10_refused_1 : decode cX10_refused 1 = .ok (.ineg, 1) := by decide +kernel
theorem dX10_refused_2 : decode cX10_refused 2 = .ok (.istore_n 2, 1) := by decide +kernel
theorem dX10_refused_3 : decode cX10_refused 3 = .ok (.iload_n 2, 1) := by decide +kernel
theorem dX10_refused_4 : decode cX10_refused 4 = .ok (.ifCond .le 22, 3) := by decide +kernel
theorem dX10_refused_7 : decode cX10_refused 7 = .ok (.iload_n 2, 1) := by decide +kernel
theorem dX10_refused_8 : decode cX10_refused 8 = .ok (.aload_n 0, 1) := by decide +kernel
theorem dX10_refused_9 : decode cX10_refused 9 = .ok (.getfield 40, 3) := by decide +kernel
theorem dX10_refused_12 : decode cX10_refused 12 = .ok (.arraylength, 1) := by decide +kernel
theorem dX10_refused_13 : decode cX10_refused 13 = .ok (.if_icmp .ge 13, 3) := by decide +kernel
theorem dX10_refused_16 : decode cX10_refused 16 = .ok (.aload_n 0, 1) := by decide +kernel
theorem dX10_refused_17 : decode cX10_refused 17 = .ok (.getfield 40, 3) := by decide +kernel
theorem dX10_refused_20 : decode cX10_refused 20 = .ok (.iload_n 2, 1) := by decide +kernel
theorem dX10_refused_21 : decode cX10_refused 21 = .ok (.dup2, 1) := by decide +kernel
theorem dX10_refused_22 : decode cX10_refused 22 = .ok (.iaload, 1) := by decide +kernel
theorem dX10_refused_23 : decode cX10_refused 23 = .ok (.iconst 1, 1) := by decide +kernel
theorem dX10_refused_24 : decode cX10_refused 24 = .ok (.iadd, 1) := by decide +kernel
theorem dX10_refused_25 : decode cX10_refused 25 = .ok (.iastore, 1) := by decide +kernel
theorem dX10_refused_26 : decode cX10_refused 26 = .ok (.iload_n 1, 1) := by decide +kernel
theorem dX10_refused_27 : decode cX10_refused 27 = .ok (.ireturn, 1) := by decide +kernel
theorem dX10_refusalCount_0 : decode cX10_refusalCount 0 = .ok (.iload_n 1, 1) := by decide +kernel
theorem dX10_refusalCount_1 : decode cX10_refusalCount 1 = .ok (.ifCond .le 21, 3) := by decide +kernel
theorem dX10_refusalCount_4 : decode cX10_refusalCount 4 = .ok (.iload_n 1, 1) := by decide +kernel
theorem dX10_refusalCount_5 : decode cX10_refusalCount 5 = .ok (.aload_n 0, 1) := by decide +kernel
theorem dX10_refusalCount_6 : decode cX10_refusalCount 6 = .ok (.getfield 40, 3) := by decide +kernel
theorem dX10_refusalCount_9 : decode cX10_refusalCount 9 = .ok (.arraylength, 1) := by decide +kernel
theorem dX10_refusalCount_10 : decode cX10_refusalCount 10 = .ok (.if_icmp .ge 12, 3) := by decide +kernel
theorem dX10_refusalCount_13 : decode cX10_refusalCount 13 = .ok (.aload_n 0, 1) := by decide +kernel
theorem dX10_refusalCount_14 : decode cX10_refusalCount 14 = .ok (.getfield 40, 3) := by decide +kernel
theorem dX10_refusalCount_17 : decode cX10_refusalCount 17 = .ok (.iload_n 1, 1) := by decide +kernel
theorem dX10_refusalCount_18 : decode cX10_refusalCount 18 = .ok (.iaload, 1) := by decide +kernel
theorem dX10_refusalCount_19 : decode cX10_refusalCount 19 = .ok (.goto 5, 3) := by decide +kernel
theorem dX10_refusalCount_22 : decode cX10_refusalCount 22 = .ok (.bipush (-9), 2) := by decide +kernel
theorem dX10_refusalCount_24 : decode cX10_refusalCount 24 = .ok (.ireturn, 1) := by decide +kernel
set_option maxRecDepth 20000 in
theorem ggX10_bestThrow_X1_areOpposed : GoodIn wsX10_bestThrow wsX1_areOpposed := goodIn_r _ [6, 7, 8, 9, 5, 10, 11, 12, 13, 14, 15, 16, 17, 18, 19, 20, 21, 22, 23, 24, 25, 26, 150, 151, 152, 153, 154, 155, 156, 157, 158, 159, 160, 161, 162, 163, 164, 165, 166, 167, 168, 169, 170, 171, 172, 173, 174, 175, 176, 177, 178, 179, 180, 181, 182, 183, 184] (by decide +kernel) (by decide +kernel)
set_option maxRecDepth 20000 in
theorem gX10_bestThrow_X1_areOpposed : GoodIn wsX10_bestThrow (wsV RX10 117 RX1 yX1_areOpposed wsX1_areOpposed) := goodIn_app (goodIn_of _ (by decide +kernel)) ggX10_bestThrow_X1_areOpposed
set_option maxRecDepth 20000 in
theorem ggX10_bestThrow_X1_gainOf : GoodIn wsX10_bestThrow wsX1_gainOf := goodIn_r _ [30, 31, 32, 33, 5, 34, 35, 36, 37, 38, 16, 39, 11, 12, 13, 14, 15, 40, 41, 42, 43, 44, 45, 46, 47, 48, 49, 50, 51, 52, 53, 54, 55, 56, 57, 58, 59, 60, 61, 62, 63, 64, 65, 66, 67, 68, 69, 70, 71, 72, 73, 74, 75, 76, 77, 78, 79, 80, 81, 82, 83, 84, 85, 86, 87, 88, 89, 90, 91, 92, 93, 94, 95, 96, 97, 98, 99, 100, 101, 102, 103, 104, 105, 106, 107, 108, 109, 110, 111, 112, 113, 114, 115, 116, 21, 22, 117, 118, 119, 120, 121, 122, 123, 124, 125, 126, 127, 128, 129, 130, 131, 132, 133, 134, 135, 136, 137, 138, 139, 150, 151, 152, 153, 154, 155, 156, 157, 161, 162, 163, 164, 165, 166, 167, 168, 169, 170, 171, 172, 173, 174, 175, 176, 177, 178, 179, 180, 181, 182, 183, 184, 158, 159, 160] (by decide +kernel) (by decide +kernel)
set_option maxRecDepth 20000 in
theorem gX10_bestThrow_X1_gainOf : GoodIn wsX10_bestThrow (wsV RX10 153 RX1 yX1_gainOf wsX1_gainOf) := goodIn_app (goodIn_of _ (by decide +kernel)) ggX10_bestThrow_X1_gainOf
theorem dX10_bestThrow_0 : decode cX10_bestThrow 0 = .ok (.bipush (-9), 2) := by decide +kernel
theorem dX10_bestThrow_2 : decode cX10_bestThrow 2 = .ok (.istore_n 2, 1) := by decide +kernel
theorem dX10_bestThrow_3 : decode cX10_bestThrow 3 = .ok (.iconst 0, 1) := by decide +kernel
theorem dX10_bestThrow_4 : decode cX10_bestThrow 4 = .ok (.istore_n 3, 1) := by decide +kernel
theorem dX10_bestThrow_5 : decode cX10_bestThrow 5 = .ok (.iconst 0, 1) := by decide +kernel
theorem dX10_bestThrow_6 : decode cX10_bestThrow 6 = .ok (.istore 4, 2) := by decide +kernel
theorem dX10_bestThrow_8 : decode cX10_bestThrow 8 = .ok (.iload 4, 2) := by decide +kernel
theorem dX10_bestThrow_10 : decode cX10_bestThrow 10 = .ok (.aload_n 0, 1) := by decide +kernel
theorem dX10_bestThrow_11 : decode cX10_bestThrow 11 = .ok (.getfield 19, 3) := by decide +kernel
theorem dX10_bestThrow_14 : decode cX10_bestThrow 14 = .ok (.getfield 202, 3) := by decide +kernel
theorem dX10_bestThrow_17 : decode cX10_bestThrow 17 = .ok (.if_icmp .ge 75, 3) := by decide +kernel
theorem dX10_bestThrow_20 : decode cX10_bestThrow 20 = .ok (.iconst 0, 1) := by decide +kernel
theorem dX10_bestThrow_21 : decode cX10_bestThrow 21 = .ok (.istore 5, 2) := by decide +kernel
theorem dX10_bestThrow_23 : decode cX10_bestThrow 23 = .ok (.iload 5, 2) := by decide +kernel
theorem dX10_bestThrow_25 : decode cX10_bestThrow 25 = .ok (.iconst 3, 1) := by decide +kernel
theorem dX10_bestThrow_26 : decode cX10_bestThrow 26 = .ok (.if_icmp .ge 60, 3) := by decide +kernel
theorem dX10_bestThrow_29 : decode cX10_bestThrow 29 = .ok (.aload_n 0, 1) := by decide +kernel
theorem dX10_bestThrow_30 : decode cX10_bestThrow 30 = .ok (.getfield 19, 3) := by decide +kernel
theorem dX10_bestThrow_33 : decode cX10_bestThrow 33 = .ok (.iload_n 1, 1) := by decide +kernel
theorem dX10_bestThrow_34 : decode cX10_bestThrow 34 = .ok (.iload 4, 2) := by decide +kernel
theorem dX10_bestThrow_36 : decode cX10_bestThrow 36 = .ok (.invokevirtual 117, 3) := by decide +kernel
theorem dX10_bestThrow_39 : decode cX10_bestThrow 39 = .ok (.ifCond .eq 47, 3) := by decide +kernel
theorem dX10_bestThrow_42 : decode cX10_bestThrow 42 = .ok (.aload_n 0, 1) := by decide +kernel
theorem dX10_bestThrow_43 : decode cX10_bestThrow 43 = .ok (.getfield 19, 3) := by decide +kernel
theorem dX10_bestThrow_46 : decode cX10_bestThrow 46 = .ok (.iload_n 1, 1) := by decide +kernel
theorem dX10_bestThrow_47 : decode cX10_bestThrow 47 = .ok (.iload 4, 2) := by decide +kernel
theorem dX10_bestThrow_49 : decode cX10_bestThrow 49 = .ok (.iload 5, 2) := by decide +kernel
theorem dX10_bestThrow_51 : decode cX10_bestThrow 51 = .ok (.invokevirtual 153, 3) := by decide +kernel
theorem dX10_bestThrow_54 : decode cX10_bestThrow 54 = .ok (.istore 6, 2) := by decide +kernel
theorem dX10_bestThrow_56 : decode cX10_bestThrow 56 = .ok (.iload_n 2, 1) := by decide +kernel
theorem dX10_bestThrow_57 : decode cX10_bestThrow 57 = .ok (.bipush (-9), 2) := by decide +kernel
theorem dX10_bestThrow_59 : decode cX10_bestThrow 59 = .ok (.if_icmp .eq 9, 3) := by decide +kernel
theorem dX10_bestThrow_62 : decode cX10_bestThrow 62 = .ok (.iload 6, 2) := by decide +kernel
theorem dX10_bestThrow_64 : decode cX10_bestThrow 64 = .ok (.iload_n 3, 1) := by decide +kernel
theorem dX10_bestThrow_65 : decode cX10_bestThrow 65 = .ok (.if_icmp .le 15, 3) := by decide +kernel
theorem dX10_bestThrow_68 : decode cX10_bestThrow 68 = .ok (.bipush 10, 2) := by decide +kernel
theorem dX10_bestThrow_70 : decode cX10_bestThrow 70 = .ok (.iload 4, 2) := by decide +kernel
theorem dX10_bestThrow_72 : decode cX10_bestThrow 72 = .ok (.imul, 1) := by decide +kernel
theorem dX10_bestThrow_73 : decode cX10_bestThrow 73 = .ok (.iload 5, 2) := by decide +kernel
theorem dX10_bestThrow_75 : decode cX10_bestThrow 75 = .ok (.iadd, 1) := by decide +kernel
theorem dX10_bestThrow_76 : decode cX10_bestThrow 76 = .ok (.istore_n 2, 1) := by decide +kernel
theorem dX10_bestThrow_77 : decode cX10_bestThrow 77 = .ok (.iload 6, 2) := by decide +kernel
theorem dX10_bestThrow_79 : decode cX10_bestThrow 79 = .ok (.istore_n 3, 1) := by decide +kernel
theorem dX10_bestThrow_80 : decode cX10_bestThrow 80 = .ok (.iinc 5 1, 3) := by decide +kernel
theorem dX10_bestThrow_83 : decode cX10_bestThrow 83 = .ok (.goto (-60), 3) := by decide +kernel
theorem dX10_bestThrow_86 : decode cX10_bestThrow 86 = .ok (.iinc 4 1, 3) := by decide +kernel
theorem dX10_bestThrow_89 : decode cX10_bestThrow 89 = .ok (.goto (-81), 3) := by decide +kernel
theorem dX10_bestThrow_92 : decode cX10_bestThrow 92 = .ok (.iload_n 2, 1) := by decide +kernel
theorem dX10_bestThrow_93 : decode cX10_bestThrow 93 = .ok (.ireturn, 1) := by decide +kernel
set_option maxRecDepth 20000 in
theorem ggX10_catchOrDodge_X1_hitOf : GoodIn wsX10_catchOrDodge wsX1_hitOf := goodIn_r _ [10, 11, 12, 13, 9, 14, 15, 16, 17, 18, 19, 20, 21, 22, 23, 24, 25, 26, 27, 28, 29, 30, 31, 32, 33, 34, 35, 36, 37, 38, 39, 4, 40, 41, 42, 43, 44, 45, 46, 47, 48, 49, 50, 51, 52, 53, 54, 55, 56, 57, 58, 59, 60, 61, 62, 63, 64, 65, 66, 67, 68, 69, 70, 71, 72, 73, 74, 75, 76, 77, 78, 79, 80, 81, 2, 3, 5, 82, 130, 131, 132, 133, 134, 135, 136, 137, 138, 139, 140, 141, 142, 143, 144, 145, 146, 147, 148, 149, 150, 151, 152, 153, 154, 155, 156, 157, 158, 159, 160, 161] (by decide +kernel) (by decide +kernel)
set_option maxRecDepth 20000 in
theorem gX10_catchOrDodge_X1_hitOf : GoodIn wsX10_catchOrDodge (wsV RX10 121 RX1 yX1_hitOf wsX1_hitOf) := goodIn_app (goodIn_of _ (by decide +kernel)) ggX10_catchOrDodge_X1_hitOf
set_option maxRecDepth 20000 in
theorem ggX10_catchOrDodge_X1_caughtOf : GoodIn wsX10_catchOrDodge wsX1_caughtOf := goodIn_r _ [86, 87, 88, 89, 9, 90, 15, 17, 18, 19, 20, 21, 91, 92, 93, 94, 95, 96, 97, 98, 99, 100, 101, 102, 103, 104, 105, 106, 26, 107, 28, 58, 108, 109, 110, 111, 112, 113, 114, 115, 116, 117, 118, 119, 77, 78, 79, 80, 81, 2, 3, 4, 5, 82, 39, 40, 130, 131, 132, 133, 134, 135, 136, 137, 162, 163, 164, 138, 139, 140, 141, 142, 143, 144, 145, 146, 147, 148, 149, 150, 151, 152, 153, 154, 155, 156, 157, 158, 159, 160, 161] (by decide +kernel) (by decide +kernel)
set_option maxRecDepth 20000 in
theorem gX10_catchOrDodge_X1_caughtOf : GoodIn wsX10_catchOrDodge (wsV RX10 125 RX1 yX1_caughtOf wsX1_caughtOf) := goodIn_app (goodIn_of _ (by decide +kernel)) ggX10_catchOrDodge_X1_caughtOf
theorem dX10_catchOrDodge_0 : decode cX10_catchOrDodge 0 = .ok (.aload_n 0, 1) := by decide +kernel
theorem dX10_catchOrDodge_1 : decode cX10_catchOrDodge 1 = .ok (.getfield 19, 3) := by decide +kernel
theorem dX10_catchOrDodge_4 : decode cX10_catchOrDodge 4 = .ok (.iload_n 1, 1) := by decide +kernel
theorem dX10_catchOrDodge_5 : decode cX10_catchOrDodge 5 = .ok (.iload_n 2, 1) := by decide +kernel
theorem dX10_catchOrDodge_6 : decode cX10_catchOrDodge 6 = .ok (.iconst 0, 1) := by decide +kernel
theorem dX10_catchOrDodge_7 : decode cX10_catchOrDodge 7 = .ok (.invokevirtual 121, 3) := by decide +kernel
theorem dX10_catchOrDodge_10 : decode cX10_catchOrDodge 10 = .ok (.istore_n 3, 1) := by decide +kernel
theorem dX10_catchOrDodge_11 : decode cX10_catchOrDodge 11 = .ok (.iload_n 3, 1) := by decide +kernel
theorem dX10_catchOrDodge_12 : decode cX10_catchOrDodge 12 = .ok (.bipush 6, 2) := by decide +kernel
theorem dX10_catchOrDodge_14 : decode cX10_catchOrDodge 14 = .ok (.iadd, 1) := by decide +kernel
theorem dX10_catchOrDodge_15 : decode cX10_catchOrDodge 15 = .ok (.iconst 2, 1) := by decide +kernel
theorem dX10_catchOrDodge_16 : decode cX10_catchOrDodge 16 = .ok (.aload_n 0, 1) := by decide +kernel
theorem dX10_catchOrDodge_17 : decode cX10_catchOrDodge 17 = .ok (.getfield 19, 3) := by decide +kernel
theorem dX10_catchOrDodge_20 : decode cX10_catchOrDodge 20 = .ok (.iload_n 2, 1) := by decide +kernel
theorem dX10_catchOrDodge_21 : decode cX10_catchOrDodge 21 = .ok (.iconst 0, 1) := by decide +kernel
theorem dX10_catchOrDodge_22 : decode cX10_catchOrDodge 22 = .ok (.invokevirtual 125, 3) := by decide +kernel
theorem dX10_catchOrDodge_25 : decode cX10_catchOrDodge 25 = .ok (.imul, 1) := by decide +kernel
theorem dX10_catchOrDodge_26 : decode cX10_catchOrDodge 26 = .ok (.isub, 1) := by decide +kernel
theorem dX10_catchOrDodge_27 : decode cX10_catchOrDodge 27 = .ok (.istore 4, 2) := by decide +kernel
theorem dX10_catchOrDodge_29 : decode cX10_catchOrDodge 29 = .ok (.iload_n 3, 1) := by decide +kernel
theorem dX10_catchOrDodge_30 : decode cX10_catchOrDodge 30 = .ok (.iload 4, 2) := by decide +kernel
theorem dX10_catchOrDodge_32 : decode cX10_catchOrDodge 32 = .ok (.invokestatic 236, 3) := by decide +kernel
theorem dX10_catchOrDodge_35 : decode cX10_catchOrDodge 35 = .ok (.ireturn, 1) := by decide +kernel
set_option maxRecDepth 20000 in
theorem ggX10_playRowInMind_X1_becomeLike : GoodIn wsX10_playRowInMind wsX1_becomeLike := goodIn_r _ [9, 10, 11, 12, 13, 14, 15, 16, 17, 18, 19, 20, 21, 22, 23, 24, 25, 26, 27, 28, 29, 30, 137, 138, 139, 140, 141, 142, 143, 144, 145, 146, 147] (by decide +kernel) (by decide +kernel)
set_option maxRecDepth 20000 in
theorem gX10_playRowInMind_X1_becomeLike : GoodIn wsX10_playRowInMind (wsV RX10 63 RX1 yX1_becomeLike wsX1_becomeLike) := goodIn_app (goodIn_of _ (by decide +kernel)) ggX10_playRowInMind_X1_becomeLike
set_option maxRecDepth 20000 in
theorem ggX10_playRowInMind_X10_throwInMind : GoodIn wsX10_playRowInMind wsX10_throwInMind := goodIn_r _ [35, 1, 36, 37, 38, 8, 39, 14, 40, 41, 42, 43, 11, 10, 44, 45, 34, 46, 47, 48, 49, 50, 51, 52, 53, 54, 55, 56, 57, 58, 59, 60, 61, 62, 63, 64, 65, 66, 67, 68, 69, 70, 71, 12, 13, 72, 73, 74, 75, 76, 77, 78, 79, 80, 81, 82, 83, 19, 20, 84, 85, 86, 87, 88, 89, 90, 91, 92, 93, 94, 25, 95, 27, 30, 28, 96, 97, 98, 99, 100, 101, 102, 103, 104, 105, 106, 107, 108, 109, 110, 111, 112, 113, 114, 115, 116, 117, 118, 119, 120, 121, 122, 123, 124, 125, 126, 21, 127, 128, 129, 130, 131, 132, 133, 134, 135, 136, 137, 138, 139, 140, 141, 142, 143, 144, 145, 146, 147, 148, 149, 150, 151, 152, 153, 154, 155, 156, 157, 158, 159, 160, 161, 162, 163, 164, 165, 166, 167, 168, 169, 170, 171] (by decide +kernel) (by decide +kernel)
set_option maxRecDepth 20000 in
theorem gX10_playRowInMind_X10_throwInMind : GoodIn wsX10_playRowInMind (wsV RX10 241 RX10 yX10_throwInMind wsX10_throwInMind) := goodIn_app (goodIn_of _ (by decide +kernel)) ggX10_playRowInMind_X10_throwInMind
theorem dX10_playRowInMind_0 : decode cX10_playRowInMind 0 = .ok (.aload_n 0, 1) := by decide +kernel
theorem dX10_playRowInMind_1 : decode cX10_playRowInMind 1 = .ok (.getfield 23, 3) := by decide +kernel
theorem dX10_playRowInMind_4 : decode cX10_playRowInMind 4 = .ok (.aload_n 0, 1) := by decide +kernel
theorem dX10_playRowInMind_5 : decode cX10_playRowInMind 5 = .ok (.getfield 19, 3) := by decide +kernel
theorem dX10_playRowInMind_8 : decode cX10_playRowInMind 8 = .ok (.invokevirtual 63, 3) := by decide +kernel
theorem dX10_playRowInMind_11 : decode cX10_playRowInMind 11 = .ok (.iconst 0, 1) := by decide +kernel
theorem dX10_playRowInMind_12 : decode cX10_playRowInMind 12 = .ok (.istore_n 1, 1) := by decide +kernel
theorem dX10_playRowInMind_13 : decode cX10_playRowInMind 13 = .ok (.iload_n 1, 1) := by decide +kernel
theorem dX10_playRowInMind_14 : decode cX10_playRowInMind 14 = .ok (.aload_n 0, 1) := by decide +kernel
theorem dX10_playRowInMind_15 : decode cX10_playRowInMind 15 = .ok (.getfield 193, 3) := by decide +kernel
theorem dX10_playRowInMind_18 : decode cX10_playRowInMind 18 = .ok (.if_icmp .ge 33, 3) := by decide +kernel
theorem dX10_playRowInMind_21 : decode cX10_playRowInMind 21 = .ok (.iload_n 1, 1) := by decide +kernel
theorem dX10_playRowInMind_22 : decode cX10_playRowInMind 22 = .ok (.aload_n 0, 1) := by decide +kernel
theorem dX10_playRowInMind_23 : decode cX10_playRowInMind 23 = .ok (.getfield 36, 3) := by decide +kernel
theorem dX10_playRowInMind_26 : decode cX10_playRowInMind 26 = .ok (.arraylength, 1) := by decide +kernel
theorem dX10_playRowInMind_27 : decode cX10_playRowInMind 27 = .ok (.if_icmp .ge 24, 3) := by decide +kernel
theorem dX10_playRowInMind_30 : decode cX10_playRowInMind 30 = .ok (.aload_n 0, 1) := by decide +kernel
theorem dX10_playRowInMind_31 : decode cX10_playRowInMind 31 = .ok (.aload_n 0, 1) := by decide +kernel
theorem dX10_playRowInMind_32 : decode cX10_playRowInMind 32 = .ok (.getfield 36, 3) := by decide +kernel
theorem dX10_playRowInMind_35 : decode cX10_playRowInMind 35 = .ok (.iload_n 1, 1) := by decide +kernel
theorem dX10_playRowInMind_36 : decode cX10_playRowInMind 36 = .ok (.iaload, 1) := by decide +kernel
theorem dX10_playRowInMind_37 : decode cX10_playRowInMind 37 = .ok (.invokevirtual 241, 3) := by decide +kernel
theorem dX10_playRowInMind_40 : decode cX10_playRowInMind 40 = .ok (.ifCond .ne 5, 3) := by decide +kernel
theorem dX10_playRowInMind_43 : decode cX10_playRowInMind 43 = .ok (.iload_n 1, 1) := by decide +kernel
theorem dX10_playRowInMind_44 : decode cX10_playRowInMind 44 = .ok (.ireturn, 1) := by decide +kernel
theorem dX10_playRowInMind_45 : decode cX10_playRowInMind 45 = .ok (.iinc 1 1, 3) := by decide +kernel
theorem dX10_playRowInMind_48 : decode cX10_playRowInMind 48 = .ok (.goto (-35), 3) := by decide +kernel
theorem dX10_playRowInMind_51 : decode cX10_playRowInMind 51 = .ok (.bipush (-9), 2) := by decide +kernel
theorem dX10_playRowInMind_53 : decode cX10_playRowInMind 53 = .ok (.ireturn, 1) := by decide +kernel
set_option maxRecDepth 20000 in
theorem ggX10_throwInMind_X1_leastBallOf : GoodIn wsX10_throwInMind wsX1_leastBallOf := goodIn_r _ [6, 7, 8, 9, 10, 5, 11, 12, 13, 117, 118, 119, 120, 121, 122, 123, 124] (by decide +kernel) (by decide +kernel)
set_option maxRecDepth 20000 in
theorem gX10_throwInMind_X1_leastBallOf : GoodIn wsX10_throwInMind (wsV RX10 244 RX1 yX1_leastBallOf wsX1_leastBallOf) := goodIn_app (goodIn_of _ (by decide +kernel)) ggX10_throwInMind_X1_leastBallOf
set_option maxRecDepth 20000 in
theorem ggX10_throwInMind_X10_isHow : GoodIn wsX10_throwInMind wsX10_isHow := goodIn_r _ [17] (by decide +kernel) (by decide +kernel)
set_option maxRecDepth 20000 in
theorem gX10_throwInMind_X10_isHow : GoodIn wsX10_throwInMind (va_wsS RX10 111 yX10_isHow wsX10_isHow) := goodIn_app (goodIn_of _ (by decide +kernel)) ggX10_throwInMind_X10_isHow
set_option maxRecDepth 20000 in
theorem ggX10_throwInMind_X10_isEnd : GoodIn wsX10_throwInMind wsX10_isEnd := goodIn_r _ [20] (by decide +kernel) (by decide +kernel)
set_option maxRecDepth 20000 in
theorem gX10_throwInMind_X10_isEnd : GoodIn wsX10_throwInMind (va_wsS RX10 114 yX10_isEnd wsX10_isEnd) := goodIn_app (goodIn_of _ (by decide +kernel)) ggX10_throwInMind_X10_isEnd
set_option maxRecDepth 20000 in
theorem ggX10_throwInMind_X1_canThrow : GoodIn wsX10_throwInMind wsX1_canThrow := goodIn_r _ [24, 25, 26, 27, 5, 28, 7, 29, 16, 30, 31, 32, 33, 34, 35, 36, 37, 38, 8, 9, 10, 11, 12, 13, 39, 40, 41, 42, 43, 44, 45, 46, 47, 48, 117, 118, 119, 120, 121, 122, 123, 124, 125, 126, 127, 128, 129, 130, 131, 132, 133, 134, 135, 136, 137, 138, 139, 140, 141, 142, 143, 144, 145, 146, 147, 148, 149, 150, 151] (by decide +kernel) (by decide +kernel)
set_option maxRecDepth 20000 in
theorem gX10_throwInMind_X1_canThrow : GoodIn wsX10_throwInMind (wsV RX10 129 RX1 yX1_canThrow wsX1_canThrow) := goodIn_app (goodIn_of _ (by decide +kernel)) ggX10_throwInMind_X1_canThrow
set_option maxRecDepth 20000 in
theorem ggX10_throwInMind_X1_endThrow : GoodIn wsX10_throwInMind wsX1_endThrow := goodIn_r _ [52, 25, 26, 27, 5, 28, 7, 29, 16, 30, 45, 46, 47, 48, 13, 8, 9, 10, 11, 12, 53, 54, 55, 56, 57, 58, 59, 60, 61, 62, 35, 36, 37, 38, 39, 40, 41, 42, 43, 44, 63, 64, 65, 66, 67, 68, 69, 70, 71, 72, 73, 74, 75, 76, 77, 78, 79, 80, 81, 82, 83, 84, 85, 86, 87, 88, 89, 90, 91, 92, 93, 94, 95, 96, 97, 98, 99, 100, 101, 102, 103, 104, 105, 106, 117, 118, 119, 120, 121, 122, 123, 124, 128, 129, 130, 131, 132, 133, 134, 135, 136, 137, 138, 139, 140, 141, 142, 143, 144, 145, 146, 147, 148, 149, 150, 151, 125, 126, 127] (by decide +kernel) (by decide +kernel)
set_option maxRecDepth 20000 in
theorem gX10_throwInMind_X1_endThrow : GoodIn wsX10_throwInMind (wsV RX10 135 RX1 yX1_endThrow wsX1_endThrow) := goodIn_app (goodIn_of _ (by decide +kernel)) ggX10_throwInMind_X1_endThrow
theorem dX10_throwInMind_0 : decode cX10_throwInMind 0 = .ok (.aload_n 0, 1) := by decide +kernel
theorem dX10_throwInMind_1 : decode cX10_throwInMind 1 = .ok (.getfield 23, 3) := by decide +kernel
theorem dX10_throwInMind_4 : decode cX10_throwInMind 4 = .ok (.iload_n 1, 1) := by decide +kernel
theorem dX10_throwInMind_5 : decode cX10_throwInMind 5 = .ok (.sipush 1000, 3) := by decide +kernel
theorem dX10_throwInMind_8 : decode cX10_throwInMind 8 = .ok (.idiv, 1) := by decide +kernel
theorem dX10_throwInMind_9 : decode cX10_throwInMind 9 = .ok (.invokevirtual 244, 3) := by decide +kernel
theorem dX10_throwInMind_12 : decode cX10_throwInMind 12 = .ok (.istore_n 2, 1) := by decide +kernel
theorem dX10_throwInMind_13 : decode cX10_throwInMind 13 = .ok (.iload_n 1, 1) := by decide +kernel
theorem dX10_throwInMind_14 : decode cX10_throwInMind 14 = .ok (.bipush 100, 2) := by decide +kernel
theorem dX10_throwInMind_16 : decode cX10_throwInMind 16 = .ok (.idiv, 1) := by decide +kernel
theorem dX10_throwInMind_17 : decode cX10_throwInMind 17 = .ok (.bipush 10, 2) := by decide +kernel
theorem dX10_throwInMind_19 : decode cX10_throwInMind 19 = .ok (.irem, 1) := by decide +kernel
theorem dX10_throwInMind_20 : decode cX10_throwInMind 20 = .ok (.istore_n 3, 1) := by decide +kernel
theorem dX10_throwInMind_21 : decode cX10_throwInMind 21 = .ok (.iload_n 1, 1) := by decide +kernel
theorem dX10_throwInMind_22 : decode cX10_throwInMind 22 = .ok (.bipush 10, 2) := by decide +kernel
theorem dX10_throwInMind_24 : decode cX10_throwInMind 24 = .ok (.idiv, 1) := by decide +kernel
theorem dX10_throwInMind_25 : decode cX10_throwInMind 25 = .ok (.bipush 10, 2) := by decide +kernel
theorem dX10_throwInMind_27 : decode cX10_throwInMind 27 = .ok (.irem, 1) := by decide +kernel
theorem dX10_throwInMind_28 : decode cX10_throwInMind 28 = .ok (.istore 4, 2) := by decide +kernel
theorem dX10_throwInMind_30 : decode cX10_throwInMind 30 = .ok (.iload_n 1, 1) := by decide +kernel
theorem dX10_throwInMind_31 : decode cX10_throwInMind 31 = .ok (.bipush 10, 2) := by decide +kernel
theorem dX10_throwInMind_33 : decode cX10_throwInMind 33 = .ok (.irem, 1) := by decide +kernel
theorem dX10_throwInMind_34 : decode cX10_throwInMind 34 = .ok (.istore 5, 2) := by decide +kernel
theorem dX10_throwInMind_36 : decode cX10_throwInMind 36 = .ok (.iload 4, 2) := by decide +kernel
theorem dX10_throwInMind_38 : decode cX10_throwInMind 38 = .ok (.invokestatic 111, 3) := by decide +kernel
theorem dX10_throwInMind_41 : decode cX10_throwInMind 41 = .ok (.ifCond .eq 23, 3) := by decide +kernel
theorem dX10_throwInMind_44 : decode cX10_throwInMind 44 = .ok (.iload 5, 2) := by decide +kernel
theorem dX10_throwInMind_46 : decode cX10_throwInMind 46 = .ok (.invokestatic 114, 3) := by decide +kernel
theorem dX10_throwInMind_49 : decode cX10_throwInMind 49 = .ok (.ifCond .eq 15, 3) := by decide +kernel
theorem dX10_throwInMind_52 : decode cX10_throwInMind 52 = .ok (.aload_n 0, 1) := by decide +kernel
theorem dX10_throwInMind_53 : decode cX10_throwInMind 53 = .ok (.getfield 23, 3) := by decide +kernel
theorem dX10_throwInMind_56 : decode cX10_throwInMind 56 = .ok (.iload_n 2, 1) := by decide +kernel
theorem dX10_throwInMind_57 : decode cX10_throwInMind 57 = .ok (.iload_n 3, 1) := by decide +kernel
theorem dX10_throwInMind_58 : decode cX10_throwInMind 58 = .ok (.invokevirtual 129, 3) := by decide +kernel
theorem dX10_throwInMind_61 : decode cX10_throwInMind 61 = .ok (.ifCond .ne 5, 3) := by decide +kernel
theorem dX10_throwInMind_64 : decode cX10_throwInMind 64 = .ok (.iconst 0, 1) := by decide +kernel
theorem dX10_throwInMind_65 : decode cX10_throwInMind 65 = .ok (.ireturn, 1) := by decide +kernel
theorem dX10_throwInMind_66 : decode cX10_throwInMind 66 = .ok (.aload_n 0, 1) := by decide +kernel
theorem dX10_throwInMind_67 : decode cX10_throwInMind 67 = .ok (.getfield 23, 3) := by decide +kernel
theorem dX10_throwInMind_70 : decode cX10_throwInMind 70 = .ok (.iload_n 2, 1) := by decide +kernel
theorem dX10_throwInMind_71 : decode cX10_throwInMind 71 = .ok (.iload_n 3, 1) := by decide +kernel
theorem dX10_throwInMind_72 : decode cX10_throwInMind 72 = .ok (.iload 5, 2) := by decide +kernel
theorem dX10_throwInMind_74 : decode cX10_throwInMind 74 = .ok (.invokevirtual 135, 3) := by decide +kernel
theorem dX10_throwInMind_77 : decode cX10_throwInMind 77 = .ok (.iconst 1, 1) := by decide +kernel
theorem dX10_throwInMind_78 : decode cX10_throwInMind 78 = .ok (.ireturn, 1) := by decide +kernel
set_option maxRecDepth 20000 in
theorem ggX10_throwByLot_X10_draw : GoodIn wsX10_throwByLot wsX10_draw := goodIn_r _ [6, 7, 8, 9, 10, 208, 209, 210, 211, 212, 213, 214, 215, 216, 217] (by decide +kernel) (by decide +kernel)
set_option maxRecDepth 20000 in
theorem gX10_throwByLot_X10_draw : GoodIn wsX10_throwByLot (wsV RX10 247 RX10 yX10_draw wsX10_draw) := goodIn_app (goodIn_of _ (by decide +kernel)) ggX10_throwByLot_X10_draw
set_option maxRecDepth 20000 in
theorem ggX10_throwByLot_X1_canThrow : GoodIn wsX10_throwByLot wsX1_canThrow := goodIn_r _ [15, 16, 17, 18, 14, 19, 20, 21, 5, 22, 23, 24, 25, 26, 27, 28, 29, 30, 31, 32, 33, 34, 35, 36, 37, 38, 39, 40, 41, 42, 43, 44, 45, 46, 218, 219, 220, 221, 222, 223, 224, 225, 226, 227, 228, 229, 230, 231, 232, 233, 234, 235, 236, 237, 238, 239, 240, 241, 242, 243, 244, 245, 246, 247, 248, 249, 250, 251, 252] (by decide +kernel) (by decide +kernel)
set_option maxRecDepth 20000 in
theorem gX10_throwByLot_X1_canThrow : GoodIn wsX10_throwByLot (wsV RX10 129 RX1 yX1_canThrow wsX1_canThrow) := goodIn_app (goodIn_of _ (by decide +kernel)) ggX10_throwByLot_X1_canThrow
set_option maxRecDepth 20000 in
theorem ggX10_throwByLot_X1_holderOf : GoodIn wsX10_throwByLot wsX1_holderOf := goodIn_r _ [19, 20, 21, 5, 22, 218, 219, 220, 221, 222, 223, 224, 225] (by decide +kernel) (by decide +kernel)
set_option maxRecDepth 20000 in
theorem gX10_throwByLot_X1_holderOf : GoodIn wsX10_throwByLot (wsV RX10 102 RX1 yX1_holderOf wsX1_holderOf) := goodIn_app (goodIn_of _ (by decide +kernel)) ggX10_throwByLot_X1_holderOf
set_option maxRecDepth 20000 in
theorem ggX10_throwByLot_X1_hitOf : GoodIn wsX10_throwByLot wsX1_hitOf := goodIn_r _ [51, 52, 53, 54, 14, 55, 36, 56, 31, 32, 33, 34, 35, 57, 58, 59, 60, 61, 62, 63, 64, 65, 66, 67, 68, 69, 70, 71, 72, 73, 74, 75, 76, 77, 78, 79, 80, 81, 82, 83, 84, 85, 86, 87, 20, 88, 89, 90, 91, 92, 93, 94, 95, 96, 97, 98, 99, 100, 101, 102, 103, 104, 105, 106, 107, 108, 109, 110, 111, 112, 5, 113, 114, 115, 116, 117, 118, 119, 218, 219, 220, 221, 222, 223, 224, 225, 229, 230, 231, 232, 233, 234, 235, 236, 237, 238, 239, 240, 241, 242, 243, 244, 245, 246, 247, 248, 249, 250, 251, 252] (by decide +kernel) (by decide +kernel)
set_option maxRecDepth 20000 in
theorem gX10_throwByLot_X1_hitOf : GoodIn wsX10_throwByLot (wsV RX10 121 RX1 yX1_hitOf wsX1_hitOf) := goodIn_app (goodIn_of _ (by decide +kernel)) ggX10_throwByLot_X1_hitOf
set_option maxRecDepth 20000 in
theorem ggX10_throwByLot_X1_caughtOf : GoodIn wsX10_throwByLot wsX1_caughtOf := goodIn_r _ [123, 124, 125, 126, 14, 127, 36, 31, 32, 33, 34, 35, 128, 129, 130, 131, 41, 42, 132, 133, 134, 135, 136, 137, 138, 139, 140, 141, 61, 142, 63, 93, 143, 144, 145, 146, 147, 148, 149, 150, 151, 152, 153, 154, 112, 5, 113, 114, 115, 116, 117, 75, 118, 119, 74, 76, 218, 219, 220, 221, 222, 223, 224, 225, 226, 227, 228, 229, 230, 231, 232, 233, 234, 235, 236, 237, 238, 239, 240, 241, 242, 243, 244, 245, 246, 247, 248, 249, 250, 251, 252] (by decide +kernel) (by decide +kernel)
set_option maxRecDepth 20000 in
theorem gX10_throwByLot_X1_caughtOf : GoodIn wsX10_throwByLot (wsV RX10 125 RX1 yX1_caughtOf wsX1_caughtOf) := goodIn_app (goodIn_of _ (by decide +kernel)) ggX10_throwByLot_X1_caughtOf
set_option maxRecDepth 20000 in
theorem ggX10_throwByLot_X1_endThrow : GoodIn wsX10_throwByLot wsX1_endThrow := goodIn_r _ [158, 16, 17, 18, 14, 19, 20, 21, 5, 22, 43, 44, 45, 46, 36, 31, 32, 33, 34, 35, 159, 160, 161, 162, 163, 164, 165, 166, 167, 168, 27, 28, 29, 30, 37, 38, 39, 40, 41, 42, 169, 170, 171, 172, 173, 174, 175, 176, 177, 178, 179, 180, 181, 182, 183, 184, 185, 186, 187, 188, 189, 190, 191, 192, 84, 85, 86, 87, 193, 194, 195, 196, 197, 198, 199, 200, 201, 202, 203, 204, 205, 206, 207, 56, 218, 219, 220, 221, 222, 223, 224, 225, 229, 230, 231, 232, 233, 234, 235, 236, 237, 238, 239, 240, 241, 242, 243, 244, 245, 246, 247, 248, 249, 250, 251, 252, 226, 227, 228] (by decide +kernel) (by decide +kernel)
set_option maxRecDepth 20000 in
theorem gX10_throwByLot_X1_endThrow : GoodIn wsX10_throwByLot (wsV RX10 135 RX1 yX1_endThrow wsX1_endThrow) := goodIn_app (goodIn_of _ (by decide +kernel)) ggX10_throwByLot_X1_endThrow
theorem dX10_throwByLot_0 : decode cX10_throwByLot 0 = .ok (.aload_n 0, 1) := by decide +kernel
theorem dX10_throwByLot_1 : decode cX10_throwByLot 1 = .ok (.bipush 6, 2) := by decide +kernel
theorem dX10_throwByLot_3 : decode cX10_throwByLot 3 = .ok (.invokevirtual 247, 3) := by decide +kernel
theorem dX10_throwByLot_6 : decode cX10_throwByLot 6 = .ok (.istore_n 1, 1) := by decide +kernel
theorem dX10_throwByLot_7 : decode cX10_throwByLot 7 = .ok (.aload_n 0, 1) := by decide +kernel
theorem dX10_throwByLot_8 : decode cX10_throwByLot 8 = .ok (.aload_n 0, 1) := by decide +kernel
theorem dX10_throwByLot_9 : decode cX10_throwByLot 9 = .ok (.getfield 23, 3) := by decide +kernel
theorem dX10_throwByLot_12 : decode cX10_throwByLot 12 = .ok (.getfield 202, 3) := by decide +kernel
theorem dX10_throwByLot_15 : decode cX10_throwByLot 15 = .ok (.invokevirtual 247, 3) := by decide +kernel
theorem dX10_throwByLot_18 : decode cX10_throwByLot 18 = .ok (.istore_n 2, 1) := by decide +kernel
theorem dX10_throwByLot_19 : decode cX10_throwByLot 19 = .ok (.aload_n 0, 1) := by decide +kernel
theorem dX10_throwByLot_20 : decode cX10_throwByLot 20 = .ok (.iconst 3, 1) := by decide +kernel
theorem dX10_throwByLot_21 : decode cX10_throwByLot 21 = .ok (.invokevirtual 247, 3) := by decide +kernel
theorem dX10_throwByLot_24 : decode cX10_throwByLot 24 = .ok (.istore_n 3, 1) := by decide +kernel
theorem dX10_throwByLot_25 : decode cX10_throwByLot 25 = .ok (.aload_n 0, 1) := by decide +kernel
theorem dX10_throwByLot_26 : decode cX10_throwByLot 26 = .ok (.getfield 23, 3) := by decide +kernel
theorem dX10_throwByLot_29 : decode cX10_throwByLot 29 = .ok (.iload_n 1, 1) := by decide +kernel
theorem dX10_throwByLot_30 : decode cX10_throwByLot 30 = .ok (.iload_n 2, 1) := by decide +kernel
theorem dX10_throwByLot_31 : decode cX10_throwByLot 31 = .ok (.invokevirtual 129, 3) := by decide +kernel
theorem dX10_throwByLot_34 : decode cX10_throwByLot 34 = .ok (.ifCond .eq 80, 3) := by decide +kernel
theorem dX10_throwByLot_37 : decode cX10_throwByLot 37 = .ok (.aload_n 0, 1) := by decide +kernel
theorem dX10_throwByLot_38 : decode cX10_throwByLot 38 = .ok (.getfield 23, 3) := by decide +kernel
theorem dX10_throwByLot_41 : decode cX10_throwByLot 41 = .ok (.aload_n 0, 1) := by decide +kernel
theorem dX10_throwByLot_42 : decode cX10_throwByLot 42 = .ok (.getfield 23, 3) := by decide +kernel
theorem dX10_throwByLot_45 : decode cX10_throwByLot 45 = .ok (.iload_n 1, 1) := by decide +kernel
theorem dX10_throwByLot_46 : decode cX10_throwByLot 46 = .ok (.invokevirtual 102, 3) := by decide +kernel
theorem dX10_throwByLot_49 : decode cX10_throwByLot 49 = .ok (.iload_n 2, 1) := by decide +kernel
theorem dX10_throwByLot_50 : decode cX10_throwByLot 50 = .ok (.iload_n 3, 1) := by decide +kernel
theorem dX10_throwByLot_51 : decode cX10_throwByLot 51 = .ok (.invokevirtual 121, 3) := by decide +kernel
theorem dX10_throwByLot_54 : decode cX10_throwByLot 54 = .ok (.istore 4, 2) := by decide +kernel
theorem dX10_throwByLot_56 : decode cX10_throwByLot 56 = .ok (.aload_n 0, 1) := by decide +kernel
theorem dX10_throwByLot_57 : decode cX10_throwByLot 57 = .ok (.getfield 23, 3) := by decide +kernel
theorem dX10_throwByLot_60 : decode cX10_throwByLot 60 = .ok (.iload_n 2, 1) := by decide +kernel
theorem dX10_throwByLot_61 : decode cX10_throwByLot 61 = .ok (.iload_n 3, 1) := by decide +kernel
theorem dX10_throwByLot_62 : decode cX10_throwByLot 62 = .ok (.invokevirtual 125, 3) := by decide +kernel
theorem dX10_throwByLot_65 : decode cX10_throwByLot 65 = .ok (.istore 5, 2) := by decide +kernel
theorem dX10_throwByLot_67 : decode cX10_throwByLot 67 = .ok (.aload_n 0, 1) := by decide +kernel
theorem dX10_throwByLot_68 : decode cX10_throwByLot 68 = .ok (.bipush 40, 2) := by decide +kernel
theorem dX10_throwByLot_70 : decode cX10_throwByLot 70 = .ok (.invokevirtual 247, 3) := by decide +kernel
theorem dX10_throwByLot_73 : decode cX10_throwByLot 73 = .ok (.istore 6, 2) := by decide +kernel
theorem dX10_throwByLot_75 : decode cX10_throwByLot 75 = .ok (.iload 6, 2) := by decide +kernel
theorem dX10_throwByLot_77 : decode cX10_throwByLot 77 = .ok (.iload 4, 2) := by decide +kernel
theorem dX10_throwByLot_79 : decode cX10_throwByLot 79 = .ok (.if_icmp .ge 7, 3) := by decide +kernel
theorem dX10_throwByLot_82 : decode cX10_throwByLot 82 = .ok (.iconst 0, 1) := by decide +kernel
theorem dX10_throwByLot_83 : decode cX10_throwByLot 83 = .ok (.goto 18, 3) := by decide +kernel
theorem dX10_throwByLot_86 : decode cX10_throwByLot 86 = .ok (.iload 6, 2) := by decide +kernel
theorem dX10_throwByLot_88 : decode cX10_throwByLot 88 = .ok (.iload 4, 2) := by decide +kernel
theorem dX10_throwByLot_90 : decode cX10_throwByLot 90 = .ok (.iload 5, 2) := by decide +kernel
theorem dX10_throwByLot_92 : decode cX10_throwByLot 92 = .ok (.iadd, 1) := by decide +kernel
theorem dX10_throwByLot_93 : decode cX10_throwByLot 93 = .ok (.if_icmp .ge 7, 3) := by decide +kernel
theorem dX10_throwByLot_96 : decode cX10_throwByLot 96 = .ok (.iconst 1, 1) := by decide +kernel
theorem dX10_throwByLot_97 : decode cX10_throwByLot 97 = .ok (.goto 4, 3) := by decide +kernel
theorem dX10_throwByLot_100 : decode cX10_throwByLot 100 = .ok (.iconst 2, 1) := by decide +kernel
theorem dX10_throwByLot_101 : decode cX10_throwByLot 101 = .ok (.istore 7, 2) := by decide +kernel
theorem dX10_throwByLot_103 : decode cX10_throwByLot 103 = .ok (.aload_n 0, 1) := by decide +kernel
theorem dX10_throwByLot_104 : decode cX10_throwByLot 104 = .ok (.getfield 23, 3) := by decide +kernel
theorem dX10_throwByLot_107 : decode cX10_throwByLot 107 = .ok (.iload_n 1, 1) := by decide +kernel
theorem dX10_throwByLot_108 : decode cX10_throwByLot 108 = .ok (.iload_n 2, 1) := by decide +kernel
theorem dX10_throwByLot_109 : decode cX10_throwByLot 109 = .ok (.iload 7, 2) := by decide +kernel
theorem dX10_throwByLot_111 : decode cX10_throwByLot 111 = .ok (.invokevirtual 135, 3) := by decide +kernel
theorem dX10_throwByLot_114 : decode cX10_throwByLot 114 = .ok (.return_, 1) := by decide +kernel
theorem dX10_draw_0 : decode cX10_draw 0 = .ok (.aload_n 0, 1) := by decide +kernel
theorem dX10_draw_1 : decode cX10_draw 1 = .ok (.aload_n 0, 1) := by decide +kernel
theorem dX10_draw_2 : decode cX10_draw 2 = .ok (.getfield 217, 3) := by decide +kernel
theorem dX10_draw_5 : decode cX10_draw 5 = .ok (.ldc 250, 2) := by decide +kernel
theorem dX10_draw_7 : decode cX10_draw 7 = .ok (.imul, 1) := by decide +kernel
theorem dX10_draw_8 : decode cX10_draw 8 = .ok (.ldc 251, 2) := by decide +kernel
theorem dX10_draw_10 : decode cX10_draw 10 = .ok (.iadd, 1) := by decide +kernel
theorem dX10_draw_11 : decode cX10_draw 11 = .ok (.putfield 217, 3) := by decide +kernel
theorem dX10_draw_14 : decode cX10_draw 14 = .ok (.iload_n 1, 1) := by decide +kernel
theorem dX10_draw_15 : decode cX10_draw 15 = .ok (.iconst 1, 1) := by decide +kernel
theorem dX10_draw_16 : decode cX10_draw 16 = .ok (.if_icmp .ge 7, 3) := by decide +kernel
theorem dX10_draw_19 : decode cX10_draw 19 = .ok (.iconst 0, 1) := by decide +kernel
theorem dX10_draw_20 : decode cX10_draw 20 = .ok (.goto 16, 3) := by decide +kernel
theorem dX10_draw_23 : decode cX10_draw 23 = .ok (.aload_n 0, 1) := by decide +kernel
theorem dX10_draw_24 : decode cX10_draw 24 = .ok (.getfield 217, 3) := by decide +kernel
theorem dX10_draw_27 : decode cX10_draw 27 = .ok (.ldc 252, 2) := by decide +kernel
theorem dX10_draw_29 : decode cX10_draw 29 = .ok (.iand, 1) := by decide +kernel
theorem dX10_draw_30 : decode cX10_draw 30 = .ok (.sipush 256, 3) := by decide +kernel
theorem dX10_draw_33 : decode cX10_draw 33 = .ok (.idiv, 1) := by decide +kernel
theorem dX10_draw_34 : decode cX10_draw 34 = .ok (.iload_n 1, 1) := by decide +kernel
theorem dX10_draw_35 : decode cX10_draw 35 = .ok (.irem, 1) := by decide +kernel
theorem dX10_draw_36 : decode cX10_draw 36 = .ok (.ireturn, 1) := by decide +kernel
theorem dX10_isSide_0 : decode cX10_isSide 0 = .ok (.iload_n 0, 1) := by decide +kernel
theorem dX10_isSide_1 : decode cX10_isSide 1 = .ok (.ifCond .lt 12, 3) := by decide +kernel
theorem dX10_isSide_4 : decode cX10_isSide 4 = .ok (.iload_n 0, 1) := by decide +kernel
theorem dX10_isSide_5 : decode cX10_isSide 5 = .ok (.iconst 2, 1) := by decide +kernel
theorem dX10_isSide_6 : decode cX10_isSide 6 = .ok (.if_icmp .ge 7, 3) := by decide +kernel
theorem dX10_isSide_9 : decode cX10_isSide 9 = .ok (.iconst 1, 1) := by decide +kernel
theorem dX10_isSide_10 : decode cX10_isSide 10 = .ok (.goto 4, 3) := by decide +kernel
theorem dX10_isSide_13 : decode cX10_isSide 13 = .ok (.iconst 0, 1) := by decide +kernel
theorem dX10_isSide_14 : decode cX10_isSide 14 = .ok (.ireturn, 1) := by decide +kernel
theorem dX10_isBall_0 : decode cX10_isBall 0 = .ok (.iload_n 0, 1) := by decide +kernel
theorem dX10_isBall_1 : decode cX10_isBall 1 = .ok (.ifCond .lt 13, 3) := by decide +kernel
theorem dX10_isBall_4 : decode cX10_isBall 4 = .ok (.iload_n 0, 1) := by decide +kernel
theorem dX10_isBall_5 : decode cX10_isBall 5 = .ok (.bipush 6, 2) := by decide +kernel
theorem dX10_isBall_7 : decode cX10_isBall 7 = .ok (.if_icmp .ge 7, 3) := by decide +kernel
theorem dX10_isBall_10 : decode cX10_isBall 10 = .ok (.iconst 1, 1) := by decide +kernel
theorem dX10_isBall_11 : decode cX10_isBall 11 = .ok (.goto 4, 3) := by decide +kernel
theorem dX10_isBall_14 : decode cX10_isBall 14 = .ok (.iconst 0, 1) := by decide +kernel
theorem dX10_isBall_15 : decode cX10_isBall 15 = .ok (.ireturn, 1) := by decide +kernel
theorem dX10_isHow_0 : decode cX10_isHow 0 = .ok (.iload_n 0, 1) := by decide +kernel
theorem dX10_isHow_1 : decode cX10_isHow 1 = .ok (.ifCond .lt 12, 3) := by decide +kernel
theorem dX10_isHow_4 : decode cX10_isHow 4 = .ok (.iload_n 0, 1) := by decide +kernel
theorem dX10_isHow_5 : decode cX10_isHow 5 = .ok (.iconst 3, 1) := by decide +kernel
theorem dX10_isHow_6 : decode cX10_isHow 6 = .ok (.if_icmp .ge 7, 3) := by decide +kernel
theorem dX10_isHow_9 : decode cX10_isHow 9 = .ok (.iconst 1, 1) := by decide +kernel
theorem dX10_isHow_10 : decode cX10_isHow 10 = .ok (.goto 4, 3) := by decide +kernel
theorem dX10_isHow_13 : decode cX10_isHow 13 = .ok (.iconst 0, 1) := by decide +kernel
theorem dX10_isHow_14 : decode cX10_isHow 14 = .ok (.ireturn, 1) := by decide +kernel
theorem dX10_isEnd_0 : decode cX10_isEnd 0 = .ok (.iload_n 0, 1) := by decide +kernel
theorem dX10_isEnd_1 : decode cX10_isEnd 1 = .ok (.ifCond .lt 12, 3) := by decide +kernel
theorem dX10_isEnd_4 : decode cX10_isEnd 4 = .ok (.iload_n 0, 1) := by decide +kernel
theorem dX10_isEnd_5 : decode cX10_isEnd 5 = .ok (.iconst 3, 1) := by decide +kernel
theorem dX10_isEnd_6 : decode cX10_isEnd 6 = .ok (.if_icmp .ge 7, 3) := by decide +kernel
theorem dX10_isEnd_9 : decode cX10_isEnd 9 = .ok (.iconst 1, 1) := by decide +kernel
theorem dX10_isEnd_10 : decode cX10_isEnd 10 = .ok (.goto 4, 3) := by decide +kernel
theorem dX10_isEnd_13 : decode cX10_isEnd 13 = .ok (.iconst 0, 1) := by decide +kernel
theorem dX10_isEnd_14 : decode cX10_isEnd 14 = .ok (.ireturn, 1) := by decide +kernel
theorem dX10_isOneTwice_0 : decode cX10_isOneTwice 0 = .ok (.iload_n 0, 1) := by decide +kernel
theorem dX10_isOneTwice_1 : decode cX10_isOneTwice 1 = .ok (.iload_n 1, 1) := by decide +kernel
theorem dX10_isOneTwice_2 : decode cX10_isOneTwice 2 = .ok (.if_icmp .eq 13, 3) := by decide +kernel
theorem dX10_isOneTwice_5 : decode cX10_isOneTwice 5 = .ok (.iload_n 0, 1) := by decide +kernel
theorem dX10_isOneTwice_6 : decode cX10_isOneTwice 6 = .ok (.iload_n 2, 1) := by decide +kernel
theorem dX10_isOneTwice_7 : decode cX10_isOneTwice 7 = .ok (.if_icmp .eq 8, 3) := by decide +kernel
theorem dX10_isOneTwice_10 : decode cX10_isOneTwice 10 = .ok (.iload_n 1, 1) := by decide +kernel
theorem dX10_isOneTwice_11 : decode cX10_isOneTwice 11 = .ok (.iload_n 2, 1) := by decide +kernel
theorem dX10_isOneTwice_12 : decode cX10_isOneTwice 12 = .ok (.if_icmp .ne 7, 3) := by decide +kernel
theorem dX10_isOneTwice_15 : decode cX10_isOneTwice 15 = .ok (.iconst 1, 1) := by decide +kernel
theorem dX10_isOneTwice_16 : decode cX10_isOneTwice 16 = .ok (.goto 4, 3) := by decide +kernel
theorem dX10_isOneTwice_19 : decode cX10_isOneTwice 19 = .ok (.iconst 0, 1) := by decide +kernel
theorem dX10_isOneTwice_20 : decode cX10_isOneTwice 20 = .ok (.ireturn, 1) := by decide +kernel
theorem dX10_withinOdds_0 : decode cX10_withinOdds 0 = .ok (.iconst 1, 1) := by decide +kernel
theorem dX10_withinOdds_1 : decode cX10_withinOdds 1 = .ok (.bipush 19, 2) := by decide +kernel
theorem dX10_withinOdds_3 : decode cX10_withinOdds 3 = .ok (.iload_n 0, 1) := by decide +kernel
theorem dX10_withinOdds_4 : decode cX10_withinOdds 4 = .ok (.invokestatic 236, 3) := by decide +kernel
theorem dX10_withinOdds_7 : decode cX10_withinOdds 7 = .ok (.invokestatic 253, 3) := by decide +kernel
theorem dX10_withinOdds_10 : decode cX10_withinOdds 10 = .ok (.ireturn, 1) := by decide +kernel
theorem dX10_commonDivisor_0 : decode cX10_commonDivisor 0 = .ok (.iconst 0, 1) := by decide +kernel
theorem dX10_commonDivisor_1 : decode cX10_commonDivisor 1 = .ok (.istore 4, 2) := by decide +kernel
theorem dX10_commonDivisor_3 : decode cX10_commonDivisor 3 = .ok (.iload 4, 2) := by decide +kernel
theorem dX10_commonDivisor_5 : decode cX10_commonDivisor 5 = .ok (.bipush 100, 2) := by decide +kernel
theorem dX10_commonDivisor_7 : decode cX10_commonDivisor 7 = .ok (.if_icmp .ge 25, 3) := by decide +kernel
theorem dX10_commonDivisor_10 : decode cX10_commonDivisor 10 = .ok (.lload_n 2, 1) := by decide +kernel
theorem dX10_commonDivisor_11 : decode cX10_commonDivisor 11 = .ok (.lconst 0, 1) := by decide +kernel
theorem dX10_commonDivisor_12 : decode cX10_commonDivisor 12 = .ok (.lcmp, 1) := by decide +kernel
theorem dX10_commonDivisor_13 : decode cX10_commonDivisor 13 = .ok (.ifCond .eq 19, 3) := by decide +kernel
theorem dX10_commonDivisor_16 : decode cX10_commonDivisor 16 = .ok (.lload_n 0, 1) := by decide +kernel
theorem dX10_commonDivisor_17 : decode cX10_commonDivisor 17 = .ok (.lload_n 2, 1) := by decide +kernel
theorem dX10_commonDivisor_18 : decode cX10_commonDivisor 18 = .ok (.lrem, 1) := by decide +kernel
theorem dX10_commonDivisor_19 : decode cX10_commonDivisor 19 = .ok (.lstore 5, 2) := by decide +kernel
theorem dX10_commonDivisor_21 : decode cX10_commonDivisor 21 = .ok (.lload_n 2, 1) := by decide +kernel
theorem dX10_commonDivisor_22 : decode cX10_commonDivisor 22 = .ok (.lstore_n 0, 1) := by decide +kernel
theorem dX10_commonDivisor_23 : decode cX10_commonDivisor 23 = .ok (.lload 5, 2) := by decide +kernel
theorem dX10_commonDivisor_25 : decode cX10_commonDivisor 25 = .ok (.lstore_n 2, 1) := by decide +kernel
theorem dX10_commonDivisor_26 : decode cX10_commonDivisor 26 = .ok (.iinc 4 1, 3) := by decide +kernel
theorem dX10_commonDivisor_29 : decode cX10_commonDivisor 29 = .ok (.goto (-26), 3) := by decide +kernel
theorem dX10_commonDivisor_32 : decode cX10_commonDivisor 32 = .ok (.lload_n 0, 1) := by decide +kernel
theorem dX10_commonDivisor_33 : decode cX10_commonDivisor 33 = .ok (.lreturn, 1) := by decide +kernel
set_option maxRecDepth 20000 in
theorem ggX10_newPlayer_X5_init : GoodIn wsX10_newPlayer wsX5_init := goodIn_r _ [21, 22, 23, 18, 24, 25, 26, 27, 28, 29, 30, 31, 53, 54, 55, 56, 65, 66, 67, 68, 69, 70, 71, 72, 49, 50, 51, 52, 57, 58, 59, 60, 61, 62, 63, 64] (by decide +kernel) (by decide +kernel)
set_option maxRecDepth 20000 in
theorem gX10_newPlayer_X5_init : GoodIn wsX10_newPlayer (wsX5_init) := ggX10_newPlayer_X5_init
set_option maxRecDepth 20000 in
theorem ggX10_newPlayer_X0_init : GoodIn wsX10_newPlayer wsX0_init := goodIn_r _ [34, 35, 23, 18, 24, 25, 26, 27, 28, 29, 30, 31, 53, 54, 55, 56, 65, 66, 67, 68, 69, 70, 71, 72, 49, 50, 51, 52, 57, 58, 59, 60, 61, 62, 63, 64] (by decide +kernel) (by decide +kernel)
set_option maxRecDepth 20000 in
theorem gX10_newPlayer_X0_init : GoodIn wsX10_newPlayer (wsX0_init) := ggX10_newPlayer_X0_init
set_option maxRecDepth 20000 in
theorem ggX10_newPlayer_X8_init : GoodIn wsX10_newPlayer wsX8_init := goodIn_r _ [38, 39, 23, 18, 24, 25, 26, 27, 28, 29, 30, 31, 53, 54, 55, 56, 65, 66, 67, 68, 69, 70, 71, 72, 49, 50, 51, 52, 57, 58, 59, 60, 61, 62, 63, 64] (by decide +kernel) (by decide +kernel)
set_option maxRecDepth 20000 in
theorem gX10_newPlayer_X8_init : GoodIn wsX10_newPlayer (wsX8_init) := ggX10_newPlayer_X8_init
set_option maxRecDepth 20000 in
theorem ggX10_newPlayer_X9_init : GoodIn wsX10_newPlayer wsX9_init := goodIn_r _ [42, 43, 20, 3, 21, 22, 23, 18, 24, 25, 26, 27, 28, 29, 30, 31, 53, 54, 55, 56, 65, 66, 67, 68, 69, 70, 71, 72, 49, 50, 51, 52, 57, 58, 59, 60, 61, 62, 63, 64] (by decide +kernel) (by decide +kernel)
set_option maxRecDepth 20000 in
theorem gX10_newPlayer_X9_init : GoodIn wsX10_newPlayer (wsX9_init) := ggX10_newPlayer_X9_init
set_option maxRecDepth 20000 in
theorem ggX10_newPlayer_X3_init : GoodIn wsX10_newPlayer wsX3_init := goodIn_r _ [46, 47, 33, 6, 34, 35, 23, 18, 24, 25, 26, 27, 28, 29, 30, 31, 53, 54, 55, 56, 65, 66, 67, 68, 69, 70, 71, 72, 49, 50, 51, 52, 57, 58, 59, 60, 61, 62, 63, 64] (by decide +kernel) (by decide +kernel)
set_option maxRecDepth 20000 in
theorem gX10_newPlayer_X3_init : GoodIn wsX10_newPlayer (wsX3_init) := ggX10_newPlayer_X3_init
set_option maxRecDepth 20000 in
theorem ggX10_newPlayer_X4_init : GoodIn wsX10_newPlayer wsX4_init := goodIn_r _ [24, 25, 26, 27, 28, 29, 30, 31, 53, 54, 55, 56, 65, 66, 67, 68, 69, 70, 71, 72, 49, 50, 51, 52, 57, 58, 59, 60, 61, 62, 63, 64] (by decide +kernel) (by decide +kernel)
set_option maxRecDepth 20000 in
theorem gX10_newPlayer_X4_init : GoodIn wsX10_newPlayer (wsX4_init) := ggX10_newPlayer_X4_init
theorem dX10_newPlayer_0 : decode cX10_newPlayer 0 = .ok (.iload_n 0, 1) := by decide +kernel
theorem dX10_newPlayer_1 : decode cX10_newPlayer 1 = .ok (.tableswitch 95 1 5 #[35, 47, 59, 71, 83], 35) := by decide +kernel
theorem dX10_newPlayer_36 : decode cX10_newPlayer 36 = .ok (.new 256, 3) := by decide +kernel
theorem dX10_newPlayer_39 : decode cX10_newPlayer 39 = .ok (.dup, 1) := by decide +kernel
theorem dX10_newPlayer_40 : decode cX10_newPlayer 40 = .ok (.iload_n 0, 1) := by decide +kernel
theorem dX10_newPlayer_41 : decode cX10_newPlayer 41 = .ok (.iload_n 1, 1) := by decide +kernel
theorem dX10_newPlayer_42 : decode cX10_newPlayer 42 = .ok (.iload_n 2, 1) := by decide +kernel
theorem dX10_newPlayer_43 : decode cX10_newPlayer 43 = .ok (.iload_n 3, 1) := by decide +kernel
theorem dX10_newPlayer_44 : decode cX10_newPlayer 44 = .ok (.invokespecial 258, 3) := by decide +kernel
theorem dX10_newPlayer_47 : decode cX10_newPlayer 47 = .ok (.areturn, 1) := by decide +kernel
theorem dX10_newPlayer_48 : decode cX10_newPlayer 48 = .ok (.new 260, 3) := by decide +kernel
theorem dX10_newPlayer_51 : decode cX10_newPlayer 51 = .ok (.dup, 1) := by decide +kernel
theorem dX10_newPlayer_52 : decode cX10_newPlayer 52 = .ok (.iload_n 0, 1) := by decide +kernel
theorem dX10_newPlayer_53 : decode cX10_newPlayer 53 = .ok (.iload_n 1, 1) := by decide +kernel
theorem dX10_newPlayer_54 : decode cX10_newPlayer 54 = .ok (.iload_n 2, 1) := by decide +kernel
theorem dX10_newPlayer_55 : decode cX10_newPlayer 55 = .ok (.iload_n 3, 1) := by decide +kernel
theorem dX10_newPlayer_56 : decode cX10_newPlayer 56 = .ok (.invokespecial 262, 3) := by decide +kernel
theorem dX10_newPlayer_59 : decode cX10_newPlayer 59 = .ok (.areturn, 1) := by decide +kernel
theorem dX10_newPlayer_60 : decode cX10_newPlayer 60 = .ok (.new 263, 3) := by decide +kernel
theorem dX10_newPlayer_63 : decode cX10_newPlayer 63 = .ok (.dup, 1) := by decide +kernel
theorem dX10_newPlayer_64 : decode cX10_newPlayer 64 = .ok (.iload_n 0, 1) := by decide +kernel
theorem dX10_newPlayer_65 : decode cX10_newPlayer 65 = .ok (.iload_n 1, 1) := by decide +kernel
theorem dX10_newPlayer_66 : decode cX10_newPlayer 66 = .ok (.iload_n 2, 1) := by decide +kernel
theorem dX10_newPlayer_67 : decode cX10_newPlayer 67 = .ok (.iload_n 3, 1) := by decide +kernel
theorem dX10_newPlayer_68 : decode cX10_newPlayer 68 = .ok (.invokespecial 265, 3) := by decide +kernel
theorem dX10_newPlayer_71 : decode cX10_newPlayer 71 = .ok (.areturn, 1) := by decide +kernel
theorem dX10_newPlayer_72 : decode cX10_newPlayer 72 = .ok (.new 266, 3) := by decide +kernel
theorem dX10_newPlayer_75 : decode cX10_newPlayer 75 = .ok (.dup, 1) := by decide +kernel
theorem dX10_newPlayer_76 : decode cX10_newPlayer 76 = .ok (.iload_n 0, 1) := by decide +kernel
theorem dX10_newPlayer_77 : decode cX10_newPlayer 77 = .ok (.iload_n 1, 1) := by decide +kernel
theorem dX10_newPlayer_78 : decode cX10_newPlayer 78 = .ok (.iload_n 2, 1) := by decide +kernel
theorem dX10_newPlayer_79 : decode cX10_newPlayer 79 = .ok (.iload_n 3, 1) := by decide +kernel
theorem dX10_newPlayer_80 : decode cX10_newPlayer 80 = .ok (.invokespecial 268, 3) := by decide +kernel
theorem dX10_newPlayer_83 : decode cX10_newPlayer 83 = .ok (.areturn, 1) := by decide +kernel
theorem dX10_newPlayer_84 : decode cX10_newPlayer 84 = .ok (.new 269, 3) := by decide +kernel
theorem dX10_newPlayer_87 : decode cX10_newPlayer 87 = .ok (.dup, 1) := by decide +kernel
theorem dX10_newPlayer_88 : decode cX10_newPlayer 88 = .ok (.iload_n 0, 1) := by decide +kernel
theorem dX10_newPlayer_89 : decode cX10_newPlayer 89 = .ok (.iload_n 1, 1) := by decide +kernel
theorem dX10_newPlayer_90 : decode cX10_newPlayer 90 = .ok (.iload_n 2, 1) := by decide +kernel
theorem dX10_newPlayer_91 : decode cX10_newPlayer 91 = .ok (.iload_n 3, 1) := by decide +kernel
theorem dX10_newPlayer_92 : decode cX10_newPlayer 92 = .ok (.invokespecial 271, 3) := by decide +kernel
theorem dX10_newPlayer_95 : decode cX10_newPlayer 95 = .ok (.areturn, 1) := by decide +kernel
theorem dX10_newPlayer_96 : decode cX10_newPlayer 96 = .ok (.new 272, 3) := by decide +kernel
theorem dX10_newPlayer_99 : decode cX10_newPlayer 99 = .ok (.dup, 1) := by decide +kernel
theorem dX10_newPlayer_100 : decode cX10_newPlayer 100 = .ok (.iload_n 0, 1) := by decide +kernel
theorem dX10_newPlayer_101 : decode cX10_newPlayer 101 = .ok (.iload_n 1, 1) := by decide +kernel
theorem dX10_newPlayer_102 : decode cX10_newPlayer 102 = .ok (.iload_n 2, 1) := by decide +kernel
theorem dX10_newPlayer_103 : decode cX10_newPlayer 103 = .ok (.iload_n 3, 1) := by decide +kernel
theorem dX10_newPlayer_104 : decode cX10_newPlayer 104 = .ok (.invokespecial 274, 3) := by decide +kernel
theorem dX10_newPlayer_107 : decode cX10_newPlayer 107 = .ok (.areturn, 1) := by decide +kernel
theorem dX11_init_0 : decode cX11_init 0 = .ok (.aload_n 0, 1) := by decide +kernel
theorem dX11_init_1 : decode cX11_init 1 = .ok (.invokespecial 1, 3) := by decide +kernel
theorem dX11_init_4 : decode cX11_init 4 = .ok (.aload_n 0, 1) := by decide +kernel
theorem dX11_init_5 : decode cX11_init 5 = .ok (.bipush 7, 2) := by decide +kernel
theorem dX11_init_7 : decode cX11_init 7 = .ok (.newarray .int, 2) := by decide +kernel
theorem dX11_init_9 : decode cX11_init 9 = .ok (.putfield 7, 3) := by decide +kernel
theorem dX11_init_12 : decode cX11_init 12 = .ok (.aload_n 0, 1) := by decide +kernel
theorem dX11_init_13 : decode cX11_init 13 = .ok (.bipush 8, 2) := by decide +kernel
theorem dX11_init_15 : decode cX11_init 15 = .ok (.newarray .int, 2) := by decide +kernel
theorem dX11_init_17 : decode cX11_init 17 = .ok (.putfield 13, 3) := by decide +kernel
theorem dX11_init_20 : decode cX11_init 20 = .ok (.aload_n 0, 1) := by decide +kernel
theorem dX11_init_21 : decode cX11_init 21 = .ok (.bipush 8, 2) := by decide +kernel
theorem dX11_init_23 : decode cX11_init 23 = .ok (.newarray .int, 2) := by decide +kernel
theorem dX11_init_25 : decode cX11_init 25 = .ok (.putfield 16, 3) := by decide +kernel
theorem dX11_init_28 : decode cX11_init 28 = .ok (.aload_n 0, 1) := by decide +kernel
theorem dX11_init_29 : decode cX11_init 29 = .ok (.bipush 8, 2) := by decide +kernel
theorem dX11_init_31 : decode cX11_init 31 = .ok (.newarray .int, 2) := by decide +kernel
theorem dX11_init_33 : decode cX11_init 33 = .ok (.putfield 19, 3) := by decide +kernel
theorem dX11_init_36 : decode cX11_init 36 = .ok (.aload_n 0, 1) := by decide +kernel
theorem dX11_init_37 : decode cX11_init 37 = .ok (.bipush 8, 2) := by decide +kernel
theorem dX11_init_39 : decode cX11_init 39 = .ok (.newarray .int, 2) := by decide +kernel
theorem dX11_init_41 : decode cX11_init 41 = .ok (.putfield 22, 3) := by decide +kernel
theorem dX11_init_44 : decode cX11_init 44 = .ok (.aload_n 0, 1) := by decide +kernel
theorem dX11_init_45 : decode cX11_init 45 = .ok (.bipush 8, 2) := by decide +kernel
theorem dX11_init_47 : decode cX11_init 47 = .ok (.newarray .int, 2) := by decide +kernel
theorem dX11_init_49 : decode cX11_init 49 = .ok (.putfield 25, 3) := by decide +kernel
theorem dX11_init_52 : decode cX11_init 52 = .ok (.aload_n 0, 1) := by decide +kernel
theorem dX11_init_53 : decode cX11_init 53 = .ok (.bipush 6, 2) := by decide +kernel
theorem dX11_init_55 : decode cX11_init 55 = .ok (.newarray .int, 2) := by decide +kernel
theorem dX11_init_57 : decode cX11_init 57 = .ok (.putfield 28, 3) := by decide +kernel
theorem dX11_init_60 : decode cX11_init 60 = .ok (.aload_n 0, 1) := by decide +kernel
theorem dX11_init_61 : decode cX11_init 61 = .ok (.bipush 6, 2) := by decide +kernel
theorem dX11_init_63 : decode cX11_init 63 = .ok (.newarray .int, 2) := by decide +kernel
theorem dX11_init_65 : decode cX11_init 65 = .ok (.putfield 31, 3) := by decide +kernel
theorem dX11_init_68 : decode cX11_init 68 = .ok (.aload_n 0, 1) := by decide +kernel
theorem dX11_init_69 : decode cX11_init 69 = .ok (.bipush 6, 2) := by decide +kernel
theorem dX11_init_71 : decode cX11_init 71 = .ok (.newarray .int, 2) := by decide +kernel
theorem dX11_init_73 : decode cX11_init 73 = .ok (.putfield 34, 3) := by decide +kernel
theorem dX11_init_76 : decode cX11_init 76 = .ok (.aload_n 0, 1) := by decide +kernel
theorem dX11_init_77 : decode cX11_init 77 = .ok (.bipush 80, 2) := by decide +kernel
theorem dX11_init_79 : decode cX11_init 79 = .ok (.newarray .int, 2) := by decide +kernel
theorem dX11_init_81 : decode cX11_init 81 = .ok (.putfield 37, 3) := by decide +kernel
theorem dX11_init_84 : decode cX11_init 84 = .ok (.aload_n 0, 1) := by decide +kernel
theorem dX11_init_85 : decode cX11_init 85 = .ok (.bipush 40, 2) := by decide +kernel
theorem dX11_init_87 : decode cX11_init 87 = .ok (.newarray .int, 2) := by decide +kernel
theorem dX11_init_89 : decode cX11_init 89 = .ok (.putfield 40, 3) := by decide +kernel
theorem dX11_init_92 : decode cX11_init 92 = .ok (.aload_n 0, 1) := by decide +kernel
theorem dX11_init_93 : decode cX11_init 93 = .ok (.bipush 40, 2) := by decide +kernel
theorem dX11_init_95 : decode cX11_init 95 = .ok (.newarray .int, 2) := by decide +kernel
theorem dX11_init_97 : decode cX11_init 97 = .ok (.putfield 43, 3) := by decide +kernel
theorem dX11_init_100 : decode cX11_init 100 = .ok (.aload_n 0, 1) := by decide +kernel
theorem dX11_init_101 : decode cX11_init 101 = .ok (.sipush 160, 3) := by decide +kernel
theorem dX11_init_104 : decode cX11_init 104 = .ok (.newarray .int, 2) := by decide +kernel
theorem dX11_init_106 : decode cX11_init 106 = .ok (.putfield 46, 3) := by decide +kernel
theorem dX11_init_109 : decode cX11_init 109 = .ok (.aload_n 0, 1) := by decide +kernel
theorem dX11_init_110 : decode cX11_init 110 = .ok (.sipush 130, 3) := by decide +kernel
theorem dX11_init_113 : decode cX11_init 113 = .ok (.newarray .int, 2) := by decide +kernel
theorem dX11_init_115 : decode cX11_init 115 = .ok (.putfield 49, 3) := by decide +kernel
theorem dX11_init_118 : decode cX11_init 118 = .ok (.aload_n 0, 1) := by decide +kernel
theorem dX11_init_119 : decode cX11_init 119 = .ok (.bipush 25, 2) := by decide +kernel
theorem dX11_init_121 : decode cX11_init 121 = .ok (.newarray .long, 2) := by decide +kernel
theorem dX11_init_123 : decode cX11_init 123 = .ok (.putfield 52, 3) := by decide +kernel
theorem dX11_init_126 : decode cX11_init 126 = .ok (.aload_n 0, 1) := by decide +kernel
theorem dX11_init_127 : decode cX11_init 127 = .ok (.bipush 25, 2) := by decide +kernel
theorem dX11_init_129 : decode cX11_init 129 = .ok (.newarray .long, 2) := by decide +kernel
theorem dX11_init_131 : decode cX11_init 131 = .ok (.putfield 56, 3) := by decide +kernel
theorem dX11_init_134 : decode cX11_init 134 = .ok (.aload_n 0, 1) := by decide +kernel
theorem dX11_init_135 : decode cX11_init 135 = .ok (.bipush 12, 2) := by decide +kernel
theorem dX11_init_137 : decode cX11_init 137 = .ok (.newarray .int, 2) := by decide +kernel
theorem dX11_init_139 : decode cX11_init 139 = .ok (.putfield 59, 3) := by decide +kernel
theorem dX11_init_142 : decode cX11_init 142 = .ok (.iconst 0, 1) := by decide +kernel
theorem dX11_init_143 : decode cX11_init 143 = .ok (.istore_n 1, 1) := by decide +kernel
theorem dX11_init_144 : decode cX11_init 144 = .ok (.iload_n 1, 1) := by decide +kernel
theorem dX11_init_145 : decode cX11_init 145 = .ok (.bipush 6, 2) := by decide +kernel
theorem dX11_init_147 : decode cX11_init 147 = .ok (.if_icmp .ge 26, 3) := by decide +kernel
theorem dX11_init_150 : decode cX11_init 150 = .ok (.aload_n 0, 1) := by decide +kernel
theorem dX11_init_151 : decode cX11_init 151 = .ok (.getfield 28, 3) := by decide +kernel
theorem dX11_init_154 : decode cX11_init 154 = .ok (.iload_n 1, 1) := by decide +kernel
theorem dX11_init_155 : decode cX11_init 155 = .ok (.bipush (-9), 2) := by decide +kernel
theorem dX11_init_157 : decode cX11_init 157 = .ok (.iastore, 1) := by decide +kernel
theorem dX11_init_158 : decode cX11_init 158 = .ok (.aload_n 0, 1) := by decide +kernel
theorem dX11_init_159 : decode cX11_init 159 = .ok (.getfield 31, 3) := by decide +kernel
theorem dX11_init_162 : decode cX11_init 162 = .ok (.iload_n 1, 1) := by decide +kernel
theorem dX11_init_163 : decode cX11_init 163 = .ok (.iload_n 1, 1) := by decide +kernel
theorem dX11_init_164 : decode cX11_init 164 = .ok (.iconst 3, 1) := by decide +kernel
theorem dX11_init_165 : decode cX11_init 165 = .ok (.idiv, 1) := by decide +kernel
theorem dX11_init_166 : decode cX11_init 166 = .ok (.iastore, 1) := by decide +kernel
theorem dX11_init_167 : decode cX11_init 167 = .ok (.iinc 1 1, 3) := by decide +kernel
theorem dX11_init_170 : decode cX11_init 170 = .ok (.goto (-26), 3) := by decide +kernel
theorem dX11_init_173 : decode cX11_init 173 = .ok (.return_, 1) := by decide +kernel
theorem dX11_no_0 : decode cX11_no 0 = .ok (.aload_n 0, 1) := by decide +kernel
theorem dX11_no_1 : decode cX11_no 1 = .ok (.getfield 7, 3) := by decide +kernel
theorem dX11_no_4 : decode cX11_no 4 = .ok (.iload_n 1, 1) := by decide +kernel
theorem dX11_no_5 : decode cX11_no 5 = .ok (.ineg, 1) := by decide +kernel
theorem dX11_no_6 : decode cX11_no 6 = .ok (.dup2, 1) := by decide +kernel
theorem dX11_no_7 : decode cX11_no 7 = .ok (.iaload, 1) := by decide +kernel
theorem dX11_no_8 : decode cX11_no 8 = .ok (.iconst 1, 1) := by decide +kernel
theorem dX11_no_9 : decode cX11_no 9 = .ok (.iadd, 1) := by decide +kernel
theorem dX11_no_10 : decode cX11_no 10 = .ok (.iastore, 1) := by decide +kernel
theorem dX11_no_11 : decode cX11_no 11 = .ok (.iload_n 1, 1) := by decide +kernel
theorem dX11_no_12 : decode cX11_no 12 = .ok (.ireturn, 1) := by decide +kernel
theorem dX11_lower_0 : decode cX11_lower 0 = .ok (.aload_n 0, 1) := by decide +kernel
theorem dX11_lower_1 : decode cX11_lower 1 = .ok (.getfield 7, 3) := by decide +kernel
theorem dX11_lower_4 : decode cX11_lower 4 = .ok (.iload_n 1, 1) := by decide +kernel
theorem dX11_lower_5 : decode cX11_lower 5 = .ok (.ineg, 1) := by decide +kernel
theorem dX11_lower_6 : decode cX11_lower 6 = .ok (.dup2, 1) := by decide +kernel
theorem dX11_lower_7 : decode cX11_lower 7 = .ok (.iaload, 1) := by decide +kernel
theorem dX11_lower_8 : decode cX11_lower 8 = .ok (.iconst 1, 1) := by decide +kernel
theorem dX11_lower_9 : decode cX11_lower 9 = .ok (.iadd, 1) := by decide +kernel
theorem dX11_lower_10 : decode cX11_lower 10 = .ok (.iastore, 1) := by decide +kernel
theorem dX11_lower_11 : decode cX11_lower 11 = .ok (.ldc 62, 2) := by decide +kernel
theorem dX11_lower_13 : decode cX11_lower 13 = .ok (.iload_n 1, 1) := by decide +kernel
theorem dX11_lower_14 : decode cX11_lower 14 = .ok (.isub, 1) := by decide +kernel
theorem dX11_lower_15 : decode cX11_lower 15 = .ok (.ireturn, 1) := by decide +kernel
theorem dX11_lowest_0 : decode cX11_lowest 0 = .ok (.aload_n 0, 1) := by decide +kernel
theorem dX11_lowest_1 : decode cX11_lowest 1 = .ok (.getfield 7, 3) := by decide +kernel
theorem dX11_lowest_4 : decode cX11_lowest 4 = .ok (.iload_n 1, 1) := by decide +kernel
theorem dX11_lowest_5 : decode cX11_lowest 5 = .ok (.ineg, 1) := by decide +kernel
theorem dX11_lowest_6 : decode cX11_lowest 6 = .ok (.dup2, 1) := by decide +kernel
theorem dX11_lowest_7 : decode cX11_lowest 7 = .ok (.iaload, 1) := by decide +kernel
theorem dX11_lowest_8 : decode cX11_lowest 8 = .ok (.iconst 1, 1) := by decide +kernel
theorem dX11_lowest_9 : decode cX11_lowest 9 = .ok (.iadd, 1) := by decide +kernel
theorem dX11_lowest_10 : decode cX11_lowest 10 = .ok (.iastore, 1) := by decide +kernel
theorem dX11_lowest_11 : decode cX11_lowest 11 = .ok (.ldc2_w 63, 3) := by decide +kernel
theorem dX11_lowest_14 : decode cX11_lowest 14 = .ok (.iload_n 1, 1) := by decide +kernel
theorem dX11_lowest_15 : decode cX11_lowest 15 = .ok (.i2l, 1) := by decide +kernel
theorem dX11_lowest_16 : decode cX11_lowest 16 = .ok (.lsub, 1) := by decide +kernel
theorem dX11_lowest_17 : decode cX11_lowest 17 = .ok (.lreturn, 1) := by decide +kernel
theorem dX11_isIn_0 : decode cX11_isIn 0 = .ok (.iload_n 0, 1) := by decide +kernel
theorem dX11_isIn_1 : decode cX11_isIn 1 = .ok (.iload_n 1, 1) := by decide +kernel
theorem dX11_isIn_2 : decode cX11_isIn 2 = .ok (.if_icmp .lt 12, 3) := by decide +kernel
theorem dX11_isIn_5 : decode cX11_isIn 5 = .ok (.iload_n 0, 1) := by decide +kernel
theorem dX11_isIn_6 : decode cX11_isIn 6 = .ok (.iload_n 2, 1) := by decide +kernel
theorem dX11_isIn_7 : decode cX11_isIn 7 = .ok (.if_icmp .gt 7, 3) := by decide +kernel
theorem dX11_isIn_10 : decode cX11_isIn 10 = .ok (.iconst 1, 1) := by decide +kernel
theorem dX11_isIn_11 : decode cX11_isIn 11 = .ok (.goto 4, 3) := by decide +kernel
theorem dX11_isIn_14 : decode cX11_isIn 14 = .ok (.iconst 0, 1) := by decide +kernel
theorem dX11_isIn_15 : decode cX11_isIn 15 = .ok (.ireturn, 1) := by decide +kernel
theorem dX11_bound_0 : decode cX11_bound 0 = .ok (.iload_n 0, 1) := by decide +kernel
theorem dX11_bound_1 : decode cX11_bound 1 = .ok (.iload_n 1, 1) := by decide +kernel
theorem dX11_bound_2 : decode cX11_bound 2 = .ok (.if_icmp .ge 8, 3) := by decide +kernel
theorem dX11_bound_5 : decode cX11_bound 5 = .ok (.bipush (-4), 2) := by decide +kernel
theorem dX11_bound_7 : decode cX11_bound 7 = .ok (.goto 14, 3) := by decide +kernel
theorem dX11_bound_10 : decode cX11_bound 10 = .ok (.iload_n 0, 1) := by decide +kernel
theorem dX11_bound_11 : decode cX11_bound 11 = .ok (.iload_n 2, 1) := by decide +kernel
theorem dX11_bound_12 : decode cX11_bound 12 = .ok (.if_icmp .le 8, 3) := by decide +kernel
theorem dX11_bound_15 : decode cX11_bound 15 = .ok (.bipush (-6), 2) := by decide +kernel
theorem dX11_bound_17 : decode cX11_bound 17 = .ok (.goto 4, 3) := by decide +kernel
theorem dX11_bound_20 : decode cX11_bound 20 = .ok (.iconst 0, 1) := by decide +kernel
theorem dX11_bound_21 : decode cX11_bound 21 = .ok (.ireturn, 1) := by decide +kernel
theorem dX11_clamped_0 : decode cX11_clamped 0 = .ok (.iload_n 0, 1) := by decide +kernel
theorem dX11_clamped_1 : decode cX11_clamped 1 = .ok (.iload_n 1, 1) := by decide +kernel
theorem dX11_clamped_2 : decode cX11_clamped 2 = .ok (.if_icmp .ge 7, 3) := by decide +kernel
theorem dX11_clamped_5 : decode cX11_clamped 5 = .ok (.iload_n 1, 1) := by decide +kernel
theorem dX11_clamped_6 : decode cX11_clamped 6 = .ok (.goto 13, 3) := by decide +kernel
theorem dX11_clamped_9 : decode cX11_clamped 9 = .ok (.iload_n 0, 1) := by decide +kernel
theorem dX11_clamped_10 : decode cX11_clamped 10 = .ok (.iload_n 2, 1) := by decide +kernel
theorem dX11_clamped_11 : decode cX11_clamped 11 = .ok (.if_icmp .le 7, 3) := by decide +kernel
theorem dX11_clamped_14 : decode cX11_clamped 14 = .ok (.iload_n 2, 1) := by decide +kernel
theorem dX11_clamped_15 : decode cX11_clamped 15 = .ok (.goto 4, 3) := by decide +kernel
theorem dX11_clamped_18 : decode cX11_clamped 18 = .ok (.iload_n 0, 1) := by decide +kernel
theorem dX11_clamped_19 : decode cX11_clamped 19 = .ok (.ireturn, 1) := by decide +kernel
theorem dX11_isPlayer_0 : decode cX11_isPlayer 0 = .ok (.iload_n 1, 1) := by decide +kernel
theorem dX11_isPlayer_1 : decode cX11_isPlayer 1 = .ok (.ifCond .lt 15, 3) := by decide +kernel
theorem dX11_isPlayer_4 : decode cX11_isPlayer 4 = .ok (.iload_n 1, 1) := by decide +kernel
theorem dX11_isPlayer_5 : decode cX11_isPlayer 5 = .ok (.aload_n 0, 1) := by decide +kernel
theorem dX11_isPlayer_6 : decode cX11_isPlayer 6 = .ok (.getfield 65, 3) := by decide +kernel
theorem dX11_isPlayer_9 : decode cX11_isPlayer 9 = .ok (.if_icmp .ge 7, 3) := by decide +kernel
theorem dX11_isPlayer_12 : decode cX11_isPlayer 12 = .ok (.iconst 1, 1) := by decide +kernel
theorem dX11_isPlayer_13 : decode cX11_isPlayer 13 = .ok (.goto 4, 3) := by decide +kernel
theorem dX11_isPlayer_16 : decode cX11_isPlayer 16 = .ok (.iconst 0, 1) := by decide +kernel
theorem dX11_isPlayer_17 : decode cX11_isPlayer 17 = .ok (.ireturn, 1) := by decide +kernel
set_option maxRecDepth 20000 in
theorem ggX11_isHere_X11_isPlayer : GoodIn wsX11_isHere wsX11_isPlayer := goodIn_r _ [6, 7, 8, 9, 10, 11, 12, 13, 14, 15, 16, 17, 18, 19, 20, 21, 22, 23, 24, 25, 26, 27, 28, 29, 30, 31, 32, 33, 34, 35] (by decide +kernel) (by decide +kernel)
set_option maxRecDepth 20000 in
theorem gX11_isHere_X11_isPlayer : GoodIn wsX11_isHere (wsV RX11 69 RX11 yX11_isPlayer wsX11_isPlayer) := goodIn_app (goodIn_of _ (by decide +kernel)) ggX11_isHere_X11_isPlayer
theorem dX11_isHere_0 : decode cX11_isHere 0 = .ok (.aload_n 0, 1) := by decide +kernel
theorem dX11_isHere_1 : decode cX11_isHere 1 = .ok (.iload_n 1, 1) := by decide +kernel
theorem dX11_isHere_2 : decode cX11_isHere 2 = .ok (.invokevirtual 69, 3) := by decide +kernel
theorem dX11_isHere_5 : decode cX11_isHere 5 = .ok (.ifCond .eq 16, 3) := by decide +kernel
theorem dX11_isHere_8 : decode cX11_isHere 8 = .ok (.aload_n 0, 1) := by decide +kernel
theorem dX11_isHere_9 : decode cX11_isHere 9 = .ok (.getfield 25, 3) := by decide +kernel
theorem dX11_isHere_12 : decode cX11_isHere 12 = .ok (.iload_n 1, 1) := by decide +kernel
theorem dX11_isHere_13 : decode cX11_isHere 13 = .ok (.iaload, 1) := by decide +kernel
theorem dX11_isHere_14 : decode cX11_isHere 14 = .ok (.ifCond .ne 7, 3) := by decide +kernel
theorem dX11_isHere_17 : decode cX11_isHere 17 = .ok (.iconst 1, 1) := by decide +kernel
theorem dX11_isHere_18 : decode cX11_isHere 18 = .ok (.goto 4, 3) := by decide +kernel
theorem dX11_isHere_21 : decode cX11_isHere 21 = .ok (.iconst 0, 1) := by decide +kernel
theorem dX11_isHere_22 : decode cX11_isHere 22 = .ok (.ireturn, 1) := by decide +kernel
theorem dX11_isBall_0 : decode cX11_isBall 0 = .ok (.iload_n 0, 1) := by decide +kernel
theorem dX11_isBall_1 : decode cX11_isBall 1 = .ok (.ifCond .lt 13, 3) := by decide +kernel
theorem dX11_isBall_4 : decode cX11_isBall 4 = .ok (.iload_n 0, 1) := by decide +kernel
theorem dX11_isBall_5 : decode cX11_isBall 5 = .ok (.bipush 6, 2) := by decide +kernel
theorem dX11_isBall_7 : decode cX11_isBall 7 = .ok (.if_icmp .ge 7, 3) := by decide +kernel
theorem dX11_isBall_10 : decode cX11_isBall 10 = .ok (.iconst 1, 1) := by decide +kernel
theorem dX11_isBall_11 : decode cX11_isBall 11 = .ok (.goto 4, 3) := by decide +kernel
