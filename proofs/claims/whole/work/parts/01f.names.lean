theorem dX11_odds_46 : decode cX11_odds 46 = .ok (.iload_n 2, 1) := by decide +kernel
theorem dX11_odds_47 : decode cX11_odds 47 = .ok (.invokevirtual 186, 3) := by decide +kernel
theorem dX11_odds_50 : decode cX11_odds 50 = .ok (.ifCond .ne 8, 3) := by decide +kernel
theorem dX11_odds_53 : decode cX11_odds 53 = .ok (.bipush (-3), 2) := by decide +kernel
theorem dX11_odds_55 : decode cX11_odds 55 = .ok (.goto 4, 3) := by decide +kernel
theorem dX11_odds_58 : decode cX11_odds 58 = .ok (.iconst 0, 1) := by decide +kernel
theorem dX11_odds_59 : decode cX11_odds 59 = .ok (.istore 5, 2) := by decide +kernel
theorem dX11_odds_61 : decode cX11_odds 61 = .ok (.iload 5, 2) := by decide +kernel
theorem dX11_odds_63 : decode cX11_odds 63 = .ok (.ifCond .eq 10, 3) := by decide +kernel
theorem dX11_odds_66 : decode cX11_odds 66 = .ok (.aload_n 0, 1) := by decide +kernel
theorem dX11_odds_67 : decode cX11_odds 67 = .ok (.iload 5, 2) := by decide +kernel
theorem dX11_odds_69 : decode cX11_odds 69 = .ok (.invokevirtual 80, 3) := by decide +kernel
theorem dX11_odds_72 : decode cX11_odds 72 = .ok (.ireturn, 1) := by decide +kernel
theorem dX11_odds_73 : decode cX11_odds 73 = .ok (.aload_n 0, 1) := by decide +kernel
theorem dX11_odds_74 : decode cX11_odds 74 = .ok (.iload_n 1, 1) := by decide +kernel
theorem dX11_odds_75 : decode cX11_odds 75 = .ok (.iload_n 2, 1) := by decide +kernel
theorem dX11_odds_76 : decode cX11_odds 76 = .ok (.iload_n 3, 1) := by decide +kernel
theorem dX11_odds_77 : decode cX11_odds 77 = .ok (.invokevirtual 189, 3) := by decide +kernel
theorem dX11_odds_80 : decode cX11_odds 80 = .ok (.istore 6, 2) := by decide +kernel
theorem dX11_odds_82 : decode cX11_odds 82 = .ok (.aload_n 0, 1) := by decide +kernel
theorem dX11_odds_83 : decode cX11_odds 83 = .ok (.iload_n 2, 1) := by decide +kernel
theorem dX11_odds_84 : decode cX11_odds 84 = .ok (.iload_n 3, 1) := by decide +kernel
theorem dX11_odds_85 : decode cX11_odds 85 = .ok (.invokevirtual 192, 3) := by decide +kernel
theorem dX11_odds_88 : decode cX11_odds 88 = .ok (.istore 7, 2) := by decide +kernel
theorem dX11_odds_90 : decode cX11_odds 90 = .ok (.iload 4, 2) := by decide +kernel
theorem dX11_odds_92 : decode cX11_odds 92 = .ok (.ifCond .ne 8, 3) := by decide +kernel
theorem dX11_odds_95 : decode cX11_odds 95 = .ok (.iload 6, 2) := by decide +kernel
theorem dX11_odds_97 : decode cX11_odds 97 = .ok (.goto 22, 3) := by decide +kernel
theorem dX11_odds_100 : decode cX11_odds 100 = .ok (.iload 4, 2) := by decide +kernel
theorem dX11_odds_102 : decode cX11_odds 102 = .ok (.iconst 1, 1) := by decide +kernel
theorem dX11_odds_103 : decode cX11_odds 103 = .ok (.if_icmp .ne 8, 3) := by decide +kernel
theorem dX11_odds_106 : decode cX11_odds 106 = .ok (.iload 7, 2) := by decide +kernel
theorem dX11_odds_108 : decode cX11_odds 108 = .ok (.goto 11, 3) := by decide +kernel
theorem dX11_odds_111 : decode cX11_odds 111 = .ok (.bipush 40, 2) := by decide +kernel
theorem dX11_odds_113 : decode cX11_odds 113 = .ok (.iload 6, 2) := by decide +kernel
theorem dX11_odds_115 : decode cX11_odds 115 = .ok (.isub, 1) := by decide +kernel
theorem dX11_odds_116 : decode cX11_odds 116 = .ok (.iload 7, 2) := by decide +kernel
theorem dX11_odds_118 : decode cX11_odds 118 = .ok (.isub, 1) := by decide +kernel
theorem dX11_odds_119 : decode cX11_odds 119 = .ok (.ireturn, 1) := by decide +kernel
set_option maxRecDepth 20000 in
theorem ggX11_goesTenth_X11_falls : GoodIn wsX11_goesTenth wsX11_falls := goodIn_r _ [9, 2, 10, 3, 11, 12, 13, 14, 15, 16, 17, 18, 19, 20, 21, 22, 23, 24, 25, 26, 27, 28, 29, 30, 31, 32, 33, 34, 35, 36, 37, 38] (by decide +kernel) (by decide +kernel)
set_option maxRecDepth 20000 in
theorem gX11_goesTenth_X11_falls : GoodIn wsX11_goesTenth (wsV RX11 114 RX11 yX11_falls wsX11_falls) := goodIn_app (goodIn_of _ (by decide +kernel)) ggX11_goesTenth_X11_falls
theorem dX11_goesTenth_0 : decode cX11_goesTenth 0 = .ok (.aload_n 0, 1) := by decide +kernel
theorem dX11_goesTenth_1 : decode cX11_goesTenth 1 = .ok (.dup, 1) := by decide +kernel
theorem dX11_goesTenth_2 : decode cX11_goesTenth 2 = .ok (.getfield 165, 3) := by decide +kernel
theorem dX11_goesTenth_5 : decode cX11_goesTenth 5 = .ok (.iconst 1, 1) := by decide +kernel
theorem dX11_goesTenth_6 : decode cX11_goesTenth 6 = .ok (.iadd, 1) := by decide +kernel
theorem dX11_goesTenth_7 : decode cX11_goesTenth 7 = .ok (.putfield 165, 3) := by decide +kernel
theorem dX11_goesTenth_10 : decode cX11_goesTenth 10 = .ok (.iconst 0, 1) := by decide +kernel
theorem dX11_goesTenth_11 : decode cX11_goesTenth 11 = .ok (.istore_n 1, 1) := by decide +kernel
theorem dX11_goesTenth_12 : decode cX11_goesTenth 12 = .ok (.iload_n 1, 1) := by decide +kernel
theorem dX11_goesTenth_13 : decode cX11_goesTenth 13 = .ok (.bipush 6, 2) := by decide +kernel
theorem dX11_goesTenth_15 : decode cX11_goesTenth 15 = .ok (.if_icmp .ge 60, 3) := by decide +kernel
theorem dX11_goesTenth_18 : decode cX11_goesTenth 18 = .ok (.aload_n 0, 1) := by decide +kernel
theorem dX11_goesTenth_19 : decode cX11_goesTenth 19 = .ok (.getfield 28, 3) := by decide +kernel
theorem dX11_goesTenth_22 : decode cX11_goesTenth 22 = .ok (.iload_n 1, 1) := by decide +kernel
theorem dX11_goesTenth_23 : decode cX11_goesTenth 23 = .ok (.iaload, 1) := by decide +kernel
theorem dX11_goesTenth_24 : decode cX11_goesTenth 24 = .ok (.ifCond .ge 6, 3) := by decide +kernel
theorem dX11_goesTenth_27 : decode cX11_goesTenth 27 = .ok (.goto 42, 3) := by decide +kernel
theorem dX11_goesTenth_30 : decode cX11_goesTenth 30 = .ok (.aload_n 0, 1) := by decide +kernel
theorem dX11_goesTenth_31 : decode cX11_goesTenth 31 = .ok (.getfield 34, 3) := by decide +kernel
theorem dX11_goesTenth_34 : decode cX11_goesTenth 34 = .ok (.iload_n 1, 1) := by decide +kernel
theorem dX11_goesTenth_35 : decode cX11_goesTenth 35 = .ok (.dup2, 1) := by decide +kernel
theorem dX11_goesTenth_36 : decode cX11_goesTenth 36 = .ok (.iaload, 1) := by decide +kernel
theorem dX11_goesTenth_37 : decode cX11_goesTenth 37 = .ok (.iconst 1, 1) := by decide +kernel
theorem dX11_goesTenth_38 : decode cX11_goesTenth 38 = .ok (.iadd, 1) := by decide +kernel
theorem dX11_goesTenth_39 : decode cX11_goesTenth 39 = .ok (.iastore, 1) := by decide +kernel
theorem dX11_goesTenth_40 : decode cX11_goesTenth 40 = .ok (.aload_n 0, 1) := by decide +kernel
theorem dX11_goesTenth_41 : decode cX11_goesTenth 41 = .ok (.getfield 34, 3) := by decide +kernel
theorem dX11_goesTenth_44 : decode cX11_goesTenth 44 = .ok (.iload_n 1, 1) := by decide +kernel
theorem dX11_goesTenth_45 : decode cX11_goesTenth 45 = .ok (.iaload, 1) := by decide +kernel
theorem dX11_goesTenth_46 : decode cX11_goesTenth 46 = .ok (.bipush 9, 2) := by decide +kernel
theorem dX11_goesTenth_48 : decode cX11_goesTenth 48 = .ok (.if_icmp .le 21, 3) := by decide +kernel
theorem dX11_goesTenth_51 : decode cX11_goesTenth 51 = .ok (.aload_n 0, 1) := by decide +kernel
theorem dX11_goesTenth_52 : decode cX11_goesTenth 52 = .ok (.iload_n 1, 1) := by decide +kernel
theorem dX11_goesTenth_53 : decode cX11_goesTenth 53 = .ok (.iconst 1, 1) := by decide +kernel
theorem dX11_goesTenth_54 : decode cX11_goesTenth 54 = .ok (.aload_n 0, 1) := by decide +kernel
theorem dX11_goesTenth_55 : decode cX11_goesTenth 55 = .ok (.getfield 13, 3) := by decide +kernel
theorem dX11_goesTenth_58 : decode cX11_goesTenth 58 = .ok (.aload_n 0, 1) := by decide +kernel
theorem dX11_goesTenth_59 : decode cX11_goesTenth 59 = .ok (.getfield 28, 3) := by decide +kernel
theorem dX11_goesTenth_62 : decode cX11_goesTenth 62 = .ok (.iload_n 1, 1) := by decide +kernel
theorem dX11_goesTenth_63 : decode cX11_goesTenth 63 = .ok (.iaload, 1) := by decide +kernel
theorem dX11_goesTenth_64 : decode cX11_goesTenth 64 = .ok (.iaload, 1) := by decide +kernel
theorem dX11_goesTenth_65 : decode cX11_goesTenth 65 = .ok (.isub, 1) := by decide +kernel
theorem dX11_goesTenth_66 : decode cX11_goesTenth 66 = .ok (.invokevirtual 114, 3) := by decide +kernel
theorem dX11_goesTenth_69 : decode cX11_goesTenth 69 = .ok (.iinc 1 1, 3) := by decide +kernel
theorem dX11_goesTenth_72 : decode cX11_goesTenth 72 = .ok (.goto (-60), 3) := by decide +kernel
theorem dX11_goesTenth_75 : decode cX11_goesTenth 75 = .ok (.return_, 1) := by decide +kernel
theorem dX11_longest_0 : decode cX11_longest 0 = .ok (.bipush (-9), 2) := by decide +kernel
theorem dX11_longest_2 : decode cX11_longest 2 = .ok (.istore_n 2, 1) := by decide +kernel
theorem dX11_longest_3 : decode cX11_longest 3 = .ok (.iconst 0, 1) := by decide +kernel
theorem dX11_longest_4 : decode cX11_longest 4 = .ok (.istore_n 3, 1) := by decide +kernel
theorem dX11_longest_5 : decode cX11_longest 5 = .ok (.iload_n 3, 1) := by decide +kernel
theorem dX11_longest_6 : decode cX11_longest 6 = .ok (.aload_n 0, 1) := by decide +kernel
theorem dX11_longest_7 : decode cX11_longest 7 = .ok (.getfield 65, 3) := by decide +kernel
theorem dX11_longest_10 : decode cX11_longest 10 = .ok (.if_icmp .ge 49, 3) := by decide +kernel
theorem dX11_longest_13 : decode cX11_longest 13 = .ok (.aload_n 0, 1) := by decide +kernel
theorem dX11_longest_14 : decode cX11_longest 14 = .ok (.getfield 13, 3) := by decide +kernel
theorem dX11_longest_17 : decode cX11_longest 17 = .ok (.iload_n 3, 1) := by decide +kernel
theorem dX11_longest_18 : decode cX11_longest 18 = .ok (.iaload, 1) := by decide +kernel
theorem dX11_longest_19 : decode cX11_longest 19 = .ok (.iload_n 1, 1) := by decide +kernel
theorem dX11_longest_20 : decode cX11_longest 20 = .ok (.if_icmp .ne 33, 3) := by decide +kernel
theorem dX11_longest_23 : decode cX11_longest 23 = .ok (.aload_n 0, 1) := by decide +kernel
theorem dX11_longest_24 : decode cX11_longest 24 = .ok (.getfield 25, 3) := by decide +kernel
theorem dX11_longest_27 : decode cX11_longest 27 = .ok (.iload_n 3, 1) := by decide +kernel
theorem dX11_longest_28 : decode cX11_longest 28 = .ok (.iaload, 1) := by decide +kernel
theorem dX11_longest_29 : decode cX11_longest 29 = .ok (.ifCond .le 24, 3) := by decide +kernel
theorem dX11_longest_32 : decode cX11_longest 32 = .ok (.iload_n 2, 1) := by decide +kernel
theorem dX11_longest_33 : decode cX11_longest 33 = .ok (.ifCond .lt 18, 3) := by decide +kernel
theorem dX11_longest_36 : decode cX11_longest 36 = .ok (.aload_n 0, 1) := by decide +kernel
theorem dX11_longest_37 : decode cX11_longest 37 = .ok (.getfield 25, 3) := by decide +kernel
theorem dX11_longest_40 : decode cX11_longest 40 = .ok (.iload_n 3, 1) := by decide +kernel
theorem dX11_longest_41 : decode cX11_longest 41 = .ok (.iaload, 1) := by decide +kernel
theorem dX11_longest_42 : decode cX11_longest 42 = .ok (.aload_n 0, 1) := by decide +kernel
theorem dX11_longest_43 : decode cX11_longest 43 = .ok (.getfield 25, 3) := by decide +kernel
theorem dX11_longest_46 : decode cX11_longest 46 = .ok (.iload_n 2, 1) := by decide +kernel
theorem dX11_longest_47 : decode cX11_longest 47 = .ok (.iaload, 1) := by decide +kernel
theorem dX11_longest_48 : decode cX11_longest 48 = .ok (.if_icmp .ge 5, 3) := by decide +kernel
theorem dX11_longest_51 : decode cX11_longest 51 = .ok (.iload_n 3, 1) := by decide +kernel
theorem dX11_longest_52 : decode cX11_longest 52 = .ok (.istore_n 2, 1) := by decide +kernel
theorem dX11_longest_53 : decode cX11_longest 53 = .ok (.iinc 3 1, 3) := by decide +kernel
theorem dX11_longest_56 : decode cX11_longest 56 = .ok (.goto (-51), 3) := by decide +kernel
theorem dX11_longest_59 : decode cX11_longest 59 = .ok (.iload_n 2, 1) := by decide +kernel
theorem dX11_longest_60 : decode cX11_longest 60 = .ok (.ireturn, 1) := by decide +kernel
set_option maxRecDepth 20000 in
theorem ggX11_canThrow_X11_areAgainst : GoodIn wsX11_canThrow wsX11_areAgainst := goodIn_r _ [6, 7, 8, 9, 10, 5, 11, 12, 13, 14, 15, 16, 17, 18, 19, 20, 21, 22, 23, 24, 25, 26, 27, 28, 29, 30, 31, 32, 33, 34, 35, 36, 37, 38, 39, 40, 41, 42, 43, 44, 45] (by decide +kernel) (by decide +kernel)
set_option maxRecDepth 20000 in
theorem gX11_canThrow_X11_areAgainst : GoodIn wsX11_canThrow (wsV RX11 186 RX11 yX11_areAgainst wsX11_areAgainst) := goodIn_app (goodIn_of _ (by decide +kernel)) ggX11_canThrow_X11_areAgainst
theorem dX11_canThrow_0 : decode cX11_canThrow 0 = .ok (.aload_n 0, 1) := by decide +kernel
theorem dX11_canThrow_1 : decode cX11_canThrow 1 = .ok (.getfield 28, 3) := by decide +kernel
theorem dX11_canThrow_4 : decode cX11_canThrow 4 = .ok (.iload_n 1, 1) := by decide +kernel
theorem dX11_canThrow_5 : decode cX11_canThrow 5 = .ok (.iaload, 1) := by decide +kernel
theorem dX11_canThrow_6 : decode cX11_canThrow 6 = .ok (.ifCond .lt 21, 3) := by decide +kernel
theorem dX11_canThrow_9 : decode cX11_canThrow 9 = .ok (.aload_n 0, 1) := by decide +kernel
theorem dX11_canThrow_10 : decode cX11_canThrow 10 = .ok (.aload_n 0, 1) := by decide +kernel
theorem dX11_canThrow_11 : decode cX11_canThrow 11 = .ok (.getfield 28, 3) := by decide +kernel
theorem dX11_canThrow_14 : decode cX11_canThrow 14 = .ok (.iload_n 1, 1) := by decide +kernel
theorem dX11_canThrow_15 : decode cX11_canThrow 15 = .ok (.iaload, 1) := by decide +kernel
theorem dX11_canThrow_16 : decode cX11_canThrow 16 = .ok (.iload_n 2, 1) := by decide +kernel
theorem dX11_canThrow_17 : decode cX11_canThrow 17 = .ok (.invokevirtual 186, 3) := by decide +kernel
theorem dX11_canThrow_20 : decode cX11_canThrow 20 = .ok (.ifCond .eq 7, 3) := by decide +kernel
theorem dX11_canThrow_23 : decode cX11_canThrow 23 = .ok (.iconst 1, 1) := by decide +kernel
theorem dX11_canThrow_24 : decode cX11_canThrow 24 = .ok (.goto 4, 3) := by decide +kernel
theorem dX11_canThrow_27 : decode cX11_canThrow 27 = .ok (.iconst 0, 1) := by decide +kernel
theorem dX11_canThrow_28 : decode cX11_canThrow 28 = .ok (.ireturn, 1) := by decide +kernel
set_option maxRecDepth 20000 in
theorem ggX11_finishes_X11_falls : GoodIn wsX11_finishes wsX11_falls := goodIn_r _ [8, 1, 9, 10, 37, 38, 39, 40, 41, 42, 43, 44, 45, 46, 47, 48, 49, 50, 51, 52, 53, 54, 55, 56, 57, 58, 59, 60, 61, 62, 63, 64] (by decide +kernel) (by decide +kernel)
set_option maxRecDepth 20000 in
theorem gX11_finishes_X11_falls : GoodIn wsX11_finishes (wsV RX11 114 RX11 yX11_falls wsX11_falls) := goodIn_app (goodIn_of _ (by decide +kernel)) ggX11_finishes_X11_falls
set_option maxRecDepth 20000 in
theorem ggX11_finishes_X11_goesOut : GoodIn wsX11_finishes wsX11_goesOut := goodIn_r _ [14, 15, 3, 1, 2, 4, 5, 6, 7, 8, 9, 10, 37, 38, 39, 40, 41, 42, 43, 44, 45, 46, 47, 48, 49, 50, 51, 52, 53, 54, 55, 56, 57, 58, 59, 60, 61, 62, 63, 64] (by decide +kernel) (by decide +kernel)
set_option maxRecDepth 20000 in
theorem gX11_finishes_X11_goesOut : GoodIn wsX11_finishes (wsV RX11 136 RX11 yX11_goesOut wsX11_goesOut) := goodIn_app (goodIn_of _ (by decide +kernel)) ggX11_finishes_X11_goesOut
set_option maxRecDepth 20000 in
theorem ggX11_finishes_X11_longest : GoodIn wsX11_finishes wsX11_longest := goodIn_r _ [19, 20, 2, 3, 37, 38, 39, 40, 41, 42, 43, 44, 45, 46, 47, 48, 49, 50, 51, 52, 53, 54, 55, 56, 57, 58, 59, 60, 61, 62, 63, 64] (by decide +kernel) (by decide +kernel)
set_option maxRecDepth 20000 in
theorem gX11_finishes_X11_longest : GoodIn wsX11_finishes (wsV RX11 196 RX11 yX11_longest wsX11_longest) := goodIn_app (goodIn_of _ (by decide +kernel)) ggX11_finishes_X11_longest
set_option maxRecDepth 20000 in
theorem ggX11_finishes_X11_holds : GoodIn wsX11_finishes wsX11_holds := goodIn_r _ [24, 1, 37, 38, 39, 40, 41, 42, 43, 44, 45, 46, 47, 48, 49, 50, 51, 52, 53, 54, 55, 56, 57, 58, 59, 60, 61, 62, 63, 64] (by decide +kernel) (by decide +kernel)
set_option maxRecDepth 20000 in
theorem gX11_finishes_X11_holds : GoodIn wsX11_finishes (wsV RX11 127 RX11 yX11_holds wsX11_holds) := goodIn_app (goodIn_of _ (by decide +kernel)) ggX11_finishes_X11_holds
set_option maxRecDepth 20000 in
theorem ggX11_finishes_X11_bits : GoodIn wsX11_finishes wsX11_bits := goodIn_r _ [27] (by decide +kernel) (by decide +kernel)
set_option maxRecDepth 20000 in
theorem gX11_finishes_X11_bits : GoodIn wsX11_finishes (va_wsS RX11 130 yX11_bits wsX11_bits) := goodIn_app (goodIn_of _ (by decide +kernel)) ggX11_finishes_X11_bits
set_option maxRecDepth 20000 in
theorem ggX11_finishes_X11_isHeld : GoodIn wsX11_finishes wsX11_isHeld := goodIn_r _ [31, 1, 9, 10, 37, 38, 39, 40, 41, 42, 43, 44, 45, 46, 47, 48, 49, 50, 51, 52, 53, 54, 55, 56, 57, 58, 59, 60, 61, 62, 63, 64] (by decide +kernel) (by decide +kernel)
set_option maxRecDepth 20000 in
theorem gX11_finishes_X11_isHeld : GoodIn wsX11_finishes (wsV RX11 133 RX11 yX11_isHeld wsX11_isHeld) := goodIn_app (goodIn_of _ (by decide +kernel)) ggX11_finishes_X11_isHeld
set_option maxRecDepth 20000 in
theorem ggX11_finishes_X11_goesTenth : GoodIn wsX11_finishes wsX11_goesTenth := goodIn_r _ [35, 36, 1, 10, 2, 4, 5, 6, 7, 8, 9, 37, 38, 39, 40, 41, 42, 43, 44, 45, 46, 47, 48, 49, 50, 51, 52, 53, 54, 55, 56, 57, 58, 59, 60, 61, 62, 63, 64] (by decide +kernel) (by decide +kernel)
set_option maxRecDepth 20000 in
theorem gX11_finishes_X11_goesTenth : GoodIn wsX11_finishes (wsV RX11 199 RX11 yX11_goesTenth wsX11_goesTenth) := goodIn_app (goodIn_of _ (by decide +kernel)) ggX11_finishes_X11_goesTenth
theorem dX11_finishes_0 : decode cX11_finishes 0 = .ok (.aload_n 0, 1) := by decide +kernel
theorem dX11_finishes_1 : decode cX11_finishes 1 = .ok (.getfield 28, 3) := by decide +kernel
theorem dX11_finishes_4 : decode cX11_finishes 4 = .ok (.iload_n 1, 1) := by decide +kernel
theorem dX11_finishes_5 : decode cX11_finishes 5 = .ok (.iaload, 1) := by decide +kernel
theorem dX11_finishes_6 : decode cX11_finishes 6 = .ok (.istore 4, 2) := by decide +kernel
theorem dX11_finishes_8 : decode cX11_finishes 8 = .ok (.aload_n 0, 1) := by decide +kernel
theorem dX11_finishes_9 : decode cX11_finishes 9 = .ok (.iload_n 1, 1) := by decide +kernel
theorem dX11_finishes_10 : decode cX11_finishes 10 = .ok (.aload_n 0, 1) := by decide +kernel
theorem dX11_finishes_11 : decode cX11_finishes 11 = .ok (.getfield 13, 3) := by decide +kernel
theorem dX11_finishes_14 : decode cX11_finishes 14 = .ok (.iload_n 2, 1) := by decide +kernel
theorem dX11_finishes_15 : decode cX11_finishes 15 = .ok (.iaload, 1) := by decide +kernel
theorem dX11_finishes_16 : decode cX11_finishes 16 = .ok (.invokevirtual 114, 3) := by decide +kernel
theorem dX11_finishes_19 : decode cX11_finishes 19 = .ok (.iload_n 3, 1) := by decide +kernel
theorem dX11_finishes_20 : decode cX11_finishes 20 = .ok (.ifCond .ne 8, 3) := by decide +kernel
theorem dX11_finishes_23 : decode cX11_finishes 23 = .ok (.aload_n 0, 1) := by decide +kernel
theorem dX11_finishes_24 : decode cX11_finishes 24 = .ok (.iload_n 2, 1) := by decide +kernel
theorem dX11_finishes_25 : decode cX11_finishes 25 = .ok (.invokevirtual 136, 3) := by decide +kernel
theorem dX11_finishes_28 : decode cX11_finishes 28 = .ok (.iload_n 3, 1) := by decide +kernel
theorem dX11_finishes_29 : decode cX11_finishes 29 = .ok (.iconst 1, 1) := by decide +kernel
theorem dX11_finishes_30 : decode cX11_finishes 30 = .ok (.if_icmp .ne 52, 3) := by decide +kernel
theorem dX11_finishes_33 : decode cX11_finishes 33 = .ok (.aload_n 0, 1) := by decide +kernel
theorem dX11_finishes_34 : decode cX11_finishes 34 = .ok (.iload 4, 2) := by decide +kernel
theorem dX11_finishes_36 : decode cX11_finishes 36 = .ok (.invokevirtual 136, 3) := by decide +kernel
theorem dX11_finishes_39 : decode cX11_finishes 39 = .ok (.aload_n 0, 1) := by decide +kernel
theorem dX11_finishes_40 : decode cX11_finishes 40 = .ok (.aload_n 0, 1) := by decide +kernel
theorem dX11_finishes_41 : decode cX11_finishes 41 = .ok (.getfield 13, 3) := by decide +kernel
theorem dX11_finishes_44 : decode cX11_finishes 44 = .ok (.iload_n 2, 1) := by decide +kernel
theorem dX11_finishes_45 : decode cX11_finishes 45 = .ok (.iaload, 1) := by decide +kernel
theorem dX11_finishes_46 : decode cX11_finishes 46 = .ok (.invokevirtual 196, 3) := by decide +kernel
theorem dX11_finishes_49 : decode cX11_finishes 49 = .ok (.istore 5, 2) := by decide +kernel
theorem dX11_finishes_51 : decode cX11_finishes 51 = .ok (.iload 5, 2) := by decide +kernel
theorem dX11_finishes_53 : decode cX11_finishes 53 = .ok (.ifCond .lt 11, 3) := by decide +kernel
theorem dX11_finishes_56 : decode cX11_finishes 56 = .ok (.aload_n 0, 1) := by decide +kernel
theorem dX11_finishes_57 : decode cX11_finishes 57 = .ok (.getfield 25, 3) := by decide +kernel
theorem dX11_finishes_60 : decode cX11_finishes 60 = .ok (.iload 5, 2) := by decide +kernel
theorem dX11_finishes_62 : decode cX11_finishes 62 = .ok (.iconst 0, 1) := by decide +kernel
theorem dX11_finishes_63 : decode cX11_finishes 63 = .ok (.iastore, 1) := by decide +kernel
theorem dX11_finishes_64 : decode cX11_finishes 64 = .ok (.aload_n 0, 1) := by decide +kernel
theorem dX11_finishes_65 : decode cX11_finishes 65 = .ok (.iload_n 2, 1) := by decide +kernel
theorem dX11_finishes_66 : decode cX11_finishes 66 = .ok (.invokevirtual 127, 3) := by decide +kernel
theorem dX11_finishes_69 : decode cX11_finishes 69 = .ok (.invokestatic 130, 3) := by decide +kernel
theorem dX11_finishes_72 : decode cX11_finishes 72 = .ok (.iconst 2, 1) := by decide +kernel
theorem dX11_finishes_73 : decode cX11_finishes 73 = .ok (.if_icmp .ge 9, 3) := by decide +kernel
theorem dX11_finishes_76 : decode cX11_finishes 76 = .ok (.aload_n 0, 1) := by decide +kernel
theorem dX11_finishes_77 : decode cX11_finishes 77 = .ok (.iload_n 1, 1) := by decide +kernel
theorem dX11_finishes_78 : decode cX11_finishes 78 = .ok (.iload_n 2, 1) := by decide +kernel
theorem dX11_finishes_79 : decode cX11_finishes 79 = .ok (.invokevirtual 133, 3) := by decide +kernel
theorem dX11_finishes_82 : decode cX11_finishes 82 = .ok (.aload_n 0, 1) := by decide +kernel
theorem dX11_finishes_83 : decode cX11_finishes 83 = .ok (.invokevirtual 199, 3) := by decide +kernel
theorem dX11_finishes_86 : decode cX11_finishes 86 = .ok (.return_, 1) := by decide +kernel
set_option maxRecDepth 20000 in
theorem ggX11_throwIt_X11_isBall : GoodIn wsX11_throwIt wsX11_isBall := goodIn_r _ [5] (by decide +kernel) (by decide +kernel)
set_option maxRecDepth 20000 in
theorem gX11_throwIt_X11_isBall : GoodIn wsX11_throwIt (va_wsS RX11 121 yX11_isBall wsX11_isBall) := goodIn_app (goodIn_of _ (by decide +kernel)) ggX11_throwIt_X11_isBall
set_option maxRecDepth 20000 in
theorem ggX11_throwIt_X11_isPlayer : GoodIn wsX11_throwIt wsX11_isPlayer := goodIn_r _ [9, 10, 68, 69, 70, 71, 72, 73, 74, 75, 76, 77, 78, 79, 80, 81, 82, 83, 84, 85, 86, 87, 88, 89, 90, 91, 92, 93, 94, 95] (by decide +kernel) (by decide +kernel)
set_option maxRecDepth 20000 in
theorem gX11_throwIt_X11_isPlayer : GoodIn wsX11_throwIt (wsV RX11 69 RX11 yX11_isPlayer wsX11_isPlayer) := goodIn_app (goodIn_of _ (by decide +kernel)) ggX11_throwIt_X11_isPlayer
set_option maxRecDepth 20000 in
theorem ggX11_throwIt_X11_isIn : GoodIn wsX11_throwIt wsX11_isIn := goodIn_r _ [13] (by decide +kernel) (by decide +kernel)
set_option maxRecDepth 20000 in
theorem gX11_throwIt_X11_isIn : GoodIn wsX11_throwIt (va_wsS RX11 91 yX11_isIn wsX11_isIn) := goodIn_app (goodIn_of _ (by decide +kernel)) ggX11_throwIt_X11_isIn
set_option maxRecDepth 20000 in
theorem ggX11_throwIt_X11_canThrow : GoodIn wsX11_throwIt wsX11_canThrow := goodIn_r _ [17, 18, 19, 20, 21, 4, 22, 23, 24, 25, 26, 27, 28, 6, 7, 8, 9, 10, 68, 69, 70, 71, 72, 73, 74, 75, 76, 77, 78, 79, 80, 81, 82, 83, 84, 85, 86, 87, 88, 89, 90, 91, 92, 93, 94, 95] (by decide +kernel) (by decide +kernel)
set_option maxRecDepth 20000 in
theorem gX11_throwIt_X11_canThrow : GoodIn wsX11_throwIt (wsV RX11 202 RX11 yX11_canThrow wsX11_canThrow) := goodIn_app (goodIn_of _ (by decide +kernel)) ggX11_throwIt_X11_canThrow
set_option maxRecDepth 20000 in
theorem ggX11_throwIt_X11_no : GoodIn wsX11_throwIt wsX11_no := goodIn_r _ [32, 33, 68, 69, 70, 71, 72, 73, 74, 75, 76, 77, 78, 79, 80, 81, 82, 83, 84, 85, 86, 87, 88, 89, 90, 91, 92, 93, 94, 95] (by decide +kernel) (by decide +kernel)
set_option maxRecDepth 20000 in
theorem gX11_throwIt_X11_no : GoodIn wsX11_throwIt (wsV RX11 80 RX11 yX11_no wsX11_no) := goodIn_app (goodIn_of _ (by decide +kernel)) ggX11_throwIt_X11_no
set_option maxRecDepth 20000 in
theorem ggX11_throwIt_X11_finishes : GoodIn wsX11_throwIt wsX11_finishes := goodIn_r _ [37, 18, 23, 28, 38, 39, 40, 4, 41, 42, 43, 44, 45, 46, 47, 48, 49, 50, 51, 52, 10, 53, 54, 55, 56, 57, 58, 59, 60, 61, 62, 63, 64, 65, 66, 67, 1, 68, 69, 70, 71, 72, 73, 74, 75, 76, 77, 78, 79, 80, 81, 82, 83, 84, 85, 86, 87, 88, 89, 90, 91, 92, 93, 94, 95] (by decide +kernel) (by decide +kernel)
set_option maxRecDepth 20000 in
theorem gX11_throwIt_X11_finishes : GoodIn wsX11_throwIt (wsV RX11 205 RX11 yX11_finishes wsX11_finishes) := goodIn_app (goodIn_of _ (by decide +kernel)) ggX11_throwIt_X11_finishes
theorem dX11_throwIt_0 : decode cX11_throwIt 0 = .ok (.iload_n 1, 1) := by decide +kernel
theorem dX11_throwIt_1 : decode cX11_throwIt 1 = .ok (.invokestatic 121, 3) := by decide +kernel
theorem dX11_throwIt_4 : decode cX11_throwIt 4 = .ok (.ifCond .eq 11, 3) := by decide +kernel
theorem dX11_throwIt_7 : decode cX11_throwIt 7 = .ok (.aload_n 0, 1) := by decide +kernel
theorem dX11_throwIt_8 : decode cX11_throwIt 8 = .ok (.iload_n 2, 1) := by decide +kernel
theorem dX11_throwIt_9 : decode cX11_throwIt 9 = .ok (.invokevirtual 69, 3) := by decide +kernel
theorem dX11_throwIt_12 : decode cX11_throwIt 12 = .ok (.ifCond .ne 7, 3) := by decide +kernel
theorem dX11_throwIt_15 : decode cX11_throwIt 15 = .ok (.iconst (-1), 1) := by decide +kernel
theorem dX11_throwIt_16 : decode cX11_throwIt 16 = .ok (.goto 57, 3) := by decide +kernel
theorem dX11_throwIt_19 : decode cX11_throwIt 19 = .ok (.iload_n 3, 1) := by decide +kernel
theorem dX11_throwIt_20 : decode cX11_throwIt 20 = .ok (.iconst 0, 1) := by decide +kernel
theorem dX11_throwIt_21 : decode cX11_throwIt 21 = .ok (.iconst 2, 1) := by decide +kernel
theorem dX11_throwIt_22 : decode cX11_throwIt 22 = .ok (.invokestatic 91, 3) := by decide +kernel
theorem dX11_throwIt_25 : decode cX11_throwIt 25 = .ok (.ifCond .eq 13, 3) := by decide +kernel
theorem dX11_throwIt_28 : decode cX11_throwIt 28 = .ok (.iload 4, 2) := by decide +kernel
theorem dX11_throwIt_30 : decode cX11_throwIt 30 = .ok (.iconst 0, 1) := by decide +kernel
theorem dX11_throwIt_31 : decode cX11_throwIt 31 = .ok (.iconst 2, 1) := by decide +kernel
theorem dX11_throwIt_32 : decode cX11_throwIt 32 = .ok (.invokestatic 91, 3) := by decide +kernel
theorem dX11_throwIt_35 : decode cX11_throwIt 35 = .ok (.ifCond .ne 8, 3) := by decide +kernel
theorem dX11_throwIt_38 : decode cX11_throwIt 38 = .ok (.bipush (-2), 2) := by decide +kernel
theorem dX11_throwIt_40 : decode cX11_throwIt 40 = .ok (.goto 33, 3) := by decide +kernel
theorem dX11_throwIt_43 : decode cX11_throwIt 43 = .ok (.aload_n 0, 1) := by decide +kernel
theorem dX11_throwIt_44 : decode cX11_throwIt 44 = .ok (.iload_n 1, 1) := by decide +kernel
theorem dX11_throwIt_45 : decode cX11_throwIt 45 = .ok (.iload_n 2, 1) := by decide +kernel
theorem dX11_throwIt_46 : decode cX11_throwIt 46 = .ok (.invokevirtual 202, 3) := by decide +kernel
theorem dX11_throwIt_49 : decode cX11_throwIt 49 = .ok (.ifCond .ne 8, 3) := by decide +kernel
theorem dX11_throwIt_52 : decode cX11_throwIt 52 = .ok (.bipush (-3), 2) := by decide +kernel
theorem dX11_throwIt_54 : decode cX11_throwIt 54 = .ok (.goto 19, 3) := by decide +kernel
theorem dX11_throwIt_57 : decode cX11_throwIt 57 = .ok (.aload_n 0, 1) := by decide +kernel
theorem dX11_throwIt_58 : decode cX11_throwIt 58 = .ok (.getfield 165, 3) := by decide +kernel
theorem dX11_throwIt_61 : decode cX11_throwIt 61 = .ok (.sipush 9999, 3) := by decide +kernel
theorem dX11_throwIt_64 : decode cX11_throwIt 64 = .ok (.if_icmp .ne 8, 3) := by decide +kernel
theorem dX11_throwIt_67 : decode cX11_throwIt 67 = .ok (.bipush (-6), 2) := by decide +kernel
theorem dX11_throwIt_69 : decode cX11_throwIt 69 = .ok (.goto 4, 3) := by decide +kernel
theorem dX11_throwIt_72 : decode cX11_throwIt 72 = .ok (.iconst 0, 1) := by decide +kernel
theorem dX11_throwIt_73 : decode cX11_throwIt 73 = .ok (.istore 5, 2) := by decide +kernel
theorem dX11_throwIt_75 : decode cX11_throwIt 75 = .ok (.iload 5, 2) := by decide +kernel
theorem dX11_throwIt_77 : decode cX11_throwIt 77 = .ok (.ifCond .eq 10, 3) := by decide +kernel
theorem dX11_throwIt_80 : decode cX11_throwIt 80 = .ok (.aload_n 0, 1) := by decide +kernel
theorem dX11_throwIt_81 : decode cX11_throwIt 81 = .ok (.iload 5, 2) := by decide +kernel
theorem dX11_throwIt_83 : decode cX11_throwIt 83 = .ok (.invokevirtual 80, 3) := by decide +kernel
theorem dX11_throwIt_86 : decode cX11_throwIt 86 = .ok (.ireturn, 1) := by decide +kernel
theorem dX11_throwIt_87 : decode cX11_throwIt 87 = .ok (.aload_n 0, 1) := by decide +kernel
theorem dX11_throwIt_88 : decode cX11_throwIt 88 = .ok (.iload_n 1, 1) := by decide +kernel
theorem dX11_throwIt_89 : decode cX11_throwIt 89 = .ok (.iload_n 2, 1) := by decide +kernel
theorem dX11_throwIt_90 : decode cX11_throwIt 90 = .ok (.iload 4, 2) := by decide +kernel
theorem dX11_throwIt_92 : decode cX11_throwIt 92 = .ok (.invokevirtual 205, 3) := by decide +kernel
theorem dX11_throwIt_95 : decode cX11_throwIt 95 = .ok (.aload_n 0, 1) := by decide +kernel
theorem dX11_throwIt_96 : decode cX11_throwIt 96 = .ok (.getfield 165, 3) := by decide +kernel
theorem dX11_throwIt_99 : decode cX11_throwIt 99 = .ok (.ireturn, 1) := by decide +kernel
set_option maxRecDepth 20000 in
theorem ggX11_take_X11_isPlayer : GoodIn wsX11_take wsX11_isPlayer := goodIn_r _ [8, 9, 44, 45, 46, 47, 48, 49, 50, 51, 52, 53, 54, 55, 56, 57, 58, 59, 60, 61, 62, 63, 64, 65, 66, 67, 68, 69, 70, 71] (by decide +kernel) (by decide +kernel)
set_option maxRecDepth 20000 in
theorem gX11_take_X11_isPlayer : GoodIn wsX11_take (wsV RX11 69 RX11 yX11_isPlayer wsX11_isPlayer) := goodIn_app (goodIn_of _ (by decide +kernel)) ggX11_take_X11_isPlayer
set_option maxRecDepth 20000 in
theorem ggX11_take_X11_isBall : GoodIn wsX11_take wsX11_isBall := goodIn_r _ [12] (by decide +kernel) (by decide +kernel)
set_option maxRecDepth 20000 in
theorem gX11_take_X11_isBall : GoodIn wsX11_take (va_wsS RX11 121 yX11_isBall wsX11_isBall) := goodIn_app (goodIn_of _ (by decide +kernel)) ggX11_take_X11_isBall
set_option maxRecDepth 20000 in
theorem ggX11_take_X11_isHere : GoodIn wsX11_take wsX11_isHere := goodIn_r _ [16, 17, 4, 5, 6, 7, 8, 9, 44, 45, 46, 47, 48, 49, 50, 51, 52, 53, 54, 55, 56, 57, 58, 59, 60, 61, 62, 63, 64, 65, 66, 67, 68, 69, 70, 71] (by decide +kernel) (by decide +kernel)
set_option maxRecDepth 20000 in
theorem gX11_take_X11_isHere : GoodIn wsX11_take (wsV RX11 124 RX11 yX11_isHere wsX11_isHere) := goodIn_app (goodIn_of _ (by decide +kernel)) ggX11_take_X11_isHere
set_option maxRecDepth 20000 in
theorem ggX11_take_X11_holds : GoodIn wsX11_take wsX11_holds := goodIn_r _ [21, 22, 44, 45, 46, 47, 48, 49, 50, 51, 52, 53, 54, 55, 56, 57, 58, 59, 60, 61, 62, 63, 64, 65, 66, 67, 68, 69, 70, 71] (by decide +kernel) (by decide +kernel)
set_option maxRecDepth 20000 in
theorem gX11_take_X11_holds : GoodIn wsX11_take (wsV RX11 127 RX11 yX11_holds wsX11_holds) := goodIn_app (goodIn_of _ (by decide +kernel)) ggX11_take_X11_holds
set_option maxRecDepth 20000 in
theorem ggX11_take_X11_bits : GoodIn wsX11_take wsX11_bits := goodIn_r _ [25] (by decide +kernel) (by decide +kernel)
set_option maxRecDepth 20000 in
theorem gX11_take_X11_bits : GoodIn wsX11_take (va_wsS RX11 130 yX11_bits wsX11_bits) := goodIn_app (goodIn_of _ (by decide +kernel)) ggX11_take_X11_bits
set_option maxRecDepth 20000 in
theorem ggX11_take_X11_no : GoodIn wsX11_take wsX11_no := goodIn_r _ [29, 30, 44, 45, 46, 47, 48, 49, 50, 51, 52, 53, 54, 55, 56, 57, 58, 59, 60, 61, 62, 63, 64, 65, 66, 67, 68, 69, 70, 71] (by decide +kernel) (by decide +kernel)
set_option maxRecDepth 20000 in
theorem gX11_take_X11_no : GoodIn wsX11_take (wsV RX11 80 RX11 yX11_no wsX11_no) := goodIn_app (goodIn_of _ (by decide +kernel)) ggX11_take_X11_no
set_option maxRecDepth 20000 in
theorem ggX11_take_X11_isHeld : GoodIn wsX11_take wsX11_isHeld := goodIn_r _ [34, 22, 1, 35, 44, 45, 46, 47, 48, 49, 50, 51, 52, 53, 54, 55, 56, 57, 58, 59, 60, 61, 62, 63, 64, 65, 66, 67, 68, 69, 70, 71] (by decide +kernel) (by decide +kernel)
set_option maxRecDepth 20000 in
theorem gX11_take_X11_isHeld : GoodIn wsX11_take (wsV RX11 133 RX11 yX11_isHeld wsX11_isHeld) := goodIn_app (goodIn_of _ (by decide +kernel)) ggX11_take_X11_isHeld
set_option maxRecDepth 20000 in
theorem ggX11_take_X11_goesTenth : GoodIn wsX11_take wsX11_goesTenth := goodIn_r _ [39, 3, 22, 35, 2, 40, 41, 42, 7, 43, 1, 44, 45, 46, 47, 48, 49, 50, 51, 52, 53, 54, 55, 56, 57, 58, 59, 60, 61, 62, 63, 64, 65, 66, 67, 68, 69, 70, 71] (by decide +kernel) (by decide +kernel)
set_option maxRecDepth 20000 in
theorem gX11_take_X11_goesTenth : GoodIn wsX11_take (wsV RX11 199 RX11 yX11_goesTenth wsX11_goesTenth) := goodIn_app (goodIn_of _ (by decide +kernel)) ggX11_take_X11_goesTenth
theorem dX11_take_0 : decode cX11_take 0 = .ok (.aload_n 0, 1) := by decide +kernel
theorem dX11_take_1 : decode cX11_take 1 = .ok (.iload_n 1, 1) := by decide +kernel
theorem dX11_take_2 : decode cX11_take 2 = .ok (.invokevirtual 69, 3) := by decide +kernel
theorem dX11_take_5 : decode cX11_take 5 = .ok (.ifCond .eq 10, 3) := by decide +kernel
theorem dX11_take_8 : decode cX11_take 8 = .ok (.iload_n 2, 1) := by decide +kernel
theorem dX11_take_9 : decode cX11_take 9 = .ok (.invokestatic 121, 3) := by decide +kernel
theorem dX11_take_12 : decode cX11_take 12 = .ok (.ifCond .ne 7, 3) := by decide +kernel
theorem dX11_take_15 : decode cX11_take 15 = .ok (.iconst (-1), 1) := by decide +kernel
theorem dX11_take_16 : decode cX11_take 16 = .ok (.goto 59, 3) := by decide +kernel
theorem dX11_take_19 : decode cX11_take 19 = .ok (.aload_n 0, 1) := by decide +kernel
theorem dX11_take_20 : decode cX11_take 20 = .ok (.iload_n 1, 1) := by decide +kernel
theorem dX11_take_21 : decode cX11_take 21 = .ok (.invokevirtual 124, 3) := by decide +kernel
theorem dX11_take_24 : decode cX11_take 24 = .ok (.ifCond .eq 30, 3) := by decide +kernel
theorem dX11_take_27 : decode cX11_take 27 = .ok (.aload_n 0, 1) := by decide +kernel
theorem dX11_take_28 : decode cX11_take 28 = .ok (.iload_n 1, 1) := by decide +kernel
theorem dX11_take_29 : decode cX11_take 29 = .ok (.invokevirtual 127, 3) := by decide +kernel
theorem dX11_take_32 : decode cX11_take 32 = .ok (.invokestatic 130, 3) := by decide +kernel
theorem dX11_take_35 : decode cX11_take 35 = .ok (.iconst 1, 1) := by decide +kernel
theorem dX11_take_36 : decode cX11_take 36 = .ok (.if_icmp .gt 18, 3) := by decide +kernel
theorem dX11_take_39 : decode cX11_take 39 = .ok (.aload_n 0, 1) := by decide +kernel
theorem dX11_take_40 : decode cX11_take 40 = .ok (.getfield 31, 3) := by decide +kernel
theorem dX11_take_43 : decode cX11_take 43 = .ok (.iload_n 2, 1) := by decide +kernel
theorem dX11_take_44 : decode cX11_take 44 = .ok (.iaload, 1) := by decide +kernel
theorem dX11_take_45 : decode cX11_take 45 = .ok (.aload_n 0, 1) := by decide +kernel
theorem dX11_take_46 : decode cX11_take 46 = .ok (.getfield 13, 3) := by decide +kernel
theorem dX11_take_49 : decode cX11_take 49 = .ok (.iload_n 1, 1) := by decide +kernel
theorem dX11_take_50 : decode cX11_take 50 = .ok (.iaload, 1) := by decide +kernel
theorem dX11_take_51 : decode cX11_take 51 = .ok (.if_icmp .eq 8, 3) := by decide +kernel
theorem dX11_take_54 : decode cX11_take 54 = .ok (.bipush (-3), 2) := by decide +kernel
theorem dX11_take_56 : decode cX11_take 56 = .ok (.goto 19, 3) := by decide +kernel
theorem dX11_take_59 : decode cX11_take 59 = .ok (.aload_n 0, 1) := by decide +kernel
theorem dX11_take_60 : decode cX11_take 60 = .ok (.getfield 165, 3) := by decide +kernel
theorem dX11_take_63 : decode cX11_take 63 = .ok (.sipush 9999, 3) := by decide +kernel
theorem dX11_take_66 : decode cX11_take 66 = .ok (.if_icmp .ne 8, 3) := by decide +kernel
theorem dX11_take_69 : decode cX11_take 69 = .ok (.bipush (-6), 2) := by decide +kernel
theorem dX11_take_71 : decode cX11_take 71 = .ok (.goto 4, 3) := by decide +kernel
theorem dX11_take_74 : decode cX11_take 74 = .ok (.iconst 0, 1) := by decide +kernel
theorem dX11_take_75 : decode cX11_take 75 = .ok (.istore_n 3, 1) := by decide +kernel
theorem dX11_take_76 : decode cX11_take 76 = .ok (.iload_n 3, 1) := by decide +kernel
theorem dX11_take_77 : decode cX11_take 77 = .ok (.ifCond .eq 9, 3) := by decide +kernel
theorem dX11_take_80 : decode cX11_take 80 = .ok (.aload_n 0, 1) := by decide +kernel
theorem dX11_take_81 : decode cX11_take 81 = .ok (.iload_n 3, 1) := by decide +kernel
theorem dX11_take_82 : decode cX11_take 82 = .ok (.invokevirtual 80, 3) := by decide +kernel
theorem dX11_take_85 : decode cX11_take 85 = .ok (.ireturn, 1) := by decide +kernel
theorem dX11_take_86 : decode cX11_take 86 = .ok (.aload_n 0, 1) := by decide +kernel
theorem dX11_take_87 : decode cX11_take 87 = .ok (.iload_n 2, 1) := by decide +kernel
theorem dX11_take_88 : decode cX11_take 88 = .ok (.iload_n 1, 1) := by decide +kernel
theorem dX11_take_89 : decode cX11_take 89 = .ok (.invokevirtual 133, 3) := by decide +kernel
theorem dX11_take_92 : decode cX11_take 92 = .ok (.aload_n 0, 1) := by decide +kernel
theorem dX11_take_93 : decode cX11_take 93 = .ok (.invokevirtual 199, 3) := by decide +kernel
theorem dX11_take_96 : decode cX11_take 96 = .ok (.aload_n 0, 1) := by decide +kernel
theorem dX11_take_97 : decode cX11_take 97 = .ok (.getfield 165, 3) := by decide +kernel
theorem dX11_take_100 : decode cX11_take 100 = .ok (.ireturn, 1) := by decide +kernel
set_option maxRecDepth 20000 in
theorem ggX11_pass_X11_bound : GoodIn wsX11_pass wsX11_bound := goodIn_r _ [5] (by decide +kernel) (by decide +kernel)
set_option maxRecDepth 20000 in
theorem gX11_pass_X11_bound : GoodIn wsX11_pass (va_wsS RX11 73 yX11_bound wsX11_bound) := goodIn_app (goodIn_of _ (by decide +kernel)) ggX11_pass_X11_bound
set_option maxRecDepth 20000 in
theorem ggX11_pass_X11_no : GoodIn wsX11_pass wsX11_no := goodIn_r _ [9, 10, 23, 24, 25, 26, 27, 28, 29, 30, 31, 32, 33, 34, 35, 36, 37, 38, 39, 40, 41, 42, 43, 44, 45, 46, 47, 48, 49, 50] (by decide +kernel) (by decide +kernel)
set_option maxRecDepth 20000 in
theorem gX11_pass_X11_no : GoodIn wsX11_pass (wsV RX11 80 RX11 yX11_no wsX11_no) := goodIn_app (goodIn_of _ (by decide +kernel)) ggX11_pass_X11_no
set_option maxRecDepth 20000 in
theorem ggX11_pass_X11_goesTenth : GoodIn wsX11_pass wsX11_goesTenth := goodIn_r _ [14, 1, 15, 16, 17, 18, 19, 20, 4, 21, 22, 23, 24, 25, 26, 27, 28, 29, 30, 31, 32, 33, 34, 35, 36, 37, 38, 39, 40, 41, 42, 43, 44, 45, 46, 47, 48, 49, 50] (by decide +kernel) (by decide +kernel)
set_option maxRecDepth 20000 in
theorem gX11_pass_X11_goesTenth : GoodIn wsX11_pass (wsV RX11 199 RX11 yX11_goesTenth wsX11_goesTenth) := goodIn_app (goodIn_of _ (by decide +kernel)) ggX11_pass_X11_goesTenth
theorem dX11_pass_0 : decode cX11_pass 0 = .ok (.iload_n 1, 1) := by decide +kernel
theorem dX11_pass_1 : decode cX11_pass 1 = .ok (.iconst 1, 1) := by decide +kernel
theorem dX11_pass_2 : decode cX11_pass 2 = .ok (.bipush 50, 2) := by decide +kernel
theorem dX11_pass_4 : decode cX11_pass 4 = .ok (.invokestatic 73, 3) := by decide +kernel
theorem dX11_pass_7 : decode cX11_pass 7 = .ok (.istore_n 2, 1) := by decide +kernel
theorem dX11_pass_8 : decode cX11_pass 8 = .ok (.iload_n 2, 1) := by decide +kernel
theorem dX11_pass_9 : decode cX11_pass 9 = .ok (.ifCond .ne 18, 3) := by decide +kernel
theorem dX11_pass_12 : decode cX11_pass 12 = .ok (.aload_n 0, 1) := by decide +kernel
theorem dX11_pass_13 : decode cX11_pass 13 = .ok (.getfield 165, 3) := by decide +kernel
theorem dX11_pass_16 : decode cX11_pass 16 = .ok (.iload_n 1, 1) := by decide +kernel
theorem dX11_pass_17 : decode cX11_pass 17 = .ok (.iadd, 1) := by decide +kernel
theorem dX11_pass_18 : decode cX11_pass 18 = .ok (.sipush 9999, 3) := by decide +kernel
theorem dX11_pass_21 : decode cX11_pass 21 = .ok (.if_icmp .le 6, 3) := by decide +kernel
theorem dX11_pass_24 : decode cX11_pass 24 = .ok (.bipush (-6), 2) := by decide +kernel
theorem dX11_pass_26 : decode cX11_pass 26 = .ok (.istore_n 2, 1) := by decide +kernel
theorem dX11_pass_27 : decode cX11_pass 27 = .ok (.iload_n 2, 1) := by decide +kernel
theorem dX11_pass_28 : decode cX11_pass 28 = .ok (.ifCond .eq 9, 3) := by decide +kernel
theorem dX11_pass_31 : decode cX11_pass 31 = .ok (.aload_n 0, 1) := by decide +kernel
theorem dX11_pass_32 : decode cX11_pass 32 = .ok (.iload_n 2, 1) := by decide +kernel
theorem dX11_pass_33 : decode cX11_pass 33 = .ok (.invokevirtual 80, 3) := by decide +kernel
theorem dX11_pass_36 : decode cX11_pass 36 = .ok (.ireturn, 1) := by decide +kernel
theorem dX11_pass_37 : decode cX11_pass 37 = .ok (.iconst 0, 1) := by decide +kernel
theorem dX11_pass_38 : decode cX11_pass 38 = .ok (.istore_n 3, 1) := by decide +kernel
theorem dX11_pass_39 : decode cX11_pass 39 = .ok (.iload_n 3, 1) := by decide +kernel
theorem dX11_pass_40 : decode cX11_pass 40 = .ok (.iload_n 1, 1) := by decide +kernel
theorem dX11_pass_41 : decode cX11_pass 41 = .ok (.if_icmp .ge 13, 3) := by decide +kernel
theorem dX11_pass_44 : decode cX11_pass 44 = .ok (.aload_n 0, 1) := by decide +kernel
theorem dX11_pass_45 : decode cX11_pass 45 = .ok (.invokevirtual 199, 3) := by decide +kernel
theorem dX11_pass_48 : decode cX11_pass 48 = .ok (.iinc 3 1, 3) := by decide +kernel
theorem dX11_pass_51 : decode cX11_pass 51 = .ok (.goto (-12), 3) := by decide +kernel
theorem dX11_pass_54 : decode cX11_pass 54 = .ok (.aload_n 0, 1) := by decide +kernel
theorem dX11_pass_55 : decode cX11_pass 55 = .ok (.getfield 165, 3) := by decide +kernel
theorem dX11_pass_58 : decode cX11_pass 58 = .ok (.ireturn, 1) := by decide +kernel
set_option maxRecDepth 20000 in
theorem ggX11_best_X11_isPlayer : GoodIn wsX11_best wsX11_isPlayer := goodIn_r _ [6, 1, 62, 63, 64, 65, 66, 67, 68, 69, 70, 71, 72, 73, 74, 75, 76, 77, 78, 79, 80, 81, 82, 83, 84, 85, 86, 87, 88, 89] (by decide +kernel) (by decide +kernel)
set_option maxRecDepth 20000 in
theorem gX11_best_X11_isPlayer : GoodIn wsX11_best (wsV RX11 69 RX11 yX11_isPlayer wsX11_isPlayer) := goodIn_app (goodIn_of _ (by decide +kernel)) ggX11_best_X11_isPlayer
set_option maxRecDepth 20000 in
theorem ggX11_best_X11_isIn : GoodIn wsX11_best wsX11_isIn := goodIn_r _ [9] (by decide +kernel) (by decide +kernel)
set_option maxRecDepth 20000 in
theorem gX11_best_X11_isIn : GoodIn wsX11_best (va_wsS RX11 91 yX11_isIn wsX11_isIn) := goodIn_app (goodIn_of _ (by decide +kernel)) ggX11_best_X11_isIn
set_option maxRecDepth 20000 in
theorem ggX11_best_X11_holds : GoodIn wsX11_best wsX11_holds := goodIn_r _ [13, 14, 62, 63, 64, 65, 66, 67, 68, 69, 70, 71, 72, 73, 74, 75, 76, 77, 78, 79, 80, 81, 82, 83, 84, 85, 86, 87, 88, 89] (by decide +kernel) (by decide +kernel)
set_option maxRecDepth 20000 in
theorem gX11_best_X11_holds : GoodIn wsX11_best (wsV RX11 127 RX11 yX11_holds wsX11_holds) := goodIn_app (goodIn_of _ (by decide +kernel)) ggX11_best_X11_holds
set_option maxRecDepth 20000 in
theorem ggX11_best_X11_lower : GoodIn wsX11_best wsX11_lower := goodIn_r _ [18, 19, 20, 62, 63, 64, 65, 66, 67, 68, 69, 70, 71, 72, 73, 74, 75, 76, 77, 78, 79, 80, 81, 82, 83, 84, 85, 86, 87, 88, 89] (by decide +kernel) (by decide +kernel)
set_option maxRecDepth 20000 in
theorem gX11_best_X11_lower : GoodIn wsX11_best (wsV RX11 209 RX11 yX11_lower wsX11_lower) := goodIn_app (goodIn_of _ (by decide +kernel)) ggX11_best_X11_lower
set_option maxRecDepth 20000 in
theorem ggX11_best_X11_areAgainst : GoodIn wsX11_best wsX11_areAgainst := goodIn_r _ [24, 25, 26, 27, 28, 5, 29, 30, 2, 3, 4, 6, 1, 62, 63, 64, 65, 66, 67, 68, 69, 70, 71, 72, 73, 74, 75, 76, 77, 78, 79, 80, 81, 82, 83, 84, 85, 86, 87, 88, 89] (by decide +kernel) (by decide +kernel)
set_option maxRecDepth 20000 in
theorem gX11_best_X11_areAgainst : GoodIn wsX11_best (wsV RX11 186 RX11 yX11_areAgainst wsX11_areAgainst) := goodIn_app (goodIn_of _ (by decide +kernel)) ggX11_best_X11_areAgainst
set_option maxRecDepth 20000 in
theorem ggX11_best_X11_hitOf : GoodIn wsX11_best wsX11_hitOf := goodIn_r _ [34, 35, 36, 37, 5, 38, 39, 40, 41, 42, 43, 44, 45, 46, 47, 48, 49, 10, 11, 12, 13, 14, 62, 63, 64, 65, 66, 67, 68, 69, 70, 71, 72, 73, 74, 75, 76, 77, 78, 79, 80, 81, 82, 83, 84, 85, 86, 87, 88, 89] (by decide +kernel) (by decide +kernel)
set_option maxRecDepth 20000 in
theorem gX11_best_X11_hitOf : GoodIn wsX11_best (wsV RX11 189 RX11 yX11_hitOf wsX11_hitOf) := goodIn_app (goodIn_of _ (by decide +kernel)) ggX11_best_X11_hitOf
set_option maxRecDepth 20000 in
theorem ggX11_best_X11_caughtOf : GoodIn wsX11_best wsX11_caughtOf := goodIn_r _ [53, 54, 55, 56, 5, 57, 40, 49, 39, 30, 25, 58, 59, 60, 61, 1, 42, 43, 44, 62, 63, 64, 65, 66, 67, 68, 69, 70, 71, 72, 73, 74, 75, 76, 77, 78, 79, 80, 81, 82, 83, 84, 85, 86, 87, 88, 89] (by decide +kernel) (by decide +kernel)
set_option maxRecDepth 20000 in
theorem gX11_best_X11_caughtOf : GoodIn wsX11_best (wsV RX11 192 RX11 yX11_caughtOf wsX11_caughtOf) := goodIn_app (goodIn_of _ (by decide +kernel)) ggX11_best_X11_caughtOf
theorem dX11_best_0 : decode cX11_best 0 = .ok (.aload_n 0, 1) := by decide +kernel
theorem dX11_best_1 : decode cX11_best 1 = .ok (.iload_n 1, 1) := by decide +kernel
theorem dX11_best_2 : decode cX11_best 2 = .ok (.invokevirtual 69, 3) := by decide +kernel
theorem dX11_best_5 : decode cX11_best 5 = .ok (.ifCond .ne 7, 3) := by decide +kernel
theorem dX11_best_8 : decode cX11_best 8 = .ok (.iconst (-1), 1) := by decide +kernel
theorem dX11_best_9 : decode cX11_best 9 = .ok (.goto 31, 3) := by decide +kernel
theorem dX11_best_12 : decode cX11_best 12 = .ok (.iload_n 2, 1) := by decide +kernel
theorem dX11_best_13 : decode cX11_best 13 = .ok (.iconst 0, 1) := by decide +kernel
theorem dX11_best_14 : decode cX11_best 14 = .ok (.iconst 1, 1) := by decide +kernel
theorem dX11_best_15 : decode cX11_best 15 = .ok (.invokestatic 91, 3) := by decide +kernel
theorem dX11_best_18 : decode cX11_best 18 = .ok (.ifCond .ne 8, 3) := by decide +kernel
theorem dX11_best_21 : decode cX11_best 21 = .ok (.bipush (-2), 2) := by decide +kernel
theorem dX11_best_23 : decode cX11_best 23 = .ok (.goto 17, 3) := by decide +kernel
theorem dX11_best_26 : decode cX11_best 26 = .ok (.aload_n 0, 1) := by decide +kernel
theorem dX11_best_27 : decode cX11_best 27 = .ok (.iload_n 1, 1) := by decide +kernel
theorem dX11_best_28 : decode cX11_best 28 = .ok (.invokevirtual 127, 3) := by decide +kernel
theorem dX11_best_31 : decode cX11_best 31 = .ok (.ifCond .ne 8, 3) := by decide +kernel
theorem dX11_best_34 : decode cX11_best 34 = .ok (.bipush (-3), 2) := by decide +kernel
theorem dX11_best_36 : decode cX11_best 36 = .ok (.goto 4, 3) := by decide +kernel
theorem dX11_best_39 : decode cX11_best 39 = .ok (.iconst 0, 1) := by decide +kernel
theorem dX11_best_40 : decode cX11_best 40 = .ok (.istore_n 3, 1) := by decide +kernel
theorem dX11_best_41 : decode cX11_best 41 = .ok (.iload_n 3, 1) := by decide +kernel
theorem dX11_best_42 : decode cX11_best 42 = .ok (.ifCond .eq 9, 3) := by decide +kernel
theorem dX11_best_45 : decode cX11_best 45 = .ok (.aload_n 0, 1) := by decide +kernel
theorem dX11_best_46 : decode cX11_best 46 = .ok (.iload_n 3, 1) := by decide +kernel
theorem dX11_best_47 : decode cX11_best 47 = .ok (.invokevirtual 209, 3) := by decide +kernel
theorem dX11_best_50 : decode cX11_best 50 = .ok (.ireturn, 1) := by decide +kernel
theorem dX11_best_51 : decode cX11_best 51 = .ok (.bipush (-9), 2) := by decide +kernel
theorem dX11_best_53 : decode cX11_best 53 = .ok (.istore 4, 2) := by decide +kernel
theorem dX11_best_55 : decode cX11_best 55 = .ok (.bipush (-9), 2) := by decide +kernel
theorem dX11_best_57 : decode cX11_best 57 = .ok (.istore 5, 2) := by decide +kernel
theorem dX11_best_59 : decode cX11_best 59 = .ok (.iconst 0, 1) := by decide +kernel
theorem dX11_best_60 : decode cX11_best 60 = .ok (.istore 6, 2) := by decide +kernel
theorem dX11_best_62 : decode cX11_best 62 = .ok (.iload 6, 2) := by decide +kernel
theorem dX11_best_64 : decode cX11_best 64 = .ok (.bipush 10, 2) := by decide +kernel
theorem dX11_best_66 : decode cX11_best 66 = .ok (.aload_n 0, 1) := by decide +kernel
theorem dX11_best_67 : decode cX11_best 67 = .ok (.getfield 65, 3) := by decide +kernel
theorem dX11_best_70 : decode cX11_best 70 = .ok (.imul, 1) := by decide +kernel
theorem dX11_best_71 : decode cX11_best 71 = .ok (.if_icmp .ge 91, 3) := by decide +kernel
theorem dX11_best_74 : decode cX11_best 74 = .ok (.iload 6, 2) := by decide +kernel
theorem dX11_best_76 : decode cX11_best 76 = .ok (.bipush 10, 2) := by decide +kernel
theorem dX11_best_78 : decode cX11_best 78 = .ok (.irem, 1) := by decide +kernel
theorem dX11_best_79 : decode cX11_best 79 = .ok (.iconst 2, 1) := by decide +kernel
theorem dX11_best_80 : decode cX11_best 80 = .ok (.if_icmp .gt 76, 3) := by decide +kernel
theorem dX11_best_83 : decode cX11_best 83 = .ok (.aload_n 0, 1) := by decide +kernel
theorem dX11_best_84 : decode cX11_best 84 = .ok (.iload_n 1, 1) := by decide +kernel
theorem dX11_best_85 : decode cX11_best 85 = .ok (.iload 6, 2) := by decide +kernel
theorem dX11_best_87 : decode cX11_best 87 = .ok (.bipush 10, 2) := by decide +kernel
theorem dX11_best_89 : decode cX11_best 89 = .ok (.idiv, 1) := by decide +kernel
theorem dX11_best_90 : decode cX11_best 90 = .ok (.invokevirtual 186, 3) := by decide +kernel
theorem dX11_best_93 : decode cX11_best 93 = .ok (.ifCond .ne 6, 3) := by decide +kernel
theorem dX11_best_96 : decode cX11_best 96 = .ok (.goto 60, 3) := by decide +kernel
theorem dX11_best_99 : decode cX11_best 99 = .ok (.aload_n 0, 1) := by decide +kernel
theorem dX11_best_100 : decode cX11_best 100 = .ok (.iload_n 1, 1) := by decide +kernel
theorem dX11_best_101 : decode cX11_best 101 = .ok (.iload 6, 2) := by decide +kernel
theorem dX11_best_103 : decode cX11_best 103 = .ok (.bipush 10, 2) := by decide +kernel
theorem dX11_best_105 : decode cX11_best 105 = .ok (.idiv, 1) := by decide +kernel
theorem dX11_best_106 : decode cX11_best 106 = .ok (.iload 6, 2) := by decide +kernel
theorem dX11_best_108 : decode cX11_best 108 = .ok (.bipush 10, 2) := by decide +kernel
theorem dX11_best_110 : decode cX11_best 110 = .ok (.irem, 1) := by decide +kernel
theorem dX11_best_111 : decode cX11_best 111 = .ok (.invokevirtual 189, 3) := by decide +kernel
theorem dX11_best_114 : decode cX11_best 114 = .ok (.iconst 2, 1) := by decide +kernel
theorem dX11_best_115 : decode cX11_best 115 = .ok (.aload_n 0, 1) := by decide +kernel
theorem dX11_best_116 : decode cX11_best 116 = .ok (.iload 6, 2) := by decide +kernel
theorem dX11_best_118 : decode cX11_best 118 = .ok (.bipush 10, 2) := by decide +kernel
theorem dX11_best_120 : decode cX11_best 120 = .ok (.idiv, 1) := by decide +kernel
theorem dX11_best_121 : decode cX11_best 121 = .ok (.iload 6, 2) := by decide +kernel
theorem dX11_best_123 : decode cX11_best 123 = .ok (.bipush 10, 2) := by decide +kernel
theorem dX11_best_125 : decode cX11_best 125 = .ok (.irem, 1) := by decide +kernel
theorem dX11_best_126 : decode cX11_best 126 = .ok (.invokevirtual 192, 3) := by decide +kernel
theorem dX11_best_129 : decode cX11_best 129 = .ok (.imul, 1) := by decide +kernel
theorem dX11_best_130 : decode cX11_best 130 = .ok (.isub, 1) := by decide +kernel
theorem dX11_best_131 : decode cX11_best 131 = .ok (.istore 7, 2) := by decide +kernel
theorem dX11_best_133 : decode cX11_best 133 = .ok (.iload 4, 2) := by decide +kernel
theorem dX11_best_135 : decode cX11_best 135 = .ok (.ifCond .lt 13, 3) := by decide +kernel
theorem dX11_best_138 : decode cX11_best 138 = .ok (.iload 7, 2) := by decide +kernel
theorem dX11_best_140 : decode cX11_best 140 = .ok (.iload 5, 2) := by decide +kernel
theorem dX11_best_142 : decode cX11_best 142 = .ok (.if_icmp .gt 6, 3) := by decide +kernel
theorem dX11_best_145 : decode cX11_best 145 = .ok (.goto 11, 3) := by decide +kernel
theorem dX11_best_148 : decode cX11_best 148 = .ok (.iload 6, 2) := by decide +kernel
theorem dX11_best_150 : decode cX11_best 150 = .ok (.istore 4, 2) := by decide +kernel
theorem dX11_best_152 : decode cX11_best 152 = .ok (.iload 7, 2) := by decide +kernel
theorem dX11_best_154 : decode cX11_best 154 = .ok (.istore 5, 2) := by decide +kernel
theorem dX11_best_156 : decode cX11_best 156 = .ok (.iinc 6 1, 3) := by decide +kernel
theorem dX11_best_159 : decode cX11_best 159 = .ok (.goto (-97), 3) := by decide +kernel
theorem dX11_best_162 : decode cX11_best 162 = .ok (.iload_n 2, 1) := by decide +kernel
theorem dX11_best_163 : decode cX11_best 163 = .ok (.ifCond .ne 8, 3) := by decide +kernel
theorem dX11_best_166 : decode cX11_best 166 = .ok (.iload 4, 2) := by decide +kernel
theorem dX11_best_168 : decode cX11_best 168 = .ok (.goto 5, 3) := by decide +kernel
theorem dX11_best_171 : decode cX11_best 171 = .ok (.iload 5, 2) := by decide +kernel
theorem dX11_best_173 : decode cX11_best 173 = .ok (.ireturn, 1) := by decide +kernel
set_option maxRecDepth 20000 in
theorem ggX11_two_X11_isPlayer : GoodIn wsX11_two wsX11_isPlayer := goodIn_r _ [5, 6, 49, 50, 51, 52, 53, 54, 55, 56, 57, 58, 59, 60, 61, 62, 63, 64, 65, 66, 67, 68, 69, 70, 71, 72, 73, 74, 75, 76] (by decide +kernel) (by decide +kernel)
set_option maxRecDepth 20000 in
theorem gX11_two_X11_isPlayer : GoodIn wsX11_two (wsV RX11 69 RX11 yX11_isPlayer wsX11_isPlayer) := goodIn_app (goodIn_of _ (by decide +kernel)) ggX11_two_X11_isPlayer
set_option maxRecDepth 20000 in
theorem ggX11_two_X11_isIn : GoodIn wsX11_two wsX11_isIn := goodIn_r _ [9] (by decide +kernel) (by decide +kernel)
set_option maxRecDepth 20000 in
theorem gX11_two_X11_isIn : GoodIn wsX11_two (va_wsS RX11 91 yX11_isIn wsX11_isIn) := goodIn_app (goodIn_of _ (by decide +kernel)) ggX11_two_X11_isIn
set_option maxRecDepth 20000 in
theorem ggX11_two_X11_areAgainst : GoodIn wsX11_two wsX11_areAgainst := goodIn_r _ [13, 14, 15, 16, 17, 4, 18, 19, 1, 2, 3, 5, 6, 49, 50, 51, 52, 53, 54, 55, 56, 57, 58, 59, 60, 61, 62, 63, 64, 65, 66, 67, 68, 69, 70, 71, 72, 73, 74, 75, 76] (by decide +kernel) (by decide +kernel)
set_option maxRecDepth 20000 in
theorem gX11_two_X11_areAgainst : GoodIn wsX11_two (wsV RX11 186 RX11 yX11_areAgainst wsX11_areAgainst) := goodIn_app (goodIn_of _ (by decide +kernel)) ggX11_two_X11_areAgainst
set_option maxRecDepth 20000 in
theorem ggX11_two_X11_holds : GoodIn wsX11_two wsX11_holds := goodIn_r _ [23, 24, 49, 50, 51, 52, 53, 54, 55, 56, 57, 58, 59, 60, 61, 62, 63, 64, 65, 66, 67, 68, 69, 70, 71, 72, 73, 74, 75, 76] (by decide +kernel) (by decide +kernel)
set_option maxRecDepth 20000 in
theorem gX11_two_X11_holds : GoodIn wsX11_two (wsV RX11 127 RX11 yX11_holds wsX11_holds) := goodIn_app (goodIn_of _ (by decide +kernel)) ggX11_two_X11_holds
set_option maxRecDepth 20000 in
theorem ggX11_two_X11_no : GoodIn wsX11_two wsX11_no := goodIn_r _ [28, 29, 49, 50, 51, 52, 53, 54, 55, 56, 57, 58, 59, 60, 61, 62, 63, 64, 65, 66, 67, 68, 69, 70, 71, 72, 73, 74, 75, 76] (by decide +kernel) (by decide +kernel)
set_option maxRecDepth 20000 in
theorem gX11_two_X11_no : GoodIn wsX11_two (wsV RX11 80 RX11 yX11_no wsX11_no) := goodIn_app (goodIn_of _ (by decide +kernel)) ggX11_two_X11_no
set_option maxRecDepth 20000 in
theorem ggX11_two_X11_hitOf : GoodIn wsX11_two wsX11_hitOf := goodIn_r _ [33, 34, 35, 36, 4, 37, 38, 39, 40, 41, 42, 43, 44, 45, 46, 47, 48, 20, 21, 22, 23, 24, 49, 50, 51, 52, 53, 54, 55, 56, 57, 58, 59, 60, 61, 62, 63, 64, 65, 66, 67, 68, 69, 70, 71, 72, 73, 74, 75, 76] (by decide +kernel) (by decide +kernel)
set_option maxRecDepth 20000 in
theorem gX11_two_X11_hitOf : GoodIn wsX11_two (wsV RX11 189 RX11 yX11_hitOf wsX11_hitOf) := goodIn_app (goodIn_of _ (by decide +kernel)) ggX11_two_X11_hitOf
theorem dX11_two_0 : decode cX11_two 0 = .ok (.aload_n 0, 1) := by decide +kernel
theorem dX11_two_1 : decode cX11_two 1 = .ok (.iload_n 1, 1) := by decide +kernel
theorem dX11_two_2 : decode cX11_two 2 = .ok (.invokevirtual 69, 3) := by decide +kernel
theorem dX11_two_5 : decode cX11_two 5 = .ok (.ifCond .eq 38, 3) := by decide +kernel
theorem dX11_two_8 : decode cX11_two 8 = .ok (.aload_n 0, 1) := by decide +kernel
theorem dX11_two_9 : decode cX11_two 9 = .ok (.iload_n 2, 1) := by decide +kernel
theorem dX11_two_10 : decode cX11_two 10 = .ok (.invokevirtual 69, 3) := by decide +kernel
theorem dX11_two_13 : decode cX11_two 13 = .ok (.ifCond .eq 30, 3) := by decide +kernel
theorem dX11_two_16 : decode cX11_two 16 = .ok (.aload_n 0, 1) := by decide +kernel
theorem dX11_two_17 : decode cX11_two 17 = .ok (.iload_n 3, 1) := by decide +kernel
theorem dX11_two_18 : decode cX11_two 18 = .ok (.invokevirtual 69, 3) := by decide +kernel
theorem dX11_two_21 : decode cX11_two 21 = .ok (.ifCond .eq 22, 3) := by decide +kernel
theorem dX11_two_24 : decode cX11_two 24 = .ok (.iload_n 1, 1) := by decide +kernel
theorem dX11_two_25 : decode cX11_two 25 = .ok (.iload_n 2, 1) := by decide +kernel
theorem dX11_two_26 : decode cX11_two 26 = .ok (.if_icmp .eq 17, 3) := by decide +kernel
theorem dX11_two_29 : decode cX11_two 29 = .ok (.iload_n 1, 1) := by decide +kernel
theorem dX11_two_30 : decode cX11_two 30 = .ok (.iload_n 3, 1) := by decide +kernel
theorem dX11_two_31 : decode cX11_two 31 = .ok (.if_icmp .eq 12, 3) := by decide +kernel
theorem dX11_two_34 : decode cX11_two 34 = .ok (.iload_n 2, 1) := by decide +kernel
theorem dX11_two_35 : decode cX11_two 35 = .ok (.iload_n 3, 1) := by decide +kernel
theorem dX11_two_36 : decode cX11_two 36 = .ok (.if_icmp .eq 7, 3) := by decide +kernel
theorem dX11_two_39 : decode cX11_two 39 = .ok (.iconst 1, 1) := by decide +kernel
theorem dX11_two_40 : decode cX11_two 40 = .ok (.goto 4, 3) := by decide +kernel
theorem dX11_two_43 : decode cX11_two 43 = .ok (.iconst 0, 1) := by decide +kernel
theorem dX11_two_44 : decode cX11_two 44 = .ok (.istore 5, 2) := by decide +kernel
theorem dX11_two_46 : decode cX11_two 46 = .ok (.iload 5, 2) := by decide +kernel
theorem dX11_two_48 : decode cX11_two 48 = .ok (.ifCond .ne 7, 3) := by decide +kernel
theorem dX11_two_51 : decode cX11_two 51 = .ok (.iconst (-1), 1) := by decide +kernel
theorem dX11_two_52 : decode cX11_two 52 = .ok (.goto 58, 3) := by decide +kernel
theorem dX11_two_55 : decode cX11_two 55 = .ok (.iload 4, 2) := by decide +kernel
theorem dX11_two_57 : decode cX11_two 57 = .ok (.iconst 0, 1) := by decide +kernel
theorem dX11_two_58 : decode cX11_two 58 = .ok (.iconst 2, 1) := by decide +kernel
theorem dX11_two_59 : decode cX11_two 59 = .ok (.invokestatic 91, 3) := by decide +kernel
theorem dX11_two_62 : decode cX11_two 62 = .ok (.ifCond .ne 8, 3) := by decide +kernel
theorem dX11_two_65 : decode cX11_two 65 = .ok (.bipush (-2), 2) := by decide +kernel
theorem dX11_two_67 : decode cX11_two 67 = .ok (.goto 43, 3) := by decide +kernel
theorem dX11_two_70 : decode cX11_two 70 = .ok (.aload_n 0, 1) := by decide +kernel
theorem dX11_two_71 : decode cX11_two 71 = .ok (.iload_n 1, 1) := by decide +kernel
theorem dX11_two_72 : decode cX11_two 72 = .ok (.iload_n 3, 1) := by decide +kernel
theorem dX11_two_73 : decode cX11_two 73 = .ok (.invokevirtual 186, 3) := by decide +kernel
theorem dX11_two_76 : decode cX11_two 76 = .ok (.ifCond .eq 28, 3) := by decide +kernel
theorem dX11_two_79 : decode cX11_two 79 = .ok (.aload_n 0, 1) := by decide +kernel
theorem dX11_two_80 : decode cX11_two 80 = .ok (.iload_n 2, 1) := by decide +kernel
theorem dX11_two_81 : decode cX11_two 81 = .ok (.iload_n 3, 1) := by decide +kernel
theorem dX11_two_82 : decode cX11_two 82 = .ok (.invokevirtual 186, 3) := by decide +kernel
theorem dX11_two_85 : decode cX11_two 85 = .ok (.ifCond .eq 19, 3) := by decide +kernel
theorem dX11_two_88 : decode cX11_two 88 = .ok (.aload_n 0, 1) := by decide +kernel
theorem dX11_two_89 : decode cX11_two 89 = .ok (.iload_n 1, 1) := by decide +kernel
theorem dX11_two_90 : decode cX11_two 90 = .ok (.invokevirtual 127, 3) := by decide +kernel
theorem dX11_two_93 : decode cX11_two 93 = .ok (.ifCond .eq 11, 3) := by decide +kernel
theorem dX11_two_96 : decode cX11_two 96 = .ok (.aload_n 0, 1) := by decide +kernel
theorem dX11_two_97 : decode cX11_two 97 = .ok (.iload_n 2, 1) := by decide +kernel
theorem dX11_two_98 : decode cX11_two 98 = .ok (.invokevirtual 127, 3) := by decide +kernel
theorem dX11_two_101 : decode cX11_two 101 = .ok (.ifCond .ne 8, 3) := by decide +kernel
theorem dX11_two_104 : decode cX11_two 104 = .ok (.bipush (-3), 2) := by decide +kernel
theorem dX11_two_106 : decode cX11_two 106 = .ok (.goto 4, 3) := by decide +kernel
theorem dX11_two_109 : decode cX11_two 109 = .ok (.iconst 0, 1) := by decide +kernel
theorem dX11_two_110 : decode cX11_two 110 = .ok (.istore 6, 2) := by decide +kernel
theorem dX11_two_112 : decode cX11_two 112 = .ok (.iload 6, 2) := by decide +kernel
theorem dX11_two_114 : decode cX11_two 114 = .ok (.ifCond .eq 10, 3) := by decide +kernel
theorem dX11_two_117 : decode cX11_two 117 = .ok (.aload_n 0, 1) := by decide +kernel
theorem dX11_two_118 : decode cX11_two 118 = .ok (.iload 6, 2) := by decide +kernel
theorem dX11_two_120 : decode cX11_two 120 = .ok (.invokevirtual 80, 3) := by decide +kernel
theorem dX11_two_123 : decode cX11_two 123 = .ok (.ireturn, 1) := by decide +kernel
theorem dX11_two_124 : decode cX11_two 124 = .ok (.sipush 1600, 3) := by decide +kernel
theorem dX11_two_127 : decode cX11_two 127 = .ok (.bipush 40, 2) := by decide +kernel
theorem dX11_two_129 : decode cX11_two 129 = .ok (.aload_n 0, 1) := by decide +kernel
theorem dX11_two_130 : decode cX11_two 130 = .ok (.iload_n 1, 1) := by decide +kernel
theorem dX11_two_131 : decode cX11_two 131 = .ok (.iload_n 3, 1) := by decide +kernel
theorem dX11_two_132 : decode cX11_two 132 = .ok (.iload 4, 2) := by decide +kernel
theorem dX11_two_134 : decode cX11_two 134 = .ok (.invokevirtual 189, 3) := by decide +kernel
theorem dX11_two_137 : decode cX11_two 137 = .ok (.isub, 1) := by decide +kernel
theorem dX11_two_138 : decode cX11_two 138 = .ok (.bipush 40, 2) := by decide +kernel
theorem dX11_two_140 : decode cX11_two 140 = .ok (.aload_n 0, 1) := by decide +kernel
theorem dX11_two_141 : decode cX11_two 141 = .ok (.iload_n 2, 1) := by decide +kernel
theorem dX11_two_142 : decode cX11_two 142 = .ok (.iload_n 3, 1) := by decide +kernel
theorem dX11_two_143 : decode cX11_two 143 = .ok (.iload 4, 2) := by decide +kernel
theorem dX11_two_145 : decode cX11_two 145 = .ok (.invokevirtual 189, 3) := by decide +kernel
theorem dX11_two_148 : decode cX11_two 148 = .ok (.isub, 1) := by decide +kernel
theorem dX11_two_149 : decode cX11_two 149 = .ok (.imul, 1) := by decide +kernel
theorem dX11_two_150 : decode cX11_two 150 = .ok (.isub, 1) := by decide +kernel
theorem dX11_two_151 : decode cX11_two 151 = .ok (.ireturn, 1) := by decide +kernel
set_option maxRecDepth 20000 in
theorem ggX11_sumAt_X11_areAgainst : GoodIn wsX11_sumAt wsX11_areAgainst := goodIn_r _ [7, 2, 8, 9, 10, 6, 11, 12, 13, 14, 15, 16, 1, 53, 54, 55, 56, 57, 58, 59, 60, 61, 62, 63, 64, 65, 66, 67, 68, 69, 70, 71, 72, 73, 74, 75, 76, 77, 78, 79, 80] (by decide +kernel) (by decide +kernel)
set_option maxRecDepth 20000 in
theorem gX11_sumAt_X11_areAgainst : GoodIn wsX11_sumAt (wsV RX11 186 RX11 yX11_areAgainst wsX11_areAgainst) := goodIn_app (goodIn_of _ (by decide +kernel)) ggX11_sumAt_X11_areAgainst
set_option maxRecDepth 20000 in
theorem ggX11_sumAt_X11_hitOf : GoodIn wsX11_sumAt wsX11_hitOf := goodIn_r _ [20, 21, 22, 23, 6, 24, 25, 26, 27, 28, 29, 30, 31, 32, 33, 34, 35, 36, 37, 38, 39, 40, 53, 54, 55, 56, 57, 58, 59, 60, 61, 62, 63, 64, 65, 66, 67, 68, 69, 70, 71, 72, 73, 74, 75, 76, 77, 78, 79, 80] (by decide +kernel) (by decide +kernel)
set_option maxRecDepth 20000 in
theorem gX11_sumAt_X11_hitOf : GoodIn wsX11_sumAt (wsV RX11 189 RX11 yX11_hitOf wsX11_hitOf) := goodIn_app (goodIn_of _ (by decide +kernel)) ggX11_sumAt_X11_hitOf
set_option maxRecDepth 20000 in
theorem ggX11_sumAt_X11_caughtOf : GoodIn wsX11_sumAt wsX11_caughtOf := goodIn_r _ [44, 45, 46, 47, 6, 48, 26, 35, 25, 12, 2, 49, 50, 51, 52, 1, 28, 29, 30, 53, 54, 55, 56, 57, 58, 59, 60, 61, 62, 63, 64, 65, 66, 67, 68, 69, 70, 71, 72, 73, 74, 75, 76, 77, 78, 79, 80] (by decide +kernel) (by decide +kernel)
set_option maxRecDepth 20000 in
theorem gX11_sumAt_X11_caughtOf : GoodIn wsX11_sumAt (wsV RX11 192 RX11 yX11_caughtOf wsX11_caughtOf) := goodIn_app (goodIn_of _ (by decide +kernel)) ggX11_sumAt_X11_caughtOf
theorem dX11_sumAt_0 : decode cX11_sumAt 0 = .ok (.iconst 0, 1) := by decide +kernel
theorem dX11_sumAt_1 : decode cX11_sumAt 1 = .ok (.istore_n 2, 1) := by decide +kernel
theorem dX11_sumAt_2 : decode cX11_sumAt 2 = .ok (.iconst 0, 1) := by decide +kernel
theorem dX11_sumAt_3 : decode cX11_sumAt 3 = .ok (.istore_n 3, 1) := by decide +kernel
theorem dX11_sumAt_4 : decode cX11_sumAt 4 = .ok (.iload_n 3, 1) := by decide +kernel
theorem dX11_sumAt_5 : decode cX11_sumAt 5 = .ok (.aload_n 0, 1) := by decide +kernel
theorem dX11_sumAt_6 : decode cX11_sumAt 6 = .ok (.getfield 65, 3) := by decide +kernel
theorem dX11_sumAt_9 : decode cX11_sumAt 9 = .ok (.if_icmp .ge 69, 3) := by decide +kernel
theorem dX11_sumAt_12 : decode cX11_sumAt 12 = .ok (.iconst 0, 1) := by decide +kernel
theorem dX11_sumAt_13 : decode cX11_sumAt 13 = .ok (.istore 4, 2) := by decide +kernel
theorem dX11_sumAt_15 : decode cX11_sumAt 15 = .ok (.iload 4, 2) := by decide +kernel
theorem dX11_sumAt_17 : decode cX11_sumAt 17 = .ok (.aload_n 0, 1) := by decide +kernel
theorem dX11_sumAt_18 : decode cX11_sumAt 18 = .ok (.getfield 65, 3) := by decide +kernel
theorem dX11_sumAt_21 : decode cX11_sumAt 21 = .ok (.if_icmp .ge 51, 3) := by decide +kernel
theorem dX11_sumAt_24 : decode cX11_sumAt 24 = .ok (.aload_n 0, 1) := by decide +kernel
theorem dX11_sumAt_25 : decode cX11_sumAt 25 = .ok (.getfield 13, 3) := by decide +kernel
theorem dX11_sumAt_28 : decode cX11_sumAt 28 = .ok (.iload 4, 2) := by decide +kernel
theorem dX11_sumAt_30 : decode cX11_sumAt 30 = .ok (.iaload, 1) := by decide +kernel
theorem dX11_sumAt_31 : decode cX11_sumAt 31 = .ok (.iload_n 1, 1) := by decide +kernel
theorem dX11_sumAt_32 : decode cX11_sumAt 32 = .ok (.if_icmp .ne 34, 3) := by decide +kernel
theorem dX11_sumAt_35 : decode cX11_sumAt 35 = .ok (.aload_n 0, 1) := by decide +kernel
theorem dX11_sumAt_36 : decode cX11_sumAt 36 = .ok (.iload_n 3, 1) := by decide +kernel
theorem dX11_sumAt_37 : decode cX11_sumAt 37 = .ok (.iload 4, 2) := by decide +kernel
theorem dX11_sumAt_39 : decode cX11_sumAt 39 = .ok (.invokevirtual 186, 3) := by decide +kernel
theorem dX11_sumAt_42 : decode cX11_sumAt 42 = .ok (.ifCond .eq 24, 3) := by decide +kernel
theorem dX11_sumAt_45 : decode cX11_sumAt 45 = .ok (.iload_n 2, 1) := by decide +kernel
theorem dX11_sumAt_46 : decode cX11_sumAt 46 = .ok (.aload_n 0, 1) := by decide +kernel
theorem dX11_sumAt_47 : decode cX11_sumAt 47 = .ok (.iload_n 3, 1) := by decide +kernel
theorem dX11_sumAt_48 : decode cX11_sumAt 48 = .ok (.iload 4, 2) := by decide +kernel
theorem dX11_sumAt_50 : decode cX11_sumAt 50 = .ok (.iconst 0, 1) := by decide +kernel
theorem dX11_sumAt_51 : decode cX11_sumAt 51 = .ok (.invokevirtual 189, 3) := by decide +kernel
theorem dX11_sumAt_54 : decode cX11_sumAt 54 = .ok (.iconst 2, 1) := by decide +kernel
theorem dX11_sumAt_55 : decode cX11_sumAt 55 = .ok (.aload_n 0, 1) := by decide +kernel
theorem dX11_sumAt_56 : decode cX11_sumAt 56 = .ok (.iload 4, 2) := by decide +kernel
theorem dX11_sumAt_58 : decode cX11_sumAt 58 = .ok (.iconst 0, 1) := by decide +kernel
theorem dX11_sumAt_59 : decode cX11_sumAt 59 = .ok (.invokevirtual 192, 3) := by decide +kernel
theorem dX11_sumAt_62 : decode cX11_sumAt 62 = .ok (.imul, 1) := by decide +kernel
theorem dX11_sumAt_63 : decode cX11_sumAt 63 = .ok (.isub, 1) := by decide +kernel
theorem dX11_sumAt_64 : decode cX11_sumAt 64 = .ok (.iadd, 1) := by decide +kernel
theorem dX11_sumAt_65 : decode cX11_sumAt 65 = .ok (.istore_n 2, 1) := by decide +kernel
theorem dX11_sumAt_66 : decode cX11_sumAt 66 = .ok (.iinc 4 1, 3) := by decide +kernel
theorem dX11_sumAt_69 : decode cX11_sumAt 69 = .ok (.goto (-54), 3) := by decide +kernel
theorem dX11_sumAt_72 : decode cX11_sumAt 72 = .ok (.iinc 3 1, 3) := by decide +kernel
theorem dX11_sumAt_75 : decode cX11_sumAt 75 = .ok (.goto (-71), 3) := by decide +kernel
theorem dX11_sumAt_78 : decode cX11_sumAt 78 = .ok (.iload_n 2, 1) := by decide +kernel
theorem dX11_sumAt_79 : decode cX11_sumAt 79 = .ok (.ireturn, 1) := by decide +kernel
set_option maxRecDepth 20000 in
theorem ggX11_worth_X11_isPlayer : GoodIn wsX11_worth wsX11_isPlayer := goodIn_r _ [8, 9, 64, 65, 66, 67, 68, 69, 70, 71, 72, 73, 74, 75, 76, 77, 78, 79, 80, 81, 82, 83, 84, 85, 86, 87, 88, 89, 90, 91] (by decide +kernel) (by decide +kernel)
set_option maxRecDepth 20000 in
theorem gX11_worth_X11_isPlayer : GoodIn wsX11_worth (wsV RX11 69 RX11 yX11_isPlayer wsX11_isPlayer) := goodIn_app (goodIn_of _ (by decide +kernel)) ggX11_worth_X11_isPlayer
set_option maxRecDepth 20000 in
theorem ggX11_worth_X11_isHere : GoodIn wsX11_worth wsX11_isHere := goodIn_r _ [13, 2, 4, 5, 6, 7, 8, 9, 64, 65, 66, 67, 68, 69, 70, 71, 72, 73, 74, 75, 76, 77, 78, 79, 80, 81, 82, 83, 84, 85, 86, 87, 88, 89, 90, 91] (by decide +kernel) (by decide +kernel)
set_option maxRecDepth 20000 in
theorem gX11_worth_X11_isHere : GoodIn wsX11_worth (wsV RX11 124 RX11 yX11_isHere wsX11_isHere) := goodIn_app (goodIn_of _ (by decide +kernel)) ggX11_worth_X11_isHere
set_option maxRecDepth 20000 in
theorem ggX11_worth_X11_lower : GoodIn wsX11_worth wsX11_lower := goodIn_r _ [17, 18, 19, 64, 65, 66, 67, 68, 69, 70, 71, 72, 73, 74, 75, 76, 77, 78, 79, 80, 81, 82, 83, 84, 85, 86, 87, 88, 89, 90, 91] (by decide +kernel) (by decide +kernel)
set_option maxRecDepth 20000 in
theorem gX11_worth_X11_lower : GoodIn wsX11_worth (wsV RX11 209 RX11 yX11_lower wsX11_lower) := goodIn_app (goodIn_of _ (by decide +kernel)) ggX11_worth_X11_lower
set_option maxRecDepth 20000 in
theorem ggX11_worth_X11_sumAt : GoodIn wsX11_worth wsX11_sumAt := goodIn_r _ [23, 9, 1, 24, 25, 26, 7, 27, 10, 11, 12, 13, 2, 4, 5, 6, 8, 28, 29, 30, 31, 32, 33, 34, 35, 36, 37, 38, 39, 40, 41, 42, 43, 44, 45, 46, 47, 48, 49, 50, 51, 52, 53, 54, 55, 56, 57, 58, 59, 60, 61, 62, 63, 64, 65, 66, 67, 68, 69, 70, 71, 72, 73, 74, 75, 76, 77, 78, 79, 80, 81, 82, 83, 84, 85, 86, 87, 88, 89, 90, 91] (by decide +kernel) (by decide +kernel)
set_option maxRecDepth 20000 in
theorem gX11_worth_X11_sumAt : GoodIn wsX11_worth (wsV RX11 212 RX11 yX11_sumAt wsX11_sumAt) := goodIn_app (goodIn_of _ (by decide +kernel)) ggX11_worth_X11_sumAt
theorem dX11_worth_0 : decode cX11_worth 0 = .ok (.aload_n 0, 1) := by decide +kernel
theorem dX11_worth_1 : decode cX11_worth 1 = .ok (.iload_n 1, 1) := by decide +kernel
theorem dX11_worth_2 : decode cX11_worth 2 = .ok (.invokevirtual 69, 3) := by decide +kernel
theorem dX11_worth_5 : decode cX11_worth 5 = .ok (.ifCond .ne 7, 3) := by decide +kernel
theorem dX11_worth_8 : decode cX11_worth 8 = .ok (.iconst (-1), 1) := by decide +kernel
theorem dX11_worth_9 : decode cX11_worth 9 = .ok (.goto 17, 3) := by decide +kernel
theorem dX11_worth_12 : decode cX11_worth 12 = .ok (.aload_n 0, 1) := by decide +kernel
theorem dX11_worth_13 : decode cX11_worth 13 = .ok (.iload_n 1, 1) := by decide +kernel
theorem dX11_worth_14 : decode cX11_worth 14 = .ok (.invokevirtual 124, 3) := by decide +kernel
theorem dX11_worth_17 : decode cX11_worth 17 = .ok (.ifCond .ne 8, 3) := by decide +kernel
theorem dX11_worth_20 : decode cX11_worth 20 = .ok (.bipush (-3), 2) := by decide +kernel
theorem dX11_worth_22 : decode cX11_worth 22 = .ok (.goto 4, 3) := by decide +kernel
theorem dX11_worth_25 : decode cX11_worth 25 = .ok (.iconst 0, 1) := by decide +kernel
theorem dX11_worth_26 : decode cX11_worth 26 = .ok (.istore_n 2, 1) := by decide +kernel
theorem dX11_worth_27 : decode cX11_worth 27 = .ok (.iload_n 2, 1) := by decide +kernel
theorem dX11_worth_28 : decode cX11_worth 28 = .ok (.ifCond .eq 9, 3) := by decide +kernel
theorem dX11_worth_31 : decode cX11_worth 31 = .ok (.aload_n 0, 1) := by decide +kernel
theorem dX11_worth_32 : decode cX11_worth 32 = .ok (.iload_n 2, 1) := by decide +kernel
theorem dX11_worth_33 : decode cX11_worth 33 = .ok (.invokevirtual 209, 3) := by decide +kernel
theorem dX11_worth_36 : decode cX11_worth 36 = .ok (.ireturn, 1) := by decide +kernel
theorem dX11_worth_37 : decode cX11_worth 37 = .ok (.aload_n 0, 1) := by decide +kernel
theorem dX11_worth_38 : decode cX11_worth 38 = .ok (.aload_n 0, 1) := by decide +kernel
theorem dX11_worth_39 : decode cX11_worth 39 = .ok (.getfield 13, 3) := by decide +kernel
theorem dX11_worth_42 : decode cX11_worth 42 = .ok (.iload_n 1, 1) := by decide +kernel
theorem dX11_worth_43 : decode cX11_worth 43 = .ok (.iaload, 1) := by decide +kernel
theorem dX11_worth_44 : decode cX11_worth 44 = .ok (.invokevirtual 212, 3) := by decide +kernel
theorem dX11_worth_47 : decode cX11_worth 47 = .ok (.istore_n 3, 1) := by decide +kernel
theorem dX11_worth_48 : decode cX11_worth 48 = .ok (.aload_n 0, 1) := by decide +kernel
theorem dX11_worth_49 : decode cX11_worth 49 = .ok (.getfield 25, 3) := by decide +kernel
theorem dX11_worth_52 : decode cX11_worth 52 = .ok (.iload_n 1, 1) := by decide +kernel
theorem dX11_worth_53 : decode cX11_worth 53 = .ok (.aload_n 0, 1) := by decide +kernel
theorem dX11_worth_54 : decode cX11_worth 54 = .ok (.getfield 111, 3) := by decide +kernel
theorem dX11_worth_57 : decode cX11_worth 57 = .ok (.iconst 1, 1) := by decide +kernel
theorem dX11_worth_58 : decode cX11_worth 58 = .ok (.iadd, 1) := by decide +kernel
theorem dX11_worth_59 : decode cX11_worth 59 = .ok (.iastore, 1) := by decide +kernel
theorem dX11_worth_60 : decode cX11_worth 60 = .ok (.aload_n 0, 1) := by decide +kernel
theorem dX11_worth_61 : decode cX11_worth 61 = .ok (.aload_n 0, 1) := by decide +kernel
theorem dX11_worth_62 : decode cX11_worth 62 = .ok (.getfield 13, 3) := by decide +kernel
theorem dX11_worth_65 : decode cX11_worth 65 = .ok (.iload_n 1, 1) := by decide +kernel
theorem dX11_worth_66 : decode cX11_worth 66 = .ok (.iaload, 1) := by decide +kernel
theorem dX11_worth_67 : decode cX11_worth 67 = .ok (.invokevirtual 212, 3) := by decide +kernel
theorem dX11_worth_70 : decode cX11_worth 70 = .ok (.istore 4, 2) := by decide +kernel
theorem dX11_worth_72 : decode cX11_worth 72 = .ok (.aload_n 0, 1) := by decide +kernel
theorem dX11_worth_73 : decode cX11_worth 73 = .ok (.getfield 25, 3) := by decide +kernel
theorem dX11_worth_76 : decode cX11_worth 76 = .ok (.iload_n 1, 1) := by decide +kernel
theorem dX11_worth_77 : decode cX11_worth 77 = .ok (.iconst 0, 1) := by decide +kernel
theorem dX11_worth_78 : decode cX11_worth 78 = .ok (.iastore, 1) := by decide +kernel
theorem dX11_worth_79 : decode cX11_worth 79 = .ok (.iload 4, 2) := by decide +kernel
theorem dX11_worth_81 : decode cX11_worth 81 = .ok (.iload_n 3, 1) := by decide +kernel
theorem dX11_worth_82 : decode cX11_worth 82 = .ok (.isub, 1) := by decide +kernel
theorem dX11_worth_83 : decode cX11_worth 83 = .ok (.ireturn, 1) := by decide +kernel
theorem dX11_goesDuel_0 : decode cX11_goesDuel 0 = .ok (.iconst 0, 1) := by decide +kernel
theorem dX11_goesDuel_1 : decode cX11_goesDuel 1 = .ok (.istore 4, 2) := by decide +kernel
theorem dX11_goesDuel_3 : decode cX11_goesDuel 3 = .ok (.iload 4, 2) := by decide +kernel
theorem dX11_goesDuel_5 : decode cX11_goesDuel 5 = .ok (.bipush 25, 2) := by decide +kernel
theorem dX11_goesDuel_7 : decode cX11_goesDuel 7 = .ok (.if_icmp .ge 17, 3) := by decide +kernel
theorem dX11_goesDuel_10 : decode cX11_goesDuel 10 = .ok (.aload_n 0, 1) := by decide +kernel
theorem dX11_goesDuel_11 : decode cX11_goesDuel 11 = .ok (.getfield 56, 3) := by decide +kernel
theorem dX11_goesDuel_14 : decode cX11_goesDuel 14 = .ok (.iload 4, 2) := by decide +kernel
theorem dX11_goesDuel_16 : decode cX11_goesDuel 16 = .ok (.lconst 0, 1) := by decide +kernel
theorem dX11_goesDuel_17 : decode cX11_goesDuel 17 = .ok (.lastore, 1) := by decide +kernel
theorem dX11_goesDuel_18 : decode cX11_goesDuel 18 = .ok (.iinc 4 1, 3) := by decide +kernel
theorem dX11_goesDuel_21 : decode cX11_goesDuel 21 = .ok (.goto (-18), 3) := by decide +kernel
theorem dX11_goesDuel_24 : decode cX11_goesDuel 24 = .ok (.iconst 0, 1) := by decide +kernel
theorem dX11_goesDuel_25 : decode cX11_goesDuel 25 = .ok (.istore 4, 2) := by decide +kernel
theorem dX11_goesDuel_27 : decode cX11_goesDuel 27 = .ok (.iload 4, 2) := by decide +kernel
theorem dX11_goesDuel_29 : decode cX11_goesDuel 29 = .ok (.bipush 25, 2) := by decide +kernel
theorem dX11_goesDuel_31 : decode cX11_goesDuel 31 = .ok (.if_icmp .ge 138, 3) := by decide +kernel
theorem dX11_goesDuel_34 : decode cX11_goesDuel 34 = .ok (.iload 4, 2) := by decide +kernel
theorem dX11_goesDuel_36 : decode cX11_goesDuel 36 = .ok (.iconst 5, 1) := by decide +kernel
theorem dX11_goesDuel_37 : decode cX11_goesDuel 37 = .ok (.idiv, 1) := by decide +kernel
theorem dX11_goesDuel_38 : decode cX11_goesDuel 38 = .ok (.ifCond .eq 10, 3) := by decide +kernel
theorem dX11_goesDuel_41 : decode cX11_goesDuel 41 = .ok (.iload 4, 2) := by decide +kernel
theorem dX11_goesDuel_43 : decode cX11_goesDuel 43 = .ok (.iconst 5, 1) := by decide +kernel
theorem dX11_goesDuel_44 : decode cX11_goesDuel 44 = .ok (.irem, 1) := by decide +kernel
theorem dX11_goesDuel_45 : decode cX11_goesDuel 45 = .ok (.ifCond .ne 27, 3) := by decide +kernel
theorem dX11_goesDuel_48 : decode cX11_goesDuel 48 = .ok (.aload_n 0, 1) := by decide +kernel
theorem dX11_goesDuel_49 : decode cX11_goesDuel 49 = .ok (.getfield 56, 3) := by decide +kernel
theorem dX11_goesDuel_52 : decode cX11_goesDuel 52 = .ok (.iload 4, 2) := by decide +kernel
theorem dX11_goesDuel_54 : decode cX11_goesDuel 54 = .ok (.dup2, 1) := by decide +kernel
theorem dX11_goesDuel_55 : decode cX11_goesDuel 55 = .ok (.laload, 1) := by decide +kernel
theorem dX11_goesDuel_56 : decode cX11_goesDuel 56 = .ok (.ldc2_w 215, 3) := by decide +kernel
theorem dX11_goesDuel_59 : decode cX11_goesDuel 59 = .ok (.aload_n 0, 1) := by decide +kernel
theorem dX11_goesDuel_60 : decode cX11_goesDuel 60 = .ok (.getfield 52, 3) := by decide +kernel
theorem dX11_goesDuel_63 : decode cX11_goesDuel 63 = .ok (.iload 4, 2) := by decide +kernel
theorem dX11_goesDuel_65 : decode cX11_goesDuel 65 = .ok (.laload, 1) := by decide +kernel
theorem dX11_goesDuel_66 : decode cX11_goesDuel 66 = .ok (.lmul, 1) := by decide +kernel
theorem dX11_goesDuel_67 : decode cX11_goesDuel 67 = .ok (.ladd, 1) := by decide +kernel
theorem dX11_goesDuel_68 : decode cX11_goesDuel 68 = .ok (.lastore, 1) := by decide +kernel
theorem dX11_goesDuel_69 : decode cX11_goesDuel 69 = .ok (.goto 94, 3) := by decide +kernel
theorem dX11_goesDuel_72 : decode cX11_goesDuel 72 = .ok (.aload_n 0, 1) := by decide +kernel
theorem dX11_goesDuel_73 : decode cX11_goesDuel 73 = .ok (.getfield 56, 3) := by decide +kernel
theorem dX11_goesDuel_76 : decode cX11_goesDuel 76 = .ok (.iload_n 3, 1) := by decide +kernel
theorem dX11_goesDuel_77 : decode cX11_goesDuel 77 = .ok (.ifCond .eq 10, 3) := by decide +kernel
theorem dX11_goesDuel_80 : decode cX11_goesDuel 80 = .ok (.iload 4, 2) := by decide +kernel
theorem dX11_goesDuel_82 : decode cX11_goesDuel 82 = .ok (.iconst 1, 1) := by decide +kernel
theorem dX11_goesDuel_83 : decode cX11_goesDuel 83 = .ok (.isub, 1) := by decide +kernel
theorem dX11_goesDuel_84 : decode cX11_goesDuel 84 = .ok (.goto 7, 3) := by decide +kernel
theorem dX11_goesDuel_87 : decode cX11_goesDuel 87 = .ok (.iload 4, 2) := by decide +kernel
theorem dX11_goesDuel_89 : decode cX11_goesDuel 89 = .ok (.iconst 5, 1) := by decide +kernel
theorem dX11_goesDuel_90 : decode cX11_goesDuel 90 = .ok (.isub, 1) := by decide +kernel
theorem dX11_goesDuel_91 : decode cX11_goesDuel 91 = .ok (.dup2, 1) := by decide +kernel
theorem dX11_goesDuel_92 : decode cX11_goesDuel 92 = .ok (.laload, 1) := by decide +kernel
theorem dX11_goesDuel_93 : decode cX11_goesDuel 93 = .ok (.iload_n 1, 1) := by decide +kernel
theorem dX11_goesDuel_94 : decode cX11_goesDuel 94 = .ok (.i2l, 1) := by decide +kernel
theorem dX11_goesDuel_95 : decode cX11_goesDuel 95 = .ok (.aload_n 0, 1) := by decide +kernel
theorem dX11_goesDuel_96 : decode cX11_goesDuel 96 = .ok (.getfield 52, 3) := by decide +kernel
theorem dX11_goesDuel_99 : decode cX11_goesDuel 99 = .ok (.iload 4, 2) := by decide +kernel
theorem dX11_goesDuel_101 : decode cX11_goesDuel 101 = .ok (.laload, 1) := by decide +kernel
theorem dX11_goesDuel_102 : decode cX11_goesDuel 102 = .ok (.lmul, 1) := by decide +kernel
theorem dX11_goesDuel_103 : decode cX11_goesDuel 103 = .ok (.ladd, 1) := by decide +kernel
theorem dX11_goesDuel_104 : decode cX11_goesDuel 104 = .ok (.lastore, 1) := by decide +kernel
theorem dX11_goesDuel_105 : decode cX11_goesDuel 105 = .ok (.aload_n 0, 1) := by decide +kernel
theorem dX11_goesDuel_106 : decode cX11_goesDuel 106 = .ok (.getfield 56, 3) := by decide +kernel
theorem dX11_goesDuel_109 : decode cX11_goesDuel 109 = .ok (.iload_n 3, 1) := by decide +kernel
theorem dX11_goesDuel_110 : decode cX11_goesDuel 110 = .ok (.ifCond .eq 10, 3) := by decide +kernel
theorem dX11_goesDuel_113 : decode cX11_goesDuel 113 = .ok (.iload 4, 2) := by decide +kernel
theorem dX11_goesDuel_115 : decode cX11_goesDuel 115 = .ok (.iconst 5, 1) := by decide +kernel
theorem dX11_goesDuel_116 : decode cX11_goesDuel 116 = .ok (.isub, 1) := by decide +kernel
theorem dX11_goesDuel_117 : decode cX11_goesDuel 117 = .ok (.goto 7, 3) := by decide +kernel
theorem dX11_goesDuel_120 : decode cX11_goesDuel 120 = .ok (.iload 4, 2) := by decide +kernel
theorem dX11_goesDuel_122 : decode cX11_goesDuel 122 = .ok (.iconst 1, 1) := by decide +kernel
theorem dX11_goesDuel_123 : decode cX11_goesDuel 123 = .ok (.isub, 1) := by decide +kernel
theorem dX11_goesDuel_124 : decode cX11_goesDuel 124 = .ok (.dup2, 1) := by decide +kernel
theorem dX11_goesDuel_125 : decode cX11_goesDuel 125 = .ok (.laload, 1) := by decide +kernel
theorem dX11_goesDuel_126 : decode cX11_goesDuel 126 = .ok (.iload_n 2, 1) := by decide +kernel
theorem dX11_goesDuel_127 : decode cX11_goesDuel 127 = .ok (.i2l, 1) := by decide +kernel
theorem dX11_goesDuel_128 : decode cX11_goesDuel 128 = .ok (.aload_n 0, 1) := by decide +kernel
theorem dX11_goesDuel_129 : decode cX11_goesDuel 129 = .ok (.getfield 52, 3) := by decide +kernel
theorem dX11_goesDuel_132 : decode cX11_goesDuel 132 = .ok (.iload 4, 2) := by decide +kernel
theorem dX11_goesDuel_134 : decode cX11_goesDuel 134 = .ok (.laload, 1) := by decide +kernel
theorem dX11_goesDuel_135 : decode cX11_goesDuel 135 = .ok (.lmul, 1) := by decide +kernel
theorem dX11_goesDuel_136 : decode cX11_goesDuel 136 = .ok (.ladd, 1) := by decide +kernel
theorem dX11_goesDuel_137 : decode cX11_goesDuel 137 = .ok (.lastore, 1) := by decide +kernel
theorem dX11_goesDuel_138 : decode cX11_goesDuel 138 = .ok (.aload_n 0, 1) := by decide +kernel
theorem dX11_goesDuel_139 : decode cX11_goesDuel 139 = .ok (.getfield 56, 3) := by decide +kernel
theorem dX11_goesDuel_142 : decode cX11_goesDuel 142 = .ok (.iload 4, 2) := by decide +kernel
theorem dX11_goesDuel_144 : decode cX11_goesDuel 144 = .ok (.dup2, 1) := by decide +kernel
theorem dX11_goesDuel_145 : decode cX11_goesDuel 145 = .ok (.laload, 1) := by decide +kernel
theorem dX11_goesDuel_146 : decode cX11_goesDuel 146 = .ok (.bipush 40, 2) := by decide +kernel
theorem dX11_goesDuel_148 : decode cX11_goesDuel 148 = .ok (.iload_n 1, 1) := by decide +kernel
theorem dX11_goesDuel_149 : decode cX11_goesDuel 149 = .ok (.isub, 1) := by decide +kernel
theorem dX11_goesDuel_150 : decode cX11_goesDuel 150 = .ok (.iload_n 2, 1) := by decide +kernel
theorem dX11_goesDuel_151 : decode cX11_goesDuel 151 = .ok (.isub, 1) := by decide +kernel
theorem dX11_goesDuel_152 : decode cX11_goesDuel 152 = .ok (.i2l, 1) := by decide +kernel
theorem dX11_goesDuel_153 : decode cX11_goesDuel 153 = .ok (.aload_n 0, 1) := by decide +kernel
theorem dX11_goesDuel_154 : decode cX11_goesDuel 154 = .ok (.getfield 52, 3) := by decide +kernel
theorem dX11_goesDuel_157 : decode cX11_goesDuel 157 = .ok (.iload 4, 2) := by decide +kernel
theorem dX11_goesDuel_159 : decode cX11_goesDuel 159 = .ok (.laload, 1) := by decide +kernel
theorem dX11_goesDuel_160 : decode cX11_goesDuel 160 = .ok (.lmul, 1) := by decide +kernel
theorem dX11_goesDuel_161 : decode cX11_goesDuel 161 = .ok (.ladd, 1) := by decide +kernel
theorem dX11_goesDuel_162 : decode cX11_goesDuel 162 = .ok (.lastore, 1) := by decide +kernel
theorem dX11_goesDuel_163 : decode cX11_goesDuel 163 = .ok (.iinc 4 1, 3) := by decide +kernel
theorem dX11_goesDuel_166 : decode cX11_goesDuel 166 = .ok (.goto (-139), 3) := by decide +kernel
theorem dX11_goesDuel_169 : decode cX11_goesDuel 169 = .ok (.iconst 0, 1) := by decide +kernel
theorem dX11_goesDuel_170 : decode cX11_goesDuel 170 = .ok (.istore 4, 2) := by decide +kernel
theorem dX11_goesDuel_172 : decode cX11_goesDuel 172 = .ok (.iload 4, 2) := by decide +kernel
theorem dX11_goesDuel_174 : decode cX11_goesDuel 174 = .ok (.bipush 25, 2) := by decide +kernel
theorem dX11_goesDuel_176 : decode cX11_goesDuel 176 = .ok (.if_icmp .ge 23, 3) := by decide +kernel
theorem dX11_goesDuel_179 : decode cX11_goesDuel 179 = .ok (.aload_n 0, 1) := by decide +kernel
theorem dX11_goesDuel_180 : decode cX11_goesDuel 180 = .ok (.getfield 52, 3) := by decide +kernel
theorem dX11_goesDuel_183 : decode cX11_goesDuel 183 = .ok (.iload 4, 2) := by decide +kernel
theorem dX11_goesDuel_185 : decode cX11_goesDuel 185 = .ok (.aload_n 0, 1) := by decide +kernel
theorem dX11_goesDuel_186 : decode cX11_goesDuel 186 = .ok (.getfield 56, 3) := by decide +kernel
theorem dX11_goesDuel_189 : decode cX11_goesDuel 189 = .ok (.iload 4, 2) := by decide +kernel
theorem dX11_goesDuel_191 : decode cX11_goesDuel 191 = .ok (.laload, 1) := by decide +kernel
theorem dX11_goesDuel_192 : decode cX11_goesDuel 192 = .ok (.lastore, 1) := by decide +kernel
theorem dX11_goesDuel_193 : decode cX11_goesDuel 193 = .ok (.iinc 4 1, 3) := by decide +kernel
theorem dX11_goesDuel_196 : decode cX11_goesDuel 196 = .ok (.goto (-24), 3) := by decide +kernel
theorem dX11_goesDuel_199 : decode cX11_goesDuel 199 = .ok (.return_, 1) := by decide +kernel
theorem dX11_divisor_0 : decode cX11_divisor 0 = .ok (.lload_n 0, 1) := by decide +kernel
theorem dX11_divisor_1 : decode cX11_divisor 1 = .ok (.lstore 4, 2) := by decide +kernel
theorem dX11_divisor_3 : decode cX11_divisor 3 = .ok (.lload_n 2, 1) := by decide +kernel
theorem dX11_divisor_4 : decode cX11_divisor 4 = .ok (.lstore 6, 2) := by decide +kernel
theorem dX11_divisor_6 : decode cX11_divisor 6 = .ok (.lload 6, 2) := by decide +kernel
theorem dX11_divisor_8 : decode cX11_divisor 8 = .ok (.lconst 0, 1) := by decide +kernel
theorem dX11_divisor_9 : decode cX11_divisor 9 = .ok (.lcmp, 1) := by decide +kernel
theorem dX11_divisor_10 : decode cX11_divisor 10 = .ok (.ifCond .eq 21, 3) := by decide +kernel
theorem dX11_divisor_13 : decode cX11_divisor 13 = .ok (.lload 4, 2) := by decide +kernel
theorem dX11_divisor_15 : decode cX11_divisor 15 = .ok (.lload 6, 2) := by decide +kernel
theorem dX11_divisor_17 : decode cX11_divisor 17 = .ok (.lrem, 1) := by decide +kernel
theorem dX11_divisor_18 : decode cX11_divisor 18 = .ok (.lstore 8, 2) := by decide +kernel
theorem dX11_divisor_20 : decode cX11_divisor 20 = .ok (.lload 6, 2) := by decide +kernel
theorem dX11_divisor_22 : decode cX11_divisor 22 = .ok (.lstore 4, 2) := by decide +kernel
theorem dX11_divisor_24 : decode cX11_divisor 24 = .ok (.lload 8, 2) := by decide +kernel
theorem dX11_divisor_26 : decode cX11_divisor 26 = .ok (.lstore 6, 2) := by decide +kernel
theorem dX11_divisor_28 : decode cX11_divisor 28 = .ok (.goto (-22), 3) := by decide +kernel
theorem dX11_divisor_31 : decode cX11_divisor 31 = .ok (.lload 4, 2) := by decide +kernel
theorem dX11_divisor_33 : decode cX11_divisor 33 = .ok (.lconst 0, 1) := by decide +kernel
theorem dX11_divisor_34 : decode cX11_divisor 34 = .ok (.lcmp, 1) := by decide +kernel
theorem dX11_divisor_35 : decode cX11_divisor 35 = .ok (.ifCond .ge 9, 3) := by decide +kernel
theorem dX11_divisor_38 : decode cX11_divisor 38 = .ok (.lload 4, 2) := by decide +kernel
theorem dX11_divisor_40 : decode cX11_divisor 40 = .ok (.lneg, 1) := by decide +kernel
theorem dX11_divisor_41 : decode cX11_divisor 41 = .ok (.goto 5, 3) := by decide +kernel
theorem dX11_divisor_44 : decode cX11_divisor 44 = .ok (.lload 4, 2) := by decide +kernel
theorem dX11_divisor_46 : decode cX11_divisor 46 = .ok (.lreturn, 1) := by decide +kernel
set_option maxRecDepth 20000 in
theorem ggX11_duel_X11_isIn : GoodIn wsX11_duel wsX11_isIn := goodIn_r _ [6] (by decide +kernel) (by decide +kernel)
set_option maxRecDepth 20000 in
theorem gX11_duel_X11_isIn : GoodIn wsX11_duel (va_wsS RX11 91 yX11_isIn wsX11_isIn) := goodIn_app (goodIn_of _ (by decide +kernel)) ggX11_duel_X11_isIn
set_option maxRecDepth 20000 in
theorem ggX11_duel_X11_lowest : GoodIn wsX11_duel wsX11_lowest := goodIn_r _ [10, 11, 12, 21, 22, 23, 24, 25, 26, 27, 28, 29, 30, 31, 32, 33, 34, 35, 36, 37, 38, 39, 40, 41, 42, 43, 44, 45, 46, 47, 48] (by decide +kernel) (by decide +kernel)
set_option maxRecDepth 20000 in
theorem gX11_duel_X11_lowest : GoodIn wsX11_duel (wsV RX11 217 RX11 yX11_lowest wsX11_lowest) := goodIn_app (goodIn_of _ (by decide +kernel)) ggX11_duel_X11_lowest
set_option maxRecDepth 20000 in
theorem ggX11_duel_X11_goesDuel : GoodIn wsX11_duel wsX11_goesDuel := goodIn_r _ [16, 17, 2, 1, 21, 22, 23, 24, 25, 26, 27, 28, 29, 30, 31, 32, 33, 34, 35, 36, 37, 38, 39, 40, 41, 42, 43, 44, 45, 46, 47, 48] (by decide +kernel) (by decide +kernel)
set_option maxRecDepth 20000 in
theorem gX11_duel_X11_goesDuel : GoodIn wsX11_duel (wsV RX11 221 RX11 yX11_goesDuel wsX11_goesDuel) := goodIn_app (goodIn_of _ (by decide +kernel)) ggX11_duel_X11_goesDuel
set_option maxRecDepth 20000 in
theorem ggX11_duel_X11_divisor : GoodIn wsX11_duel wsX11_divisor := goodIn_r _ [20] (by decide +kernel) (by decide +kernel)
set_option maxRecDepth 20000 in
theorem gX11_duel_X11_divisor : GoodIn wsX11_duel (va_wsS RX11 225 yX11_divisor wsX11_divisor) := goodIn_app (goodIn_of _ (by decide +kernel)) ggX11_duel_X11_divisor
theorem dX11_duel_0 : decode cX11_duel 0 = .ok (.iload_n 1, 1) := by decide +kernel
theorem dX11_duel_1 : decode cX11_duel 1 = .ok (.iconst 1, 1) := by decide +kernel
theorem dX11_duel_2 : decode cX11_duel 2 = .ok (.if_icmp .lt 25, 3) := by decide +kernel
theorem dX11_duel_5 : decode cX11_duel 5 = .ok (.iload_n 2, 1) := by decide +kernel
theorem dX11_duel_6 : decode cX11_duel 6 = .ok (.iconst 1, 1) := by decide +kernel
theorem dX11_duel_7 : decode cX11_duel 7 = .ok (.if_icmp .lt 20, 3) := by decide +kernel
theorem dX11_duel_10 : decode cX11_duel 10 = .ok (.iload_n 3, 1) := by decide +kernel
theorem dX11_duel_11 : decode cX11_duel 11 = .ok (.iconst 1, 1) := by decide +kernel
theorem dX11_duel_12 : decode cX11_duel 12 = .ok (.if_icmp .lt 15, 3) := by decide +kernel
theorem dX11_duel_15 : decode cX11_duel 15 = .ok (.iload 4, 2) := by decide +kernel
theorem dX11_duel_17 : decode cX11_duel 17 = .ok (.iconst 1, 1) := by decide +kernel
theorem dX11_duel_18 : decode cX11_duel 18 = .ok (.if_icmp .lt 9, 3) := by decide +kernel
theorem dX11_duel_21 : decode cX11_duel 21 = .ok (.iload 5, 2) := by decide +kernel
theorem dX11_duel_23 : decode cX11_duel 23 = .ok (.iconst 1, 1) := by decide +kernel
theorem dX11_duel_24 : decode cX11_duel 24 = .ok (.if_icmp .ge 8, 3) := by decide +kernel
theorem dX11_duel_27 : decode cX11_duel 27 = .ok (.bipush (-4), 2) := by decide +kernel
theorem dX11_duel_29 : decode cX11_duel 29 = .ok (.goto 54, 3) := by decide +kernel
theorem dX11_duel_32 : decode cX11_duel 32 = .ok (.iload_n 1, 1) := by decide +kernel
theorem dX11_duel_33 : decode cX11_duel 33 = .ok (.iconst 4, 1) := by decide +kernel
theorem dX11_duel_34 : decode cX11_duel 34 = .ok (.if_icmp .gt 28, 3) := by decide +kernel
theorem dX11_duel_37 : decode cX11_duel 37 = .ok (.iload_n 2, 1) := by decide +kernel
theorem dX11_duel_38 : decode cX11_duel 38 = .ok (.iconst 4, 1) := by decide +kernel
theorem dX11_duel_39 : decode cX11_duel 39 = .ok (.if_icmp .gt 23, 3) := by decide +kernel
theorem dX11_duel_42 : decode cX11_duel 42 = .ok (.iload_n 3, 1) := by decide +kernel
theorem dX11_duel_43 : decode cX11_duel 43 = .ok (.bipush 19, 2) := by decide +kernel
theorem dX11_duel_45 : decode cX11_duel 45 = .ok (.if_icmp .gt 17, 3) := by decide +kernel
theorem dX11_duel_48 : decode cX11_duel 48 = .ok (.iload 4, 2) := by decide +kernel
theorem dX11_duel_50 : decode cX11_duel 50 = .ok (.bipush 19, 2) := by decide +kernel
theorem dX11_duel_52 : decode cX11_duel 52 = .ok (.if_icmp .gt 10, 3) := by decide +kernel
theorem dX11_duel_55 : decode cX11_duel 55 = .ok (.iload 5, 2) := by decide +kernel
theorem dX11_duel_57 : decode cX11_duel 57 = .ok (.bipush 9, 2) := by decide +kernel
theorem dX11_duel_59 : decode cX11_duel 59 = .ok (.if_icmp .le 8, 3) := by decide +kernel
theorem dX11_duel_62 : decode cX11_duel 62 = .ok (.bipush (-6), 2) := by decide +kernel
theorem dX11_duel_64 : decode cX11_duel 64 = .ok (.goto 19, 3) := by decide +kernel
theorem dX11_duel_67 : decode cX11_duel 67 = .ok (.iload 6, 2) := by decide +kernel
theorem dX11_duel_69 : decode cX11_duel 69 = .ok (.iconst 0, 1) := by decide +kernel
theorem dX11_duel_70 : decode cX11_duel 70 = .ok (.iconst 3, 1) := by decide +kernel
theorem dX11_duel_71 : decode cX11_duel 71 = .ok (.invokestatic 91, 3) := by decide +kernel
theorem dX11_duel_74 : decode cX11_duel 74 = .ok (.ifCond .ne 8, 3) := by decide +kernel
theorem dX11_duel_77 : decode cX11_duel 77 = .ok (.bipush (-2), 2) := by decide +kernel
theorem dX11_duel_79 : decode cX11_duel 79 = .ok (.goto 4, 3) := by decide +kernel
theorem dX11_duel_82 : decode cX11_duel 82 = .ok (.iconst 0, 1) := by decide +kernel
theorem dX11_duel_83 : decode cX11_duel 83 = .ok (.istore 7, 2) := by decide +kernel
theorem dX11_duel_85 : decode cX11_duel 85 = .ok (.iload 7, 2) := by decide +kernel
theorem dX11_duel_87 : decode cX11_duel 87 = .ok (.ifCond .eq 10, 3) := by decide +kernel
theorem dX11_duel_90 : decode cX11_duel 90 = .ok (.aload_n 0, 1) := by decide +kernel
theorem dX11_duel_91 : decode cX11_duel 91 = .ok (.iload 7, 2) := by decide +kernel
theorem dX11_duel_93 : decode cX11_duel 93 = .ok (.invokevirtual 217, 3) := by decide +kernel
theorem dX11_duel_96 : decode cX11_duel 96 = .ok (.lreturn, 1) := by decide +kernel
theorem dX11_duel_97 : decode cX11_duel 97 = .ok (.iconst 0, 1) := by decide +kernel
theorem dX11_duel_98 : decode cX11_duel 98 = .ok (.istore 8, 2) := by decide +kernel
theorem dX11_duel_100 : decode cX11_duel 100 = .ok (.iload 8, 2) := by decide +kernel
theorem dX11_duel_102 : decode cX11_duel 102 = .ok (.bipush 25, 2) := by decide +kernel
theorem dX11_duel_104 : decode cX11_duel 104 = .ok (.if_icmp .ge 31, 3) := by decide +kernel
theorem dX11_duel_107 : decode cX11_duel 107 = .ok (.aload_n 0, 1) := by decide +kernel
theorem dX11_duel_108 : decode cX11_duel 108 = .ok (.getfield 52, 3) := by decide +kernel
theorem dX11_duel_111 : decode cX11_duel 111 = .ok (.iload 8, 2) := by decide +kernel
theorem dX11_duel_113 : decode cX11_duel 113 = .ok (.iload 8, 2) := by decide +kernel
theorem dX11_duel_115 : decode cX11_duel 115 = .ok (.iconst 5, 1) := by decide +kernel
theorem dX11_duel_116 : decode cX11_duel 116 = .ok (.iload_n 1, 1) := by decide +kernel
theorem dX11_duel_117 : decode cX11_duel 117 = .ok (.imul, 1) := by decide +kernel
theorem dX11_duel_118 : decode cX11_duel 118 = .ok (.iload_n 2, 1) := by decide +kernel
theorem dX11_duel_119 : decode cX11_duel 119 = .ok (.iadd, 1) := by decide +kernel
theorem dX11_duel_120 : decode cX11_duel 120 = .ok (.if_icmp .ne 7, 3) := by decide +kernel
theorem dX11_duel_123 : decode cX11_duel 123 = .ok (.lconst 1, 1) := by decide +kernel
theorem dX11_duel_124 : decode cX11_duel 124 = .ok (.goto 4, 3) := by decide +kernel
theorem dX11_duel_127 : decode cX11_duel 127 = .ok (.lconst 0, 1) := by decide +kernel
theorem dX11_duel_128 : decode cX11_duel 128 = .ok (.lastore, 1) := by decide +kernel
theorem dX11_duel_129 : decode cX11_duel 129 = .ok (.iinc 8 1, 3) := by decide +kernel
theorem dX11_duel_132 : decode cX11_duel 132 = .ok (.goto (-32), 3) := by decide +kernel
theorem dX11_duel_135 : decode cX11_duel 135 = .ok (.lconst 1, 1) := by decide +kernel
theorem dX11_duel_136 : decode cX11_duel 136 = .ok (.lstore 8, 2) := by decide +kernel
theorem dX11_duel_138 : decode cX11_duel 138 = .ok (.iconst 0, 1) := by decide +kernel
theorem dX11_duel_139 : decode cX11_duel 139 = .ok (.istore 10, 2) := by decide +kernel
theorem dX11_duel_141 : decode cX11_duel 141 = .ok (.iload 10, 2) := by decide +kernel
theorem dX11_duel_143 : decode cX11_duel 143 = .ok (.iload 5, 2) := by decide +kernel
theorem dX11_duel_145 : decode cX11_duel 145 = .ok (.if_icmp .ge 36, 3) := by decide +kernel
theorem dX11_duel_148 : decode cX11_duel 148 = .ok (.aload_n 0, 1) := by decide +kernel
theorem dX11_duel_149 : decode cX11_duel 149 = .ok (.iload_n 3, 1) := by decide +kernel
theorem dX11_duel_150 : decode cX11_duel 150 = .ok (.iload 4, 2) := by decide +kernel
theorem dX11_duel_152 : decode cX11_duel 152 = .ok (.iload 10, 2) := by decide +kernel
theorem dX11_duel_154 : decode cX11_duel 154 = .ok (.iconst 2, 1) := by decide +kernel
theorem dX11_duel_155 : decode cX11_duel 155 = .ok (.irem, 1) := by decide +kernel
theorem dX11_duel_156 : decode cX11_duel 156 = .ok (.ifCond .ne 7, 3) := by decide +kernel
theorem dX11_duel_159 : decode cX11_duel 159 = .ok (.iconst 1, 1) := by decide +kernel
theorem dX11_duel_160 : decode cX11_duel 160 = .ok (.goto 4, 3) := by decide +kernel
theorem dX11_duel_163 : decode cX11_duel 163 = .ok (.iconst 0, 1) := by decide +kernel
theorem dX11_duel_164 : decode cX11_duel 164 = .ok (.invokevirtual 221, 3) := by decide +kernel
theorem dX11_duel_167 : decode cX11_duel 167 = .ok (.lload 8, 2) := by decide +kernel
theorem dX11_duel_169 : decode cX11_duel 169 = .ok (.ldc2_w 215, 3) := by decide +kernel
theorem dX11_duel_172 : decode cX11_duel 172 = .ok (.lmul, 1) := by decide +kernel
theorem dX11_duel_173 : decode cX11_duel 173 = .ok (.lstore 8, 2) := by decide +kernel
theorem dX11_duel_175 : decode cX11_duel 175 = .ok (.iinc 10 1, 3) := by decide +kernel
theorem dX11_duel_178 : decode cX11_duel 178 = .ok (.goto (-37), 3) := by decide +kernel
theorem dX11_duel_181 : decode cX11_duel 181 = .ok (.lconst 0, 1) := by decide +kernel
theorem dX11_duel_182 : decode cX11_duel 182 = .ok (.lstore 10, 2) := by decide +kernel
theorem dX11_duel_184 : decode cX11_duel 184 = .ok (.iconst 1, 1) := by decide +kernel
theorem dX11_duel_185 : decode cX11_duel 185 = .ok (.istore 12, 2) := by decide +kernel
theorem dX11_duel_187 : decode cX11_duel 187 = .ok (.iload 12, 2) := by decide +kernel
theorem dX11_duel_189 : decode cX11_duel 189 = .ok (.iconst 5, 1) := by decide +kernel
theorem dX11_duel_190 : decode cX11_duel 190 = .ok (.if_icmp .ge 39, 3) := by decide +kernel
theorem dX11_duel_193 : decode cX11_duel 193 = .ok (.lload 10, 2) := by decide +kernel
theorem dX11_duel_195 : decode cX11_duel 195 = .ok (.iload 6, 2) := by decide +kernel
theorem dX11_duel_197 : decode cX11_duel 197 = .ok (.iconst 2, 1) := by decide +kernel
theorem dX11_duel_198 : decode cX11_duel 198 = .ok (.if_icmp .ge 15, 3) := by decide +kernel
theorem dX11_duel_201 : decode cX11_duel 201 = .ok (.aload_n 0, 1) := by decide +kernel
theorem dX11_duel_202 : decode cX11_duel 202 = .ok (.getfield 52, 3) := by decide +kernel
theorem dX11_duel_205 : decode cX11_duel 205 = .ok (.iconst 5, 1) := by decide +kernel
theorem dX11_duel_206 : decode cX11_duel 206 = .ok (.iload 12, 2) := by decide +kernel
theorem dX11_duel_208 : decode cX11_duel 208 = .ok (.imul, 1) := by decide +kernel
theorem dX11_duel_209 : decode cX11_duel 209 = .ok (.laload, 1) := by decide +kernel
theorem dX11_duel_210 : decode cX11_duel 210 = .ok (.goto 10, 3) := by decide +kernel
theorem dX11_duel_213 : decode cX11_duel 213 = .ok (.aload_n 0, 1) := by decide +kernel
theorem dX11_duel_214 : decode cX11_duel 214 = .ok (.getfield 52, 3) := by decide +kernel
theorem dX11_duel_217 : decode cX11_duel 217 = .ok (.iload 12, 2) := by decide +kernel
theorem dX11_duel_219 : decode cX11_duel 219 = .ok (.laload, 1) := by decide +kernel
theorem dX11_duel_220 : decode cX11_duel 220 = .ok (.ladd, 1) := by decide +kernel
theorem dX11_duel_221 : decode cX11_duel 221 = .ok (.lstore 10, 2) := by decide +kernel
theorem dX11_duel_223 : decode cX11_duel 223 = .ok (.iinc 12 1, 3) := by decide +kernel
theorem dX11_duel_226 : decode cX11_duel 226 = .ok (.goto (-39), 3) := by decide +kernel
theorem dX11_duel_229 : decode cX11_duel 229 = .ok (.iload 6, 2) := by decide +kernel
theorem dX11_duel_231 : decode cX11_duel 231 = .ok (.iconst 2, 1) := by decide +kernel
theorem dX11_duel_232 : decode cX11_duel 232 = .ok (.irem, 1) := by decide +kernel
theorem dX11_duel_233 : decode cX11_duel 233 = .ok (.ifCond .ne 8, 3) := by decide +kernel
theorem dX11_duel_236 : decode cX11_duel 236 = .ok (.lload 10, 2) := by decide +kernel
theorem dX11_duel_238 : decode cX11_duel 238 = .ok (.goto 5, 3) := by decide +kernel
theorem dX11_duel_241 : decode cX11_duel 241 = .ok (.lload 8, 2) := by decide +kernel
theorem dX11_duel_243 : decode cX11_duel 243 = .ok (.lload 10, 2) := by decide +kernel
theorem dX11_duel_245 : decode cX11_duel 245 = .ok (.lload 8, 2) := by decide +kernel
theorem dX11_duel_247 : decode cX11_duel 247 = .ok (.invokestatic 225, 3) := by decide +kernel
theorem dX11_duel_250 : decode cX11_duel 250 = .ok (.ldiv, 1) := by decide +kernel
theorem dX11_duel_251 : decode cX11_duel 251 = .ok (.lreturn, 1) := by decide +kernel
theorem dX11_least_0 : decode cX11_least 0 = .ok (.iload_n 0, 1) := by decide +kernel
theorem dX11_least_1 : decode cX11_least 1 = .ok (.iload_n 1, 1) := by decide +kernel
theorem dX11_least_2 : decode cX11_least 2 = .ok (.if_icmp .ge 7, 3) := by decide +kernel
theorem dX11_least_5 : decode cX11_least 5 = .ok (.iload_n 0, 1) := by decide +kernel
theorem dX11_least_6 : decode cX11_least 6 = .ok (.goto 4, 3) := by decide +kernel
theorem dX11_least_9 : decode cX11_least 9 = .ok (.iload_n 1, 1) := by decide +kernel
theorem dX11_least_10 : decode cX11_least 10 = .ok (.ireturn, 1) := by decide +kernel
theorem dX11_most_0 : decode cX11_most 0 = .ok (.iload_n 0, 1) := by decide +kernel
theorem dX11_most_1 : decode cX11_most 1 = .ok (.iload_n 1, 1) := by decide +kernel
theorem dX11_most_2 : decode cX11_most 2 = .ok (.if_icmp .le 7, 3) := by decide +kernel
theorem dX11_most_5 : decode cX11_most 5 = .ok (.iload_n 0, 1) := by decide +kernel
theorem dX11_most_6 : decode cX11_most 6 = .ok (.goto 4, 3) := by decide +kernel
theorem dX11_most_9 : decode cX11_most 9 = .ok (.iload_n 1, 1) := by decide +kernel
theorem dX11_most_10 : decode cX11_most 10 = .ok (.ireturn, 1) := by decide +kernel
set_option maxRecDepth 20000 in
theorem ggX11_game_X11_isPlayer : GoodIn wsX11_game wsX11_isPlayer := goodIn_r _ [5, 6, 71, 72, 73, 74, 75, 76, 77, 78, 79, 80, 81, 82, 83, 84, 85, 86, 87, 88, 89, 90, 91, 92, 93, 94, 95, 96, 97, 98] (by decide +kernel) (by decide +kernel)
set_option maxRecDepth 20000 in
theorem gX11_game_X11_isPlayer : GoodIn wsX11_game (wsV RX11 69 RX11 yX11_isPlayer wsX11_isPlayer) := goodIn_app (goodIn_of _ (by decide +kernel)) ggX11_game_X11_isPlayer
set_option maxRecDepth 20000 in
theorem ggX11_game_X11_isIn : GoodIn wsX11_game wsX11_isIn := goodIn_r _ [9] (by decide +kernel) (by decide +kernel)
set_option maxRecDepth 20000 in
theorem gX11_game_X11_isIn : GoodIn wsX11_game (va_wsS RX11 91 yX11_isIn wsX11_isIn) := goodIn_app (goodIn_of _ (by decide +kernel)) ggX11_game_X11_isIn
set_option maxRecDepth 20000 in
theorem ggX11_game_X11_areAgainst : GoodIn wsX11_game wsX11_areAgainst := goodIn_r _ [13, 14, 15, 16, 17, 4, 18, 19, 1, 2, 3, 5, 6, 71, 72, 73, 74, 75, 76, 77, 78, 79, 80, 81, 82, 83, 84, 85, 86, 87, 88, 89, 90, 91, 92, 93, 94, 95, 96, 97, 98] (by decide +kernel) (by decide +kernel)
set_option maxRecDepth 20000 in
theorem gX11_game_X11_areAgainst : GoodIn wsX11_game (wsV RX11 186 RX11 yX11_areAgainst wsX11_areAgainst) := goodIn_app (goodIn_of _ (by decide +kernel)) ggX11_game_X11_areAgainst
set_option maxRecDepth 20000 in
theorem ggX11_game_X11_lowest : GoodIn wsX11_game wsX11_lowest := goodIn_r _ [23, 24, 25, 71, 72, 73, 74, 75, 76, 77, 78, 79, 80, 81, 82, 83, 84, 85, 86, 87, 88, 89, 90, 91, 92, 93, 94, 95, 96, 97, 98] (by decide +kernel) (by decide +kernel)
set_option maxRecDepth 20000 in
theorem gX11_game_X11_lowest : GoodIn wsX11_game (wsV RX11 217 RX11 yX11_lowest wsX11_lowest) := goodIn_app (goodIn_of _ (by decide +kernel)) ggX11_game_X11_lowest
set_option maxRecDepth 20000 in
theorem ggX11_game_X11_hitOf : GoodIn wsX11_game wsX11_hitOf := goodIn_r _ [29, 30, 31, 32, 4, 33, 34, 35, 36, 37, 38, 39, 40, 41, 42, 43, 44, 45, 46, 47, 48, 49, 71, 72, 73, 74, 75, 76, 77, 78, 79, 80, 81, 82, 83, 84, 85, 86, 87, 88, 89, 90, 91, 92, 93, 94, 95, 96, 97, 98] (by decide +kernel) (by decide +kernel)
set_option maxRecDepth 20000 in
theorem gX11_game_X11_hitOf : GoodIn wsX11_game (wsV RX11 189 RX11 yX11_hitOf wsX11_hitOf) := goodIn_app (goodIn_of _ (by decide +kernel)) ggX11_game_X11_hitOf
set_option maxRecDepth 20000 in
theorem ggX11_game_X11_caughtOf : GoodIn wsX11_game wsX11_caughtOf := goodIn_r _ [53, 54, 55, 56, 4, 57, 35, 44, 34, 19, 14, 58, 59, 60, 61, 6, 37, 38, 39, 71, 72, 73, 74, 75, 76, 77, 78, 79, 80, 81, 82, 83, 84, 85, 86, 87, 88, 89, 90, 91, 92, 93, 94, 95, 96, 97, 98] (by decide +kernel) (by decide +kernel)
set_option maxRecDepth 20000 in
theorem gX11_game_X11_caughtOf : GoodIn wsX11_game (wsV RX11 192 RX11 yX11_caughtOf wsX11_caughtOf) := goodIn_app (goodIn_of _ (by decide +kernel)) ggX11_game_X11_caughtOf
set_option maxRecDepth 20000 in
theorem ggX11_game_X11_least : GoodIn wsX11_game wsX11_least := goodIn_r _ [64] (by decide +kernel) (by decide +kernel)
set_option maxRecDepth 20000 in
theorem gX11_game_X11_least : GoodIn wsX11_game (va_wsS RX11 229 yX11_least wsX11_least) := goodIn_app (goodIn_of _ (by decide +kernel)) ggX11_game_X11_least
set_option maxRecDepth 20000 in
theorem ggX11_game_X11_most : GoodIn wsX11_game wsX11_most := goodIn_r _ [67] (by decide +kernel) (by decide +kernel)
set_option maxRecDepth 20000 in
theorem gX11_game_X11_most : GoodIn wsX11_game (va_wsS RX11 232 yX11_most wsX11_most) := goodIn_app (goodIn_of _ (by decide +kernel)) ggX11_game_X11_most
set_option maxRecDepth 20000 in
theorem ggX11_game_X11_divisor : GoodIn wsX11_game wsX11_divisor := goodIn_r _ [70] (by decide +kernel) (by decide +kernel)
set_option maxRecDepth 20000 in
theorem gX11_game_X11_divisor : GoodIn wsX11_game (va_wsS RX11 225 yX11_divisor wsX11_divisor) := goodIn_app (goodIn_of _ (by decide +kernel)) ggX11_game_X11_divisor
theorem dX11_game_0 : decode cX11_game 0 = .ok (.aload_n 0, 1) := by decide +kernel
theorem dX11_game_1 : decode cX11_game 1 = .ok (.iload_n 1, 1) := by decide +kernel
theorem dX11_game_2 : decode cX11_game 2 = .ok (.invokevirtual 69, 3) := by decide +kernel
theorem dX11_game_5 : decode cX11_game 5 = .ok (.ifCond .eq 11, 3) := by decide +kernel
theorem dX11_game_8 : decode cX11_game 8 = .ok (.aload_n 0, 1) := by decide +kernel
theorem dX11_game_9 : decode cX11_game 9 = .ok (.iload_n 2, 1) := by decide +kernel
theorem dX11_game_10 : decode cX11_game 10 = .ok (.invokevirtual 69, 3) := by decide +kernel
theorem dX11_game_13 : decode cX11_game 13 = .ok (.ifCond .ne 7, 3) := by decide +kernel
theorem dX11_game_16 : decode cX11_game 16 = .ok (.iconst (-1), 1) := by decide +kernel
theorem dX11_game_17 : decode cX11_game 17 = .ok (.goto 32, 3) := by decide +kernel
theorem dX11_game_20 : decode cX11_game 20 = .ok (.iload_n 3, 1) := by decide +kernel
theorem dX11_game_21 : decode cX11_game 21 = .ok (.iconst 0, 1) := by decide +kernel
theorem dX11_game_22 : decode cX11_game 22 = .ok (.iconst 1, 1) := by decide +kernel
theorem dX11_game_23 : decode cX11_game 23 = .ok (.invokestatic 91, 3) := by decide +kernel
theorem dX11_game_26 : decode cX11_game 26 = .ok (.ifCond .ne 8, 3) := by decide +kernel
theorem dX11_game_29 : decode cX11_game 29 = .ok (.bipush (-2), 2) := by decide +kernel
theorem dX11_game_31 : decode cX11_game 31 = .ok (.goto 18, 3) := by decide +kernel
theorem dX11_game_34 : decode cX11_game 34 = .ok (.aload_n 0, 1) := by decide +kernel
theorem dX11_game_35 : decode cX11_game 35 = .ok (.iload_n 1, 1) := by decide +kernel
theorem dX11_game_36 : decode cX11_game 36 = .ok (.iload_n 2, 1) := by decide +kernel
theorem dX11_game_37 : decode cX11_game 37 = .ok (.invokevirtual 186, 3) := by decide +kernel
theorem dX11_game_40 : decode cX11_game 40 = .ok (.ifCond .ne 8, 3) := by decide +kernel
theorem dX11_game_43 : decode cX11_game 43 = .ok (.bipush (-3), 2) := by decide +kernel
theorem dX11_game_45 : decode cX11_game 45 = .ok (.goto 4, 3) := by decide +kernel
theorem dX11_game_48 : decode cX11_game 48 = .ok (.iconst 0, 1) := by decide +kernel
theorem dX11_game_49 : decode cX11_game 49 = .ok (.istore 4, 2) := by decide +kernel
theorem dX11_game_51 : decode cX11_game 51 = .ok (.iload 4, 2) := by decide +kernel
theorem dX11_game_53 : decode cX11_game 53 = .ok (.ifCond .eq 10, 3) := by decide +kernel
theorem dX11_game_56 : decode cX11_game 56 = .ok (.aload_n 0, 1) := by decide +kernel
theorem dX11_game_57 : decode cX11_game 57 = .ok (.iload 4, 2) := by decide +kernel
theorem dX11_game_59 : decode cX11_game 59 = .ok (.invokevirtual 217, 3) := by decide +kernel
theorem dX11_game_62 : decode cX11_game 62 = .ok (.lreturn, 1) := by decide +kernel
theorem dX11_game_63 : decode cX11_game 63 = .ok (.aload_n 0, 1) := by decide +kernel
theorem dX11_game_64 : decode cX11_game 64 = .ok (.iload_n 1, 1) := by decide +kernel
theorem dX11_game_65 : decode cX11_game 65 = .ok (.iload_n 2, 1) := by decide +kernel
theorem dX11_game_66 : decode cX11_game 66 = .ok (.iconst 0, 1) := by decide +kernel
theorem dX11_game_67 : decode cX11_game 67 = .ok (.invokevirtual 189, 3) := by decide +kernel
theorem dX11_game_70 : decode cX11_game 70 = .ok (.istore 5, 2) := by decide +kernel
theorem dX11_game_72 : decode cX11_game 72 = .ok (.aload_n 0, 1) := by decide +kernel
theorem dX11_game_73 : decode cX11_game 73 = .ok (.iload_n 1, 1) := by decide +kernel
theorem dX11_game_74 : decode cX11_game 74 = .ok (.iload_n 2, 1) := by decide +kernel
theorem dX11_game_75 : decode cX11_game 75 = .ok (.iconst 2, 1) := by decide +kernel
theorem dX11_game_76 : decode cX11_game 76 = .ok (.invokevirtual 189, 3) := by decide +kernel
theorem dX11_game_79 : decode cX11_game 79 = .ok (.istore 6, 2) := by decide +kernel
theorem dX11_game_81 : decode cX11_game 81 = .ok (.iload 5, 2) := by decide +kernel
theorem dX11_game_83 : decode cX11_game 83 = .ok (.bipush 6, 2) := by decide +kernel
theorem dX11_game_85 : decode cX11_game 85 = .ok (.iadd, 1) := by decide +kernel
theorem dX11_game_86 : decode cX11_game 86 = .ok (.iconst 2, 1) := by decide +kernel
theorem dX11_game_87 : decode cX11_game 87 = .ok (.aload_n 0, 1) := by decide +kernel
theorem dX11_game_88 : decode cX11_game 88 = .ok (.iload_n 2, 1) := by decide +kernel
theorem dX11_game_89 : decode cX11_game 89 = .ok (.iconst 0, 1) := by decide +kernel
theorem dX11_game_90 : decode cX11_game 90 = .ok (.invokevirtual 192, 3) := by decide +kernel
theorem dX11_game_93 : decode cX11_game 93 = .ok (.imul, 1) := by decide +kernel
theorem dX11_game_94 : decode cX11_game 94 = .ok (.isub, 1) := by decide +kernel
theorem dX11_game_95 : decode cX11_game 95 = .ok (.istore 7, 2) := by decide +kernel
theorem dX11_game_97 : decode cX11_game 97 = .ok (.iload 6, 2) := by decide +kernel
theorem dX11_game_99 : decode cX11_game 99 = .ok (.bipush 6, 2) := by decide +kernel
theorem dX11_game_101 : decode cX11_game 101 = .ok (.iadd, 1) := by decide +kernel
theorem dX11_game_102 : decode cX11_game 102 = .ok (.iconst 2, 1) := by decide +kernel
theorem dX11_game_103 : decode cX11_game 103 = .ok (.aload_n 0, 1) := by decide +kernel
theorem dX11_game_104 : decode cX11_game 104 = .ok (.iload_n 2, 1) := by decide +kernel
theorem dX11_game_105 : decode cX11_game 105 = .ok (.iconst 2, 1) := by decide +kernel
theorem dX11_game_106 : decode cX11_game 106 = .ok (.invokevirtual 192, 3) := by decide +kernel
theorem dX11_game_109 : decode cX11_game 109 = .ok (.imul, 1) := by decide +kernel
theorem dX11_game_110 : decode cX11_game 110 = .ok (.isub, 1) := by decide +kernel
theorem dX11_game_111 : decode cX11_game 111 = .ok (.istore 8, 2) := by decide +kernel
theorem dX11_game_113 : decode cX11_game 113 = .ok (.iload 5, 2) := by decide +kernel
theorem dX11_game_115 : decode cX11_game 115 = .ok (.iload 7, 2) := by decide +kernel
theorem dX11_game_117 : decode cX11_game 117 = .ok (.invokestatic 229, 3) := by decide +kernel
theorem dX11_game_120 : decode cX11_game 120 = .ok (.iload 6, 2) := by decide +kernel
theorem dX11_game_122 : decode cX11_game 122 = .ok (.iload 8, 2) := by decide +kernel
theorem dX11_game_124 : decode cX11_game 124 = .ok (.invokestatic 229, 3) := by decide +kernel
theorem dX11_game_127 : decode cX11_game 127 = .ok (.invokestatic 232, 3) := by decide +kernel
theorem dX11_game_130 : decode cX11_game 130 = .ok (.istore 9, 2) := by decide +kernel
theorem dX11_game_132 : decode cX11_game 132 = .ok (.iload 5, 2) := by decide +kernel
theorem dX11_game_134 : decode cX11_game 134 = .ok (.iload 6, 2) := by decide +kernel
theorem dX11_game_136 : decode cX11_game 136 = .ok (.invokestatic 232, 3) := by decide +kernel
theorem dX11_game_139 : decode cX11_game 139 = .ok (.iload 7, 2) := by decide +kernel
theorem dX11_game_141 : decode cX11_game 141 = .ok (.iload 8, 2) := by decide +kernel
