theorem dX11_isBall_14 : decode cX11_isBall 14 = .ok (.iconst 0, 1) := by decide +kernel
theorem dX11_isBall_15 : decode cX11_isBall 15 = .ok (.ireturn, 1) := by decide +kernel
theorem dX11_holds_0 : decode cX11_holds 0 = .ok (.iconst 0, 1) := by decide +kernel
theorem dX11_holds_1 : decode cX11_holds 1 = .ok (.istore_n 2, 1) := by decide +kernel
theorem dX11_holds_2 : decode cX11_holds 2 = .ok (.iconst 0, 1) := by decide +kernel
theorem dX11_holds_3 : decode cX11_holds 3 = .ok (.istore_n 3, 1) := by decide +kernel
theorem dX11_holds_4 : decode cX11_holds 4 = .ok (.iload_n 3, 1) := by decide +kernel
theorem dX11_holds_5 : decode cX11_holds 5 = .ok (.bipush 6, 2) := by decide +kernel
theorem dX11_holds_7 : decode cX11_holds 7 = .ok (.if_icmp .ge 29, 3) := by decide +kernel
theorem dX11_holds_10 : decode cX11_holds 10 = .ok (.iload_n 2, 1) := by decide +kernel
theorem dX11_holds_11 : decode cX11_holds 11 = .ok (.aload_n 0, 1) := by decide +kernel
theorem dX11_holds_12 : decode cX11_holds 12 = .ok (.getfield 28, 3) := by decide +kernel
theorem dX11_holds_15 : decode cX11_holds 15 = .ok (.iload_n 3, 1) := by decide +kernel
theorem dX11_holds_16 : decode cX11_holds 16 = .ok (.iaload, 1) := by decide +kernel
theorem dX11_holds_17 : decode cX11_holds 17 = .ok (.iload_n 1, 1) := by decide +kernel
theorem dX11_holds_18 : decode cX11_holds 18 = .ok (.if_icmp .ne 9, 3) := by decide +kernel
theorem dX11_holds_21 : decode cX11_holds 21 = .ok (.iconst 1, 1) := by decide +kernel
theorem dX11_holds_22 : decode cX11_holds 22 = .ok (.iload_n 3, 1) := by decide +kernel
theorem dX11_holds_23 : decode cX11_holds 23 = .ok (.ishl, 1) := by decide +kernel
theorem dX11_holds_24 : decode cX11_holds 24 = .ok (.goto 4, 3) := by decide +kernel
theorem dX11_holds_27 : decode cX11_holds 27 = .ok (.iconst 0, 1) := by decide +kernel
theorem dX11_holds_28 : decode cX11_holds 28 = .ok (.ior, 1) := by decide +kernel
theorem dX11_holds_29 : decode cX11_holds 29 = .ok (.istore_n 2, 1) := by decide +kernel
theorem dX11_holds_30 : decode cX11_holds 30 = .ok (.iinc 3 1, 3) := by decide +kernel
theorem dX11_holds_33 : decode cX11_holds 33 = .ok (.goto (-29), 3) := by decide +kernel
theorem dX11_holds_36 : decode cX11_holds 36 = .ok (.iload_n 2, 1) := by decide +kernel
theorem dX11_holds_37 : decode cX11_holds 37 = .ok (.ireturn, 1) := by decide +kernel
theorem dX11_bits_0 : decode cX11_bits 0 = .ok (.iconst 0, 1) := by decide +kernel
theorem dX11_bits_1 : decode cX11_bits 1 = .ok (.istore_n 1, 1) := by decide +kernel
theorem dX11_bits_2 : decode cX11_bits 2 = .ok (.iconst 0, 1) := by decide +kernel
theorem dX11_bits_3 : decode cX11_bits 3 = .ok (.istore_n 2, 1) := by decide +kernel
theorem dX11_bits_4 : decode cX11_bits 4 = .ok (.iload_n 2, 1) := by decide +kernel
theorem dX11_bits_5 : decode cX11_bits 5 = .ok (.bipush 31, 2) := by decide +kernel
theorem dX11_bits_7 : decode cX11_bits 7 = .ok (.if_icmp .ge 17, 3) := by decide +kernel
theorem dX11_bits_10 : decode cX11_bits 10 = .ok (.iload_n 1, 1) := by decide +kernel
theorem dX11_bits_11 : decode cX11_bits 11 = .ok (.iload_n 0, 1) := by decide +kernel
theorem dX11_bits_12 : decode cX11_bits 12 = .ok (.iload_n 2, 1) := by decide +kernel
theorem dX11_bits_13 : decode cX11_bits 13 = .ok (.ishr, 1) := by decide +kernel
theorem dX11_bits_14 : decode cX11_bits 14 = .ok (.iconst 1, 1) := by decide +kernel
theorem dX11_bits_15 : decode cX11_bits 15 = .ok (.iand, 1) := by decide +kernel
theorem dX11_bits_16 : decode cX11_bits 16 = .ok (.iadd, 1) := by decide +kernel
theorem dX11_bits_17 : decode cX11_bits 17 = .ok (.istore_n 1, 1) := by decide +kernel
theorem dX11_bits_18 : decode cX11_bits 18 = .ok (.iinc 2 1, 3) := by decide +kernel
theorem dX11_bits_21 : decode cX11_bits 21 = .ok (.goto (-17), 3) := by decide +kernel
theorem dX11_bits_24 : decode cX11_bits 24 = .ok (.iload_n 1, 1) := by decide +kernel
theorem dX11_bits_25 : decode cX11_bits 25 = .ok (.ireturn, 1) := by decide +kernel
set_option maxRecDepth 20000 in
theorem ggX11_letter_X11_bound : GoodIn wsX11_letter wsX11_bound := goodIn_r _ [6] (by decide +kernel) (by decide +kernel)
set_option maxRecDepth 20000 in
theorem gX11_letter_X11_bound : GoodIn wsX11_letter (va_wsS RX11 73 yX11_bound wsX11_bound) := goodIn_app (goodIn_of _ (by decide +kernel)) ggX11_letter_X11_bound
set_option maxRecDepth 20000 in
theorem ggX11_letter_X11_no : GoodIn wsX11_letter wsX11_no := goodIn_r _ [10, 11, 12, 13, 14, 15, 16, 17, 18, 19, 20, 21, 22, 23, 24, 25, 26, 27, 28, 29, 30, 31, 32, 33, 34, 35, 36, 37, 38, 39] (by decide +kernel) (by decide +kernel)
set_option maxRecDepth 20000 in
theorem gX11_letter_X11_no : GoodIn wsX11_letter (wsV RX11 80 RX11 yX11_no wsX11_no) := goodIn_app (goodIn_of _ (by decide +kernel)) ggX11_letter_X11_no
theorem dX11_letter_0 : decode cX11_letter 0 = .ok (.iload_n 1, 1) := by decide +kernel
theorem dX11_letter_1 : decode cX11_letter 1 = .ok (.iconst 0, 1) := by decide +kernel
theorem dX11_letter_2 : decode cX11_letter 2 = .ok (.sipush 255, 3) := by decide +kernel
theorem dX11_letter_5 : decode cX11_letter 5 = .ok (.invokestatic 73, 3) := by decide +kernel
theorem dX11_letter_8 : decode cX11_letter 8 = .ok (.istore_n 2, 1) := by decide +kernel
theorem dX11_letter_9 : decode cX11_letter 9 = .ok (.iload_n 2, 1) := by decide +kernel
theorem dX11_letter_10 : decode cX11_letter 10 = .ok (.ifCond .ne 15, 3) := by decide +kernel
theorem dX11_letter_13 : decode cX11_letter 13 = .ok (.aload_n 0, 1) := by decide +kernel
theorem dX11_letter_14 : decode cX11_letter 14 = .ok (.getfield 77, 3) := by decide +kernel
theorem dX11_letter_17 : decode cX11_letter 17 = .ok (.bipush 80, 2) := by decide +kernel
theorem dX11_letter_19 : decode cX11_letter 19 = .ok (.if_icmp .ne 6, 3) := by decide +kernel
theorem dX11_letter_22 : decode cX11_letter 22 = .ok (.bipush (-6), 2) := by decide +kernel
theorem dX11_letter_24 : decode cX11_letter 24 = .ok (.istore_n 2, 1) := by decide +kernel
theorem dX11_letter_25 : decode cX11_letter 25 = .ok (.iload_n 2, 1) := by decide +kernel
theorem dX11_letter_26 : decode cX11_letter 26 = .ok (.ifCond .eq 9, 3) := by decide +kernel
theorem dX11_letter_29 : decode cX11_letter 29 = .ok (.aload_n 0, 1) := by decide +kernel
theorem dX11_letter_30 : decode cX11_letter 30 = .ok (.iload_n 2, 1) := by decide +kernel
theorem dX11_letter_31 : decode cX11_letter 31 = .ok (.invokevirtual 80, 3) := by decide +kernel
theorem dX11_letter_34 : decode cX11_letter 34 = .ok (.ireturn, 1) := by decide +kernel
theorem dX11_letter_35 : decode cX11_letter 35 = .ok (.aload_n 0, 1) := by decide +kernel
theorem dX11_letter_36 : decode cX11_letter 36 = .ok (.getfield 37, 3) := by decide +kernel
theorem dX11_letter_39 : decode cX11_letter 39 = .ok (.aload_n 0, 1) := by decide +kernel
theorem dX11_letter_40 : decode cX11_letter 40 = .ok (.getfield 77, 3) := by decide +kernel
theorem dX11_letter_43 : decode cX11_letter 43 = .ok (.iload_n 1, 1) := by decide +kernel
theorem dX11_letter_44 : decode cX11_letter 44 = .ok (.iastore, 1) := by decide +kernel
theorem dX11_letter_45 : decode cX11_letter 45 = .ok (.aload_n 0, 1) := by decide +kernel
theorem dX11_letter_46 : decode cX11_letter 46 = .ok (.dup, 1) := by decide +kernel
theorem dX11_letter_47 : decode cX11_letter 47 = .ok (.getfield 77, 3) := by decide +kernel
theorem dX11_letter_50 : decode cX11_letter 50 = .ok (.iconst 1, 1) := by decide +kernel
theorem dX11_letter_51 : decode cX11_letter 51 = .ok (.iadd, 1) := by decide +kernel
theorem dX11_letter_52 : decode cX11_letter 52 = .ok (.putfield 77, 3) := by decide +kernel
theorem dX11_letter_55 : decode cX11_letter 55 = .ok (.aload_n 0, 1) := by decide +kernel
theorem dX11_letter_56 : decode cX11_letter 56 = .ok (.getfield 77, 3) := by decide +kernel
theorem dX11_letter_59 : decode cX11_letter 59 = .ok (.ireturn, 1) := by decide +kernel
theorem dX11_next_0 : decode cX11_next 0 = .ok (.aload_n 0, 1) := by decide +kernel
theorem dX11_next_1 : decode cX11_next 1 = .ok (.getfield 84, 3) := by decide +kernel
theorem dX11_next_4 : decode cX11_next 4 = .ok (.aload_n 0, 1) := by decide +kernel
theorem dX11_next_5 : decode cX11_next 5 = .ok (.getfield 77, 3) := by decide +kernel
theorem dX11_next_8 : decode cX11_next 8 = .ok (.if_icmp .ge 15, 3) := by decide +kernel
theorem dX11_next_11 : decode cX11_next 11 = .ok (.aload_n 0, 1) := by decide +kernel
theorem dX11_next_12 : decode cX11_next 12 = .ok (.getfield 37, 3) := by decide +kernel
theorem dX11_next_15 : decode cX11_next 15 = .ok (.aload_n 0, 1) := by decide +kernel
theorem dX11_next_16 : decode cX11_next 16 = .ok (.getfield 84, 3) := by decide +kernel
theorem dX11_next_19 : decode cX11_next 19 = .ok (.iaload, 1) := by decide +kernel
theorem dX11_next_20 : decode cX11_next 20 = .ok (.goto 4, 3) := by decide +kernel
theorem dX11_next_23 : decode cX11_next 23 = .ok (.iconst (-1), 1) := by decide +kernel
theorem dX11_next_24 : decode cX11_next 24 = .ok (.ireturn, 1) := by decide +kernel
set_option maxRecDepth 20000 in
theorem ggX11_readsDigit_X11_next : GoodIn wsX11_readsDigit wsX11_next := goodIn_r _ [7, 2, 8, 9, 13, 14, 15, 16, 17, 18, 19, 20, 21, 22, 23, 24, 25, 26, 27, 28, 29, 30, 31, 32, 33, 34, 35, 36, 37, 38, 39, 40] (by decide +kernel) (by decide +kernel)
set_option maxRecDepth 20000 in
theorem gX11_readsDigit_X11_next : GoodIn wsX11_readsDigit (wsV RX11 87 RX11 yX11_next wsX11_next) := goodIn_app (goodIn_of _ (by decide +kernel)) ggX11_readsDigit_X11_next
set_option maxRecDepth 20000 in
theorem ggX11_readsDigit_X11_isIn : GoodIn wsX11_readsDigit wsX11_isIn := goodIn_r _ [12] (by decide +kernel) (by decide +kernel)
set_option maxRecDepth 20000 in
theorem gX11_readsDigit_X11_isIn : GoodIn wsX11_readsDigit (va_wsS RX11 91 yX11_isIn wsX11_isIn) := goodIn_app (goodIn_of _ (by decide +kernel)) ggX11_readsDigit_X11_isIn
theorem dX11_readsDigit_0 : decode cX11_readsDigit 0 = .ok (.aload_n 0, 1) := by decide +kernel
theorem dX11_readsDigit_1 : decode cX11_readsDigit 1 = .ok (.invokevirtual 87, 3) := by decide +kernel
theorem dX11_readsDigit_4 : decode cX11_readsDigit 4 = .ok (.bipush 48, 2) := by decide +kernel
theorem dX11_readsDigit_6 : decode cX11_readsDigit 6 = .ok (.bipush 57, 2) := by decide +kernel
theorem dX11_readsDigit_8 : decode cX11_readsDigit 8 = .ok (.invokestatic 91, 3) := by decide +kernel
theorem dX11_readsDigit_11 : decode cX11_readsDigit 11 = .ok (.ifCond .ne 5, 3) := by decide +kernel
theorem dX11_readsDigit_14 : decode cX11_readsDigit 14 = .ok (.iconst 0, 1) := by decide +kernel
theorem dX11_readsDigit_15 : decode cX11_readsDigit 15 = .ok (.ireturn, 1) := by decide +kernel
theorem dX11_readsDigit_16 : decode cX11_readsDigit 16 = .ok (.aload_n 0, 1) := by decide +kernel
theorem dX11_readsDigit_17 : decode cX11_readsDigit 17 = .ok (.getfield 46, 3) := by decide +kernel
theorem dX11_readsDigit_20 : decode cX11_readsDigit 20 = .ok (.iload_n 1, 1) := by decide +kernel
theorem dX11_readsDigit_21 : decode cX11_readsDigit 21 = .ok (.aload_n 0, 1) := by decide +kernel
theorem dX11_readsDigit_22 : decode cX11_readsDigit 22 = .ok (.invokevirtual 87, 3) := by decide +kernel
theorem dX11_readsDigit_25 : decode cX11_readsDigit 25 = .ok (.bipush 48, 2) := by decide +kernel
theorem dX11_readsDigit_27 : decode cX11_readsDigit 27 = .ok (.isub, 1) := by decide +kernel
theorem dX11_readsDigit_28 : decode cX11_readsDigit 28 = .ok (.iastore, 1) := by decide +kernel
theorem dX11_readsDigit_29 : decode cX11_readsDigit 29 = .ok (.aload_n 0, 1) := by decide +kernel
theorem dX11_readsDigit_30 : decode cX11_readsDigit 30 = .ok (.dup, 1) := by decide +kernel
theorem dX11_readsDigit_31 : decode cX11_readsDigit 31 = .ok (.getfield 84, 3) := by decide +kernel
theorem dX11_readsDigit_34 : decode cX11_readsDigit 34 = .ok (.iconst 1, 1) := by decide +kernel
theorem dX11_readsDigit_35 : decode cX11_readsDigit 35 = .ok (.iadd, 1) := by decide +kernel
theorem dX11_readsDigit_36 : decode cX11_readsDigit 36 = .ok (.putfield 84, 3) := by decide +kernel
theorem dX11_readsDigit_39 : decode cX11_readsDigit 39 = .ok (.iconst 1, 1) := by decide +kernel
theorem dX11_readsDigit_40 : decode cX11_readsDigit 40 = .ok (.ireturn, 1) := by decide +kernel
theorem dX11_kindOf_0 : decode cX11_kindOf 0 = .ok (.iload_n 0, 1) := by decide +kernel
theorem dX11_kindOf_1 : decode cX11_kindOf 1 = .ok (.lookupswitch 71 #[(99, 63), (108, 69), (112, 59), (113, 61), (116, 65), (119, 67)], 59) := by decide +kernel
theorem dX11_kindOf_60 : decode cX11_kindOf 60 = .ok (.iconst 0, 1) := by decide +kernel
theorem dX11_kindOf_61 : decode cX11_kindOf 61 = .ok (.ireturn, 1) := by decide +kernel
theorem dX11_kindOf_62 : decode cX11_kindOf 62 = .ok (.iconst 1, 1) := by decide +kernel
theorem dX11_kindOf_63 : decode cX11_kindOf 63 = .ok (.ireturn, 1) := by decide +kernel
theorem dX11_kindOf_64 : decode cX11_kindOf 64 = .ok (.iconst 2, 1) := by decide +kernel
theorem dX11_kindOf_65 : decode cX11_kindOf 65 = .ok (.ireturn, 1) := by decide +kernel
theorem dX11_kindOf_66 : decode cX11_kindOf 66 = .ok (.iconst 3, 1) := by decide +kernel
theorem dX11_kindOf_67 : decode cX11_kindOf 67 = .ok (.ireturn, 1) := by decide +kernel
theorem dX11_kindOf_68 : decode cX11_kindOf 68 = .ok (.iconst 4, 1) := by decide +kernel
theorem dX11_kindOf_69 : decode cX11_kindOf 69 = .ok (.ireturn, 1) := by decide +kernel
theorem dX11_kindOf_70 : decode cX11_kindOf 70 = .ok (.iconst 5, 1) := by decide +kernel
theorem dX11_kindOf_71 : decode cX11_kindOf 71 = .ok (.ireturn, 1) := by decide +kernel
theorem dX11_kindOf_72 : decode cX11_kindOf 72 = .ok (.iconst (-1), 1) := by decide +kernel
theorem dX11_kindOf_73 : decode cX11_kindOf 73 = .ok (.ireturn, 1) := by decide +kernel
set_option maxRecDepth 20000 in
theorem ggX11_readsKind_X11_next : GoodIn wsX11_readsKind wsX11_next := goodIn_r _ [7, 2, 8, 9, 13, 14, 15, 16, 17, 18, 19, 20, 21, 22, 23, 24, 25, 26, 27, 28, 29, 30, 31, 32, 33, 34, 35, 36, 37, 38, 39, 40] (by decide +kernel) (by decide +kernel)
set_option maxRecDepth 20000 in
theorem gX11_readsKind_X11_next : GoodIn wsX11_readsKind (wsV RX11 87 RX11 yX11_next wsX11_next) := goodIn_app (goodIn_of _ (by decide +kernel)) ggX11_readsKind_X11_next
set_option maxRecDepth 20000 in
theorem ggX11_readsKind_X11_kindOf : GoodIn wsX11_readsKind wsX11_kindOf := goodIn_r _ [12] (by decide +kernel) (by decide +kernel)
set_option maxRecDepth 20000 in
theorem gX11_readsKind_X11_kindOf : GoodIn wsX11_readsKind (va_wsS RX11 95 yX11_kindOf wsX11_kindOf) := goodIn_app (goodIn_of _ (by decide +kernel)) ggX11_readsKind_X11_kindOf
theorem dX11_readsKind_0 : decode cX11_readsKind 0 = .ok (.aload_n 0, 1) := by decide +kernel
theorem dX11_readsKind_1 : decode cX11_readsKind 1 = .ok (.getfield 46, 3) := by decide +kernel
theorem dX11_readsKind_4 : decode cX11_readsKind 4 = .ok (.iload_n 1, 1) := by decide +kernel
theorem dX11_readsKind_5 : decode cX11_readsKind 5 = .ok (.aload_n 0, 1) := by decide +kernel
theorem dX11_readsKind_6 : decode cX11_readsKind 6 = .ok (.invokevirtual 87, 3) := by decide +kernel
theorem dX11_readsKind_9 : decode cX11_readsKind 9 = .ok (.invokestatic 95, 3) := by decide +kernel
theorem dX11_readsKind_12 : decode cX11_readsKind 12 = .ok (.iastore, 1) := by decide +kernel
theorem dX11_readsKind_13 : decode cX11_readsKind 13 = .ok (.aload_n 0, 1) := by decide +kernel
theorem dX11_readsKind_14 : decode cX11_readsKind 14 = .ok (.getfield 46, 3) := by decide +kernel
theorem dX11_readsKind_17 : decode cX11_readsKind 17 = .ok (.iload_n 1, 1) := by decide +kernel
theorem dX11_readsKind_18 : decode cX11_readsKind 18 = .ok (.iaload, 1) := by decide +kernel
theorem dX11_readsKind_19 : decode cX11_readsKind 19 = .ok (.ifCond .ge 5, 3) := by decide +kernel
theorem dX11_readsKind_22 : decode cX11_readsKind 22 = .ok (.iconst 0, 1) := by decide +kernel
theorem dX11_readsKind_23 : decode cX11_readsKind 23 = .ok (.ireturn, 1) := by decide +kernel
theorem dX11_readsKind_24 : decode cX11_readsKind 24 = .ok (.aload_n 0, 1) := by decide +kernel
theorem dX11_readsKind_25 : decode cX11_readsKind 25 = .ok (.dup, 1) := by decide +kernel
theorem dX11_readsKind_26 : decode cX11_readsKind 26 = .ok (.getfield 84, 3) := by decide +kernel
theorem dX11_readsKind_29 : decode cX11_readsKind 29 = .ok (.iconst 1, 1) := by decide +kernel
theorem dX11_readsKind_30 : decode cX11_readsKind 30 = .ok (.iadd, 1) := by decide +kernel
theorem dX11_readsKind_31 : decode cX11_readsKind 31 = .ok (.putfield 84, 3) := by decide +kernel
theorem dX11_readsKind_34 : decode cX11_readsKind 34 = .ok (.iconst 1, 1) := by decide +kernel
theorem dX11_readsKind_35 : decode cX11_readsKind 35 = .ok (.ireturn, 1) := by decide +kernel
set_option maxRecDepth 20000 in
theorem ggX11_readsAll_X11_readsDigit : GoodIn wsX11_readsAll wsX11_readsDigit := goodIn_r _ [5, 6, 7, 8, 9, 10, 4, 11, 12, 13, 14, 15, 16, 24, 25, 26, 27, 28, 29, 30, 31, 32, 33, 34, 35, 36, 37, 38, 39, 40, 41, 42, 43, 44, 45, 46, 47, 48, 49, 50, 51] (by decide +kernel) (by decide +kernel)
set_option maxRecDepth 20000 in
theorem gX11_readsAll_X11_readsDigit : GoodIn wsX11_readsAll (wsV RX11 98 RX11 yX11_readsDigit wsX11_readsDigit) := goodIn_app (goodIn_of _ (by decide +kernel)) ggX11_readsAll_X11_readsDigit
set_option maxRecDepth 20000 in
theorem ggX11_readsAll_X11_readsKind : GoodIn wsX11_readsAll wsX11_readsKind := goodIn_r _ [20, 6, 7, 8, 9, 10, 4, 11, 12, 13, 21, 22, 23, 24, 25, 26, 27, 28, 29, 30, 31, 32, 33, 34, 35, 36, 37, 38, 39, 40, 41, 42, 43, 44, 45, 46, 47, 48, 49, 50, 51] (by decide +kernel) (by decide +kernel)
set_option maxRecDepth 20000 in
theorem gX11_readsAll_X11_readsKind : GoodIn wsX11_readsAll (wsV RX11 101 RX11 yX11_readsKind wsX11_readsKind) := goodIn_app (goodIn_of _ (by decide +kernel)) ggX11_readsAll_X11_readsKind
theorem dX11_readsAll_0 : decode cX11_readsAll 0 = .ok (.iload_n 1, 1) := by decide +kernel
theorem dX11_readsAll_1 : decode cX11_readsAll 1 = .ok (.lookupswitch 77 #[(111, 71), (112, 27)], 27) := by decide +kernel
theorem dX11_readsAll_28 : decode cX11_readsAll 28 = .ok (.aload_n 0, 1) := by decide +kernel
theorem dX11_readsAll_29 : decode cX11_readsAll 29 = .ok (.iload_n 2, 1) := by decide +kernel
theorem dX11_readsAll_30 : decode cX11_readsAll 30 = .ok (.invokevirtual 98, 3) := by decide +kernel
theorem dX11_readsAll_33 : decode cX11_readsAll 33 = .ok (.ifCond .eq 37, 3) := by decide +kernel
theorem dX11_readsAll_36 : decode cX11_readsAll 36 = .ok (.aload_n 0, 1) := by decide +kernel
theorem dX11_readsAll_37 : decode cX11_readsAll 37 = .ok (.iload_n 2, 1) := by decide +kernel
theorem dX11_readsAll_38 : decode cX11_readsAll 38 = .ok (.iconst 1, 1) := by decide +kernel
theorem dX11_readsAll_39 : decode cX11_readsAll 39 = .ok (.iadd, 1) := by decide +kernel
theorem dX11_readsAll_40 : decode cX11_readsAll 40 = .ok (.invokevirtual 101, 3) := by decide +kernel
theorem dX11_readsAll_43 : decode cX11_readsAll 43 = .ok (.ifCond .eq 27, 3) := by decide +kernel
theorem dX11_readsAll_46 : decode cX11_readsAll 46 = .ok (.aload_n 0, 1) := by decide +kernel
theorem dX11_readsAll_47 : decode cX11_readsAll 47 = .ok (.iload_n 2, 1) := by decide +kernel
theorem dX11_readsAll_48 : decode cX11_readsAll 48 = .ok (.iconst 2, 1) := by decide +kernel
theorem dX11_readsAll_49 : decode cX11_readsAll 49 = .ok (.iadd, 1) := by decide +kernel
theorem dX11_readsAll_50 : decode cX11_readsAll 50 = .ok (.invokevirtual 98, 3) := by decide +kernel
theorem dX11_readsAll_53 : decode cX11_readsAll 53 = .ok (.ifCond .eq 17, 3) := by decide +kernel
theorem dX11_readsAll_56 : decode cX11_readsAll 56 = .ok (.aload_n 0, 1) := by decide +kernel
theorem dX11_readsAll_57 : decode cX11_readsAll 57 = .ok (.iload_n 2, 1) := by decide +kernel
theorem dX11_readsAll_58 : decode cX11_readsAll 58 = .ok (.iconst 3, 1) := by decide +kernel
theorem dX11_readsAll_59 : decode cX11_readsAll 59 = .ok (.iadd, 1) := by decide +kernel
theorem dX11_readsAll_60 : decode cX11_readsAll 60 = .ok (.invokevirtual 98, 3) := by decide +kernel
theorem dX11_readsAll_63 : decode cX11_readsAll 63 = .ok (.ifCond .eq 7, 3) := by decide +kernel
theorem dX11_readsAll_66 : decode cX11_readsAll 66 = .ok (.iconst 1, 1) := by decide +kernel
theorem dX11_readsAll_67 : decode cX11_readsAll 67 = .ok (.goto 4, 3) := by decide +kernel
theorem dX11_readsAll_70 : decode cX11_readsAll 70 = .ok (.iconst 0, 1) := by decide +kernel
theorem dX11_readsAll_71 : decode cX11_readsAll 71 = .ok (.ireturn, 1) := by decide +kernel
theorem dX11_readsAll_72 : decode cX11_readsAll 72 = .ok (.aload_n 0, 1) := by decide +kernel
theorem dX11_readsAll_73 : decode cX11_readsAll 73 = .ok (.iload_n 2, 1) := by decide +kernel
theorem dX11_readsAll_74 : decode cX11_readsAll 74 = .ok (.invokevirtual 98, 3) := by decide +kernel
theorem dX11_readsAll_77 : decode cX11_readsAll 77 = .ok (.ireturn, 1) := by decide +kernel
theorem dX11_readsAll_78 : decode cX11_readsAll 78 = .ok (.aload_n 0, 1) := by decide +kernel
theorem dX11_readsAll_79 : decode cX11_readsAll 79 = .ok (.iload_n 2, 1) := by decide +kernel
theorem dX11_readsAll_80 : decode cX11_readsAll 80 = .ok (.invokevirtual 98, 3) := by decide +kernel
theorem dX11_readsAll_83 : decode cX11_readsAll 83 = .ok (.ifCond .eq 17, 3) := by decide +kernel
theorem dX11_readsAll_86 : decode cX11_readsAll 86 = .ok (.aload_n 0, 1) := by decide +kernel
theorem dX11_readsAll_87 : decode cX11_readsAll 87 = .ok (.iload_n 2, 1) := by decide +kernel
theorem dX11_readsAll_88 : decode cX11_readsAll 88 = .ok (.iconst 1, 1) := by decide +kernel
theorem dX11_readsAll_89 : decode cX11_readsAll 89 = .ok (.iadd, 1) := by decide +kernel
theorem dX11_readsAll_90 : decode cX11_readsAll 90 = .ok (.invokevirtual 98, 3) := by decide +kernel
theorem dX11_readsAll_93 : decode cX11_readsAll 93 = .ok (.ifCond .eq 7, 3) := by decide +kernel
theorem dX11_readsAll_96 : decode cX11_readsAll 96 = .ok (.iconst 1, 1) := by decide +kernel
theorem dX11_readsAll_97 : decode cX11_readsAll 97 = .ok (.goto 4, 3) := by decide +kernel
theorem dX11_readsAll_100 : decode cX11_readsAll 100 = .ok (.iconst 0, 1) := by decide +kernel
theorem dX11_readsAll_101 : decode cX11_readsAll 101 = .ok (.ireturn, 1) := by decide +kernel
set_option maxRecDepth 20000 in
theorem ggX11_statement_X11_next : GoodIn wsX11_statement wsX11_next := goodIn_r _ [9, 4, 10, 11, 31, 32, 33, 34, 35, 36, 37, 38, 39, 40, 41, 42, 43, 44, 45, 46, 47, 48, 49, 50, 51, 52, 53, 54, 55, 56, 57, 58] (by decide +kernel) (by decide +kernel)
set_option maxRecDepth 20000 in
theorem gX11_statement_X11_next : GoodIn wsX11_statement (wsV RX11 87 RX11 yX11_next wsX11_next) := goodIn_app (goodIn_of _ (by decide +kernel)) ggX11_statement_X11_next
set_option maxRecDepth 20000 in
theorem ggX11_statement_X11_readsAll : GoodIn wsX11_statement wsX11_readsAll := goodIn_r _ [15, 16, 17, 18, 8, 19, 20, 4, 5, 6, 7, 9, 10, 11, 21, 22, 23, 24, 25, 26, 27, 28, 29, 30, 31, 32, 33, 34, 35, 36, 37, 38, 39, 40, 41, 42, 43, 44, 45, 46, 47, 48, 49, 50, 51, 52, 53, 54, 55, 56, 57, 58] (by decide +kernel) (by decide +kernel)
set_option maxRecDepth 20000 in
theorem gX11_statement_X11_readsAll : GoodIn wsX11_statement (wsV RX11 107 RX11 yX11_readsAll wsX11_readsAll) := goodIn_app (goodIn_of _ (by decide +kernel)) ggX11_statement_X11_readsAll
theorem dX11_statement_0 : decode cX11_statement 0 = .ok (.aload_n 0, 1) := by decide +kernel
theorem dX11_statement_1 : decode cX11_statement 1 = .ok (.invokevirtual 87, 3) := by decide +kernel
theorem dX11_statement_4 : decode cX11_statement 4 = .ok (.istore_n 1, 1) := by decide +kernel
theorem dX11_statement_5 : decode cX11_statement 5 = .ok (.iload_n 1, 1) := by decide +kernel
theorem dX11_statement_6 : decode cX11_statement 6 = .ok (.bipush 112, 2) := by decide +kernel
theorem dX11_statement_8 : decode cX11_statement 8 = .ok (.if_icmp .eq 23, 3) := by decide +kernel
theorem dX11_statement_11 : decode cX11_statement 11 = .ok (.iload_n 1, 1) := by decide +kernel
theorem dX11_statement_12 : decode cX11_statement 12 = .ok (.bipush 98, 2) := by decide +kernel
theorem dX11_statement_14 : decode cX11_statement 14 = .ok (.if_icmp .eq 17, 3) := by decide +kernel
theorem dX11_statement_17 : decode cX11_statement 17 = .ok (.iload_n 1, 1) := by decide +kernel
theorem dX11_statement_18 : decode cX11_statement 18 = .ok (.bipush 103, 2) := by decide +kernel
theorem dX11_statement_20 : decode cX11_statement 20 = .ok (.if_icmp .eq 11, 3) := by decide +kernel
theorem dX11_statement_23 : decode cX11_statement 23 = .ok (.iload_n 1, 1) := by decide +kernel
theorem dX11_statement_24 : decode cX11_statement 24 = .ok (.bipush 111, 2) := by decide +kernel
theorem dX11_statement_26 : decode cX11_statement 26 = .ok (.if_icmp .eq 5, 3) := by decide +kernel
theorem dX11_statement_29 : decode cX11_statement 29 = .ok (.iconst 0, 1) := by decide +kernel
theorem dX11_statement_30 : decode cX11_statement 30 = .ok (.ireturn, 1) := by decide +kernel
theorem dX11_statement_31 : decode cX11_statement 31 = .ok (.aload_n 0, 1) := by decide +kernel
theorem dX11_statement_32 : decode cX11_statement 32 = .ok (.getfield 40, 3) := by decide +kernel
theorem dX11_statement_35 : decode cX11_statement 35 = .ok (.aload_n 0, 1) := by decide +kernel
theorem dX11_statement_36 : decode cX11_statement 36 = .ok (.getfield 104, 3) := by decide +kernel
theorem dX11_statement_39 : decode cX11_statement 39 = .ok (.iload_n 1, 1) := by decide +kernel
theorem dX11_statement_40 : decode cX11_statement 40 = .ok (.iastore, 1) := by decide +kernel
theorem dX11_statement_41 : decode cX11_statement 41 = .ok (.aload_n 0, 1) := by decide +kernel
theorem dX11_statement_42 : decode cX11_statement 42 = .ok (.getfield 43, 3) := by decide +kernel
theorem dX11_statement_45 : decode cX11_statement 45 = .ok (.aload_n 0, 1) := by decide +kernel
theorem dX11_statement_46 : decode cX11_statement 46 = .ok (.getfield 104, 3) := by decide +kernel
theorem dX11_statement_49 : decode cX11_statement 49 = .ok (.aload_n 0, 1) := by decide +kernel
theorem dX11_statement_50 : decode cX11_statement 50 = .ok (.getfield 84, 3) := by decide +kernel
theorem dX11_statement_53 : decode cX11_statement 53 = .ok (.iastore, 1) := by decide +kernel
theorem dX11_statement_54 : decode cX11_statement 54 = .ok (.aload_n 0, 1) := by decide +kernel
theorem dX11_statement_55 : decode cX11_statement 55 = .ok (.dup, 1) := by decide +kernel
theorem dX11_statement_56 : decode cX11_statement 56 = .ok (.getfield 84, 3) := by decide +kernel
theorem dX11_statement_59 : decode cX11_statement 59 = .ok (.iconst 1, 1) := by decide +kernel
theorem dX11_statement_60 : decode cX11_statement 60 = .ok (.iadd, 1) := by decide +kernel
theorem dX11_statement_61 : decode cX11_statement 61 = .ok (.putfield 84, 3) := by decide +kernel
theorem dX11_statement_64 : decode cX11_statement 64 = .ok (.aload_n 0, 1) := by decide +kernel
theorem dX11_statement_65 : decode cX11_statement 65 = .ok (.iload_n 1, 1) := by decide +kernel
theorem dX11_statement_66 : decode cX11_statement 66 = .ok (.iconst 4, 1) := by decide +kernel
theorem dX11_statement_67 : decode cX11_statement 67 = .ok (.aload_n 0, 1) := by decide +kernel
theorem dX11_statement_68 : decode cX11_statement 68 = .ok (.getfield 104, 3) := by decide +kernel
theorem dX11_statement_71 : decode cX11_statement 71 = .ok (.imul, 1) := by decide +kernel
theorem dX11_statement_72 : decode cX11_statement 72 = .ok (.invokevirtual 107, 3) := by decide +kernel
theorem dX11_statement_75 : decode cX11_statement 75 = .ok (.ifCond .eq 12, 3) := by decide +kernel
theorem dX11_statement_78 : decode cX11_statement 78 = .ok (.aload_n 0, 1) := by decide +kernel
theorem dX11_statement_79 : decode cX11_statement 79 = .ok (.invokevirtual 87, 3) := by decide +kernel
theorem dX11_statement_82 : decode cX11_statement 82 = .ok (.bipush 59, 2) := by decide +kernel
theorem dX11_statement_84 : decode cX11_statement 84 = .ok (.if_icmp .eq 5, 3) := by decide +kernel
theorem dX11_statement_87 : decode cX11_statement 87 = .ok (.iconst 0, 1) := by decide +kernel
theorem dX11_statement_88 : decode cX11_statement 88 = .ok (.ireturn, 1) := by decide +kernel
theorem dX11_statement_89 : decode cX11_statement 89 = .ok (.aload_n 0, 1) := by decide +kernel
theorem dX11_statement_90 : decode cX11_statement 90 = .ok (.dup, 1) := by decide +kernel
theorem dX11_statement_91 : decode cX11_statement 91 = .ok (.getfield 84, 3) := by decide +kernel
theorem dX11_statement_94 : decode cX11_statement 94 = .ok (.iconst 1, 1) := by decide +kernel
theorem dX11_statement_95 : decode cX11_statement 95 = .ok (.iadd, 1) := by decide +kernel
theorem dX11_statement_96 : decode cX11_statement 96 = .ok (.putfield 84, 3) := by decide +kernel
theorem dX11_statement_99 : decode cX11_statement 99 = .ok (.iconst 1, 1) := by decide +kernel
theorem dX11_statement_100 : decode cX11_statement 100 = .ok (.ireturn, 1) := by decide +kernel
theorem dX11_isHeld_0 : decode cX11_isHeld 0 = .ok (.aload_n 0, 1) := by decide +kernel
theorem dX11_isHeld_1 : decode cX11_isHeld 1 = .ok (.getfield 28, 3) := by decide +kernel
theorem dX11_isHeld_4 : decode cX11_isHeld 4 = .ok (.iload_n 1, 1) := by decide +kernel
theorem dX11_isHeld_5 : decode cX11_isHeld 5 = .ok (.iload_n 2, 1) := by decide +kernel
theorem dX11_isHeld_6 : decode cX11_isHeld 6 = .ok (.iastore, 1) := by decide +kernel
theorem dX11_isHeld_7 : decode cX11_isHeld 7 = .ok (.aload_n 0, 1) := by decide +kernel
theorem dX11_isHeld_8 : decode cX11_isHeld 8 = .ok (.getfield 31, 3) := by decide +kernel
theorem dX11_isHeld_11 : decode cX11_isHeld 11 = .ok (.iload_n 1, 1) := by decide +kernel
theorem dX11_isHeld_12 : decode cX11_isHeld 12 = .ok (.bipush (-9), 2) := by decide +kernel
theorem dX11_isHeld_14 : decode cX11_isHeld 14 = .ok (.iastore, 1) := by decide +kernel
theorem dX11_isHeld_15 : decode cX11_isHeld 15 = .ok (.aload_n 0, 1) := by decide +kernel
theorem dX11_isHeld_16 : decode cX11_isHeld 16 = .ok (.getfield 34, 3) := by decide +kernel
theorem dX11_isHeld_19 : decode cX11_isHeld 19 = .ok (.iload_n 1, 1) := by decide +kernel
theorem dX11_isHeld_20 : decode cX11_isHeld 20 = .ok (.iconst 0, 1) := by decide +kernel
theorem dX11_isHeld_21 : decode cX11_isHeld 21 = .ok (.iastore, 1) := by decide +kernel
theorem dX11_isHeld_22 : decode cX11_isHeld 22 = .ok (.return_, 1) := by decide +kernel
theorem dX11_falls_0 : decode cX11_falls 0 = .ok (.aload_n 0, 1) := by decide +kernel
theorem dX11_falls_1 : decode cX11_falls 1 = .ok (.getfield 28, 3) := by decide +kernel
theorem dX11_falls_4 : decode cX11_falls 4 = .ok (.iload_n 1, 1) := by decide +kernel
theorem dX11_falls_5 : decode cX11_falls 5 = .ok (.bipush (-9), 2) := by decide +kernel
theorem dX11_falls_7 : decode cX11_falls 7 = .ok (.iastore, 1) := by decide +kernel
theorem dX11_falls_8 : decode cX11_falls 8 = .ok (.aload_n 0, 1) := by decide +kernel
theorem dX11_falls_9 : decode cX11_falls 9 = .ok (.getfield 31, 3) := by decide +kernel
theorem dX11_falls_12 : decode cX11_falls 12 = .ok (.iload_n 1, 1) := by decide +kernel
theorem dX11_falls_13 : decode cX11_falls 13 = .ok (.iload_n 2, 1) := by decide +kernel
theorem dX11_falls_14 : decode cX11_falls 14 = .ok (.iastore, 1) := by decide +kernel
theorem dX11_falls_15 : decode cX11_falls 15 = .ok (.aload_n 0, 1) := by decide +kernel
theorem dX11_falls_16 : decode cX11_falls 16 = .ok (.getfield 34, 3) := by decide +kernel
theorem dX11_falls_19 : decode cX11_falls 19 = .ok (.iload_n 1, 1) := by decide +kernel
theorem dX11_falls_20 : decode cX11_falls 20 = .ok (.iconst 0, 1) := by decide +kernel
theorem dX11_falls_21 : decode cX11_falls 21 = .ok (.iastore, 1) := by decide +kernel
theorem dX11_falls_22 : decode cX11_falls 22 = .ok (.return_, 1) := by decide +kernel
set_option maxRecDepth 20000 in
theorem ggX11_goesOut_X11_falls : GoodIn wsX11_goesOut wsX11_falls := goodIn_r _ [9, 3, 10, 11, 12, 13, 14, 15, 16, 17, 18, 19, 20, 21, 22, 23, 24, 25, 26, 27, 28, 29, 30, 31, 32, 33, 34, 35, 36, 37, 38, 39] (by decide +kernel) (by decide +kernel)
set_option maxRecDepth 20000 in
theorem gX11_goesOut_X11_falls : GoodIn wsX11_goesOut (wsV RX11 114 RX11 yX11_falls wsX11_falls) := goodIn_app (goodIn_of _ (by decide +kernel)) ggX11_goesOut_X11_falls
theorem dX11_goesOut_0 : decode cX11_goesOut 0 = .ok (.aload_n 0, 1) := by decide +kernel
theorem dX11_goesOut_1 : decode cX11_goesOut 1 = .ok (.dup, 1) := by decide +kernel
theorem dX11_goesOut_2 : decode cX11_goesOut 2 = .ok (.getfield 111, 3) := by decide +kernel
theorem dX11_goesOut_5 : decode cX11_goesOut 5 = .ok (.iconst 1, 1) := by decide +kernel
theorem dX11_goesOut_6 : decode cX11_goesOut 6 = .ok (.iadd, 1) := by decide +kernel
theorem dX11_goesOut_7 : decode cX11_goesOut 7 = .ok (.putfield 111, 3) := by decide +kernel
theorem dX11_goesOut_10 : decode cX11_goesOut 10 = .ok (.aload_n 0, 1) := by decide +kernel
theorem dX11_goesOut_11 : decode cX11_goesOut 11 = .ok (.getfield 25, 3) := by decide +kernel
theorem dX11_goesOut_14 : decode cX11_goesOut 14 = .ok (.iload_n 1, 1) := by decide +kernel
theorem dX11_goesOut_15 : decode cX11_goesOut 15 = .ok (.aload_n 0, 1) := by decide +kernel
theorem dX11_goesOut_16 : decode cX11_goesOut 16 = .ok (.getfield 111, 3) := by decide +kernel
theorem dX11_goesOut_19 : decode cX11_goesOut 19 = .ok (.iastore, 1) := by decide +kernel
theorem dX11_goesOut_20 : decode cX11_goesOut 20 = .ok (.iconst 0, 1) := by decide +kernel
theorem dX11_goesOut_21 : decode cX11_goesOut 21 = .ok (.istore_n 2, 1) := by decide +kernel
theorem dX11_goesOut_22 : decode cX11_goesOut 22 = .ok (.iload_n 2, 1) := by decide +kernel
theorem dX11_goesOut_23 : decode cX11_goesOut 23 = .ok (.bipush 6, 2) := by decide +kernel
theorem dX11_goesOut_25 : decode cX11_goesOut 25 = .ok (.if_icmp .ge 30, 3) := by decide +kernel
theorem dX11_goesOut_28 : decode cX11_goesOut 28 = .ok (.aload_n 0, 1) := by decide +kernel
theorem dX11_goesOut_29 : decode cX11_goesOut 29 = .ok (.getfield 28, 3) := by decide +kernel
theorem dX11_goesOut_32 : decode cX11_goesOut 32 = .ok (.iload_n 2, 1) := by decide +kernel
theorem dX11_goesOut_33 : decode cX11_goesOut 33 = .ok (.iaload, 1) := by decide +kernel
theorem dX11_goesOut_34 : decode cX11_goesOut 34 = .ok (.iload_n 1, 1) := by decide +kernel
theorem dX11_goesOut_35 : decode cX11_goesOut 35 = .ok (.if_icmp .ne 14, 3) := by decide +kernel
theorem dX11_goesOut_38 : decode cX11_goesOut 38 = .ok (.aload_n 0, 1) := by decide +kernel
theorem dX11_goesOut_39 : decode cX11_goesOut 39 = .ok (.iload_n 2, 1) := by decide +kernel
theorem dX11_goesOut_40 : decode cX11_goesOut 40 = .ok (.aload_n 0, 1) := by decide +kernel
theorem dX11_goesOut_41 : decode cX11_goesOut 41 = .ok (.getfield 13, 3) := by decide +kernel
theorem dX11_goesOut_44 : decode cX11_goesOut 44 = .ok (.iload_n 1, 1) := by decide +kernel
theorem dX11_goesOut_45 : decode cX11_goesOut 45 = .ok (.iaload, 1) := by decide +kernel
theorem dX11_goesOut_46 : decode cX11_goesOut 46 = .ok (.invokevirtual 114, 3) := by decide +kernel
theorem dX11_goesOut_49 : decode cX11_goesOut 49 = .ok (.iinc 2 1, 3) := by decide +kernel
theorem dX11_goesOut_52 : decode cX11_goesOut 52 = .ok (.goto (-30), 3) := by decide +kernel
theorem dX11_goesOut_55 : decode cX11_goesOut 55 = .ok (.return_, 1) := by decide +kernel
theorem dX11_comesPlayer_0 : decode cX11_comesPlayer 0 = .ok (.aload_n 0, 1) := by decide +kernel
theorem dX11_comesPlayer_1 : decode cX11_comesPlayer 1 = .ok (.getfield 46, 3) := by decide +kernel
theorem dX11_comesPlayer_4 : decode cX11_comesPlayer 4 = .ok (.iload_n 1, 1) := by decide +kernel
theorem dX11_comesPlayer_5 : decode cX11_comesPlayer 5 = .ok (.iaload, 1) := by decide +kernel
theorem dX11_comesPlayer_6 : decode cX11_comesPlayer 6 = .ok (.iconst 1, 1) := by decide +kernel
theorem dX11_comesPlayer_7 : decode cX11_comesPlayer 7 = .ok (.if_icmp .gt 12, 3) := by decide +kernel
theorem dX11_comesPlayer_10 : decode cX11_comesPlayer 10 = .ok (.aload_n 0, 1) := by decide +kernel
theorem dX11_comesPlayer_11 : decode cX11_comesPlayer 11 = .ok (.getfield 65, 3) := by decide +kernel
theorem dX11_comesPlayer_14 : decode cX11_comesPlayer 14 = .ok (.bipush 8, 2) := by decide +kernel
theorem dX11_comesPlayer_16 : decode cX11_comesPlayer 16 = .ok (.if_icmp .ne 5, 3) := by decide +kernel
theorem dX11_comesPlayer_19 : decode cX11_comesPlayer 19 = .ok (.iconst 0, 1) := by decide +kernel
theorem dX11_comesPlayer_20 : decode cX11_comesPlayer 20 = .ok (.ireturn, 1) := by decide +kernel
theorem dX11_comesPlayer_21 : decode cX11_comesPlayer 21 = .ok (.aload_n 0, 1) := by decide +kernel
theorem dX11_comesPlayer_22 : decode cX11_comesPlayer 22 = .ok (.getfield 13, 3) := by decide +kernel
theorem dX11_comesPlayer_25 : decode cX11_comesPlayer 25 = .ok (.aload_n 0, 1) := by decide +kernel
theorem dX11_comesPlayer_26 : decode cX11_comesPlayer 26 = .ok (.getfield 65, 3) := by decide +kernel
theorem dX11_comesPlayer_29 : decode cX11_comesPlayer 29 = .ok (.aload_n 0, 1) := by decide +kernel
theorem dX11_comesPlayer_30 : decode cX11_comesPlayer 30 = .ok (.getfield 46, 3) := by decide +kernel
theorem dX11_comesPlayer_33 : decode cX11_comesPlayer 33 = .ok (.iload_n 1, 1) := by decide +kernel
theorem dX11_comesPlayer_34 : decode cX11_comesPlayer 34 = .ok (.iaload, 1) := by decide +kernel
theorem dX11_comesPlayer_35 : decode cX11_comesPlayer 35 = .ok (.iastore, 1) := by decide +kernel
theorem dX11_comesPlayer_36 : decode cX11_comesPlayer 36 = .ok (.aload_n 0, 1) := by decide +kernel
theorem dX11_comesPlayer_37 : decode cX11_comesPlayer 37 = .ok (.getfield 16, 3) := by decide +kernel
theorem dX11_comesPlayer_40 : decode cX11_comesPlayer 40 = .ok (.aload_n 0, 1) := by decide +kernel
theorem dX11_comesPlayer_41 : decode cX11_comesPlayer 41 = .ok (.getfield 65, 3) := by decide +kernel
theorem dX11_comesPlayer_44 : decode cX11_comesPlayer 44 = .ok (.aload_n 0, 1) := by decide +kernel
theorem dX11_comesPlayer_45 : decode cX11_comesPlayer 45 = .ok (.getfield 46, 3) := by decide +kernel
theorem dX11_comesPlayer_48 : decode cX11_comesPlayer 48 = .ok (.iload_n 1, 1) := by decide +kernel
theorem dX11_comesPlayer_49 : decode cX11_comesPlayer 49 = .ok (.iconst 1, 1) := by decide +kernel
theorem dX11_comesPlayer_50 : decode cX11_comesPlayer 50 = .ok (.iadd, 1) := by decide +kernel
theorem dX11_comesPlayer_51 : decode cX11_comesPlayer 51 = .ok (.iaload, 1) := by decide +kernel
theorem dX11_comesPlayer_52 : decode cX11_comesPlayer 52 = .ok (.iastore, 1) := by decide +kernel
theorem dX11_comesPlayer_53 : decode cX11_comesPlayer 53 = .ok (.aload_n 0, 1) := by decide +kernel
theorem dX11_comesPlayer_54 : decode cX11_comesPlayer 54 = .ok (.getfield 19, 3) := by decide +kernel
theorem dX11_comesPlayer_57 : decode cX11_comesPlayer 57 = .ok (.aload_n 0, 1) := by decide +kernel
theorem dX11_comesPlayer_58 : decode cX11_comesPlayer 58 = .ok (.getfield 65, 3) := by decide +kernel
theorem dX11_comesPlayer_61 : decode cX11_comesPlayer 61 = .ok (.aload_n 0, 1) := by decide +kernel
theorem dX11_comesPlayer_62 : decode cX11_comesPlayer 62 = .ok (.getfield 46, 3) := by decide +kernel
theorem dX11_comesPlayer_65 : decode cX11_comesPlayer 65 = .ok (.iload_n 1, 1) := by decide +kernel
theorem dX11_comesPlayer_66 : decode cX11_comesPlayer 66 = .ok (.iconst 2, 1) := by decide +kernel
theorem dX11_comesPlayer_67 : decode cX11_comesPlayer 67 = .ok (.iadd, 1) := by decide +kernel
theorem dX11_comesPlayer_68 : decode cX11_comesPlayer 68 = .ok (.iaload, 1) := by decide +kernel
theorem dX11_comesPlayer_69 : decode cX11_comesPlayer 69 = .ok (.iastore, 1) := by decide +kernel
theorem dX11_comesPlayer_70 : decode cX11_comesPlayer 70 = .ok (.aload_n 0, 1) := by decide +kernel
theorem dX11_comesPlayer_71 : decode cX11_comesPlayer 71 = .ok (.getfield 22, 3) := by decide +kernel
theorem dX11_comesPlayer_74 : decode cX11_comesPlayer 74 = .ok (.aload_n 0, 1) := by decide +kernel
theorem dX11_comesPlayer_75 : decode cX11_comesPlayer 75 = .ok (.getfield 65, 3) := by decide +kernel
theorem dX11_comesPlayer_78 : decode cX11_comesPlayer 78 = .ok (.aload_n 0, 1) := by decide +kernel
theorem dX11_comesPlayer_79 : decode cX11_comesPlayer 79 = .ok (.getfield 46, 3) := by decide +kernel
theorem dX11_comesPlayer_82 : decode cX11_comesPlayer 82 = .ok (.iload_n 1, 1) := by decide +kernel
theorem dX11_comesPlayer_83 : decode cX11_comesPlayer 83 = .ok (.iconst 3, 1) := by decide +kernel
theorem dX11_comesPlayer_84 : decode cX11_comesPlayer 84 = .ok (.iadd, 1) := by decide +kernel
theorem dX11_comesPlayer_85 : decode cX11_comesPlayer 85 = .ok (.iaload, 1) := by decide +kernel
theorem dX11_comesPlayer_86 : decode cX11_comesPlayer 86 = .ok (.iastore, 1) := by decide +kernel
theorem dX11_comesPlayer_87 : decode cX11_comesPlayer 87 = .ok (.aload_n 0, 1) := by decide +kernel
theorem dX11_comesPlayer_88 : decode cX11_comesPlayer 88 = .ok (.getfield 25, 3) := by decide +kernel
theorem dX11_comesPlayer_91 : decode cX11_comesPlayer 91 = .ok (.aload_n 0, 1) := by decide +kernel
theorem dX11_comesPlayer_92 : decode cX11_comesPlayer 92 = .ok (.getfield 65, 3) := by decide +kernel
theorem dX11_comesPlayer_95 : decode cX11_comesPlayer 95 = .ok (.iconst 0, 1) := by decide +kernel
theorem dX11_comesPlayer_96 : decode cX11_comesPlayer 96 = .ok (.iastore, 1) := by decide +kernel
theorem dX11_comesPlayer_97 : decode cX11_comesPlayer 97 = .ok (.aload_n 0, 1) := by decide +kernel
theorem dX11_comesPlayer_98 : decode cX11_comesPlayer 98 = .ok (.dup, 1) := by decide +kernel
theorem dX11_comesPlayer_99 : decode cX11_comesPlayer 99 = .ok (.getfield 65, 3) := by decide +kernel
theorem dX11_comesPlayer_102 : decode cX11_comesPlayer 102 = .ok (.iconst 1, 1) := by decide +kernel
theorem dX11_comesPlayer_103 : decode cX11_comesPlayer 103 = .ok (.iadd, 1) := by decide +kernel
theorem dX11_comesPlayer_104 : decode cX11_comesPlayer 104 = .ok (.putfield 65, 3) := by decide +kernel
theorem dX11_comesPlayer_107 : decode cX11_comesPlayer 107 = .ok (.iconst 1, 1) := by decide +kernel
theorem dX11_comesPlayer_108 : decode cX11_comesPlayer 108 = .ok (.ireturn, 1) := by decide +kernel
set_option maxRecDepth 20000 in
theorem ggX11_comes_X11_comesPlayer : GoodIn wsX11_comes wsX11_comesPlayer := goodIn_r _ [8, 1, 9, 10, 11, 12, 13, 14, 48, 49, 50, 51, 52, 53, 54, 55, 56, 57, 58, 59, 60, 61, 62, 63, 64, 65, 66, 67, 68, 69, 70, 71, 72, 73, 74, 75] (by decide +kernel) (by decide +kernel)
set_option maxRecDepth 20000 in
theorem gX11_comes_X11_comesPlayer : GoodIn wsX11_comes (wsV RX11 118 RX11 yX11_comesPlayer wsX11_comesPlayer) := goodIn_app (goodIn_of _ (by decide +kernel)) ggX11_comes_X11_comesPlayer
set_option maxRecDepth 20000 in
theorem ggX11_comes_X11_isBall : GoodIn wsX11_comes wsX11_isBall := goodIn_r _ [17] (by decide +kernel) (by decide +kernel)
set_option maxRecDepth 20000 in
theorem gX11_comes_X11_isBall : GoodIn wsX11_comes (va_wsS RX11 121 yX11_isBall wsX11_isBall) := goodIn_app (goodIn_of _ (by decide +kernel)) ggX11_comes_X11_isBall
set_option maxRecDepth 20000 in
theorem ggX11_comes_X11_isHere : GoodIn wsX11_comes wsX11_isHere := goodIn_r _ [21, 14, 22, 23, 24, 7, 25, 9, 48, 49, 50, 51, 52, 53, 54, 55, 56, 57, 58, 59, 60, 61, 62, 63, 64, 65, 66, 67, 68, 69, 70, 71, 72, 73, 74, 75] (by decide +kernel) (by decide +kernel)
set_option maxRecDepth 20000 in
theorem gX11_comes_X11_isHere : GoodIn wsX11_comes (wsV RX11 124 RX11 yX11_isHere wsX11_isHere) := goodIn_app (goodIn_of _ (by decide +kernel)) ggX11_comes_X11_isHere
set_option maxRecDepth 20000 in
theorem ggX11_comes_X11_holds : GoodIn wsX11_comes wsX11_holds := goodIn_r _ [29, 3, 48, 49, 50, 51, 52, 53, 54, 55, 56, 57, 58, 59, 60, 61, 62, 63, 64, 65, 66, 67, 68, 69, 70, 71, 72, 73, 74, 75] (by decide +kernel) (by decide +kernel)
set_option maxRecDepth 20000 in
theorem gX11_comes_X11_holds : GoodIn wsX11_comes (wsV RX11 127 RX11 yX11_holds wsX11_holds) := goodIn_app (goodIn_of _ (by decide +kernel)) ggX11_comes_X11_holds
set_option maxRecDepth 20000 in
theorem ggX11_comes_X11_bits : GoodIn wsX11_comes wsX11_bits := goodIn_r _ [32] (by decide +kernel) (by decide +kernel)
set_option maxRecDepth 20000 in
theorem gX11_comes_X11_bits : GoodIn wsX11_comes (va_wsS RX11 130 yX11_bits wsX11_bits) := goodIn_app (goodIn_of _ (by decide +kernel)) ggX11_comes_X11_bits
set_option maxRecDepth 20000 in
theorem ggX11_comes_X11_isHeld : GoodIn wsX11_comes wsX11_isHeld := goodIn_r _ [36, 3, 37, 38, 48, 49, 50, 51, 52, 53, 54, 55, 56, 57, 58, 59, 60, 61, 62, 63, 64, 65, 66, 67, 68, 69, 70, 71, 72, 73, 74, 75] (by decide +kernel) (by decide +kernel)
set_option maxRecDepth 20000 in
theorem gX11_comes_X11_isHeld : GoodIn wsX11_comes (wsV RX11 133 RX11 yX11_isHeld wsX11_isHeld) := goodIn_app (goodIn_of _ (by decide +kernel)) ggX11_comes_X11_isHeld
set_option maxRecDepth 20000 in
theorem ggX11_comes_X11_falls : GoodIn wsX11_comes wsX11_falls := goodIn_r _ [42, 3, 37, 38, 48, 49, 50, 51, 52, 53, 54, 55, 56, 57, 58, 59, 60, 61, 62, 63, 64, 65, 66, 67, 68, 69, 70, 71, 72, 73, 74, 75] (by decide +kernel) (by decide +kernel)
set_option maxRecDepth 20000 in
theorem gX11_comes_X11_falls : GoodIn wsX11_comes (wsV RX11 114 RX11 yX11_falls wsX11_falls) := goodIn_app (goodIn_of _ (by decide +kernel)) ggX11_comes_X11_falls
set_option maxRecDepth 20000 in
theorem ggX11_comes_X11_goesOut : GoodIn wsX11_comes wsX11_goesOut := goodIn_r _ [46, 47, 14, 3, 10, 39, 40, 41, 7, 42, 37, 38, 48, 49, 50, 51, 52, 53, 54, 55, 56, 57, 58, 59, 60, 61, 62, 63, 64, 65, 66, 67, 68, 69, 70, 71, 72, 73, 74, 75] (by decide +kernel) (by decide +kernel)
set_option maxRecDepth 20000 in
theorem gX11_comes_X11_goesOut : GoodIn wsX11_comes (wsV RX11 136 RX11 yX11_goesOut wsX11_goesOut) := goodIn_app (goodIn_of _ (by decide +kernel)) ggX11_comes_X11_goesOut
theorem dX11_comes_0 : decode cX11_comes 0 = .ok (.iconst 4, 1) := by decide +kernel
theorem dX11_comes_1 : decode cX11_comes 1 = .ok (.iload_n 1, 1) := by decide +kernel
theorem dX11_comes_2 : decode cX11_comes 2 = .ok (.imul, 1) := by decide +kernel
theorem dX11_comes_3 : decode cX11_comes 3 = .ok (.istore_n 2, 1) := by decide +kernel
theorem dX11_comes_4 : decode cX11_comes 4 = .ok (.aload_n 0, 1) := by decide +kernel
theorem dX11_comes_5 : decode cX11_comes 5 = .ok (.getfield 46, 3) := by decide +kernel
theorem dX11_comes_8 : decode cX11_comes 8 = .ok (.iload_n 2, 1) := by decide +kernel
theorem dX11_comes_9 : decode cX11_comes 9 = .ok (.iaload, 1) := by decide +kernel
theorem dX11_comes_10 : decode cX11_comes 10 = .ok (.istore_n 3, 1) := by decide +kernel
theorem dX11_comes_11 : decode cX11_comes 11 = .ok (.aload_n 0, 1) := by decide +kernel
theorem dX11_comes_12 : decode cX11_comes 12 = .ok (.getfield 46, 3) := by decide +kernel
theorem dX11_comes_15 : decode cX11_comes 15 = .ok (.iload_n 2, 1) := by decide +kernel
theorem dX11_comes_16 : decode cX11_comes 16 = .ok (.iconst 1, 1) := by decide +kernel
theorem dX11_comes_17 : decode cX11_comes 17 = .ok (.iadd, 1) := by decide +kernel
theorem dX11_comes_18 : decode cX11_comes 18 = .ok (.iaload, 1) := by decide +kernel
theorem dX11_comes_19 : decode cX11_comes 19 = .ok (.istore 4, 2) := by decide +kernel
theorem dX11_comes_21 : decode cX11_comes 21 = .ok (.aload_n 0, 1) := by decide +kernel
theorem dX11_comes_22 : decode cX11_comes 22 = .ok (.getfield 40, 3) := by decide +kernel
theorem dX11_comes_25 : decode cX11_comes 25 = .ok (.iload_n 1, 1) := by decide +kernel
theorem dX11_comes_26 : decode cX11_comes 26 = .ok (.iaload, 1) := by decide +kernel
theorem dX11_comes_27 : decode cX11_comes 27 = .ok (.lookupswitch 114 #[(98, 39), (103, 90), (112, 33)], 33) := by decide +kernel
theorem dX11_comes_60 : decode cX11_comes 60 = .ok (.aload_n 0, 1) := by decide +kernel
theorem dX11_comes_61 : decode cX11_comes 61 = .ok (.iload_n 2, 1) := by decide +kernel
theorem dX11_comes_62 : decode cX11_comes 62 = .ok (.invokevirtual 118, 3) := by decide +kernel
theorem dX11_comes_65 : decode cX11_comes 65 = .ok (.ireturn, 1) := by decide +kernel
theorem dX11_comes_66 : decode cX11_comes 66 = .ok (.iload_n 3, 1) := by decide +kernel
theorem dX11_comes_67 : decode cX11_comes 67 = .ok (.invokestatic 121, 3) := by decide +kernel
theorem dX11_comes_70 : decode cX11_comes 70 = .ok (.ifCond .eq 36, 3) := by decide +kernel
theorem dX11_comes_73 : decode cX11_comes 73 = .ok (.aload_n 0, 1) := by decide +kernel
theorem dX11_comes_74 : decode cX11_comes 74 = .ok (.iload 4, 2) := by decide +kernel
theorem dX11_comes_76 : decode cX11_comes 76 = .ok (.invokevirtual 124, 3) := by decide +kernel
theorem dX11_comes_79 : decode cX11_comes 79 = .ok (.ifCond .eq 27, 3) := by decide +kernel
theorem dX11_comes_82 : decode cX11_comes 82 = .ok (.aload_n 0, 1) := by decide +kernel
theorem dX11_comes_83 : decode cX11_comes 83 = .ok (.getfield 28, 3) := by decide +kernel
theorem dX11_comes_86 : decode cX11_comes 86 = .ok (.iload_n 3, 1) := by decide +kernel
theorem dX11_comes_87 : decode cX11_comes 87 = .ok (.iaload, 1) := by decide +kernel
theorem dX11_comes_88 : decode cX11_comes 88 = .ok (.iload 4, 2) := by decide +kernel
theorem dX11_comes_90 : decode cX11_comes 90 = .ok (.if_icmp .eq 18, 3) := by decide +kernel
theorem dX11_comes_93 : decode cX11_comes 93 = .ok (.aload_n 0, 1) := by decide +kernel
theorem dX11_comes_94 : decode cX11_comes 94 = .ok (.iload 4, 2) := by decide +kernel
theorem dX11_comes_96 : decode cX11_comes 96 = .ok (.invokevirtual 127, 3) := by decide +kernel
theorem dX11_comes_99 : decode cX11_comes 99 = .ok (.invokestatic 130, 3) := by decide +kernel
theorem dX11_comes_102 : decode cX11_comes 102 = .ok (.iconst 1, 1) := by decide +kernel
theorem dX11_comes_103 : decode cX11_comes 103 = .ok (.if_icmp .le 5, 3) := by decide +kernel
theorem dX11_comes_106 : decode cX11_comes 106 = .ok (.iconst 0, 1) := by decide +kernel
theorem dX11_comes_107 : decode cX11_comes 107 = .ok (.ireturn, 1) := by decide +kernel
theorem dX11_comes_108 : decode cX11_comes 108 = .ok (.aload_n 0, 1) := by decide +kernel
theorem dX11_comes_109 : decode cX11_comes 109 = .ok (.iload_n 3, 1) := by decide +kernel
theorem dX11_comes_110 : decode cX11_comes 110 = .ok (.iload 4, 2) := by decide +kernel
theorem dX11_comes_112 : decode cX11_comes 112 = .ok (.invokevirtual 133, 3) := by decide +kernel
theorem dX11_comes_115 : decode cX11_comes 115 = .ok (.iconst 1, 1) := by decide +kernel
theorem dX11_comes_116 : decode cX11_comes 116 = .ok (.ireturn, 1) := by decide +kernel
theorem dX11_comes_117 : decode cX11_comes 117 = .ok (.iload_n 3, 1) := by decide +kernel
theorem dX11_comes_118 : decode cX11_comes 118 = .ok (.invokestatic 121, 3) := by decide +kernel
theorem dX11_comes_121 : decode cX11_comes 121 = .ok (.ifCond .eq 9, 3) := by decide +kernel
theorem dX11_comes_124 : decode cX11_comes 124 = .ok (.iload 4, 2) := by decide +kernel
theorem dX11_comes_126 : decode cX11_comes 126 = .ok (.iconst 1, 1) := by decide +kernel
theorem dX11_comes_127 : decode cX11_comes 127 = .ok (.if_icmp .le 5, 3) := by decide +kernel
theorem dX11_comes_130 : decode cX11_comes 130 = .ok (.iconst 0, 1) := by decide +kernel
theorem dX11_comes_131 : decode cX11_comes 131 = .ok (.ireturn, 1) := by decide +kernel
theorem dX11_comes_132 : decode cX11_comes 132 = .ok (.aload_n 0, 1) := by decide +kernel
theorem dX11_comes_133 : decode cX11_comes 133 = .ok (.iload_n 3, 1) := by decide +kernel
theorem dX11_comes_134 : decode cX11_comes 134 = .ok (.iload 4, 2) := by decide +kernel
theorem dX11_comes_136 : decode cX11_comes 136 = .ok (.invokevirtual 114, 3) := by decide +kernel
theorem dX11_comes_139 : decode cX11_comes 139 = .ok (.iconst 1, 1) := by decide +kernel
theorem dX11_comes_140 : decode cX11_comes 140 = .ok (.ireturn, 1) := by decide +kernel
theorem dX11_comes_141 : decode cX11_comes 141 = .ok (.aload_n 0, 1) := by decide +kernel
theorem dX11_comes_142 : decode cX11_comes 142 = .ok (.iload_n 3, 1) := by decide +kernel
theorem dX11_comes_143 : decode cX11_comes 143 = .ok (.invokevirtual 124, 3) := by decide +kernel
theorem dX11_comes_146 : decode cX11_comes 146 = .ok (.ifCond .ne 5, 3) := by decide +kernel
theorem dX11_comes_149 : decode cX11_comes 149 = .ok (.iconst 0, 1) := by decide +kernel
theorem dX11_comes_150 : decode cX11_comes 150 = .ok (.ireturn, 1) := by decide +kernel
theorem dX11_comes_151 : decode cX11_comes 151 = .ok (.aload_n 0, 1) := by decide +kernel
theorem dX11_comes_152 : decode cX11_comes 152 = .ok (.iload_n 3, 1) := by decide +kernel
theorem dX11_comes_153 : decode cX11_comes 153 = .ok (.invokevirtual 136, 3) := by decide +kernel
theorem dX11_comes_156 : decode cX11_comes 156 = .ok (.iconst 1, 1) := by decide +kernel
theorem dX11_comes_157 : decode cX11_comes 157 = .ok (.ireturn, 1) := by decide +kernel
set_option maxRecDepth 20000 in
theorem ggX11_hall_X11_statement : GoodIn wsX11_hall wsX11_statement := goodIn_r _ [9, 10, 2, 4, 1, 11, 12, 13, 8, 14, 3, 15, 16, 17, 18, 19, 20, 21, 22, 23, 24, 25, 26, 27, 28, 29, 30, 31, 32, 33, 34, 99, 100, 101, 102, 103, 104, 105, 106, 107, 108, 109, 110, 111, 112, 113, 114, 115, 116, 117, 118, 119, 120, 121, 122, 123, 124, 125, 126] (by decide +kernel) (by decide +kernel)
set_option maxRecDepth 20000 in
theorem gX11_hall_X11_statement : GoodIn wsX11_hall (wsV RX11 140 RX11 yX11_statement wsX11_statement) := goodIn_app (goodIn_of _ (by decide +kernel)) ggX11_hall_X11_statement
set_option maxRecDepth 20000 in
theorem ggX11_hall_X11_passesAll : GoodIn wsX11_hall wsX11_passesAll := goodIn_r _ [38, 39, 40, 41, 42, 43, 44, 45, 46, 47, 48, 49, 50, 51, 52, 53, 54, 8, 55, 56, 57, 58, 59, 60, 99, 100, 101, 102, 103, 104, 105, 106, 107, 108, 109, 110, 111, 112, 113, 114, 115, 116, 117, 118, 119, 120, 121, 122, 123, 124, 125, 126] (by decide +kernel) (by decide +kernel)
set_option maxRecDepth 20000 in
theorem gX11_hall_X11_passesAll : GoodIn wsX11_hall (wsV RX11 144 RX11 yX11_passesAll wsX11_passesAll) := goodIn_app (goodIn_of _ (by decide +kernel)) ggX11_hall_X11_passesAll
set_option maxRecDepth 20000 in
theorem ggX11_hall_X11_comes : GoodIn wsX11_hall wsX11_comes := goodIn_r _ [64, 24, 10, 46, 65, 66, 67, 8, 68, 49, 41, 42, 43, 44, 45, 69, 70, 71, 72, 73, 74, 75, 76, 77, 78, 79, 80, 81, 82, 83, 84, 85, 86, 87, 88, 89, 90, 47, 48, 91, 92, 93, 94, 95, 96, 97, 98, 51, 99, 100, 101, 102, 103, 104, 105, 106, 107, 108, 109, 110, 111, 112, 113, 114, 115, 116, 117, 118, 119, 120, 121, 122, 123, 124, 125, 126] (by decide +kernel) (by decide +kernel)
set_option maxRecDepth 20000 in
theorem gX11_hall_X11_comes : GoodIn wsX11_hall (wsV RX11 148 RX11 yX11_comes wsX11_comes) := goodIn_app (goodIn_of _ (by decide +kernel)) ggX11_hall_X11_comes
theorem dX11_hall_0 : decode cX11_hall 0 = .ok (.aload_n 0, 1) := by decide +kernel
theorem dX11_hall_1 : decode cX11_hall 1 = .ok (.iconst 0, 1) := by decide +kernel
theorem dX11_hall_2 : decode cX11_hall 2 = .ok (.putfield 84, 3) := by decide +kernel
theorem dX11_hall_5 : decode cX11_hall 5 = .ok (.aload_n 0, 1) := by decide +kernel
theorem dX11_hall_6 : decode cX11_hall 6 = .ok (.iconst 0, 1) := by decide +kernel
theorem dX11_hall_7 : decode cX11_hall 7 = .ok (.putfield 104, 3) := by decide +kernel
theorem dX11_hall_10 : decode cX11_hall 10 = .ok (.iconst 1, 1) := by decide +kernel
theorem dX11_hall_11 : decode cX11_hall 11 = .ok (.istore_n 1, 1) := by decide +kernel
theorem dX11_hall_12 : decode cX11_hall 12 = .ok (.iload_n 1, 1) := by decide +kernel
theorem dX11_hall_13 : decode cX11_hall 13 = .ok (.ifCond .eq 47, 3) := by decide +kernel
theorem dX11_hall_16 : decode cX11_hall 16 = .ok (.aload_n 0, 1) := by decide +kernel
theorem dX11_hall_17 : decode cX11_hall 17 = .ok (.getfield 84, 3) := by decide +kernel
theorem dX11_hall_20 : decode cX11_hall 20 = .ok (.aload_n 0, 1) := by decide +kernel
theorem dX11_hall_21 : decode cX11_hall 21 = .ok (.getfield 77, 3) := by decide +kernel
theorem dX11_hall_24 : decode cX11_hall 24 = .ok (.if_icmp .lt 10, 3) := by decide +kernel
theorem dX11_hall_27 : decode cX11_hall 27 = .ok (.aload_n 0, 1) := by decide +kernel
theorem dX11_hall_28 : decode cX11_hall 28 = .ok (.getfield 104, 3) := by decide +kernel
theorem dX11_hall_31 : decode cX11_hall 31 = .ok (.ifCond .ne 29, 3) := by decide +kernel
theorem dX11_hall_34 : decode cX11_hall 34 = .ok (.aload_n 0, 1) := by decide +kernel
theorem dX11_hall_35 : decode cX11_hall 35 = .ok (.invokevirtual 140, 3) := by decide +kernel
theorem dX11_hall_38 : decode cX11_hall 38 = .ok (.istore_n 1, 1) := by decide +kernel
theorem dX11_hall_39 : decode cX11_hall 39 = .ok (.aload_n 0, 1) := by decide +kernel
theorem dX11_hall_40 : decode cX11_hall 40 = .ok (.dup, 1) := by decide +kernel
theorem dX11_hall_41 : decode cX11_hall 41 = .ok (.getfield 104, 3) := by decide +kernel
theorem dX11_hall_44 : decode cX11_hall 44 = .ok (.iload_n 1, 1) := by decide +kernel
theorem dX11_hall_45 : decode cX11_hall 45 = .ok (.ifCond .eq 7, 3) := by decide +kernel
theorem dX11_hall_48 : decode cX11_hall 48 = .ok (.iconst 1, 1) := by decide +kernel
theorem dX11_hall_49 : decode cX11_hall 49 = .ok (.goto 4, 3) := by decide +kernel
theorem dX11_hall_52 : decode cX11_hall 52 = .ok (.iconst 0, 1) := by decide +kernel
theorem dX11_hall_53 : decode cX11_hall 53 = .ok (.iadd, 1) := by decide +kernel
theorem dX11_hall_54 : decode cX11_hall 54 = .ok (.putfield 104, 3) := by decide +kernel
theorem dX11_hall_57 : decode cX11_hall 57 = .ok (.goto (-45), 3) := by decide +kernel
theorem dX11_hall_60 : decode cX11_hall 60 = .ok (.aload_n 0, 1) := by decide +kernel
theorem dX11_hall_61 : decode cX11_hall 61 = .ok (.iconst 0, 1) := by decide +kernel
theorem dX11_hall_62 : decode cX11_hall 62 = .ok (.putfield 77, 3) := by decide +kernel
theorem dX11_hall_65 : decode cX11_hall 65 = .ok (.iload_n 1, 1) := by decide +kernel
theorem dX11_hall_66 : decode cX11_hall 66 = .ok (.ifCond .ne 12, 3) := by decide +kernel
theorem dX11_hall_69 : decode cX11_hall 69 = .ok (.sipush (-1000), 3) := by decide +kernel
theorem dX11_hall_72 : decode cX11_hall 72 = .ok (.aload_n 0, 1) := by decide +kernel
theorem dX11_hall_73 : decode cX11_hall 73 = .ok (.getfield 84, 3) := by decide +kernel
theorem dX11_hall_76 : decode cX11_hall 76 = .ok (.isub, 1) := by decide +kernel
theorem dX11_hall_77 : decode cX11_hall 77 = .ok (.ireturn, 1) := by decide +kernel
theorem dX11_hall_78 : decode cX11_hall 78 = .ok (.aload_n 0, 1) := by decide +kernel
theorem dX11_hall_79 : decode cX11_hall 79 = .ok (.iconst 1, 1) := by decide +kernel
theorem dX11_hall_80 : decode cX11_hall 80 = .ok (.iconst 1, 1) := by decide +kernel
theorem dX11_hall_81 : decode cX11_hall 81 = .ok (.invokevirtual 144, 3) := by decide +kernel
theorem dX11_hall_84 : decode cX11_hall 84 = .ok (.iconst 0, 1) := by decide +kernel
theorem dX11_hall_85 : decode cX11_hall 85 = .ok (.istore_n 2, 1) := by decide +kernel
theorem dX11_hall_86 : decode cX11_hall 86 = .ok (.iload_n 2, 1) := by decide +kernel
theorem dX11_hall_87 : decode cX11_hall 87 = .ok (.aload_n 0, 1) := by decide +kernel
theorem dX11_hall_88 : decode cX11_hall 88 = .ok (.getfield 104, 3) := by decide +kernel
theorem dX11_hall_91 : decode cX11_hall 91 = .ok (.if_icmp .ge 37, 3) := by decide +kernel
theorem dX11_hall_94 : decode cX11_hall 94 = .ok (.aload_n 0, 1) := by decide +kernel
theorem dX11_hall_95 : decode cX11_hall 95 = .ok (.iload_n 2, 1) := by decide +kernel
theorem dX11_hall_96 : decode cX11_hall 96 = .ok (.invokevirtual 148, 3) := by decide +kernel
theorem dX11_hall_99 : decode cX11_hall 99 = .ok (.ifCond .eq 6, 3) := by decide +kernel
theorem dX11_hall_102 : decode cX11_hall 102 = .ok (.goto 20, 3) := by decide +kernel
theorem dX11_hall_105 : decode cX11_hall 105 = .ok (.aload_n 0, 1) := by decide +kernel
theorem dX11_hall_106 : decode cX11_hall 106 = .ok (.iconst 1, 1) := by decide +kernel
theorem dX11_hall_107 : decode cX11_hall 107 = .ok (.iconst 0, 1) := by decide +kernel
theorem dX11_hall_108 : decode cX11_hall 108 = .ok (.invokevirtual 144, 3) := by decide +kernel
theorem dX11_hall_111 : decode cX11_hall 111 = .ok (.sipush (-2000), 3) := by decide +kernel
theorem dX11_hall_114 : decode cX11_hall 114 = .ok (.aload_n 0, 1) := by decide +kernel
theorem dX11_hall_115 : decode cX11_hall 115 = .ok (.getfield 43, 3) := by decide +kernel
theorem dX11_hall_118 : decode cX11_hall 118 = .ok (.iload_n 2, 1) := by decide +kernel
theorem dX11_hall_119 : decode cX11_hall 119 = .ok (.iaload, 1) := by decide +kernel
theorem dX11_hall_120 : decode cX11_hall 120 = .ok (.isub, 1) := by decide +kernel
theorem dX11_hall_121 : decode cX11_hall 121 = .ok (.ireturn, 1) := by decide +kernel
theorem dX11_hall_122 : decode cX11_hall 122 = .ok (.iinc 2 1, 3) := by decide +kernel
theorem dX11_hall_125 : decode cX11_hall 125 = .ok (.goto (-39), 3) := by decide +kernel
theorem dX11_hall_128 : decode cX11_hall 128 = .ok (.aload_n 0, 1) := by decide +kernel
theorem dX11_hall_129 : decode cX11_hall 129 = .ok (.getfield 104, 3) := by decide +kernel
theorem dX11_hall_132 : decode cX11_hall 132 = .ok (.ireturn, 1) := by decide +kernel
theorem dX11_passes_0 : decode cX11_passes 0 = .ok (.iconst 0, 1) := by decide +kernel
theorem dX11_passes_1 : decode cX11_passes 1 = .ok (.istore_n 2, 1) := by decide +kernel
theorem dX11_passes_2 : decode cX11_passes 2 = .ok (.iload_n 2, 1) := by decide +kernel
theorem dX11_passes_3 : decode cX11_passes 3 = .ok (.aload_n 1, 1) := by decide +kernel
theorem dX11_passes_4 : decode cX11_passes 4 = .ok (.arraylength, 1) := by decide +kernel
theorem dX11_passes_5 : decode cX11_passes 5 = .ok (.if_icmp .ge 53, 3) := by decide +kernel
theorem dX11_passes_8 : decode cX11_passes 8 = .ok (.aload_n 0, 1) := by decide +kernel
theorem dX11_passes_9 : decode cX11_passes 9 = .ok (.getfield 151, 3) := by decide +kernel
theorem dX11_passes_12 : decode cX11_passes 12 = .ok (.ifCond .eq 18, 3) := by decide +kernel
theorem dX11_passes_15 : decode cX11_passes 15 = .ok (.aload_n 0, 1) := by decide +kernel
theorem dX11_passes_16 : decode cX11_passes 16 = .ok (.getfield 49, 3) := by decide +kernel
theorem dX11_passes_19 : decode cX11_passes 19 = .ok (.aload_n 0, 1) := by decide +kernel
theorem dX11_passes_20 : decode cX11_passes 20 = .ok (.getfield 155, 3) := by decide +kernel
theorem dX11_passes_23 : decode cX11_passes 23 = .ok (.aload_n 1, 1) := by decide +kernel
theorem dX11_passes_24 : decode cX11_passes 24 = .ok (.iload_n 2, 1) := by decide +kernel
theorem dX11_passes_25 : decode cX11_passes 25 = .ok (.iaload, 1) := by decide +kernel
theorem dX11_passes_26 : decode cX11_passes 26 = .ok (.iastore, 1) := by decide +kernel
theorem dX11_passes_27 : decode cX11_passes 27 = .ok (.goto 15, 3) := by decide +kernel
theorem dX11_passes_30 : decode cX11_passes 30 = .ok (.aload_n 1, 1) := by decide +kernel
theorem dX11_passes_31 : decode cX11_passes 31 = .ok (.iload_n 2, 1) := by decide +kernel
theorem dX11_passes_32 : decode cX11_passes 32 = .ok (.aload_n 0, 1) := by decide +kernel
theorem dX11_passes_33 : decode cX11_passes 33 = .ok (.getfield 49, 3) := by decide +kernel
theorem dX11_passes_36 : decode cX11_passes 36 = .ok (.aload_n 0, 1) := by decide +kernel
theorem dX11_passes_37 : decode cX11_passes 37 = .ok (.getfield 155, 3) := by decide +kernel
theorem dX11_passes_40 : decode cX11_passes 40 = .ok (.iaload, 1) := by decide +kernel
theorem dX11_passes_41 : decode cX11_passes 41 = .ok (.iastore, 1) := by decide +kernel
theorem dX11_passes_42 : decode cX11_passes 42 = .ok (.aload_n 0, 1) := by decide +kernel
theorem dX11_passes_43 : decode cX11_passes 43 = .ok (.dup, 1) := by decide +kernel
theorem dX11_passes_44 : decode cX11_passes 44 = .ok (.getfield 155, 3) := by decide +kernel
theorem dX11_passes_47 : decode cX11_passes 47 = .ok (.iconst 1, 1) := by decide +kernel
theorem dX11_passes_48 : decode cX11_passes 48 = .ok (.iadd, 1) := by decide +kernel
theorem dX11_passes_49 : decode cX11_passes 49 = .ok (.putfield 155, 3) := by decide +kernel
theorem dX11_passes_52 : decode cX11_passes 52 = .ok (.iinc 2 1, 3) := by decide +kernel
theorem dX11_passes_55 : decode cX11_passes 55 = .ok (.goto (-53), 3) := by decide +kernel
theorem dX11_passes_58 : decode cX11_passes 58 = .ok (.return_, 1) := by decide +kernel
theorem dX11_passOne_0 : decode cX11_passOne 0 = .ok (.aload_n 0, 1) := by decide +kernel
theorem dX11_passOne_1 : decode cX11_passOne 1 = .ok (.getfield 151, 3) := by decide +kernel
theorem dX11_passOne_4 : decode cX11_passOne 4 = .ok (.ifCond .eq 7, 3) := by decide +kernel
theorem dX11_passOne_7 : decode cX11_passOne 7 = .ok (.iload_n 1, 1) := by decide +kernel
theorem dX11_passOne_8 : decode cX11_passOne 8 = .ok (.goto 12, 3) := by decide +kernel
theorem dX11_passOne_11 : decode cX11_passOne 11 = .ok (.aload_n 0, 1) := by decide +kernel
theorem dX11_passOne_12 : decode cX11_passOne 12 = .ok (.getfield 49, 3) := by decide +kernel
theorem dX11_passOne_15 : decode cX11_passOne 15 = .ok (.aload_n 0, 1) := by decide +kernel
theorem dX11_passOne_16 : decode cX11_passOne 16 = .ok (.getfield 155, 3) := by decide +kernel
theorem dX11_passOne_19 : decode cX11_passOne 19 = .ok (.iaload, 1) := by decide +kernel
theorem dX11_passOne_20 : decode cX11_passOne 20 = .ok (.istore_n 2, 1) := by decide +kernel
theorem dX11_passOne_21 : decode cX11_passOne 21 = .ok (.aload_n 0, 1) := by decide +kernel
theorem dX11_passOne_22 : decode cX11_passOne 22 = .ok (.getfield 151, 3) := by decide +kernel
theorem dX11_passOne_25 : decode cX11_passOne 25 = .ok (.ifCond .eq 13, 3) := by decide +kernel
theorem dX11_passOne_28 : decode cX11_passOne 28 = .ok (.aload_n 0, 1) := by decide +kernel
theorem dX11_passOne_29 : decode cX11_passOne 29 = .ok (.getfield 49, 3) := by decide +kernel
theorem dX11_passOne_32 : decode cX11_passOne 32 = .ok (.aload_n 0, 1) := by decide +kernel
theorem dX11_passOne_33 : decode cX11_passOne 33 = .ok (.getfield 155, 3) := by decide +kernel
theorem dX11_passOne_36 : decode cX11_passOne 36 = .ok (.iload_n 1, 1) := by decide +kernel
theorem dX11_passOne_37 : decode cX11_passOne 37 = .ok (.iastore, 1) := by decide +kernel
theorem dX11_passOne_38 : decode cX11_passOne 38 = .ok (.aload_n 0, 1) := by decide +kernel
theorem dX11_passOne_39 : decode cX11_passOne 39 = .ok (.dup, 1) := by decide +kernel
theorem dX11_passOne_40 : decode cX11_passOne 40 = .ok (.getfield 155, 3) := by decide +kernel
theorem dX11_passOne_43 : decode cX11_passOne 43 = .ok (.iconst 1, 1) := by decide +kernel
theorem dX11_passOne_44 : decode cX11_passOne 44 = .ok (.iadd, 1) := by decide +kernel
theorem dX11_passOne_45 : decode cX11_passOne 45 = .ok (.putfield 155, 3) := by decide +kernel
theorem dX11_passOne_48 : decode cX11_passOne 48 = .ok (.iload_n 2, 1) := by decide +kernel
theorem dX11_passOne_49 : decode cX11_passOne 49 = .ok (.ireturn, 1) := by decide +kernel
set_option maxRecDepth 20000 in
theorem ggX11_passesAll_X11_passes : GoodIn wsX11_passesAll wsX11_passes := goodIn_r _ [18, 2, 19, 1, 24, 25, 26, 27, 28, 29, 30, 31, 32, 33, 34, 35, 36, 37, 38, 39, 40, 41, 42, 43, 44, 45, 46, 47, 48, 49, 50, 51] (by decide +kernel) (by decide +kernel)
set_option maxRecDepth 20000 in
theorem gX11_passesAll_X11_passes : GoodIn wsX11_passesAll (wsV RX11 158 RX11 yX11_passes wsX11_passes) := goodIn_app (goodIn_of _ (by decide +kernel)) ggX11_passesAll_X11_passes
set_option maxRecDepth 20000 in
theorem ggX11_passesAll_X11_passOne : GoodIn wsX11_passesAll wsX11_passOne := goodIn_r _ [23, 2, 19, 1, 24, 25, 26, 27, 28, 29, 30, 31, 32, 33, 34, 35, 36, 37, 38, 39, 40, 41, 42, 43, 44, 45, 46, 47, 48, 49, 50, 51] (by decide +kernel) (by decide +kernel)
set_option maxRecDepth 20000 in
theorem gX11_passesAll_X11_passOne : GoodIn wsX11_passesAll (wsV RX11 162 RX11 yX11_passOne wsX11_passOne) := goodIn_app (goodIn_of _ (by decide +kernel)) ggX11_passesAll_X11_passOne
theorem dX11_passesAll_0 : decode cX11_passesAll 0 = .ok (.aload_n 0, 1) := by decide +kernel
theorem dX11_passesAll_1 : decode cX11_passesAll 1 = .ok (.bipush 65, 2) := by decide +kernel
theorem dX11_passesAll_3 : decode cX11_passesAll 3 = .ok (.iload_n 1, 1) := by decide +kernel
theorem dX11_passesAll_4 : decode cX11_passesAll 4 = .ok (.imul, 1) := by decide +kernel
theorem dX11_passesAll_5 : decode cX11_passesAll 5 = .ok (.putfield 155, 3) := by decide +kernel
theorem dX11_passesAll_8 : decode cX11_passesAll 8 = .ok (.aload_n 0, 1) := by decide +kernel
theorem dX11_passesAll_9 : decode cX11_passesAll 9 = .ok (.iload_n 2, 1) := by decide +kernel
theorem dX11_passesAll_10 : decode cX11_passesAll 10 = .ok (.putfield 151, 3) := by decide +kernel
theorem dX11_passesAll_13 : decode cX11_passesAll 13 = .ok (.aload_n 0, 1) := by decide +kernel
theorem dX11_passesAll_14 : decode cX11_passesAll 14 = .ok (.aload_n 0, 1) := by decide +kernel
theorem dX11_passesAll_15 : decode cX11_passesAll 15 = .ok (.getfield 13, 3) := by decide +kernel
theorem dX11_passesAll_18 : decode cX11_passesAll 18 = .ok (.invokevirtual 158, 3) := by decide +kernel
theorem dX11_passesAll_21 : decode cX11_passesAll 21 = .ok (.aload_n 0, 1) := by decide +kernel
theorem dX11_passesAll_22 : decode cX11_passesAll 22 = .ok (.aload_n 0, 1) := by decide +kernel
theorem dX11_passesAll_23 : decode cX11_passesAll 23 = .ok (.getfield 16, 3) := by decide +kernel
theorem dX11_passesAll_26 : decode cX11_passesAll 26 = .ok (.invokevirtual 158, 3) := by decide +kernel
theorem dX11_passesAll_29 : decode cX11_passesAll 29 = .ok (.aload_n 0, 1) := by decide +kernel
theorem dX11_passesAll_30 : decode cX11_passesAll 30 = .ok (.aload_n 0, 1) := by decide +kernel
theorem dX11_passesAll_31 : decode cX11_passesAll 31 = .ok (.getfield 19, 3) := by decide +kernel
theorem dX11_passesAll_34 : decode cX11_passesAll 34 = .ok (.invokevirtual 158, 3) := by decide +kernel
theorem dX11_passesAll_37 : decode cX11_passesAll 37 = .ok (.aload_n 0, 1) := by decide +kernel
theorem dX11_passesAll_38 : decode cX11_passesAll 38 = .ok (.aload_n 0, 1) := by decide +kernel
theorem dX11_passesAll_39 : decode cX11_passesAll 39 = .ok (.getfield 22, 3) := by decide +kernel
theorem dX11_passesAll_42 : decode cX11_passesAll 42 = .ok (.invokevirtual 158, 3) := by decide +kernel
theorem dX11_passesAll_45 : decode cX11_passesAll 45 = .ok (.aload_n 0, 1) := by decide +kernel
theorem dX11_passesAll_46 : decode cX11_passesAll 46 = .ok (.aload_n 0, 1) := by decide +kernel
theorem dX11_passesAll_47 : decode cX11_passesAll 47 = .ok (.getfield 25, 3) := by decide +kernel
theorem dX11_passesAll_50 : decode cX11_passesAll 50 = .ok (.invokevirtual 158, 3) := by decide +kernel
theorem dX11_passesAll_53 : decode cX11_passesAll 53 = .ok (.aload_n 0, 1) := by decide +kernel
theorem dX11_passesAll_54 : decode cX11_passesAll 54 = .ok (.aload_n 0, 1) := by decide +kernel
theorem dX11_passesAll_55 : decode cX11_passesAll 55 = .ok (.getfield 28, 3) := by decide +kernel
theorem dX11_passesAll_58 : decode cX11_passesAll 58 = .ok (.invokevirtual 158, 3) := by decide +kernel
theorem dX11_passesAll_61 : decode cX11_passesAll 61 = .ok (.aload_n 0, 1) := by decide +kernel
theorem dX11_passesAll_62 : decode cX11_passesAll 62 = .ok (.aload_n 0, 1) := by decide +kernel
theorem dX11_passesAll_63 : decode cX11_passesAll 63 = .ok (.getfield 31, 3) := by decide +kernel
theorem dX11_passesAll_66 : decode cX11_passesAll 66 = .ok (.invokevirtual 158, 3) := by decide +kernel
theorem dX11_passesAll_69 : decode cX11_passesAll 69 = .ok (.aload_n 0, 1) := by decide +kernel
theorem dX11_passesAll_70 : decode cX11_passesAll 70 = .ok (.aload_n 0, 1) := by decide +kernel
theorem dX11_passesAll_71 : decode cX11_passesAll 71 = .ok (.getfield 34, 3) := by decide +kernel
theorem dX11_passesAll_74 : decode cX11_passesAll 74 = .ok (.invokevirtual 158, 3) := by decide +kernel
theorem dX11_passesAll_77 : decode cX11_passesAll 77 = .ok (.aload_n 0, 1) := by decide +kernel
theorem dX11_passesAll_78 : decode cX11_passesAll 78 = .ok (.aload_n 0, 1) := by decide +kernel
theorem dX11_passesAll_79 : decode cX11_passesAll 79 = .ok (.aload_n 0, 1) := by decide +kernel
theorem dX11_passesAll_80 : decode cX11_passesAll 80 = .ok (.getfield 65, 3) := by decide +kernel
theorem dX11_passesAll_83 : decode cX11_passesAll 83 = .ok (.invokevirtual 162, 3) := by decide +kernel
theorem dX11_passesAll_86 : decode cX11_passesAll 86 = .ok (.putfield 65, 3) := by decide +kernel
theorem dX11_passesAll_89 : decode cX11_passesAll 89 = .ok (.aload_n 0, 1) := by decide +kernel
theorem dX11_passesAll_90 : decode cX11_passesAll 90 = .ok (.aload_n 0, 1) := by decide +kernel
theorem dX11_passesAll_91 : decode cX11_passesAll 91 = .ok (.aload_n 0, 1) := by decide +kernel
theorem dX11_passesAll_92 : decode cX11_passesAll 92 = .ok (.getfield 165, 3) := by decide +kernel
theorem dX11_passesAll_95 : decode cX11_passesAll 95 = .ok (.invokevirtual 162, 3) := by decide +kernel
theorem dX11_passesAll_98 : decode cX11_passesAll 98 = .ok (.putfield 165, 3) := by decide +kernel
theorem dX11_passesAll_101 : decode cX11_passesAll 101 = .ok (.aload_n 0, 1) := by decide +kernel
theorem dX11_passesAll_102 : decode cX11_passesAll 102 = .ok (.aload_n 0, 1) := by decide +kernel
theorem dX11_passesAll_103 : decode cX11_passesAll 103 = .ok (.aload_n 0, 1) := by decide +kernel
theorem dX11_passesAll_104 : decode cX11_passesAll 104 = .ok (.getfield 111, 3) := by decide +kernel
theorem dX11_passesAll_107 : decode cX11_passesAll 107 = .ok (.invokevirtual 162, 3) := by decide +kernel
theorem dX11_passesAll_110 : decode cX11_passesAll 110 = .ok (.putfield 111, 3) := by decide +kernel
theorem dX11_passesAll_113 : decode cX11_passesAll 113 = .ok (.return_, 1) := by decide +kernel
set_option maxRecDepth 20000 in
theorem ggX11_image_X11_passesAll : GoodIn wsX11_image wsX11_passesAll := goodIn_r _ [7, 8, 9, 10, 11, 12, 13, 14, 15, 16, 17, 18, 2, 19, 20, 21, 22, 6, 23, 24, 25, 26, 27, 28, 29, 30, 31, 32, 33, 34, 35, 36, 37, 38, 39, 40, 41, 42, 43, 44, 45, 46, 47, 48, 49, 50, 51, 52, 53, 54, 55, 56] (by decide +kernel) (by decide +kernel)
set_option maxRecDepth 20000 in
theorem gX11_image_X11_passesAll : GoodIn wsX11_image (wsV RX11 144 RX11 yX11_passesAll wsX11_passesAll) := goodIn_app (goodIn_of _ (by decide +kernel)) ggX11_image_X11_passesAll
theorem dX11_image_0 : decode cX11_image 0 = .ok (.aload_n 0, 1) := by decide +kernel
theorem dX11_image_1 : decode cX11_image 1 = .ok (.iconst 1, 1) := by decide +kernel
theorem dX11_image_2 : decode cX11_image 2 = .ok (.putfield 168, 3) := by decide +kernel
theorem dX11_image_5 : decode cX11_image 5 = .ok (.aload_n 0, 1) := by decide +kernel
theorem dX11_image_6 : decode cX11_image 6 = .ok (.iconst 0, 1) := by decide +kernel
theorem dX11_image_7 : decode cX11_image 7 = .ok (.iconst 1, 1) := by decide +kernel
theorem dX11_image_8 : decode cX11_image 8 = .ok (.invokevirtual 144, 3) := by decide +kernel
theorem dX11_image_11 : decode cX11_image 11 = .ok (.aload_n 0, 1) := by decide +kernel
theorem dX11_image_12 : decode cX11_image 12 = .ok (.getfield 165, 3) := by decide +kernel
theorem dX11_image_15 : decode cX11_image 15 = .ok (.ireturn, 1) := by decide +kernel
set_option maxRecDepth 20000 in
theorem ggX11_on_X11_no : GoodIn wsX11_on wsX11_no := goodIn_r _ [7, 8, 34, 35, 36, 37, 38, 39, 40, 41, 42, 43, 44, 45, 46, 47, 48, 49, 50, 51, 52, 53, 54, 55, 56, 57, 58, 59, 60, 61] (by decide +kernel) (by decide +kernel)
set_option maxRecDepth 20000 in
theorem gX11_on_X11_no : GoodIn wsX11_on (wsV RX11 80 RX11 yX11_no wsX11_no) := goodIn_app (goodIn_of _ (by decide +kernel)) ggX11_on_X11_no
set_option maxRecDepth 20000 in
theorem ggX11_on_X11_passesAll : GoodIn wsX11_on wsX11_passesAll := goodIn_r _ [12, 13, 14, 15, 16, 17, 18, 19, 20, 21, 22, 23, 2, 24, 25, 26, 27, 6, 28, 29, 30, 31, 32, 33, 34, 35, 36, 37, 38, 39, 40, 41, 42, 43, 44, 45, 46, 47, 48, 49, 50, 51, 52, 53, 54, 55, 56, 57, 58, 59, 60, 61] (by decide +kernel) (by decide +kernel)
set_option maxRecDepth 20000 in
theorem gX11_on_X11_passesAll : GoodIn wsX11_on (wsV RX11 144 RX11 yX11_passesAll wsX11_passesAll) := goodIn_app (goodIn_of _ (by decide +kernel)) ggX11_on_X11_passesAll
theorem dX11_on_0 : decode cX11_on 0 = .ok (.aload_n 0, 1) := by decide +kernel
theorem dX11_on_1 : decode cX11_on 1 = .ok (.getfield 168, 3) := by decide +kernel
theorem dX11_on_4 : decode cX11_on 4 = .ok (.ifCond .ne 10, 3) := by decide +kernel
theorem dX11_on_7 : decode cX11_on 7 = .ok (.aload_n 0, 1) := by decide +kernel
theorem dX11_on_8 : decode cX11_on 8 = .ok (.bipush (-3), 2) := by decide +kernel
theorem dX11_on_10 : decode cX11_on 10 = .ok (.invokevirtual 80, 3) := by decide +kernel
theorem dX11_on_13 : decode cX11_on 13 = .ok (.ireturn, 1) := by decide +kernel
theorem dX11_on_14 : decode cX11_on 14 = .ok (.aload_n 0, 1) := by decide +kernel
theorem dX11_on_15 : decode cX11_on 15 = .ok (.iconst 0, 1) := by decide +kernel
theorem dX11_on_16 : decode cX11_on 16 = .ok (.iconst 0, 1) := by decide +kernel
theorem dX11_on_17 : decode cX11_on 17 = .ok (.invokevirtual 144, 3) := by decide +kernel
theorem dX11_on_20 : decode cX11_on 20 = .ok (.aload_n 0, 1) := by decide +kernel
theorem dX11_on_21 : decode cX11_on 21 = .ok (.getfield 165, 3) := by decide +kernel
theorem dX11_on_24 : decode cX11_on 24 = .ok (.ireturn, 1) := by decide +kernel
theorem dX11_hereOf_0 : decode cX11_hereOf 0 = .ok (.iconst 0, 1) := by decide +kernel
theorem dX11_hereOf_1 : decode cX11_hereOf 1 = .ok (.istore_n 2, 1) := by decide +kernel
theorem dX11_hereOf_2 : decode cX11_hereOf 2 = .ok (.iconst 0, 1) := by decide +kernel
theorem dX11_hereOf_3 : decode cX11_hereOf 3 = .ok (.istore_n 3, 1) := by decide +kernel
theorem dX11_hereOf_4 : decode cX11_hereOf 4 = .ok (.iload_n 3, 1) := by decide +kernel
theorem dX11_hereOf_5 : decode cX11_hereOf 5 = .ok (.aload_n 0, 1) := by decide +kernel
theorem dX11_hereOf_6 : decode cX11_hereOf 6 = .ok (.getfield 65, 3) := by decide +kernel
theorem dX11_hereOf_9 : decode cX11_hereOf 9 = .ok (.if_icmp .ge 36, 3) := by decide +kernel
theorem dX11_hereOf_12 : decode cX11_hereOf 12 = .ok (.iload_n 2, 1) := by decide +kernel
theorem dX11_hereOf_13 : decode cX11_hereOf 13 = .ok (.aload_n 0, 1) := by decide +kernel
theorem dX11_hereOf_14 : decode cX11_hereOf 14 = .ok (.getfield 13, 3) := by decide +kernel
theorem dX11_hereOf_17 : decode cX11_hereOf 17 = .ok (.iload_n 3, 1) := by decide +kernel
theorem dX11_hereOf_18 : decode cX11_hereOf 18 = .ok (.iaload, 1) := by decide +kernel
theorem dX11_hereOf_19 : decode cX11_hereOf 19 = .ok (.iload_n 1, 1) := by decide +kernel
theorem dX11_hereOf_20 : decode cX11_hereOf 20 = .ok (.if_icmp .ne 16, 3) := by decide +kernel
theorem dX11_hereOf_23 : decode cX11_hereOf 23 = .ok (.aload_n 0, 1) := by decide +kernel
theorem dX11_hereOf_24 : decode cX11_hereOf 24 = .ok (.getfield 25, 3) := by decide +kernel
theorem dX11_hereOf_27 : decode cX11_hereOf 27 = .ok (.iload_n 3, 1) := by decide +kernel
theorem dX11_hereOf_28 : decode cX11_hereOf 28 = .ok (.iaload, 1) := by decide +kernel
theorem dX11_hereOf_29 : decode cX11_hereOf 29 = .ok (.ifCond .ne 7, 3) := by decide +kernel
theorem dX11_hereOf_32 : decode cX11_hereOf 32 = .ok (.iconst 1, 1) := by decide +kernel
theorem dX11_hereOf_33 : decode cX11_hereOf 33 = .ok (.goto 4, 3) := by decide +kernel
theorem dX11_hereOf_36 : decode cX11_hereOf 36 = .ok (.iconst 0, 1) := by decide +kernel
theorem dX11_hereOf_37 : decode cX11_hereOf 37 = .ok (.iadd, 1) := by decide +kernel
theorem dX11_hereOf_38 : decode cX11_hereOf 38 = .ok (.istore_n 2, 1) := by decide +kernel
theorem dX11_hereOf_39 : decode cX11_hereOf 39 = .ok (.iinc 3 1, 3) := by decide +kernel
theorem dX11_hereOf_42 : decode cX11_hereOf 42 = .ok (.goto (-38), 3) := by decide +kernel
theorem dX11_hereOf_45 : decode cX11_hereOf 45 = .ok (.iload_n 2, 1) := by decide +kernel
theorem dX11_hereOf_46 : decode cX11_hereOf 46 = .ok (.ireturn, 1) := by decide +kernel
set_option maxRecDepth 20000 in
theorem ggX11_aimOf_X11_clamped : GoodIn wsX11_aimOf wsX11_clamped := goodIn_r _ [7] (by decide +kernel) (by decide +kernel)
set_option maxRecDepth 20000 in
theorem gX11_aimOf_X11_clamped : GoodIn wsX11_aimOf (va_wsS RX11 171 yX11_clamped wsX11_clamped) := goodIn_app (goodIn_of _ (by decide +kernel)) ggX11_aimOf_X11_clamped
theorem dX11_aimOf_0 : decode cX11_aimOf 0 = .ok (.aload_n 0, 1) := by decide +kernel
theorem dX11_aimOf_1 : decode cX11_aimOf 1 = .ok (.getfield 16, 3) := by decide +kernel
theorem dX11_aimOf_4 : decode cX11_aimOf 4 = .ok (.iload_n 1, 1) := by decide +kernel
theorem dX11_aimOf_5 : decode cX11_aimOf 5 = .ok (.iaload, 1) := by decide +kernel
theorem dX11_aimOf_6 : decode cX11_aimOf 6 = .ok (.iconst 3, 1) := by decide +kernel
theorem dX11_aimOf_7 : decode cX11_aimOf 7 = .ok (.if_icmp .ne 26, 3) := by decide +kernel
theorem dX11_aimOf_10 : decode cX11_aimOf 10 = .ok (.aload_n 0, 1) := by decide +kernel
theorem dX11_aimOf_11 : decode cX11_aimOf 11 = .ok (.getfield 19, 3) := by decide +kernel
theorem dX11_aimOf_14 : decode cX11_aimOf 14 = .ok (.iload_n 1, 1) := by decide +kernel
theorem dX11_aimOf_15 : decode cX11_aimOf 15 = .ok (.iaload, 1) := by decide +kernel
theorem dX11_aimOf_16 : decode cX11_aimOf 16 = .ok (.aload_n 0, 1) := by decide +kernel
theorem dX11_aimOf_17 : decode cX11_aimOf 17 = .ok (.getfield 165, 3) := by decide +kernel
theorem dX11_aimOf_20 : decode cX11_aimOf 20 = .ok (.bipush 10, 2) := by decide +kernel
theorem dX11_aimOf_22 : decode cX11_aimOf 22 = .ok (.idiv, 1) := by decide +kernel
theorem dX11_aimOf_23 : decode cX11_aimOf 23 = .ok (.isub, 1) := by decide +kernel
theorem dX11_aimOf_24 : decode cX11_aimOf 24 = .ok (.iconst 0, 1) := by decide +kernel
theorem dX11_aimOf_25 : decode cX11_aimOf 25 = .ok (.bipush 9, 2) := by decide +kernel
theorem dX11_aimOf_27 : decode cX11_aimOf 27 = .ok (.invokestatic 171, 3) := by decide +kernel
theorem dX11_aimOf_30 : decode cX11_aimOf 30 = .ok (.goto 9, 3) := by decide +kernel
theorem dX11_aimOf_33 : decode cX11_aimOf 33 = .ok (.aload_n 0, 1) := by decide +kernel
theorem dX11_aimOf_34 : decode cX11_aimOf 34 = .ok (.getfield 19, 3) := by decide +kernel
theorem dX11_aimOf_37 : decode cX11_aimOf 37 = .ok (.iload_n 1, 1) := by decide +kernel
theorem dX11_aimOf_38 : decode cX11_aimOf 38 = .ok (.iaload, 1) := by decide +kernel
theorem dX11_aimOf_39 : decode cX11_aimOf 39 = .ok (.ireturn, 1) := by decide +kernel
set_option maxRecDepth 20000 in
theorem ggX11_dodgeOf_X11_holds : GoodIn wsX11_dodgeOf wsX11_holds := goodIn_r _ [7, 8, 9, 10, 11, 12, 13, 14, 15, 16, 17, 18, 19, 20, 21, 22, 23, 24, 25, 26, 27, 28, 29, 30, 31, 32, 33, 34, 35, 36] (by decide +kernel) (by decide +kernel)
set_option maxRecDepth 20000 in
theorem gX11_dodgeOf_X11_holds : GoodIn wsX11_dodgeOf (wsV RX11 127 RX11 yX11_holds wsX11_holds) := goodIn_app (goodIn_of _ (by decide +kernel)) ggX11_dodgeOf_X11_holds
theorem dX11_dodgeOf_0 : decode cX11_dodgeOf 0 = .ok (.aload_n 0, 1) := by decide +kernel
theorem dX11_dodgeOf_1 : decode cX11_dodgeOf 1 = .ok (.getfield 16, 3) := by decide +kernel
theorem dX11_dodgeOf_4 : decode cX11_dodgeOf 4 = .ok (.iload_n 1, 1) := by decide +kernel
theorem dX11_dodgeOf_5 : decode cX11_dodgeOf 5 = .ok (.iaload, 1) := by decide +kernel
theorem dX11_dodgeOf_6 : decode cX11_dodgeOf 6 = .ok (.iconst 1, 1) := by decide +kernel
theorem dX11_dodgeOf_7 : decode cX11_dodgeOf 7 = .ok (.if_icmp .eq 13, 3) := by decide +kernel
theorem dX11_dodgeOf_10 : decode cX11_dodgeOf 10 = .ok (.aload_n 0, 1) := by decide +kernel
theorem dX11_dodgeOf_11 : decode cX11_dodgeOf 11 = .ok (.getfield 16, 3) := by decide +kernel
theorem dX11_dodgeOf_14 : decode cX11_dodgeOf 14 = .ok (.iload_n 1, 1) := by decide +kernel
theorem dX11_dodgeOf_15 : decode cX11_dodgeOf 15 = .ok (.iaload, 1) := by decide +kernel
theorem dX11_dodgeOf_16 : decode cX11_dodgeOf 16 = .ok (.iconst 4, 1) := by decide +kernel
theorem dX11_dodgeOf_17 : decode cX11_dodgeOf 17 = .ok (.if_icmp .ne 14, 3) := by decide +kernel
theorem dX11_dodgeOf_20 : decode cX11_dodgeOf 20 = .ok (.aload_n 0, 1) := by decide +kernel
theorem dX11_dodgeOf_21 : decode cX11_dodgeOf 21 = .ok (.getfield 22, 3) := by decide +kernel
theorem dX11_dodgeOf_24 : decode cX11_dodgeOf 24 = .ok (.iload_n 1, 1) := by decide +kernel
theorem dX11_dodgeOf_25 : decode cX11_dodgeOf 25 = .ok (.iaload, 1) := by decide +kernel
theorem dX11_dodgeOf_26 : decode cX11_dodgeOf 26 = .ok (.iconst 3, 1) := by decide +kernel
theorem dX11_dodgeOf_27 : decode cX11_dodgeOf 27 = .ok (.iadd, 1) := by decide +kernel
theorem dX11_dodgeOf_28 : decode cX11_dodgeOf 28 = .ok (.goto 9, 3) := by decide +kernel
theorem dX11_dodgeOf_31 : decode cX11_dodgeOf 31 = .ok (.aload_n 0, 1) := by decide +kernel
theorem dX11_dodgeOf_32 : decode cX11_dodgeOf 32 = .ok (.getfield 22, 3) := by decide +kernel
theorem dX11_dodgeOf_35 : decode cX11_dodgeOf 35 = .ok (.iload_n 1, 1) := by decide +kernel
theorem dX11_dodgeOf_36 : decode cX11_dodgeOf 36 = .ok (.iaload, 1) := by decide +kernel
theorem dX11_dodgeOf_37 : decode cX11_dodgeOf 37 = .ok (.istore_n 2, 1) := by decide +kernel
theorem dX11_dodgeOf_38 : decode cX11_dodgeOf 38 = .ok (.aload_n 0, 1) := by decide +kernel
theorem dX11_dodgeOf_39 : decode cX11_dodgeOf 39 = .ok (.getfield 16, 3) := by decide +kernel
theorem dX11_dodgeOf_42 : decode cX11_dodgeOf 42 = .ok (.iload_n 1, 1) := by decide +kernel
theorem dX11_dodgeOf_43 : decode cX11_dodgeOf 43 = .ok (.iaload, 1) := by decide +kernel
theorem dX11_dodgeOf_44 : decode cX11_dodgeOf 44 = .ok (.iconst 4, 1) := by decide +kernel
theorem dX11_dodgeOf_45 : decode cX11_dodgeOf 45 = .ok (.if_icmp .ne 17, 3) := by decide +kernel
theorem dX11_dodgeOf_48 : decode cX11_dodgeOf 48 = .ok (.aload_n 0, 1) := by decide +kernel
theorem dX11_dodgeOf_49 : decode cX11_dodgeOf 49 = .ok (.iload_n 1, 1) := by decide +kernel
theorem dX11_dodgeOf_50 : decode cX11_dodgeOf 50 = .ok (.invokevirtual 127, 3) := by decide +kernel
theorem dX11_dodgeOf_53 : decode cX11_dodgeOf 53 = .ok (.ifCond .eq 9, 3) := by decide +kernel
theorem dX11_dodgeOf_56 : decode cX11_dodgeOf 56 = .ok (.iload_n 2, 1) := by decide +kernel
theorem dX11_dodgeOf_57 : decode cX11_dodgeOf 57 = .ok (.iconst 2, 1) := by decide +kernel
theorem dX11_dodgeOf_58 : decode cX11_dodgeOf 58 = .ok (.iadd, 1) := by decide +kernel
theorem dX11_dodgeOf_59 : decode cX11_dodgeOf 59 = .ok (.goto 4, 3) := by decide +kernel
theorem dX11_dodgeOf_62 : decode cX11_dodgeOf 62 = .ok (.iload_n 2, 1) := by decide +kernel
theorem dX11_dodgeOf_63 : decode cX11_dodgeOf 63 = .ok (.ireturn, 1) := by decide +kernel
set_option maxRecDepth 20000 in
theorem ggX11_graspOf_X11_hereOf : GoodIn wsX11_graspOf wsX11_hereOf := goodIn_r _ [10, 11, 5, 4, 12, 13, 14, 15, 16, 17, 18, 19, 20, 21, 22, 23, 24, 25, 26, 27, 28, 29, 30, 31, 32, 33, 34, 35, 36, 37, 38, 39] (by decide +kernel) (by decide +kernel)
set_option maxRecDepth 20000 in
theorem gX11_graspOf_X11_hereOf : GoodIn wsX11_graspOf (wsV RX11 174 RX11 yX11_hereOf wsX11_hereOf) := goodIn_app (goodIn_of _ (by decide +kernel)) ggX11_graspOf_X11_hereOf
theorem dX11_graspOf_0 : decode cX11_graspOf 0 = .ok (.aload_n 0, 1) := by decide +kernel
theorem dX11_graspOf_1 : decode cX11_graspOf 1 = .ok (.getfield 19, 3) := by decide +kernel
theorem dX11_graspOf_4 : decode cX11_graspOf 4 = .ok (.iload_n 1, 1) := by decide +kernel
theorem dX11_graspOf_5 : decode cX11_graspOf 5 = .ok (.iaload, 1) := by decide +kernel
theorem dX11_graspOf_6 : decode cX11_graspOf 6 = .ok (.aload_n 0, 1) := by decide +kernel
theorem dX11_graspOf_7 : decode cX11_graspOf 7 = .ok (.getfield 22, 3) := by decide +kernel
theorem dX11_graspOf_10 : decode cX11_graspOf 10 = .ok (.iload_n 1, 1) := by decide +kernel
theorem dX11_graspOf_11 : decode cX11_graspOf 11 = .ok (.iaload, 1) := by decide +kernel
theorem dX11_graspOf_12 : decode cX11_graspOf 12 = .ok (.iadd, 1) := by decide +kernel
theorem dX11_graspOf_13 : decode cX11_graspOf 13 = .ok (.iconst 2, 1) := by decide +kernel
theorem dX11_graspOf_14 : decode cX11_graspOf 14 = .ok (.idiv, 1) := by decide +kernel
theorem dX11_graspOf_15 : decode cX11_graspOf 15 = .ok (.istore_n 2, 1) := by decide +kernel
theorem dX11_graspOf_16 : decode cX11_graspOf 16 = .ok (.aload_n 0, 1) := by decide +kernel
theorem dX11_graspOf_17 : decode cX11_graspOf 17 = .ok (.getfield 16, 3) := by decide +kernel
theorem dX11_graspOf_20 : decode cX11_graspOf 20 = .ok (.iload_n 1, 1) := by decide +kernel
theorem dX11_graspOf_21 : decode cX11_graspOf 21 = .ok (.iaload, 1) := by decide +kernel
theorem dX11_graspOf_22 : decode cX11_graspOf 22 = .ok (.iconst 2, 1) := by decide +kernel
theorem dX11_graspOf_23 : decode cX11_graspOf 23 = .ok (.if_icmp .eq 15, 3) := by decide +kernel
theorem dX11_graspOf_26 : decode cX11_graspOf 26 = .ok (.aload_n 0, 1) := by decide +kernel
theorem dX11_graspOf_27 : decode cX11_graspOf 27 = .ok (.getfield 16, 3) := by decide +kernel
theorem dX11_graspOf_30 : decode cX11_graspOf 30 = .ok (.iload_n 1, 1) := by decide +kernel
theorem dX11_graspOf_31 : decode cX11_graspOf 31 = .ok (.iaload, 1) := by decide +kernel
theorem dX11_graspOf_32 : decode cX11_graspOf 32 = .ok (.iconst 5, 1) := by decide +kernel
theorem dX11_graspOf_33 : decode cX11_graspOf 33 = .ok (.if_icmp .eq 5, 3) := by decide +kernel
theorem dX11_graspOf_36 : decode cX11_graspOf 36 = .ok (.iload_n 2, 1) := by decide +kernel
theorem dX11_graspOf_37 : decode cX11_graspOf 37 = .ok (.ireturn, 1) := by decide +kernel
theorem dX11_graspOf_38 : decode cX11_graspOf 38 = .ok (.aload_n 0, 1) := by decide +kernel
theorem dX11_graspOf_39 : decode cX11_graspOf 39 = .ok (.getfield 16, 3) := by decide +kernel
theorem dX11_graspOf_42 : decode cX11_graspOf 42 = .ok (.iload_n 1, 1) := by decide +kernel
theorem dX11_graspOf_43 : decode cX11_graspOf 43 = .ok (.iaload, 1) := by decide +kernel
theorem dX11_graspOf_44 : decode cX11_graspOf 44 = .ok (.iconst 5, 1) := by decide +kernel
theorem dX11_graspOf_45 : decode cX11_graspOf 45 = .ok (.if_icmp .ne 35, 3) := by decide +kernel
theorem dX11_graspOf_48 : decode cX11_graspOf 48 = .ok (.aload_n 0, 1) := by decide +kernel
theorem dX11_graspOf_49 : decode cX11_graspOf 49 = .ok (.getfield 25, 3) := by decide +kernel
theorem dX11_graspOf_52 : decode cX11_graspOf 52 = .ok (.iload_n 1, 1) := by decide +kernel
theorem dX11_graspOf_53 : decode cX11_graspOf 53 = .ok (.iaload, 1) := by decide +kernel
theorem dX11_graspOf_54 : decode cX11_graspOf 54 = .ok (.ifCond .ne 26, 3) := by decide +kernel
theorem dX11_graspOf_57 : decode cX11_graspOf 57 = .ok (.aload_n 0, 1) := by decide +kernel
theorem dX11_graspOf_58 : decode cX11_graspOf 58 = .ok (.aload_n 0, 1) := by decide +kernel
theorem dX11_graspOf_59 : decode cX11_graspOf 59 = .ok (.getfield 13, 3) := by decide +kernel
theorem dX11_graspOf_62 : decode cX11_graspOf 62 = .ok (.iload_n 1, 1) := by decide +kernel
theorem dX11_graspOf_63 : decode cX11_graspOf 63 = .ok (.iaload, 1) := by decide +kernel
theorem dX11_graspOf_64 : decode cX11_graspOf 64 = .ok (.invokevirtual 174, 3) := by decide +kernel
theorem dX11_graspOf_67 : decode cX11_graspOf 67 = .ok (.iconst 1, 1) := by decide +kernel
theorem dX11_graspOf_68 : decode cX11_graspOf 68 = .ok (.if_icmp .ne 12, 3) := by decide +kernel
theorem dX11_graspOf_71 : decode cX11_graspOf 71 = .ok (.iconst 2, 1) := by decide +kernel
theorem dX11_graspOf_72 : decode cX11_graspOf 72 = .ok (.iload_n 2, 1) := by decide +kernel
theorem dX11_graspOf_73 : decode cX11_graspOf 73 = .ok (.imul, 1) := by decide +kernel
theorem dX11_graspOf_74 : decode cX11_graspOf 74 = .ok (.bipush 8, 2) := by decide +kernel
theorem dX11_graspOf_76 : decode cX11_graspOf 76 = .ok (.iadd, 1) := by decide +kernel
theorem dX11_graspOf_77 : decode cX11_graspOf 77 = .ok (.goto 6, 3) := by decide +kernel
theorem dX11_graspOf_80 : decode cX11_graspOf 80 = .ok (.iload_n 2, 1) := by decide +kernel
theorem dX11_graspOf_81 : decode cX11_graspOf 81 = .ok (.iconst 4, 1) := by decide +kernel
theorem dX11_graspOf_82 : decode cX11_graspOf 82 = .ok (.iadd, 1) := by decide +kernel
theorem dX11_graspOf_83 : decode cX11_graspOf 83 = .ok (.ireturn, 1) := by decide +kernel
set_option maxRecDepth 20000 in
theorem ggX11_hitOf_X11_aimOf : GoodIn wsX11_hitOf wsX11_aimOf := goodIn_r _ [5, 6, 7, 8, 9, 10, 4, 11, 22, 23, 24, 25, 26, 27, 28, 29, 30, 31, 32, 33, 34, 35, 36, 37, 38, 39, 40, 41, 42, 43, 44, 45, 46, 47, 48, 49] (by decide +kernel) (by decide +kernel)
set_option maxRecDepth 20000 in
theorem gX11_hitOf_X11_aimOf : GoodIn wsX11_hitOf (wsV RX11 177 RX11 yX11_aimOf wsX11_aimOf) := goodIn_app (goodIn_of _ (by decide +kernel)) ggX11_hitOf_X11_aimOf
set_option maxRecDepth 20000 in
theorem ggX11_hitOf_X11_dodgeOf : GoodIn wsX11_hitOf wsX11_dodgeOf := goodIn_r _ [15, 6, 16, 17, 18, 19, 4, 20, 21, 22, 23, 24, 25, 26, 27, 28, 29, 30, 31, 32, 33, 34, 35, 36, 37, 38, 39, 40, 41, 42, 43, 44, 45, 46, 47, 48, 49] (by decide +kernel) (by decide +kernel)
set_option maxRecDepth 20000 in
theorem gX11_hitOf_X11_dodgeOf : GoodIn wsX11_hitOf (wsV RX11 180 RX11 yX11_dodgeOf wsX11_dodgeOf) := goodIn_app (goodIn_of _ (by decide +kernel)) ggX11_hitOf_X11_dodgeOf
set_option maxRecDepth 20000 in
theorem ggX11_hitOf_X11_clamped : GoodIn wsX11_hitOf wsX11_clamped := goodIn_r _ [11] (by decide +kernel) (by decide +kernel)
set_option maxRecDepth 20000 in
theorem gX11_hitOf_X11_clamped : GoodIn wsX11_hitOf (va_wsS RX11 171 yX11_clamped wsX11_clamped) := goodIn_app (goodIn_of _ (by decide +kernel)) ggX11_hitOf_X11_clamped
theorem dX11_hitOf_0 : decode cX11_hitOf 0 = .ok (.bipush 10, 2) := by decide +kernel
theorem dX11_hitOf_2 : decode cX11_hitOf 2 = .ok (.aload_n 0, 1) := by decide +kernel
theorem dX11_hitOf_3 : decode cX11_hitOf 3 = .ok (.iload_n 1, 1) := by decide +kernel
theorem dX11_hitOf_4 : decode cX11_hitOf 4 = .ok (.invokevirtual 177, 3) := by decide +kernel
theorem dX11_hitOf_7 : decode cX11_hitOf 7 = .ok (.iadd, 1) := by decide +kernel
theorem dX11_hitOf_8 : decode cX11_hitOf 8 = .ok (.aload_n 0, 1) := by decide +kernel
theorem dX11_hitOf_9 : decode cX11_hitOf 9 = .ok (.iload_n 2, 1) := by decide +kernel
theorem dX11_hitOf_10 : decode cX11_hitOf 10 = .ok (.invokevirtual 180, 3) := by decide +kernel
theorem dX11_hitOf_13 : decode cX11_hitOf 13 = .ok (.isub, 1) := by decide +kernel
theorem dX11_hitOf_14 : decode cX11_hitOf 14 = .ok (.iload_n 3, 1) := by decide +kernel
theorem dX11_hitOf_15 : decode cX11_hitOf 15 = .ok (.ifCond .ne 7, 3) := by decide +kernel
theorem dX11_hitOf_18 : decode cX11_hitOf 18 = .ok (.iconst 4, 1) := by decide +kernel
theorem dX11_hitOf_19 : decode cX11_hitOf 19 = .ok (.goto 14, 3) := by decide +kernel
theorem dX11_hitOf_22 : decode cX11_hitOf 22 = .ok (.iload_n 3, 1) := by decide +kernel
theorem dX11_hitOf_23 : decode cX11_hitOf 23 = .ok (.iconst 1, 1) := by decide +kernel
theorem dX11_hitOf_24 : decode cX11_hitOf 24 = .ok (.if_icmp .ne 7, 3) := by decide +kernel
theorem dX11_hitOf_27 : decode cX11_hitOf 27 = .ok (.iconst 2, 1) := by decide +kernel
theorem dX11_hitOf_28 : decode cX11_hitOf 28 = .ok (.goto 5, 3) := by decide +kernel
theorem dX11_hitOf_31 : decode cX11_hitOf 31 = .ok (.bipush (-4), 2) := by decide +kernel
theorem dX11_hitOf_33 : decode cX11_hitOf 33 = .ok (.iadd, 1) := by decide +kernel
theorem dX11_hitOf_34 : decode cX11_hitOf 34 = .ok (.iconst 1, 1) := by decide +kernel
theorem dX11_hitOf_35 : decode cX11_hitOf 35 = .ok (.bipush 19, 2) := by decide +kernel
theorem dX11_hitOf_37 : decode cX11_hitOf 37 = .ok (.invokestatic 171, 3) := by decide +kernel
theorem dX11_hitOf_40 : decode cX11_hitOf 40 = .ok (.ireturn, 1) := by decide +kernel
set_option maxRecDepth 20000 in
theorem ggX11_caughtOf_X11_graspOf : GoodIn wsX11_caughtOf wsX11_graspOf := goodIn_r _ [5, 6, 7, 8, 9, 10, 11, 12, 13, 4, 14, 15, 19, 20, 21, 22, 23, 24, 25, 26, 27, 28, 29, 30, 31, 32, 33, 34, 35, 36, 37, 38, 39, 40, 41, 42, 43, 44, 45, 46] (by decide +kernel) (by decide +kernel)
set_option maxRecDepth 20000 in
theorem gX11_caughtOf_X11_graspOf : GoodIn wsX11_caughtOf (wsV RX11 183 RX11 yX11_graspOf wsX11_graspOf) := goodIn_app (goodIn_of _ (by decide +kernel)) ggX11_caughtOf_X11_graspOf
set_option maxRecDepth 20000 in
theorem ggX11_caughtOf_X11_clamped : GoodIn wsX11_caughtOf wsX11_clamped := goodIn_r _ [18] (by decide +kernel) (by decide +kernel)
set_option maxRecDepth 20000 in
theorem gX11_caughtOf_X11_clamped : GoodIn wsX11_caughtOf (va_wsS RX11 171 yX11_clamped wsX11_clamped) := goodIn_app (goodIn_of _ (by decide +kernel)) ggX11_caughtOf_X11_clamped
theorem dX11_caughtOf_0 : decode cX11_caughtOf 0 = .ok (.aload_n 0, 1) := by decide +kernel
theorem dX11_caughtOf_1 : decode cX11_caughtOf 1 = .ok (.iload_n 1, 1) := by decide +kernel
theorem dX11_caughtOf_2 : decode cX11_caughtOf 2 = .ok (.invokevirtual 183, 3) := by decide +kernel
theorem dX11_caughtOf_5 : decode cX11_caughtOf 5 = .ok (.iload_n 2, 1) := by decide +kernel
theorem dX11_caughtOf_6 : decode cX11_caughtOf 6 = .ok (.ifCond .ne 8, 3) := by decide +kernel
theorem dX11_caughtOf_9 : decode cX11_caughtOf 9 = .ok (.bipush (-3), 2) := by decide +kernel
theorem dX11_caughtOf_11 : decode cX11_caughtOf 11 = .ok (.goto 14, 3) := by decide +kernel
theorem dX11_caughtOf_14 : decode cX11_caughtOf 14 = .ok (.iload_n 2, 1) := by decide +kernel
theorem dX11_caughtOf_15 : decode cX11_caughtOf 15 = .ok (.iconst 1, 1) := by decide +kernel
theorem dX11_caughtOf_16 : decode cX11_caughtOf 16 = .ok (.if_icmp .ne 7, 3) := by decide +kernel
theorem dX11_caughtOf_19 : decode cX11_caughtOf 19 = .ok (.iconst 0, 1) := by decide +kernel
theorem dX11_caughtOf_20 : decode cX11_caughtOf 20 = .ok (.goto 5, 3) := by decide +kernel
theorem dX11_caughtOf_23 : decode cX11_caughtOf 23 = .ok (.bipush 8, 2) := by decide +kernel
theorem dX11_caughtOf_25 : decode cX11_caughtOf 25 = .ok (.iadd, 1) := by decide +kernel
theorem dX11_caughtOf_26 : decode cX11_caughtOf 26 = .ok (.iconst 1, 1) := by decide +kernel
theorem dX11_caughtOf_27 : decode cX11_caughtOf 27 = .ok (.bipush 19, 2) := by decide +kernel
theorem dX11_caughtOf_29 : decode cX11_caughtOf 29 = .ok (.invokestatic 171, 3) := by decide +kernel
theorem dX11_caughtOf_32 : decode cX11_caughtOf 32 = .ok (.ireturn, 1) := by decide +kernel
set_option maxRecDepth 20000 in
theorem ggX11_player_X11_isPlayer : GoodIn wsX11_player wsX11_isPlayer := goodIn_r _ [8, 9, 42, 43, 44, 45, 46, 47, 48, 49, 50, 51, 52, 53, 54, 55, 56, 57, 58, 59, 60, 61, 62, 63, 64, 65, 66, 67, 68, 69] (by decide +kernel) (by decide +kernel)
set_option maxRecDepth 20000 in
theorem gX11_player_X11_isPlayer : GoodIn wsX11_player (wsV RX11 69 RX11 yX11_isPlayer wsX11_isPlayer) := goodIn_app (goodIn_of _ (by decide +kernel)) ggX11_player_X11_isPlayer
set_option maxRecDepth 20000 in
theorem ggX11_player_X11_no : GoodIn wsX11_player wsX11_no := goodIn_r _ [13, 14, 42, 43, 44, 45, 46, 47, 48, 49, 50, 51, 52, 53, 54, 55, 56, 57, 58, 59, 60, 61, 62, 63, 64, 65, 66, 67, 68, 69] (by decide +kernel) (by decide +kernel)
set_option maxRecDepth 20000 in
theorem gX11_player_X11_no : GoodIn wsX11_player (wsV RX11 80 RX11 yX11_no wsX11_no) := goodIn_app (goodIn_of _ (by decide +kernel)) ggX11_player_X11_no
set_option maxRecDepth 20000 in
theorem ggX11_player_X11_holds : GoodIn wsX11_player wsX11_holds := goodIn_r _ [18, 19, 42, 43, 44, 45, 46, 47, 48, 49, 50, 51, 52, 53, 54, 55, 56, 57, 58, 59, 60, 61, 62, 63, 64, 65, 66, 67, 68, 69] (by decide +kernel) (by decide +kernel)
set_option maxRecDepth 20000 in
theorem gX11_player_X11_holds : GoodIn wsX11_player (wsV RX11 127 RX11 yX11_holds wsX11_holds) := goodIn_app (goodIn_of _ (by decide +kernel)) ggX11_player_X11_holds
set_option maxRecDepth 20000 in
theorem ggX11_player_X11_aimOf : GoodIn wsX11_player wsX11_aimOf := goodIn_r _ [23, 2, 24, 25, 26, 27, 7, 28, 42, 43, 44, 45, 46, 47, 48, 49, 50, 51, 52, 53, 54, 55, 56, 57, 58, 59, 60, 61, 62, 63, 64, 65, 66, 67, 68, 69] (by decide +kernel) (by decide +kernel)
set_option maxRecDepth 20000 in
theorem gX11_player_X11_aimOf : GoodIn wsX11_player (wsV RX11 177 RX11 yX11_aimOf wsX11_aimOf) := goodIn_app (goodIn_of _ (by decide +kernel)) ggX11_player_X11_aimOf
set_option maxRecDepth 20000 in
theorem ggX11_player_X11_dodgeOf : GoodIn wsX11_player wsX11_dodgeOf := goodIn_r _ [32, 2, 33, 15, 16, 17, 7, 18, 19, 42, 43, 44, 45, 46, 47, 48, 49, 50, 51, 52, 53, 54, 55, 56, 57, 58, 59, 60, 61, 62, 63, 64, 65, 66, 67, 68, 69] (by decide +kernel) (by decide +kernel)
set_option maxRecDepth 20000 in
theorem gX11_player_X11_dodgeOf : GoodIn wsX11_player (wsV RX11 180 RX11 yX11_dodgeOf wsX11_dodgeOf) := goodIn_app (goodIn_of _ (by decide +kernel)) ggX11_player_X11_dodgeOf
set_option maxRecDepth 20000 in
theorem ggX11_player_X11_graspOf : GoodIn wsX11_player wsX11_graspOf := goodIn_r _ [37, 24, 33, 2, 3, 1, 38, 39, 40, 7, 41, 9, 42, 43, 44, 45, 46, 47, 48, 49, 50, 51, 52, 53, 54, 55, 56, 57, 58, 59, 60, 61, 62, 63, 64, 65, 66, 67, 68, 69] (by decide +kernel) (by decide +kernel)
set_option maxRecDepth 20000 in
theorem gX11_player_X11_graspOf : GoodIn wsX11_player (wsV RX11 183 RX11 yX11_graspOf wsX11_graspOf) := goodIn_app (goodIn_of _ (by decide +kernel)) ggX11_player_X11_graspOf
theorem dX11_player_0 : decode cX11_player 0 = .ok (.aload_n 0, 1) := by decide +kernel
theorem dX11_player_1 : decode cX11_player 1 = .ok (.iload_n 1, 1) := by decide +kernel
theorem dX11_player_2 : decode cX11_player 2 = .ok (.invokevirtual 69, 3) := by decide +kernel
theorem dX11_player_5 : decode cX11_player 5 = .ok (.ifCond .ne 9, 3) := by decide +kernel
theorem dX11_player_8 : decode cX11_player 8 = .ok (.aload_n 0, 1) := by decide +kernel
theorem dX11_player_9 : decode cX11_player 9 = .ok (.iconst (-1), 1) := by decide +kernel
theorem dX11_player_10 : decode cX11_player 10 = .ok (.invokevirtual 80, 3) := by decide +kernel
theorem dX11_player_13 : decode cX11_player 13 = .ok (.ireturn, 1) := by decide +kernel
theorem dX11_player_14 : decode cX11_player 14 = .ok (.iload_n 2, 1) := by decide +kernel
theorem dX11_player_15 : decode cX11_player 15 = .ok (.tableswitch 94 0 6 #[41, 48, 55, 70, 76, 82, 88], 41) := by decide +kernel
theorem dX11_player_56 : decode cX11_player 56 = .ok (.aload_n 0, 1) := by decide +kernel
theorem dX11_player_57 : decode cX11_player 57 = .ok (.getfield 13, 3) := by decide +kernel
theorem dX11_player_60 : decode cX11_player 60 = .ok (.iload_n 1, 1) := by decide +kernel
theorem dX11_player_61 : decode cX11_player 61 = .ok (.iaload, 1) := by decide +kernel
theorem dX11_player_62 : decode cX11_player 62 = .ok (.ireturn, 1) := by decide +kernel
theorem dX11_player_63 : decode cX11_player 63 = .ok (.aload_n 0, 1) := by decide +kernel
theorem dX11_player_64 : decode cX11_player 64 = .ok (.getfield 16, 3) := by decide +kernel
theorem dX11_player_67 : decode cX11_player 67 = .ok (.iload_n 1, 1) := by decide +kernel
theorem dX11_player_68 : decode cX11_player 68 = .ok (.iaload, 1) := by decide +kernel
theorem dX11_player_69 : decode cX11_player 69 = .ok (.ireturn, 1) := by decide +kernel
theorem dX11_player_70 : decode cX11_player 70 = .ok (.aload_n 0, 1) := by decide +kernel
theorem dX11_player_71 : decode cX11_player 71 = .ok (.getfield 25, 3) := by decide +kernel
theorem dX11_player_74 : decode cX11_player 74 = .ok (.iload_n 1, 1) := by decide +kernel
theorem dX11_player_75 : decode cX11_player 75 = .ok (.iaload, 1) := by decide +kernel
theorem dX11_player_76 : decode cX11_player 76 = .ok (.ifCond .ne 7, 3) := by decide +kernel
theorem dX11_player_79 : decode cX11_player 79 = .ok (.iconst 1, 1) := by decide +kernel
theorem dX11_player_80 : decode cX11_player 80 = .ok (.goto 4, 3) := by decide +kernel
theorem dX11_player_83 : decode cX11_player 83 = .ok (.iconst 0, 1) := by decide +kernel
theorem dX11_player_84 : decode cX11_player 84 = .ok (.ireturn, 1) := by decide +kernel
theorem dX11_player_85 : decode cX11_player 85 = .ok (.aload_n 0, 1) := by decide +kernel
theorem dX11_player_86 : decode cX11_player 86 = .ok (.iload_n 1, 1) := by decide +kernel
theorem dX11_player_87 : decode cX11_player 87 = .ok (.invokevirtual 127, 3) := by decide +kernel
theorem dX11_player_90 : decode cX11_player 90 = .ok (.ireturn, 1) := by decide +kernel
theorem dX11_player_91 : decode cX11_player 91 = .ok (.aload_n 0, 1) := by decide +kernel
theorem dX11_player_92 : decode cX11_player 92 = .ok (.iload_n 1, 1) := by decide +kernel
theorem dX11_player_93 : decode cX11_player 93 = .ok (.invokevirtual 177, 3) := by decide +kernel
theorem dX11_player_96 : decode cX11_player 96 = .ok (.ireturn, 1) := by decide +kernel
theorem dX11_player_97 : decode cX11_player 97 = .ok (.aload_n 0, 1) := by decide +kernel
theorem dX11_player_98 : decode cX11_player 98 = .ok (.iload_n 1, 1) := by decide +kernel
theorem dX11_player_99 : decode cX11_player 99 = .ok (.invokevirtual 180, 3) := by decide +kernel
theorem dX11_player_102 : decode cX11_player 102 = .ok (.ireturn, 1) := by decide +kernel
theorem dX11_player_103 : decode cX11_player 103 = .ok (.aload_n 0, 1) := by decide +kernel
theorem dX11_player_104 : decode cX11_player 104 = .ok (.iload_n 1, 1) := by decide +kernel
theorem dX11_player_105 : decode cX11_player 105 = .ok (.invokevirtual 183, 3) := by decide +kernel
theorem dX11_player_108 : decode cX11_player 108 = .ok (.ireturn, 1) := by decide +kernel
theorem dX11_player_109 : decode cX11_player 109 = .ok (.aload_n 0, 1) := by decide +kernel
theorem dX11_player_110 : decode cX11_player 110 = .ok (.bipush (-2), 2) := by decide +kernel
theorem dX11_player_112 : decode cX11_player 112 = .ok (.invokevirtual 80, 3) := by decide +kernel
theorem dX11_player_115 : decode cX11_player 115 = .ok (.ireturn, 1) := by decide +kernel
set_option maxRecDepth 20000 in
theorem ggX11_ball_X11_isBall : GoodIn wsX11_ball wsX11_isBall := goodIn_r _ [7] (by decide +kernel) (by decide +kernel)
set_option maxRecDepth 20000 in
theorem gX11_ball_X11_isBall : GoodIn wsX11_ball (va_wsS RX11 121 yX11_isBall wsX11_isBall) := goodIn_app (goodIn_of _ (by decide +kernel)) ggX11_ball_X11_isBall
set_option maxRecDepth 20000 in
theorem ggX11_ball_X11_no : GoodIn wsX11_ball wsX11_no := goodIn_r _ [11, 12, 13, 14, 15, 16, 17, 18, 19, 20, 21, 22, 23, 24, 25, 26, 27, 28, 29, 30, 31, 32, 33, 34, 35, 36, 37, 38, 39, 40] (by decide +kernel) (by decide +kernel)
set_option maxRecDepth 20000 in
theorem gX11_ball_X11_no : GoodIn wsX11_ball (wsV RX11 80 RX11 yX11_no wsX11_no) := goodIn_app (goodIn_of _ (by decide +kernel)) ggX11_ball_X11_no
theorem dX11_ball_0 : decode cX11_ball 0 = .ok (.iload_n 1, 1) := by decide +kernel
theorem dX11_ball_1 : decode cX11_ball 1 = .ok (.invokestatic 121, 3) := by decide +kernel
theorem dX11_ball_4 : decode cX11_ball 4 = .ok (.ifCond .ne 9, 3) := by decide +kernel
theorem dX11_ball_7 : decode cX11_ball 7 = .ok (.aload_n 0, 1) := by decide +kernel
theorem dX11_ball_8 : decode cX11_ball 8 = .ok (.iconst (-1), 1) := by decide +kernel
theorem dX11_ball_9 : decode cX11_ball 9 = .ok (.invokevirtual 80, 3) := by decide +kernel
theorem dX11_ball_12 : decode cX11_ball 12 = .ok (.ireturn, 1) := by decide +kernel
theorem dX11_ball_13 : decode cX11_ball 13 = .ok (.iload_n 2, 1) := by decide +kernel
theorem dX11_ball_14 : decode cX11_ball 14 = .ok (.tableswitch 47 0 2 #[26, 33, 40], 26) := by decide +kernel
theorem dX11_ball_40 : decode cX11_ball 40 = .ok (.aload_n 0, 1) := by decide +kernel
theorem dX11_ball_41 : decode cX11_ball 41 = .ok (.getfield 28, 3) := by decide +kernel
theorem dX11_ball_44 : decode cX11_ball 44 = .ok (.iload_n 1, 1) := by decide +kernel
theorem dX11_ball_45 : decode cX11_ball 45 = .ok (.iaload, 1) := by decide +kernel
theorem dX11_ball_46 : decode cX11_ball 46 = .ok (.ireturn, 1) := by decide +kernel
theorem dX11_ball_47 : decode cX11_ball 47 = .ok (.aload_n 0, 1) := by decide +kernel
theorem dX11_ball_48 : decode cX11_ball 48 = .ok (.getfield 31, 3) := by decide +kernel
theorem dX11_ball_51 : decode cX11_ball 51 = .ok (.iload_n 1, 1) := by decide +kernel
theorem dX11_ball_52 : decode cX11_ball 52 = .ok (.iaload, 1) := by decide +kernel
theorem dX11_ball_53 : decode cX11_ball 53 = .ok (.ireturn, 1) := by decide +kernel
theorem dX11_ball_54 : decode cX11_ball 54 = .ok (.aload_n 0, 1) := by decide +kernel
theorem dX11_ball_55 : decode cX11_ball 55 = .ok (.getfield 34, 3) := by decide +kernel
theorem dX11_ball_58 : decode cX11_ball 58 = .ok (.iload_n 1, 1) := by decide +kernel
theorem dX11_ball_59 : decode cX11_ball 59 = .ok (.iaload, 1) := by decide +kernel
theorem dX11_ball_60 : decode cX11_ball 60 = .ok (.ireturn, 1) := by decide +kernel
theorem dX11_ball_61 : decode cX11_ball 61 = .ok (.aload_n 0, 1) := by decide +kernel
theorem dX11_ball_62 : decode cX11_ball 62 = .ok (.bipush (-2), 2) := by decide +kernel
theorem dX11_ball_64 : decode cX11_ball 64 = .ok (.invokevirtual 80, 3) := by decide +kernel
theorem dX11_ball_67 : decode cX11_ball 67 = .ok (.ireturn, 1) := by decide +kernel
set_option maxRecDepth 20000 in
theorem ggX11_areAgainst_X11_isHere : GoodIn wsX11_areAgainst wsX11_isHere := goodIn_r _ [6, 7, 8, 9, 10, 5, 11, 12, 13, 14, 15, 16, 17, 18, 19, 20, 21, 22, 23, 24, 25, 26, 27, 28, 29, 30, 31, 32, 33, 34, 35, 36, 37, 38, 39, 40] (by decide +kernel) (by decide +kernel)
set_option maxRecDepth 20000 in
theorem gX11_areAgainst_X11_isHere : GoodIn wsX11_areAgainst (wsV RX11 124 RX11 yX11_isHere wsX11_isHere) := goodIn_app (goodIn_of _ (by decide +kernel)) ggX11_areAgainst_X11_isHere
theorem dX11_areAgainst_0 : decode cX11_areAgainst 0 = .ok (.aload_n 0, 1) := by decide +kernel
theorem dX11_areAgainst_1 : decode cX11_areAgainst 1 = .ok (.iload_n 1, 1) := by decide +kernel
theorem dX11_areAgainst_2 : decode cX11_areAgainst 2 = .ok (.invokevirtual 124, 3) := by decide +kernel
theorem dX11_areAgainst_5 : decode cX11_areAgainst 5 = .ok (.ifCond .eq 30, 3) := by decide +kernel
theorem dX11_areAgainst_8 : decode cX11_areAgainst 8 = .ok (.aload_n 0, 1) := by decide +kernel
theorem dX11_areAgainst_9 : decode cX11_areAgainst 9 = .ok (.iload_n 2, 1) := by decide +kernel
theorem dX11_areAgainst_10 : decode cX11_areAgainst 10 = .ok (.invokevirtual 124, 3) := by decide +kernel
theorem dX11_areAgainst_13 : decode cX11_areAgainst 13 = .ok (.ifCond .eq 22, 3) := by decide +kernel
theorem dX11_areAgainst_16 : decode cX11_areAgainst 16 = .ok (.aload_n 0, 1) := by decide +kernel
theorem dX11_areAgainst_17 : decode cX11_areAgainst 17 = .ok (.getfield 13, 3) := by decide +kernel
theorem dX11_areAgainst_20 : decode cX11_areAgainst 20 = .ok (.iload_n 1, 1) := by decide +kernel
theorem dX11_areAgainst_21 : decode cX11_areAgainst 21 = .ok (.iaload, 1) := by decide +kernel
theorem dX11_areAgainst_22 : decode cX11_areAgainst 22 = .ok (.aload_n 0, 1) := by decide +kernel
theorem dX11_areAgainst_23 : decode cX11_areAgainst 23 = .ok (.getfield 13, 3) := by decide +kernel
theorem dX11_areAgainst_26 : decode cX11_areAgainst 26 = .ok (.iload_n 2, 1) := by decide +kernel
theorem dX11_areAgainst_27 : decode cX11_areAgainst 27 = .ok (.iaload, 1) := by decide +kernel
theorem dX11_areAgainst_28 : decode cX11_areAgainst 28 = .ok (.if_icmp .eq 7, 3) := by decide +kernel
theorem dX11_areAgainst_31 : decode cX11_areAgainst 31 = .ok (.iconst 1, 1) := by decide +kernel
theorem dX11_areAgainst_32 : decode cX11_areAgainst 32 = .ok (.goto 4, 3) := by decide +kernel
theorem dX11_areAgainst_35 : decode cX11_areAgainst 35 = .ok (.iconst 0, 1) := by decide +kernel
theorem dX11_areAgainst_36 : decode cX11_areAgainst 36 = .ok (.ireturn, 1) := by decide +kernel
set_option maxRecDepth 20000 in
theorem ggX11_odds_X11_isPlayer : GoodIn wsX11_odds wsX11_isPlayer := goodIn_r _ [5, 6, 61, 62, 63, 64, 65, 66, 67, 68, 69, 70, 71, 72, 73, 74, 75, 76, 77, 78, 79, 80, 81, 82, 83, 84, 85, 86, 87, 88] (by decide +kernel) (by decide +kernel)
set_option maxRecDepth 20000 in
theorem gX11_odds_X11_isPlayer : GoodIn wsX11_odds (wsV RX11 69 RX11 yX11_isPlayer wsX11_isPlayer) := goodIn_app (goodIn_of _ (by decide +kernel)) ggX11_odds_X11_isPlayer
set_option maxRecDepth 20000 in
theorem ggX11_odds_X11_isIn : GoodIn wsX11_odds wsX11_isIn := goodIn_r _ [9] (by decide +kernel) (by decide +kernel)
set_option maxRecDepth 20000 in
theorem gX11_odds_X11_isIn : GoodIn wsX11_odds (va_wsS RX11 91 yX11_isIn wsX11_isIn) := goodIn_app (goodIn_of _ (by decide +kernel)) ggX11_odds_X11_isIn
set_option maxRecDepth 20000 in
theorem ggX11_odds_X11_areAgainst : GoodIn wsX11_odds wsX11_areAgainst := goodIn_r _ [13, 14, 15, 16, 17, 4, 18, 19, 1, 2, 3, 5, 6, 61, 62, 63, 64, 65, 66, 67, 68, 69, 70, 71, 72, 73, 74, 75, 76, 77, 78, 79, 80, 81, 82, 83, 84, 85, 86, 87, 88] (by decide +kernel) (by decide +kernel)
set_option maxRecDepth 20000 in
theorem gX11_odds_X11_areAgainst : GoodIn wsX11_odds (wsV RX11 186 RX11 yX11_areAgainst wsX11_areAgainst) := goodIn_app (goodIn_of _ (by decide +kernel)) ggX11_odds_X11_areAgainst
set_option maxRecDepth 20000 in
theorem ggX11_odds_X11_no : GoodIn wsX11_odds wsX11_no := goodIn_r _ [23, 24, 61, 62, 63, 64, 65, 66, 67, 68, 69, 70, 71, 72, 73, 74, 75, 76, 77, 78, 79, 80, 81, 82, 83, 84, 85, 86, 87, 88] (by decide +kernel) (by decide +kernel)
set_option maxRecDepth 20000 in
theorem gX11_odds_X11_no : GoodIn wsX11_odds (wsV RX11 80 RX11 yX11_no wsX11_no) := goodIn_app (goodIn_of _ (by decide +kernel)) ggX11_odds_X11_no
set_option maxRecDepth 20000 in
theorem ggX11_odds_X11_hitOf : GoodIn wsX11_odds wsX11_hitOf := goodIn_r _ [28, 29, 30, 31, 4, 32, 33, 34, 35, 36, 37, 38, 39, 40, 41, 42, 43, 44, 45, 46, 47, 48, 61, 62, 63, 64, 65, 66, 67, 68, 69, 70, 71, 72, 73, 74, 75, 76, 77, 78, 79, 80, 81, 82, 83, 84, 85, 86, 87, 88] (by decide +kernel) (by decide +kernel)
set_option maxRecDepth 20000 in
theorem gX11_odds_X11_hitOf : GoodIn wsX11_odds (wsV RX11 189 RX11 yX11_hitOf wsX11_hitOf) := goodIn_app (goodIn_of _ (by decide +kernel)) ggX11_odds_X11_hitOf
set_option maxRecDepth 20000 in
theorem ggX11_odds_X11_caughtOf : GoodIn wsX11_odds wsX11_caughtOf := goodIn_r _ [52, 53, 54, 55, 4, 56, 34, 43, 33, 19, 14, 57, 58, 59, 60, 6, 36, 37, 38, 61, 62, 63, 64, 65, 66, 67, 68, 69, 70, 71, 72, 73, 74, 75, 76, 77, 78, 79, 80, 81, 82, 83, 84, 85, 86, 87, 88] (by decide +kernel) (by decide +kernel)
set_option maxRecDepth 20000 in
theorem gX11_odds_X11_caughtOf : GoodIn wsX11_odds (wsV RX11 192 RX11 yX11_caughtOf wsX11_caughtOf) := goodIn_app (goodIn_of _ (by decide +kernel)) ggX11_odds_X11_caughtOf
theorem dX11_odds_0 : decode cX11_odds 0 = .ok (.aload_n 0, 1) := by decide +kernel
theorem dX11_odds_1 : decode cX11_odds 1 = .ok (.iload_n 1, 1) := by decide +kernel
theorem dX11_odds_2 : decode cX11_odds 2 = .ok (.invokevirtual 69, 3) := by decide +kernel
theorem dX11_odds_5 : decode cX11_odds 5 = .ok (.ifCond .eq 11, 3) := by decide +kernel
theorem dX11_odds_8 : decode cX11_odds 8 = .ok (.aload_n 0, 1) := by decide +kernel
theorem dX11_odds_9 : decode cX11_odds 9 = .ok (.iload_n 2, 1) := by decide +kernel
theorem dX11_odds_10 : decode cX11_odds 10 = .ok (.invokevirtual 69, 3) := by decide +kernel
theorem dX11_odds_13 : decode cX11_odds 13 = .ok (.ifCond .ne 7, 3) := by decide +kernel
theorem dX11_odds_16 : decode cX11_odds 16 = .ok (.iconst (-1), 1) := by decide +kernel
theorem dX11_odds_17 : decode cX11_odds 17 = .ok (.goto 42, 3) := by decide +kernel
theorem dX11_odds_20 : decode cX11_odds 20 = .ok (.iload_n 3, 1) := by decide +kernel
theorem dX11_odds_21 : decode cX11_odds 21 = .ok (.iconst 0, 1) := by decide +kernel
theorem dX11_odds_22 : decode cX11_odds 22 = .ok (.iconst 2, 1) := by decide +kernel
theorem dX11_odds_23 : decode cX11_odds 23 = .ok (.invokestatic 91, 3) := by decide +kernel
theorem dX11_odds_26 : decode cX11_odds 26 = .ok (.ifCond .eq 13, 3) := by decide +kernel
theorem dX11_odds_29 : decode cX11_odds 29 = .ok (.iload 4, 2) := by decide +kernel
theorem dX11_odds_31 : decode cX11_odds 31 = .ok (.iconst 0, 1) := by decide +kernel
theorem dX11_odds_32 : decode cX11_odds 32 = .ok (.iconst 2, 1) := by decide +kernel
theorem dX11_odds_33 : decode cX11_odds 33 = .ok (.invokestatic 91, 3) := by decide +kernel
theorem dX11_odds_36 : decode cX11_odds 36 = .ok (.ifCond .ne 8, 3) := by decide +kernel
theorem dX11_odds_39 : decode cX11_odds 39 = .ok (.bipush (-2), 2) := by decide +kernel
theorem dX11_odds_41 : decode cX11_odds 41 = .ok (.goto 18, 3) := by decide +kernel
theorem dX11_odds_44 : decode cX11_odds 44 = .ok (.aload_n 0, 1) := by decide +kernel
theorem dX11_odds_45 : decode cX11_odds 45 = .ok (.iload_n 1, 1) := by decide +kernel
