set_option maxRecDepth 20000 in
theorem ggX5_init_X4_init : GoodIn wsX5_init wsX4_init := goodIn_r _ [4, 5, 6, 7, 8, 9, 10, 11, 12, 13, 14, 15, 16, 17, 18, 19, 20, 21, 22, 23, 24, 25, 26, 27, 28, 29, 30, 31, 32, 33, 34, 35] (by decide +kernel) (by decide +kernel)
set_option maxRecDepth 20000 in
theorem gX5_init_X4_init : GoodIn wsX5_init (wsX4_init) := ggX5_init_X4_init
theorem dX5_init_0 : decode cX5_init 0 = .ok (.aload_n 0, 1) := by decide +kernel
theorem dX5_init_1 : decode cX5_init 1 = .ok (.iload_n 1, 1) := by decide +kernel
theorem dX5_init_2 : decode cX5_init 2 = .ok (.iload_n 2, 1) := by decide +kernel
theorem dX5_init_3 : decode cX5_init 3 = .ok (.iload_n 3, 1) := by decide +kernel
theorem dX5_init_4 : decode cX5_init 4 = .ok (.iload 4, 2) := by decide +kernel
theorem dX5_init_6 : decode cX5_init 6 = .ok (.invokespecial 1, 3) := by decide +kernel
theorem dX5_init_9 : decode cX5_init 9 = .ok (.return_, 1) := by decide +kernel
set_option maxRecDepth 20000 in
theorem ggX5_dodge_X4_dodge : GoodIn wsX5_dodge wsX4_dodge := goodIn_r _ [6, 7, 8, 9, 10, 11, 12, 13, 14, 15, 16, 17, 18, 19, 20, 21, 22, 23, 24, 25, 26, 27, 28, 29, 30, 31] (by decide +kernel) (by decide +kernel)
set_option maxRecDepth 20000 in
theorem gX5_dodge_X4_dodge_s7 : GoodIn wsX5_dodge (va_wsSU RX5 7 yX4_dodge wsX4_dodge) := goodIn_app (goodIn_of _ (by decide +kernel)) ggX5_dodge_X4_dodge
theorem dX5_dodge_0 : decode cX5_dodge 0 = .ok (.aload_n 0, 1) := by decide +kernel
theorem dX5_dodge_1 : decode cX5_dodge 1 = .ok (.iload_n 1, 1) := by decide +kernel
theorem dX5_dodge_2 : decode cX5_dodge 2 = .ok (.invokespecial 7, 3) := by decide +kernel
theorem dX5_dodge_5 : decode cX5_dodge 5 = .ok (.iconst 3, 1) := by decide +kernel
theorem dX5_dodge_6 : decode cX5_dodge 6 = .ok (.iadd, 1) := by decide +kernel
theorem dX5_dodge_7 : decode cX5_dodge 7 = .ok (.ireturn, 1) := by decide +kernel
theorem dX6_init_0 : decode cX6_init 0 = .ok (.aload_n 0, 1) := by decide +kernel
theorem dX6_init_1 : decode cX6_init 1 = .ok (.invokespecial 3, 3) := by decide +kernel
theorem dX6_init_4 : decode cX6_init 4 = .ok (.aload_n 0, 1) := by decide +kernel
theorem dX6_init_5 : decode cX6_init 5 = .ok (.bipush 8, 2) := by decide +kernel
theorem dX6_init_7 : decode cX6_init 7 = .ok (.newarray .int, 2) := by decide +kernel
theorem dX6_init_9 : decode cX6_init 9 = .ok (.putfield 9, 3) := by decide +kernel
theorem dX6_init_12 : decode cX6_init 12 = .ok (.return_, 1) := by decide +kernel
theorem dX6_letIn_0 : decode cX6_letIn 0 = .ok (.aload_n 0, 1) := by decide +kernel
theorem dX6_letIn_1 : decode cX6_letIn 1 = .ok (.dup, 1) := by decide +kernel
theorem dX6_letIn_2 : decode cX6_letIn 2 = .ok (.getfield 15, 3) := by decide +kernel
theorem dX6_letIn_5 : decode cX6_letIn 5 = .ok (.iconst 1, 1) := by decide +kernel
theorem dX6_letIn_6 : decode cX6_letIn 6 = .ok (.iload_n 1, 1) := by decide +kernel
theorem dX6_letIn_7 : decode cX6_letIn 7 = .ok (.ishl, 1) := by decide +kernel
theorem dX6_letIn_8 : decode cX6_letIn 8 = .ok (.ior, 1) := by decide +kernel
theorem dX6_letIn_9 : decode cX6_letIn 9 = .ok (.putfield 15, 3) := by decide +kernel
theorem dX6_letIn_12 : decode cX6_letIn 12 = .ok (.return_, 1) := by decide +kernel
theorem dX6_letOut_0 : decode cX6_letOut 0 = .ok (.aload_n 0, 1) := by decide +kernel
theorem dX6_letOut_1 : decode cX6_letOut 1 = .ok (.dup, 1) := by decide +kernel
theorem dX6_letOut_2 : decode cX6_letOut 2 = .ok (.getfield 15, 3) := by decide +kernel
theorem dX6_letOut_5 : decode cX6_letOut 5 = .ok (.iconst 1, 1) := by decide +kernel
theorem dX6_letOut_6 : decode cX6_letOut 6 = .ok (.iload_n 1, 1) := by decide +kernel
theorem dX6_letOut_7 : decode cX6_letOut 7 = .ok (.ishl, 1) := by decide +kernel
theorem dX6_letOut_8 : decode cX6_letOut 8 = .ok (.iconst (-1), 1) := by decide +kernel
theorem dX6_letOut_9 : decode cX6_letOut 9 = .ok (.ixor, 1) := by decide +kernel
theorem dX6_letOut_10 : decode cX6_letOut 10 = .ok (.iand, 1) := by decide +kernel
theorem dX6_letOut_11 : decode cX6_letOut 11 = .ok (.putfield 15, 3) := by decide +kernel
theorem dX6_letOut_14 : decode cX6_letOut 14 = .ok (.aload_n 0, 1) := by decide +kernel
theorem dX6_letOut_15 : decode cX6_letOut 15 = .ok (.getfield 19, 3) := by decide +kernel
theorem dX6_letOut_18 : decode cX6_letOut 18 = .ok (.aload_n 0, 1) := by decide +kernel
theorem dX6_letOut_19 : decode cX6_letOut 19 = .ok (.getfield 9, 3) := by decide +kernel
theorem dX6_letOut_22 : decode cX6_letOut 22 = .ok (.arraylength, 1) := by decide +kernel
theorem dX6_letOut_23 : decode cX6_letOut 23 = .ok (.if_icmp .ge 23, 3) := by decide +kernel
theorem dX6_letOut_26 : decode cX6_letOut 26 = .ok (.aload_n 0, 1) := by decide +kernel
theorem dX6_letOut_27 : decode cX6_letOut 27 = .ok (.getfield 9, 3) := by decide +kernel
theorem dX6_letOut_30 : decode cX6_letOut 30 = .ok (.aload_n 0, 1) := by decide +kernel
theorem dX6_letOut_31 : decode cX6_letOut 31 = .ok (.getfield 19, 3) := by decide +kernel
theorem dX6_letOut_34 : decode cX6_letOut 34 = .ok (.iload_n 1, 1) := by decide +kernel
theorem dX6_letOut_35 : decode cX6_letOut 35 = .ok (.iastore, 1) := by decide +kernel
theorem dX6_letOut_36 : decode cX6_letOut 36 = .ok (.aload_n 0, 1) := by decide +kernel
theorem dX6_letOut_37 : decode cX6_letOut 37 = .ok (.dup, 1) := by decide +kernel
theorem dX6_letOut_38 : decode cX6_letOut 38 = .ok (.getfield 19, 3) := by decide +kernel
theorem dX6_letOut_41 : decode cX6_letOut 41 = .ok (.iconst 1, 1) := by decide +kernel
theorem dX6_letOut_42 : decode cX6_letOut 42 = .ok (.iadd, 1) := by decide +kernel
theorem dX6_letOut_43 : decode cX6_letOut 43 = .ok (.putfield 19, 3) := by decide +kernel
theorem dX6_letOut_46 : decode cX6_letOut 46 = .ok (.return_, 1) := by decide +kernel
set_option maxRecDepth 20000 in
theorem ggX6_letFirstIn_X6_letIn : GoodIn wsX6_letFirstIn wsX6_letIn := goodIn_r _ [7, 8, 9, 10, 11] (by decide +kernel) (by decide +kernel)
set_option maxRecDepth 20000 in
theorem gX6_letFirstIn_X6_letIn : GoodIn wsX6_letFirstIn (wsV RX6 22 RX6 yX6_letIn wsX6_letIn) := goodIn_app (goodIn_of _ (by decide +kernel)) ggX6_letFirstIn_X6_letIn
theorem dX6_letFirstIn_0 : decode cX6_letFirstIn 0 = .ok (.aload_n 0, 1) := by decide +kernel
theorem dX6_letFirstIn_1 : decode cX6_letFirstIn 1 = .ok (.getfield 19, 3) := by decide +kernel
theorem dX6_letFirstIn_4 : decode cX6_letFirstIn 4 = .ok (.iconst 1, 1) := by decide +kernel
theorem dX6_letFirstIn_5 : decode cX6_letFirstIn 5 = .ok (.if_icmp .ge 4, 3) := by decide +kernel
theorem dX6_letFirstIn_8 : decode cX6_letFirstIn 8 = .ok (.return_, 1) := by decide +kernel
theorem dX6_letFirstIn_9 : decode cX6_letFirstIn 9 = .ok (.aload_n 0, 1) := by decide +kernel
theorem dX6_letFirstIn_10 : decode cX6_letFirstIn 10 = .ok (.aload_n 0, 1) := by decide +kernel
theorem dX6_letFirstIn_11 : decode cX6_letFirstIn 11 = .ok (.getfield 9, 3) := by decide +kernel
theorem dX6_letFirstIn_14 : decode cX6_letFirstIn 14 = .ok (.iconst 0, 1) := by decide +kernel
theorem dX6_letFirstIn_15 : decode cX6_letFirstIn 15 = .ok (.iaload, 1) := by decide +kernel
theorem dX6_letFirstIn_16 : decode cX6_letFirstIn 16 = .ok (.invokevirtual 22, 3) := by decide +kernel
theorem dX6_letFirstIn_19 : decode cX6_letFirstIn 19 = .ok (.iconst 1, 1) := by decide +kernel
theorem dX6_letFirstIn_20 : decode cX6_letFirstIn 20 = .ok (.istore_n 1, 1) := by decide +kernel
theorem dX6_letFirstIn_21 : decode cX6_letFirstIn 21 = .ok (.iload_n 1, 1) := by decide +kernel
theorem dX6_letFirstIn_22 : decode cX6_letFirstIn 22 = .ok (.aload_n 0, 1) := by decide +kernel
theorem dX6_letFirstIn_23 : decode cX6_letFirstIn 23 = .ok (.getfield 19, 3) := by decide +kernel
theorem dX6_letFirstIn_26 : decode cX6_letFirstIn 26 = .ok (.if_icmp .ge 23, 3) := by decide +kernel
theorem dX6_letFirstIn_29 : decode cX6_letFirstIn 29 = .ok (.aload_n 0, 1) := by decide +kernel
theorem dX6_letFirstIn_30 : decode cX6_letFirstIn 30 = .ok (.getfield 9, 3) := by decide +kernel
theorem dX6_letFirstIn_33 : decode cX6_letFirstIn 33 = .ok (.iload_n 1, 1) := by decide +kernel
theorem dX6_letFirstIn_34 : decode cX6_letFirstIn 34 = .ok (.iconst 1, 1) := by decide +kernel
theorem dX6_letFirstIn_35 : decode cX6_letFirstIn 35 = .ok (.isub, 1) := by decide +kernel
theorem dX6_letFirstIn_36 : decode cX6_letFirstIn 36 = .ok (.aload_n 0, 1) := by decide +kernel
theorem dX6_letFirstIn_37 : decode cX6_letFirstIn 37 = .ok (.getfield 9, 3) := by decide +kernel
theorem dX6_letFirstIn_40 : decode cX6_letFirstIn 40 = .ok (.iload_n 1, 1) := by decide +kernel
theorem dX6_letFirstIn_41 : decode cX6_letFirstIn 41 = .ok (.iaload, 1) := by decide +kernel
theorem dX6_letFirstIn_42 : decode cX6_letFirstIn 42 = .ok (.iastore, 1) := by decide +kernel
theorem dX6_letFirstIn_43 : decode cX6_letFirstIn 43 = .ok (.iinc 1 1, 3) := by decide +kernel
theorem dX6_letFirstIn_46 : decode cX6_letFirstIn 46 = .ok (.goto (-25), 3) := by decide +kernel
theorem dX6_letFirstIn_49 : decode cX6_letFirstIn 49 = .ok (.aload_n 0, 1) := by decide +kernel
theorem dX6_letFirstIn_50 : decode cX6_letFirstIn 50 = .ok (.dup, 1) := by decide +kernel
theorem dX6_letFirstIn_51 : decode cX6_letFirstIn 51 = .ok (.getfield 19, 3) := by decide +kernel
theorem dX6_letFirstIn_54 : decode cX6_letFirstIn 54 = .ok (.iconst 1, 1) := by decide +kernel
theorem dX6_letFirstIn_55 : decode cX6_letFirstIn 55 = .ok (.isub, 1) := by decide +kernel
theorem dX6_letFirstIn_56 : decode cX6_letFirstIn 56 = .ok (.putfield 19, 3) := by decide +kernel
theorem dX6_letFirstIn_59 : decode cX6_letFirstIn 59 = .ok (.return_, 1) := by decide +kernel
theorem dX6_waitsAt_0 : decode cX6_waitsAt 0 = .ok (.iload_n 1, 1) := by decide +kernel
theorem dX6_waitsAt_1 : decode cX6_waitsAt 1 = .ok (.ifCond .lt 20, 3) := by decide +kernel
theorem dX6_waitsAt_4 : decode cX6_waitsAt 4 = .ok (.iload_n 1, 1) := by decide +kernel
theorem dX6_waitsAt_5 : decode cX6_waitsAt 5 = .ok (.aload_n 0, 1) := by decide +kernel
theorem dX6_waitsAt_6 : decode cX6_waitsAt 6 = .ok (.getfield 19, 3) := by decide +kernel
theorem dX6_waitsAt_9 : decode cX6_waitsAt 9 = .ok (.if_icmp .ge 12, 3) := by decide +kernel
theorem dX6_waitsAt_12 : decode cX6_waitsAt 12 = .ok (.aload_n 0, 1) := by decide +kernel
theorem dX6_waitsAt_13 : decode cX6_waitsAt 13 = .ok (.getfield 9, 3) := by decide +kernel
theorem dX6_waitsAt_16 : decode cX6_waitsAt 16 = .ok (.iload_n 1, 1) := by decide +kernel
theorem dX6_waitsAt_17 : decode cX6_waitsAt 17 = .ok (.iaload, 1) := by decide +kernel
theorem dX6_waitsAt_18 : decode cX6_waitsAt 18 = .ok (.goto 5, 3) := by decide +kernel
theorem dX6_waitsAt_21 : decode cX6_waitsAt 21 = .ok (.bipush (-9), 2) := by decide +kernel
theorem dX6_waitsAt_23 : decode cX6_waitsAt 23 = .ok (.ireturn, 1) := by decide +kernel
set_option maxRecDepth 20000 in
theorem ggX6_inCount_J6_bitCount_0f7a4 : GoodIn wsX6_inCount wsJ6_bitCount_0f7a4 := goodIn_r _ [5, 6, 7, 8] (by decide +kernel) (by decide +kernel)
set_option maxRecDepth 20000 in
theorem gX6_inCount_J6_bitCount_0f7a4 : GoodIn wsX6_inCount (va_wsS RX6 26 yJ6_bitCount_0f7a4 wsJ6_bitCount_0f7a4) := goodIn_app (goodIn_of _ (by decide +kernel)) ggX6_inCount_J6_bitCount_0f7a4
theorem dX6_inCount_0 : decode cX6_inCount 0 = .ok (.aload_n 0, 1) := by decide +kernel
theorem dX6_inCount_1 : decode cX6_inCount 1 = .ok (.getfield 15, 3) := by decide +kernel
theorem dX6_inCount_4 : decode cX6_inCount 4 = .ok (.invokestatic 26, 3) := by decide +kernel
theorem dX6_inCount_7 : decode cX6_inCount 7 = .ok (.ireturn, 1) := by decide +kernel
theorem dX6_becomeLike_0 : decode cX6_becomeLike 0 = .ok (.aload_n 0, 1) := by decide +kernel
theorem dX6_becomeLike_1 : decode cX6_becomeLike 1 = .ok (.aload_n 1, 1) := by decide +kernel
theorem dX6_becomeLike_2 : decode cX6_becomeLike 2 = .ok (.getfield 15, 3) := by decide +kernel
theorem dX6_becomeLike_5 : decode cX6_becomeLike 5 = .ok (.putfield 15, 3) := by decide +kernel
theorem dX6_becomeLike_8 : decode cX6_becomeLike 8 = .ok (.aload_n 1, 1) := by decide +kernel
theorem dX6_becomeLike_9 : decode cX6_becomeLike 9 = .ok (.getfield 9, 3) := by decide +kernel
theorem dX6_becomeLike_12 : decode cX6_becomeLike 12 = .ok (.iconst 0, 1) := by decide +kernel
theorem dX6_becomeLike_13 : decode cX6_becomeLike 13 = .ok (.aload_n 0, 1) := by decide +kernel
theorem dX6_becomeLike_14 : decode cX6_becomeLike 14 = .ok (.getfield 9, 3) := by decide +kernel
theorem dX6_becomeLike_17 : decode cX6_becomeLike 17 = .ok (.iconst 0, 1) := by decide +kernel
theorem dX6_becomeLike_18 : decode cX6_becomeLike 18 = .ok (.bipush 8, 2) := by decide +kernel
theorem dX6_becomeLike_20 : decode cX6_becomeLike 20 = .ok (.invokestatic 32, 3) := by decide +kernel
theorem dX6_becomeLike_23 : decode cX6_becomeLike 23 = .ok (.aload_n 0, 1) := by decide +kernel
theorem dX6_becomeLike_24 : decode cX6_becomeLike 24 = .ok (.aload_n 1, 1) := by decide +kernel
theorem dX6_becomeLike_25 : decode cX6_becomeLike 25 = .ok (.getfield 19, 3) := by decide +kernel
theorem dX6_becomeLike_28 : decode cX6_becomeLike 28 = .ok (.putfield 19, 3) := by decide +kernel
theorem dX6_becomeLike_31 : decode cX6_becomeLike 31 = .ok (.return_, 1) := by decide +kernel
theorem dX7_init_0 : decode cX7_init 0 = .ok (.aload_n 0, 1) := by decide +kernel
theorem dX7_init_1 : decode cX7_init 1 = .ok (.invokespecial 3, 3) := by decide +kernel
theorem dX7_init_4 : decode cX7_init 4 = .ok (.aload_n 0, 1) := by decide +kernel
theorem dX7_init_5 : decode cX7_init 5 = .ok (.bipush 80, 2) := by decide +kernel
theorem dX7_init_7 : decode cX7_init 7 = .ok (.newarray .char, 2) := by decide +kernel
theorem dX7_init_9 : decode cX7_init 9 = .ok (.putfield 9, 3) := by decide +kernel
theorem dX7_init_12 : decode cX7_init 12 = .ok (.return_, 1) := by decide +kernel
theorem dX7_isFull_0 : decode cX7_isFull 0 = .ok (.aload_n 0, 1) := by decide +kernel
theorem dX7_isFull_1 : decode cX7_isFull 1 = .ok (.getfield 15, 3) := by decide +kernel
theorem dX7_isFull_4 : decode cX7_isFull 4 = .ok (.aload_n 0, 1) := by decide +kernel
theorem dX7_isFull_5 : decode cX7_isFull 5 = .ok (.getfield 9, 3) := by decide +kernel
theorem dX7_isFull_8 : decode cX7_isFull 8 = .ok (.arraylength, 1) := by decide +kernel
theorem dX7_isFull_9 : decode cX7_isFull 9 = .ok (.if_icmp .lt 7, 3) := by decide +kernel
theorem dX7_isFull_12 : decode cX7_isFull 12 = .ok (.iconst 1, 1) := by decide +kernel
theorem dX7_isFull_13 : decode cX7_isFull 13 = .ok (.goto 4, 3) := by decide +kernel
theorem dX7_isFull_16 : decode cX7_isFull 16 = .ok (.iconst 0, 1) := by decide +kernel
theorem dX7_isFull_17 : decode cX7_isFull 17 = .ok (.ireturn, 1) := by decide +kernel
set_option maxRecDepth 20000 in
theorem ggX7_append_X7_isFull : GoodIn wsX7_append wsX7_isFull := goodIn_r _ [7, 2, 1, 8, 9] (by decide +kernel) (by decide +kernel)
set_option maxRecDepth 20000 in
theorem gX7_append_X7_isFull : GoodIn wsX7_append (wsV RX7 19 RX7 yX7_isFull wsX7_isFull) := goodIn_app (goodIn_of _ (by decide +kernel)) ggX7_append_X7_isFull
theorem dX7_append_0 : decode cX7_append 0 = .ok (.aload_n 0, 1) := by decide +kernel
theorem dX7_append_1 : decode cX7_append 1 = .ok (.invokevirtual 19, 3) := by decide +kernel
theorem dX7_append_4 : decode cX7_append 4 = .ok (.ifCond .ne 23, 3) := by decide +kernel
theorem dX7_append_7 : decode cX7_append 7 = .ok (.aload_n 0, 1) := by decide +kernel
theorem dX7_append_8 : decode cX7_append 8 = .ok (.getfield 9, 3) := by decide +kernel
theorem dX7_append_11 : decode cX7_append 11 = .ok (.aload_n 0, 1) := by decide +kernel
theorem dX7_append_12 : decode cX7_append 12 = .ok (.getfield 15, 3) := by decide +kernel
theorem dX7_append_15 : decode cX7_append 15 = .ok (.iload_n 1, 1) := by decide +kernel
theorem dX7_append_16 : decode cX7_append 16 = .ok (.castore, 1) := by decide +kernel
theorem dX7_append_17 : decode cX7_append 17 = .ok (.aload_n 0, 1) := by decide +kernel
theorem dX7_append_18 : decode cX7_append 18 = .ok (.dup, 1) := by decide +kernel
theorem dX7_append_19 : decode cX7_append 19 = .ok (.getfield 15, 3) := by decide +kernel
theorem dX7_append_22 : decode cX7_append 22 = .ok (.iconst 1, 1) := by decide +kernel
theorem dX7_append_23 : decode cX7_append 23 = .ok (.iadd, 1) := by decide +kernel
theorem dX7_append_24 : decode cX7_append 24 = .ok (.putfield 15, 3) := by decide +kernel
theorem dX7_append_27 : decode cX7_append 27 = .ok (.return_, 1) := by decide +kernel
theorem dX7_forget_0 : decode cX7_forget 0 = .ok (.aload_n 0, 1) := by decide +kernel
theorem dX7_forget_1 : decode cX7_forget 1 = .ok (.iconst 0, 1) := by decide +kernel
theorem dX7_forget_2 : decode cX7_forget 2 = .ok (.putfield 15, 3) := by decide +kernel
theorem dX7_forget_5 : decode cX7_forget 5 = .ok (.return_, 1) := by decide +kernel
set_option maxRecDepth 20000 in
theorem ggX7_unfitLetter_J0_length_8abf5 : GoodIn wsX7_unfitLetter wsJ0_length_8abf5 := goodIn_r _ [6, 7, 8, 9, 10, 5, 11, 12, 13] (by decide +kernel) (by decide +kernel)
set_option maxRecDepth 20000 in
theorem gX7_unfitLetter_J0_length_8abf5 : GoodIn wsX7_unfitLetter (wsV RX7 25 RJ0 yJ0_length_8abf5 wsJ0_length_8abf5) := goodIn_app (goodIn_of _ (by decide +kernel)) ggX7_unfitLetter_J0_length_8abf5
set_option maxRecDepth 20000 in
theorem ggX7_unfitLetter_J0_charAt_5068e : GoodIn wsX7_unfitLetter wsJ0_charAt_5068e := goodIn_r _ [17, 7, 18, 19, 20, 5, 21, 12, 13, 22, 23, 24, 25, 26, 27, 28, 29, 30, 31, 32, 33, 34, 35, 36, 37, 38, 39, 40, 41, 42, 43, 44, 45, 46, 47, 48, 49, 50] (by decide +kernel) (by decide +kernel)
set_option maxRecDepth 20000 in
theorem gX7_unfitLetter_J0_charAt_5068e : GoodIn wsX7_unfitLetter (wsV RX7 30 RJ0 yJ0_charAt_5068e wsJ0_charAt_5068e) := goodIn_app (goodIn_of _ (by decide +kernel)) ggX7_unfitLetter_J0_charAt_5068e
set_option maxRecDepth 20000 in
theorem ggX7_unfitLetter_X7_letterAt : GoodIn wsX7_unfitLetter wsX7_letterAt := goodIn_r _ [55, 1, 56, 128, 129] (by decide +kernel) (by decide +kernel)
set_option maxRecDepth 20000 in
theorem gX7_unfitLetter_X7_letterAt : GoodIn wsX7_unfitLetter (wsV RX7 34 RX7 yX7_letterAt wsX7_letterAt) := goodIn_app (goodIn_of _ (by decide +kernel)) ggX7_unfitLetter_X7_letterAt
set_option maxRecDepth 20000 in
theorem ggX7_unfitLetter_X7_fits : GoodIn wsX7_unfitLetter wsX7_fits := goodIn_r _ [59, 60, 61, 62, 5, 63, 64, 65, 66, 67, 7, 18, 19, 20, 21, 12, 13, 68, 3, 4, 6, 8, 9, 10, 11, 69, 70, 24, 71, 72, 73, 74, 75, 76, 77, 78, 79, 80, 81, 82, 83, 84, 85, 86, 36, 87, 88, 89, 90, 91, 92, 93, 94, 95, 96, 41, 42, 43, 97, 98, 99, 29, 100, 101, 32, 102, 103, 104, 105, 45, 46, 47, 48, 49, 50, 106, 107, 108, 109, 110, 111, 112, 113, 114, 115, 116, 117, 118, 119, 120] (by decide +kernel) (by decide +kernel)
set_option maxRecDepth 20000 in
theorem gX7_unfitLetter_X7_fits : GoodIn wsX7_unfitLetter (va_wsS RX7 37 yX7_fits wsX7_fits) := goodIn_app (goodIn_of _ (by decide +kernel)) ggX7_unfitLetter_X7_fits
set_option maxRecDepth 20000 in
theorem ggX7_unfitLetter_X7_shapeBehind : GoodIn wsX7_unfitLetter wsX7_shapeBehind := goodIn_r _ [123] (by decide +kernel) (by decide +kernel)
set_option maxRecDepth 20000 in
theorem gX7_unfitLetter_X7_shapeBehind : GoodIn wsX7_unfitLetter (va_wsS RX7 41 yX7_shapeBehind wsX7_shapeBehind) := goodIn_app (goodIn_of _ (by decide +kernel)) ggX7_unfitLetter_X7_shapeBehind
set_option maxRecDepth 20000 in
theorem ggX7_unfitLetter_J0_isEmpty_aae02 : GoodIn wsX7_unfitLetter wsJ0_isEmpty_aae02 := goodIn_r _ [127, 7] (by decide +kernel) (by decide +kernel)
set_option maxRecDepth 20000 in
theorem gX7_unfitLetter_J0_isEmpty_aae02 : GoodIn wsX7_unfitLetter (wsV RX7 45 RJ0 yJ0_isEmpty_aae02 wsJ0_isEmpty_aae02) := goodIn_app (goodIn_of _ (by decide +kernel)) ggX7_unfitLetter_J0_isEmpty_aae02
theorem dX7_unfitLetter_0 : decode cX7_unfitLetter 0 = .ok (.ldc 23, 2) := by decide +kernel
theorem dX7_unfitLetter_2 : decode cX7_unfitLetter 2 = .ok (.astore_n 1, 1) := by decide +kernel
theorem dX7_unfitLetter_3 : decode cX7_unfitLetter 3 = .ok (.iconst 0, 1) := by decide +kernel
theorem dX7_unfitLetter_4 : decode cX7_unfitLetter 4 = .ok (.istore_n 2, 1) := by decide +kernel
theorem dX7_unfitLetter_5 : decode cX7_unfitLetter 5 = .ok (.iconst 0, 1) := by decide +kernel
theorem dX7_unfitLetter_6 : decode cX7_unfitLetter 6 = .ok (.istore_n 3, 1) := by decide +kernel
theorem dX7_unfitLetter_7 : decode cX7_unfitLetter 7 = .ok (.iload_n 3, 1) := by decide +kernel
theorem dX7_unfitLetter_8 : decode cX7_unfitLetter 8 = .ok (.aload_n 0, 1) := by decide +kernel
theorem dX7_unfitLetter_9 : decode cX7_unfitLetter 9 = .ok (.getfield 15, 3) := by decide +kernel
theorem dX7_unfitLetter_12 : decode cX7_unfitLetter 12 = .ok (.if_icmp .ge 61, 3) := by decide +kernel
theorem dX7_unfitLetter_15 : decode cX7_unfitLetter 15 = .ok (.iload_n 2, 1) := by decide +kernel
theorem dX7_unfitLetter_16 : decode cX7_unfitLetter 16 = .ok (.aload_n 1, 1) := by decide +kernel
theorem dX7_unfitLetter_17 : decode cX7_unfitLetter 17 = .ok (.invokevirtual 25, 3) := by decide +kernel
theorem dX7_unfitLetter_20 : decode cX7_unfitLetter 20 = .ok (.if_icmp .ge 27, 3) := by decide +kernel
theorem dX7_unfitLetter_23 : decode cX7_unfitLetter 23 = .ok (.aload_n 1, 1) := by decide +kernel
theorem dX7_unfitLetter_24 : decode cX7_unfitLetter 24 = .ok (.iload_n 2, 1) := by decide +kernel
theorem dX7_unfitLetter_25 : decode cX7_unfitLetter 25 = .ok (.invokevirtual 30, 3) := by decide +kernel
theorem dX7_unfitLetter_28 : decode cX7_unfitLetter 28 = .ok (.aload_n 0, 1) := by decide +kernel
theorem dX7_unfitLetter_29 : decode cX7_unfitLetter 29 = .ok (.iload_n 3, 1) := by decide +kernel
theorem dX7_unfitLetter_30 : decode cX7_unfitLetter 30 = .ok (.invokevirtual 34, 3) := by decide +kernel
theorem dX7_unfitLetter_33 : decode cX7_unfitLetter 33 = .ok (.invokestatic 37, 3) := by decide +kernel
theorem dX7_unfitLetter_36 : decode cX7_unfitLetter 36 = .ok (.ifCond .ne 5, 3) := by decide +kernel
theorem dX7_unfitLetter_39 : decode cX7_unfitLetter 39 = .ok (.iload_n 3, 1) := by decide +kernel
theorem dX7_unfitLetter_40 : decode cX7_unfitLetter 40 = .ok (.ireturn, 1) := by decide +kernel
theorem dX7_unfitLetter_41 : decode cX7_unfitLetter 41 = .ok (.iinc 2 1, 3) := by decide +kernel
theorem dX7_unfitLetter_44 : decode cX7_unfitLetter 44 = .ok (.goto 23, 3) := by decide +kernel
theorem dX7_unfitLetter_47 : decode cX7_unfitLetter 47 = .ok (.aload_n 0, 1) := by decide +kernel
theorem dX7_unfitLetter_48 : decode cX7_unfitLetter 48 = .ok (.iload_n 3, 1) := by decide +kernel
theorem dX7_unfitLetter_49 : decode cX7_unfitLetter 49 = .ok (.invokevirtual 34, 3) := by decide +kernel
theorem dX7_unfitLetter_52 : decode cX7_unfitLetter 52 = .ok (.invokestatic 41, 3) := by decide +kernel
theorem dX7_unfitLetter_55 : decode cX7_unfitLetter 55 = .ok (.astore_n 1, 1) := by decide +kernel
theorem dX7_unfitLetter_56 : decode cX7_unfitLetter 56 = .ok (.iconst 0, 1) := by decide +kernel
theorem dX7_unfitLetter_57 : decode cX7_unfitLetter 57 = .ok (.istore_n 2, 1) := by decide +kernel
theorem dX7_unfitLetter_58 : decode cX7_unfitLetter 58 = .ok (.aload_n 1, 1) := by decide +kernel
theorem dX7_unfitLetter_59 : decode cX7_unfitLetter 59 = .ok (.invokevirtual 45, 3) := by decide +kernel
theorem dX7_unfitLetter_62 : decode cX7_unfitLetter 62 = .ok (.ifCond .eq 5, 3) := by decide +kernel
theorem dX7_unfitLetter_65 : decode cX7_unfitLetter 65 = .ok (.iload_n 3, 1) := by decide +kernel
theorem dX7_unfitLetter_66 : decode cX7_unfitLetter 66 = .ok (.ireturn, 1) := by decide +kernel
theorem dX7_unfitLetter_67 : decode cX7_unfitLetter 67 = .ok (.iinc 3 1, 3) := by decide +kernel
theorem dX7_unfitLetter_70 : decode cX7_unfitLetter 70 = .ok (.goto (-63), 3) := by decide +kernel
theorem dX7_unfitLetter_73 : decode cX7_unfitLetter 73 = .ok (.aload_n 0, 1) := by decide +kernel
theorem dX7_unfitLetter_74 : decode cX7_unfitLetter 74 = .ok (.getfield 15, 3) := by decide +kernel
theorem dX7_unfitLetter_77 : decode cX7_unfitLetter 77 = .ok (.ifCond .eq 11, 3) := by decide +kernel
theorem dX7_unfitLetter_80 : decode cX7_unfitLetter 80 = .ok (.iload_n 2, 1) := by decide +kernel
theorem dX7_unfitLetter_81 : decode cX7_unfitLetter 81 = .ok (.aload_n 1, 1) := by decide +kernel
theorem dX7_unfitLetter_82 : decode cX7_unfitLetter 82 = .ok (.invokevirtual 25, 3) := by decide +kernel
theorem dX7_unfitLetter_85 : decode cX7_unfitLetter 85 = .ok (.if_icmp .ge 10, 3) := by decide +kernel
theorem dX7_unfitLetter_88 : decode cX7_unfitLetter 88 = .ok (.aload_n 0, 1) := by decide +kernel
theorem dX7_unfitLetter_89 : decode cX7_unfitLetter 89 = .ok (.getfield 15, 3) := by decide +kernel
theorem dX7_unfitLetter_92 : decode cX7_unfitLetter 92 = .ok (.goto 5, 3) := by decide +kernel
theorem dX7_unfitLetter_95 : decode cX7_unfitLetter 95 = .ok (.bipush (-9), 2) := by decide +kernel
theorem dX7_unfitLetter_97 : decode cX7_unfitLetter 97 = .ok (.ireturn, 1) := by decide +kernel
set_option maxRecDepth 20000 in
theorem ggX7_tellTo_X7_letterAt : GoodIn wsX7_tellTo wsX7_letterAt := goodIn_r _ [6, 1, 7, 243, 244] (by decide +kernel) (by decide +kernel)
set_option maxRecDepth 20000 in
theorem gX7_tellTo_X7_letterAt : GoodIn wsX7_tellTo (wsV RX7 34 RX7 yX7_letterAt wsX7_letterAt) := goodIn_app (goodIn_of _ (by decide +kernel)) ggX7_tellTo_X7_letterAt
set_option maxRecDepth 20000 in
theorem ggX7_tellTo_X7_tellStatement : GoodIn wsX7_tellTo wsX7_tellStatement := goodIn_r _ [11, 12, 13, 14, 5, 15, 2, 3, 4, 6, 1, 7, 16, 17, 18, 19, 20, 21, 22, 23, 24, 25, 26, 27, 28, 29, 30, 31, 32, 33, 34, 35, 36, 37, 38, 39, 40, 41, 42, 43, 44, 45, 46, 47, 48, 49, 50, 51, 52, 53, 54, 55, 56, 57, 58, 59, 60, 61, 62, 63, 64, 65, 66, 67, 68, 69, 70, 71, 72, 73, 74, 75, 76, 77, 78, 79, 80, 81, 82, 83, 84, 85, 86, 87, 88, 89, 90, 91, 92, 93, 94, 95, 96, 97, 98, 99, 100, 101, 102, 103, 104, 105, 106, 107, 108, 109, 110, 111, 112, 113, 114, 115, 116, 117, 118, 119, 120, 121, 122, 123, 124, 125, 126, 127, 128, 129, 130, 131, 132, 133, 134, 135, 136, 137, 138, 139, 140, 141, 142, 143, 144, 145, 146, 147, 148, 149, 150, 151, 152, 153, 154, 155, 156, 157, 158, 159, 160, 161, 162, 163, 164, 165, 166, 167, 168, 169, 170, 171, 172, 173, 174, 175, 176, 177, 178, 179, 180, 181, 182, 183, 184, 185, 186, 187, 188, 189, 190, 191, 192, 193, 194, 195, 196, 197, 198, 199, 200, 201, 202, 203, 204, 205, 206, 207, 208, 209, 210, 211, 212, 213, 214, 215, 216, 217, 218, 219, 220, 221, 222, 223, 224, 225, 226, 227, 228, 229, 230, 231, 232, 233, 234, 235, 236, 237, 238, 239, 240, 241, 242, 243, 244, 245, 246, 247, 248, 249, 250, 251, 252, 253, 254, 255, 256, 257, 258, 259, 260, 261, 262, 263, 264, 265, 266, 267, 268, 269, 270, 271, 272, 273, 274, 275, 276, 277, 278, 279] (by decide +kernel) (by decide +kernel)
set_option maxRecDepth 20000 in
theorem gX7_tellTo_X7_tellStatement : GoodIn wsX7_tellTo (wsV RX7 48 RX7 yX7_tellStatement wsX7_tellStatement) := goodIn_app (goodIn_of _ (by decide +kernel)) ggX7_tellTo_X7_tellStatement
theorem dX7_tellTo_0 : decode cX7_tellTo 0 = .ok (.iconst 0, 1) := by decide +kernel
theorem dX7_tellTo_1 : decode cX7_tellTo 1 = .ok (.istore_n 2, 1) := by decide +kernel
theorem dX7_tellTo_2 : decode cX7_tellTo 2 = .ok (.iconst 0, 1) := by decide +kernel
theorem dX7_tellTo_3 : decode cX7_tellTo 3 = .ok (.istore_n 3, 1) := by decide +kernel
theorem dX7_tellTo_4 : decode cX7_tellTo 4 = .ok (.iconst 0, 1) := by decide +kernel
theorem dX7_tellTo_5 : decode cX7_tellTo 5 = .ok (.istore 4, 2) := by decide +kernel
theorem dX7_tellTo_7 : decode cX7_tellTo 7 = .ok (.iload 4, 2) := by decide +kernel
theorem dX7_tellTo_9 : decode cX7_tellTo 9 = .ok (.aload_n 0, 1) := by decide +kernel
theorem dX7_tellTo_10 : decode cX7_tellTo 10 = .ok (.getfield 15, 3) := by decide +kernel
theorem dX7_tellTo_13 : decode cX7_tellTo 13 = .ok (.if_icmp .ge 43, 3) := by decide +kernel
theorem dX7_tellTo_16 : decode cX7_tellTo 16 = .ok (.aload_n 0, 1) := by decide +kernel
theorem dX7_tellTo_17 : decode cX7_tellTo 17 = .ok (.iload 4, 2) := by decide +kernel
theorem dX7_tellTo_19 : decode cX7_tellTo 19 = .ok (.invokevirtual 34, 3) := by decide +kernel
theorem dX7_tellTo_22 : decode cX7_tellTo 22 = .ok (.bipush 59, 2) := by decide +kernel
theorem dX7_tellTo_24 : decode cX7_tellTo 24 = .ok (.if_icmp .ne 26, 3) := by decide +kernel
theorem dX7_tellTo_27 : decode cX7_tellTo 27 = .ok (.aload_n 0, 1) := by decide +kernel
theorem dX7_tellTo_28 : decode cX7_tellTo 28 = .ok (.iload_n 3, 1) := by decide +kernel
theorem dX7_tellTo_29 : decode cX7_tellTo 29 = .ok (.aload_n 1, 1) := by decide +kernel
theorem dX7_tellTo_30 : decode cX7_tellTo 30 = .ok (.invokevirtual 48, 3) := by decide +kernel
theorem dX7_tellTo_33 : decode cX7_tellTo 33 = .ok (.ifCond .ne 9, 3) := by decide +kernel
theorem dX7_tellTo_36 : decode cX7_tellTo 36 = .ok (.sipush (-2000), 3) := by decide +kernel
theorem dX7_tellTo_39 : decode cX7_tellTo 39 = .ok (.iload_n 3, 1) := by decide +kernel
theorem dX7_tellTo_40 : decode cX7_tellTo 40 = .ok (.isub, 1) := by decide +kernel
theorem dX7_tellTo_41 : decode cX7_tellTo 41 = .ok (.ireturn, 1) := by decide +kernel
theorem dX7_tellTo_42 : decode cX7_tellTo 42 = .ok (.iinc 2 1, 3) := by decide +kernel
theorem dX7_tellTo_45 : decode cX7_tellTo 45 = .ok (.iload 4, 2) := by decide +kernel
theorem dX7_tellTo_47 : decode cX7_tellTo 47 = .ok (.iconst 1, 1) := by decide +kernel
theorem dX7_tellTo_48 : decode cX7_tellTo 48 = .ok (.iadd, 1) := by decide +kernel
theorem dX7_tellTo_49 : decode cX7_tellTo 49 = .ok (.istore_n 3, 1) := by decide +kernel
theorem dX7_tellTo_50 : decode cX7_tellTo 50 = .ok (.iinc 4 1, 3) := by decide +kernel
theorem dX7_tellTo_53 : decode cX7_tellTo 53 = .ok (.goto (-46), 3) := by decide +kernel
theorem dX7_tellTo_56 : decode cX7_tellTo 56 = .ok (.iload_n 2, 1) := by decide +kernel
theorem dX7_tellTo_57 : decode cX7_tellTo 57 = .ok (.ireturn, 1) := by decide +kernel
set_option maxRecDepth 20000 in
theorem ggX7_tellStatement_X7_digitAt : GoodIn wsX7_tellStatement wsX7_digitAt := goodIn_r _ [5, 6, 7, 8, 4, 9, 10, 11, 239, 240] (by decide +kernel) (by decide +kernel)
set_option maxRecDepth 20000 in
theorem gX7_tellStatement_X7_digitAt : GoodIn wsX7_tellStatement (wsV RX7 52 RX7 yX7_digitAt wsX7_digitAt) := goodIn_app (goodIn_of _ (by decide +kernel)) ggX7_tellStatement_X7_digitAt
set_option maxRecDepth 20000 in
theorem ggX7_tellStatement_X7_letterAt : GoodIn wsX7_tellStatement wsX7_letterAt := goodIn_r _ [9, 10, 11, 239, 240] (by decide +kernel) (by decide +kernel)
set_option maxRecDepth 20000 in
theorem gX7_tellStatement_X7_letterAt : GoodIn wsX7_tellStatement (wsV RX7 34 RX7 yX7_letterAt wsX7_letterAt) := goodIn_app (goodIn_of _ (by decide +kernel)) ggX7_tellStatement_X7_letterAt
set_option maxRecDepth 20000 in
theorem ggX7_tellStatement_X7_kindAt : GoodIn wsX7_tellStatement wsX7_kindAt := goodIn_r _ [15, 6, 7, 8, 4, 9, 10, 11, 16, 17, 18, 19, 20, 21, 22, 23, 24, 25, 26, 27, 28, 29, 30, 31, 32, 33, 34, 35, 36, 37, 38, 39, 40, 41, 42, 43, 44, 45, 46, 47, 48, 49, 50, 51, 52, 53, 54, 55, 56, 57, 58, 59, 60, 61, 62, 63, 64, 65, 66, 67, 68, 69, 70, 71, 72, 73, 74, 75, 76, 77, 78, 79, 80, 81, 82, 83, 84, 85, 86, 87, 88, 89, 90, 91, 92, 93, 94, 95, 96, 97, 98, 99, 100, 101, 102, 103, 104, 239, 240] (by decide +kernel) (by decide +kernel)
set_option maxRecDepth 20000 in
theorem gX7_tellStatement_X7_kindAt : GoodIn wsX7_tellStatement (wsV RX7 56 RX7 yX7_kindAt wsX7_kindAt) := goodIn_app (goodIn_of _ (by decide +kernel)) ggX7_tellStatement_X7_kindAt
set_option maxRecDepth 20000 in
theorem ggX7_tellStatement_X10_newPlayer : GoodIn wsX7_tellStatement wsX10_newPlayer := goodIn_r _ [107, 108, 109, 110, 111, 112, 113, 114, 115, 116, 117, 118, 119, 120, 121, 122, 123, 124, 125, 126, 127, 128, 129, 130, 131, 132, 133, 134, 135, 136, 137, 138, 139, 140, 141, 142, 143, 144, 145, 146, 147, 148, 149, 150, 151, 152, 153, 154, 155, 241, 242, 243, 244, 245, 246, 247, 248, 249, 250, 251, 252, 253, 254, 255, 256, 257, 258, 259, 260, 261, 262, 263, 264] (by decide +kernel) (by decide +kernel)
set_option maxRecDepth 20000 in
theorem gX7_tellStatement_X10_newPlayer_n59 : GoodIn wsX7_tellStatement (wsX10_newPlayer) := ggX7_tellStatement_X10_newPlayer
set_option maxRecDepth 20000 in
theorem ggX7_tellStatement_X1_add : GoodIn wsX7_tellStatement wsX1_add := goodIn_r _ [160, 161, 162, 163, 106, 164, 165, 166, 167, 159, 168, 169, 170, 171, 172, 173, 174, 175, 176, 245, 246, 247, 248, 257, 258, 259, 260, 261, 262, 263, 264, 241, 242, 243, 244, 249, 250, 251, 252, 253, 254, 255, 256, 265, 266, 267, 268, 269, 270, 271, 272, 273, 274, 275] (by decide +kernel) (by decide +kernel)
set_option maxRecDepth 20000 in
theorem gX7_tellStatement_X1_add : GoodIn wsX7_tellStatement (wsV RX7 63 RX1 yX1_add wsX1_add) := goodIn_app (goodIn_of _ (by decide +kernel)) ggX7_tellStatement_X1_add
set_option maxRecDepth 20000 in
theorem ggX7_tellStatement_X1_give : GoodIn wsX7_tellStatement wsX1_give := goodIn_r _ [180, 181, 182, 106, 183, 184, 185, 186, 159, 187, 188, 189, 190, 191, 161, 162, 192, 193, 194, 195, 169, 170, 196, 197, 198, 199, 200, 201, 202, 203, 204, 205, 206, 207, 208, 209, 210, 211, 212, 213, 214, 215, 216, 265, 266, 267, 268, 269, 270, 271, 272, 273, 274, 275] (by decide +kernel) (by decide +kernel)
set_option maxRecDepth 20000 in
theorem gX7_tellStatement_X1_give : GoodIn wsX7_tellStatement (wsV RX7 69 RX1 yX1_give wsX1_give) := goodIn_app (goodIn_of _ (by decide +kernel)) ggX7_tellStatement_X1_give
set_option maxRecDepth 20000 in
theorem ggX7_tellStatement_X1_lay : GoodIn wsX7_tellStatement wsX1_lay := goodIn_r _ [220, 182, 106, 183, 163, 164, 221, 222, 223, 159, 224, 181, 215, 216, 265, 266, 267, 268, 269, 270, 271, 272] (by decide +kernel) (by decide +kernel)
set_option maxRecDepth 20000 in
theorem gX7_tellStatement_X1_lay : GoodIn wsX7_tellStatement (wsV RX7 73 RX1 yX1_lay wsX1_lay) := goodIn_app (goodIn_of _ (by decide +kernel)) ggX7_tellStatement_X1_lay
set_option maxRecDepth 20000 in
theorem ggX7_tellStatement_X1_goOut : GoodIn wsX7_tellStatement wsX1_goOut := goodIn_r _ [228, 181, 184, 185, 186, 159, 187, 188, 189, 190, 191, 161, 162, 192, 193, 194, 195, 169, 170, 229, 230, 231, 232, 221, 222, 223, 224, 215, 216, 182, 106, 183, 165, 166, 167, 168, 233, 234, 235, 174, 236, 176, 237, 238, 265, 266, 267, 268, 269, 270, 271, 272, 273, 274, 275, 245, 246, 247, 248, 257, 258, 259, 260, 261, 262, 263, 264, 241, 242, 243, 244, 249, 250, 251, 252, 253, 254, 255, 256] (by decide +kernel) (by decide +kernel)
set_option maxRecDepth 20000 in
theorem gX7_tellStatement_X1_goOut : GoodIn wsX7_tellStatement (wsV RX7 76 RX1 yX1_goOut wsX1_goOut) := goodIn_app (goodIn_of _ (by decide +kernel)) ggX7_tellStatement_X1_goOut
theorem dX7_tellStatement_0 : decode cX7_tellStatement 0 = .ok (.aload_n 0, 1) := by decide +kernel
theorem dX7_tellStatement_1 : decode cX7_tellStatement 1 = .ok (.iload_n 1, 1) := by decide +kernel
theorem dX7_tellStatement_2 : decode cX7_tellStatement 2 = .ok (.iconst 1, 1) := by decide +kernel
theorem dX7_tellStatement_3 : decode cX7_tellStatement 3 = .ok (.iadd, 1) := by decide +kernel
theorem dX7_tellStatement_4 : decode cX7_tellStatement 4 = .ok (.invokevirtual 52, 3) := by decide +kernel
theorem dX7_tellStatement_7 : decode cX7_tellStatement 7 = .ok (.istore_n 3, 1) := by decide +kernel
theorem dX7_tellStatement_8 : decode cX7_tellStatement 8 = .ok (.aload_n 0, 1) := by decide +kernel
theorem dX7_tellStatement_9 : decode cX7_tellStatement 9 = .ok (.iload_n 1, 1) := by decide +kernel
theorem dX7_tellStatement_10 : decode cX7_tellStatement 10 = .ok (.invokevirtual 34, 3) := by decide +kernel
theorem dX7_tellStatement_13 : decode cX7_tellStatement 13 = .ok (.lookupswitch 105 #[(98, 73), (103, 86), (111, 99), (112, 43)], 43) := by decide +kernel
theorem dX7_tellStatement_56 : decode cX7_tellStatement 56 = .ok (.aload_n 2, 1) := by decide +kernel
theorem dX7_tellStatement_57 : decode cX7_tellStatement 57 = .ok (.aload_n 0, 1) := by decide +kernel
theorem dX7_tellStatement_58 : decode cX7_tellStatement 58 = .ok (.iload_n 1, 1) := by decide +kernel
theorem dX7_tellStatement_59 : decode cX7_tellStatement 59 = .ok (.iconst 2, 1) := by decide +kernel
theorem dX7_tellStatement_60 : decode cX7_tellStatement 60 = .ok (.iadd, 1) := by decide +kernel
theorem dX7_tellStatement_61 : decode cX7_tellStatement 61 = .ok (.invokevirtual 56, 3) := by decide +kernel
theorem dX7_tellStatement_64 : decode cX7_tellStatement 64 = .ok (.iload_n 3, 1) := by decide +kernel
theorem dX7_tellStatement_65 : decode cX7_tellStatement 65 = .ok (.aload_n 0, 1) := by decide +kernel
theorem dX7_tellStatement_66 : decode cX7_tellStatement 66 = .ok (.iload_n 1, 1) := by decide +kernel
theorem dX7_tellStatement_67 : decode cX7_tellStatement 67 = .ok (.iconst 3, 1) := by decide +kernel
theorem dX7_tellStatement_68 : decode cX7_tellStatement 68 = .ok (.iadd, 1) := by decide +kernel
theorem dX7_tellStatement_69 : decode cX7_tellStatement 69 = .ok (.invokevirtual 52, 3) := by decide +kernel
theorem dX7_tellStatement_72 : decode cX7_tellStatement 72 = .ok (.aload_n 0, 1) := by decide +kernel
theorem dX7_tellStatement_73 : decode cX7_tellStatement 73 = .ok (.iload_n 1, 1) := by decide +kernel
theorem dX7_tellStatement_74 : decode cX7_tellStatement 74 = .ok (.iconst 4, 1) := by decide +kernel
theorem dX7_tellStatement_75 : decode cX7_tellStatement 75 = .ok (.iadd, 1) := by decide +kernel
theorem dX7_tellStatement_76 : decode cX7_tellStatement 76 = .ok (.invokevirtual 52, 3) := by decide +kernel
theorem dX7_tellStatement_79 : decode cX7_tellStatement 79 = .ok (.invokestatic 59, 3) := by decide +kernel
theorem dX7_tellStatement_82 : decode cX7_tellStatement 82 = .ok (.invokevirtual 63, 3) := by decide +kernel
theorem dX7_tellStatement_85 : decode cX7_tellStatement 85 = .ok (.ireturn, 1) := by decide +kernel
theorem dX7_tellStatement_86 : decode cX7_tellStatement 86 = .ok (.aload_n 2, 1) := by decide +kernel
theorem dX7_tellStatement_87 : decode cX7_tellStatement 87 = .ok (.iload_n 3, 1) := by decide +kernel
theorem dX7_tellStatement_88 : decode cX7_tellStatement 88 = .ok (.aload_n 0, 1) := by decide +kernel
theorem dX7_tellStatement_89 : decode cX7_tellStatement 89 = .ok (.iload_n 1, 1) := by decide +kernel
theorem dX7_tellStatement_90 : decode cX7_tellStatement 90 = .ok (.iconst 2, 1) := by decide +kernel
theorem dX7_tellStatement_91 : decode cX7_tellStatement 91 = .ok (.iadd, 1) := by decide +kernel
theorem dX7_tellStatement_92 : decode cX7_tellStatement 92 = .ok (.invokevirtual 52, 3) := by decide +kernel
theorem dX7_tellStatement_95 : decode cX7_tellStatement 95 = .ok (.invokevirtual 69, 3) := by decide +kernel
theorem dX7_tellStatement_98 : decode cX7_tellStatement 98 = .ok (.ireturn, 1) := by decide +kernel
theorem dX7_tellStatement_99 : decode cX7_tellStatement 99 = .ok (.aload_n 2, 1) := by decide +kernel
theorem dX7_tellStatement_100 : decode cX7_tellStatement 100 = .ok (.iload_n 3, 1) := by decide +kernel
theorem dX7_tellStatement_101 : decode cX7_tellStatement 101 = .ok (.aload_n 0, 1) := by decide +kernel
theorem dX7_tellStatement_102 : decode cX7_tellStatement 102 = .ok (.iload_n 1, 1) := by decide +kernel
theorem dX7_tellStatement_103 : decode cX7_tellStatement 103 = .ok (.iconst 2, 1) := by decide +kernel
theorem dX7_tellStatement_104 : decode cX7_tellStatement 104 = .ok (.iadd, 1) := by decide +kernel
theorem dX7_tellStatement_105 : decode cX7_tellStatement 105 = .ok (.invokevirtual 52, 3) := by decide +kernel
theorem dX7_tellStatement_108 : decode cX7_tellStatement 108 = .ok (.invokevirtual 73, 3) := by decide +kernel
theorem dX7_tellStatement_111 : decode cX7_tellStatement 111 = .ok (.ireturn, 1) := by decide +kernel
theorem dX7_tellStatement_112 : decode cX7_tellStatement 112 = .ok (.aload_n 2, 1) := by decide +kernel
theorem dX7_tellStatement_113 : decode cX7_tellStatement 113 = .ok (.iload_n 3, 1) := by decide +kernel
theorem dX7_tellStatement_114 : decode cX7_tellStatement 114 = .ok (.invokevirtual 76, 3) := by decide +kernel
theorem dX7_tellStatement_117 : decode cX7_tellStatement 117 = .ok (.ireturn, 1) := by decide +kernel
theorem dX7_tellStatement_118 : decode cX7_tellStatement 118 = .ok (.iconst 0, 1) := by decide +kernel
theorem dX7_tellStatement_119 : decode cX7_tellStatement 119 = .ok (.ireturn, 1) := by decide +kernel
theorem dX7_letterAt_0 : decode cX7_letterAt 0 = .ok (.iload_n 1, 1) := by decide +kernel
theorem dX7_letterAt_1 : decode cX7_letterAt 1 = .ok (.ifCond .lt 20, 3) := by decide +kernel
theorem dX7_letterAt_4 : decode cX7_letterAt 4 = .ok (.iload_n 1, 1) := by decide +kernel
theorem dX7_letterAt_5 : decode cX7_letterAt 5 = .ok (.aload_n 0, 1) := by decide +kernel
theorem dX7_letterAt_6 : decode cX7_letterAt 6 = .ok (.getfield 15, 3) := by decide +kernel
theorem dX7_letterAt_9 : decode cX7_letterAt 9 = .ok (.if_icmp .ge 12, 3) := by decide +kernel
theorem dX7_letterAt_12 : decode cX7_letterAt 12 = .ok (.aload_n 0, 1) := by decide +kernel
theorem dX7_letterAt_13 : decode cX7_letterAt 13 = .ok (.getfield 9, 3) := by decide +kernel
theorem dX7_letterAt_16 : decode cX7_letterAt 16 = .ok (.iload_n 1, 1) := by decide +kernel
theorem dX7_letterAt_17 : decode cX7_letterAt 17 = .ok (.caload, 1) := by decide +kernel
theorem dX7_letterAt_18 : decode cX7_letterAt 18 = .ok (.goto 5, 3) := by decide +kernel
theorem dX7_letterAt_21 : decode cX7_letterAt 21 = .ok (.bipush 32, 2) := by decide +kernel
theorem dX7_letterAt_23 : decode cX7_letterAt 23 = .ok (.ireturn, 1) := by decide +kernel
set_option maxRecDepth 20000 in
theorem ggX7_digitAt_X7_letterAt : GoodIn wsX7_digitAt wsX7_letterAt := goodIn_r _ [5, 6, 7, 8, 9] (by decide +kernel) (by decide +kernel)
set_option maxRecDepth 20000 in
theorem gX7_digitAt_X7_letterAt : GoodIn wsX7_digitAt (wsV RX7 34 RX7 yX7_letterAt wsX7_letterAt) := goodIn_app (goodIn_of _ (by decide +kernel)) ggX7_digitAt_X7_letterAt
theorem dX7_digitAt_0 : decode cX7_digitAt 0 = .ok (.aload_n 0, 1) := by decide +kernel
theorem dX7_digitAt_1 : decode cX7_digitAt 1 = .ok (.iload_n 1, 1) := by decide +kernel
theorem dX7_digitAt_2 : decode cX7_digitAt 2 = .ok (.invokevirtual 34, 3) := by decide +kernel
theorem dX7_digitAt_5 : decode cX7_digitAt 5 = .ok (.bipush 48, 2) := by decide +kernel
theorem dX7_digitAt_7 : decode cX7_digitAt 7 = .ok (.isub, 1) := by decide +kernel
theorem dX7_digitAt_8 : decode cX7_digitAt 8 = .ok (.ireturn, 1) := by decide +kernel
set_option maxRecDepth 20000 in
theorem ggX7_kindAt_X7_letterAt : GoodIn wsX7_kindAt wsX7_letterAt := goodIn_r _ [5, 6, 7, 97, 98] (by decide +kernel) (by decide +kernel)
set_option maxRecDepth 20000 in
theorem gX7_kindAt_X7_letterAt : GoodIn wsX7_kindAt (wsV RX7 34 RX7 yX7_letterAt wsX7_letterAt) := goodIn_app (goodIn_of _ (by decide +kernel)) ggX7_kindAt_X7_letterAt
set_option maxRecDepth 20000 in
theorem ggX7_kindAt_J0_indexOf_0f7a4 : GoodIn wsX7_kindAt wsJ0_indexOf_0f7a4 := goodIn_r _ [12, 13, 14, 15, 11, 16, 17, 18, 19, 20, 21, 22, 23, 24, 25, 26, 27, 28, 29, 30, 31, 32, 33, 34, 35, 36, 37, 38, 39, 40, 41, 42, 43, 44, 45, 46, 47, 48, 49, 50, 51, 52, 53, 54, 55, 56, 57, 58, 59, 60, 61, 62, 63, 64, 65, 66, 67, 68, 69, 70, 71, 72, 73, 74, 75, 76, 77, 78, 79, 80, 81, 82, 83, 84, 85, 86, 87, 88, 89, 90, 91, 92, 93, 94, 95, 96] (by decide +kernel) (by decide +kernel)
set_option maxRecDepth 20000 in
theorem gX7_kindAt_J0_indexOf_0f7a4 : GoodIn wsX7_kindAt (wsV RX7 82 RJ0 yJ0_indexOf_0f7a4 wsJ0_indexOf_0f7a4) := goodIn_app (goodIn_of _ (by decide +kernel)) ggX7_kindAt_J0_indexOf_0f7a4
theorem dX7_kindAt_0 : decode cX7_kindAt 0 = .ok (.ldc 80, 2) := by decide +kernel
theorem dX7_kindAt_2 : decode cX7_kindAt 2 = .ok (.aload_n 0, 1) := by decide +kernel
theorem dX7_kindAt_3 : decode cX7_kindAt 3 = .ok (.iload_n 1, 1) := by decide +kernel
theorem dX7_kindAt_4 : decode cX7_kindAt 4 = .ok (.invokevirtual 34, 3) := by decide +kernel
theorem dX7_kindAt_7 : decode cX7_kindAt 7 = .ok (.invokevirtual 82, 3) := by decide +kernel
theorem dX7_kindAt_10 : decode cX7_kindAt 10 = .ok (.ireturn, 1) := by decide +kernel
theorem dX7_shapeBehind_0 : decode cX7_shapeBehind 0 = .ok (.iload_n 0, 1) := by decide +kernel
theorem dX7_shapeBehind_1 : decode cX7_shapeBehind 1 = .ok (.lookupswitch 55 #[(98, 46), (103, 49), (111, 52), (112, 43)], 43) := by decide +kernel
theorem dX7_shapeBehind_44 : decode cX7_shapeBehind 44 = .ok (.ldc 85, 2) := by decide +kernel
theorem dX7_shapeBehind_46 : decode cX7_shapeBehind 46 = .ok (.areturn, 1) := by decide +kernel
theorem dX7_shapeBehind_47 : decode cX7_shapeBehind 47 = .ok (.ldc 87, 2) := by decide +kernel
theorem dX7_shapeBehind_49 : decode cX7_shapeBehind 49 = .ok (.areturn, 1) := by decide +kernel
theorem dX7_shapeBehind_50 : decode cX7_shapeBehind 50 = .ok (.ldc 87, 2) := by decide +kernel
theorem dX7_shapeBehind_52 : decode cX7_shapeBehind 52 = .ok (.areturn, 1) := by decide +kernel
theorem dX7_shapeBehind_53 : decode cX7_shapeBehind 53 = .ok (.ldc 89, 2) := by decide +kernel
theorem dX7_shapeBehind_55 : decode cX7_shapeBehind 55 = .ok (.areturn, 1) := by decide +kernel
theorem dX7_shapeBehind_56 : decode cX7_shapeBehind 56 = .ok (.ldc 23, 2) := by decide +kernel
theorem dX7_shapeBehind_58 : decode cX7_shapeBehind 58 = .ok (.areturn, 1) := by decide +kernel
set_option maxRecDepth 20000 in
theorem ggX7_fits_J0_indexOf_0f7a4 : GoodIn wsX7_fits wsJ0_indexOf_0f7a4 := goodIn_r _ [5, 6, 7, 8, 4, 9, 10, 11, 12, 13, 14, 15, 16, 17, 18, 19, 20, 21, 22, 23, 24, 25, 26, 27, 28, 29, 30, 31, 32, 33, 34, 35, 36, 37, 38, 39, 40, 41, 42, 43, 44, 45, 46, 47, 48, 49, 50, 51, 52, 53, 54, 55, 56, 57, 58, 59, 60, 61, 62, 63, 64, 65, 66, 67, 68, 69, 70, 71, 72, 73, 74, 75, 76, 77, 78, 79, 80, 81, 82, 83, 84, 85, 86, 87, 88, 89] (by decide +kernel) (by decide +kernel)
set_option maxRecDepth 20000 in
theorem gX7_fits_J0_indexOf_0f7a4 : GoodIn wsX7_fits (wsV RX7 82 RJ0 yJ0_indexOf_0f7a4 wsJ0_indexOf_0f7a4) := goodIn_app (goodIn_of _ (by decide +kernel)) ggX7_fits_J0_indexOf_0f7a4
theorem dX7_fits_0 : decode cX7_fits 0 = .ok (.iload_n 0, 1) := by decide +kernel
theorem dX7_fits_1 : decode cX7_fits 1 = .ok (.lookupswitch 60 #[(100, 27), (107, 45)], 27) := by decide +kernel
theorem dX7_fits_28 : decode cX7_fits 28 = .ok (.iload_n 1, 1) := by decide +kernel
theorem dX7_fits_29 : decode cX7_fits 29 = .ok (.bipush 48, 2) := by decide +kernel
theorem dX7_fits_31 : decode cX7_fits 31 = .ok (.if_icmp .lt 13, 3) := by decide +kernel
theorem dX7_fits_34 : decode cX7_fits 34 = .ok (.iload_n 1, 1) := by decide +kernel
theorem dX7_fits_35 : decode cX7_fits 35 = .ok (.bipush 57, 2) := by decide +kernel
theorem dX7_fits_37 : decode cX7_fits 37 = .ok (.if_icmp .gt 7, 3) := by decide +kernel
theorem dX7_fits_40 : decode cX7_fits 40 = .ok (.iconst 1, 1) := by decide +kernel
theorem dX7_fits_41 : decode cX7_fits 41 = .ok (.goto 4, 3) := by decide +kernel
theorem dX7_fits_44 : decode cX7_fits 44 = .ok (.iconst 0, 1) := by decide +kernel
theorem dX7_fits_45 : decode cX7_fits 45 = .ok (.ireturn, 1) := by decide +kernel
theorem dX7_fits_46 : decode cX7_fits 46 = .ok (.ldc 80, 2) := by decide +kernel
theorem dX7_fits_48 : decode cX7_fits 48 = .ok (.iload_n 1, 1) := by decide +kernel
theorem dX7_fits_49 : decode cX7_fits 49 = .ok (.invokevirtual 82, 3) := by decide +kernel
theorem dX7_fits_52 : decode cX7_fits 52 = .ok (.ifCond .lt 7, 3) := by decide +kernel
theorem dX7_fits_55 : decode cX7_fits 55 = .ok (.iconst 1, 1) := by decide +kernel
theorem dX7_fits_56 : decode cX7_fits 56 = .ok (.goto 4, 3) := by decide +kernel
theorem dX7_fits_59 : decode cX7_fits 59 = .ok (.iconst 0, 1) := by decide +kernel
theorem dX7_fits_60 : decode cX7_fits 60 = .ok (.ireturn, 1) := by decide +kernel
theorem dX7_fits_61 : decode cX7_fits 61 = .ok (.iload_n 1, 1) := by decide +kernel
theorem dX7_fits_62 : decode cX7_fits 62 = .ok (.iload_n 0, 1) := by decide +kernel
theorem dX7_fits_63 : decode cX7_fits 63 = .ok (.if_icmp .ne 7, 3) := by decide +kernel
theorem dX7_fits_66 : decode cX7_fits 66 = .ok (.iconst 1, 1) := by decide +kernel
theorem dX7_fits_67 : decode cX7_fits 67 = .ok (.goto 4, 3) := by decide +kernel
theorem dX7_fits_70 : decode cX7_fits 70 = .ok (.iconst 0, 1) := by decide +kernel
theorem dX7_fits_71 : decode cX7_fits 71 = .ok (.ireturn, 1) := by decide +kernel
set_option maxRecDepth 20000 in
theorem ggX8_init_X4_init : GoodIn wsX8_init wsX4_init := goodIn_r _ [4, 5, 6, 7, 8, 9, 10, 11, 12, 13, 14, 15, 16, 17, 18, 19, 20, 21, 22, 23, 24, 25, 26, 27, 28, 29, 30, 31, 32, 33, 34, 35] (by decide +kernel) (by decide +kernel)
set_option maxRecDepth 20000 in
theorem gX8_init_X4_init : GoodIn wsX8_init (wsX4_init) := ggX8_init_X4_init
theorem dX8_init_0 : decode cX8_init 0 = .ok (.aload_n 0, 1) := by decide +kernel
theorem dX8_init_1 : decode cX8_init 1 = .ok (.iload_n 1, 1) := by decide +kernel
theorem dX8_init_2 : decode cX8_init 2 = .ok (.iload_n 2, 1) := by decide +kernel
theorem dX8_init_3 : decode cX8_init 3 = .ok (.iload_n 3, 1) := by decide +kernel
theorem dX8_init_4 : decode cX8_init 4 = .ok (.iload 4, 2) := by decide +kernel
theorem dX8_init_6 : decode cX8_init 6 = .ok (.invokespecial 1, 3) := by decide +kernel
theorem dX8_init_9 : decode cX8_init 9 = .ok (.return_, 1) := by decide +kernel
set_option maxRecDepth 20000 in
theorem ggX8_aim_X4_aim : GoodIn wsX8_aim wsX4_aim := goodIn_r _ [10, 11, 12, 13, 14, 15, 16, 17, 18, 19, 20, 21, 22, 23, 24, 25, 26, 27, 28, 29, 30, 31, 32, 33, 34, 35] (by decide +kernel) (by decide +kernel)
set_option maxRecDepth 20000 in
theorem gX8_aim_X4_aim_s7 : GoodIn wsX8_aim (va_wsSU RX8 7 yX4_aim wsX4_aim) := goodIn_app (goodIn_of _ (by decide +kernel)) ggX8_aim_X4_aim
theorem dX8_aim_0 : decode cX8_aim 0 = .ok (.iconst 0, 1) := by decide +kernel
theorem dX8_aim_1 : decode cX8_aim 1 = .ok (.aload_n 0, 1) := by decide +kernel
theorem dX8_aim_2 : decode cX8_aim 2 = .ok (.iload_n 1, 1) := by decide +kernel
theorem dX8_aim_3 : decode cX8_aim 3 = .ok (.invokespecial 7, 3) := by decide +kernel
theorem dX8_aim_6 : decode cX8_aim 6 = .ok (.iload_n 1, 1) := by decide +kernel
theorem dX8_aim_7 : decode cX8_aim 7 = .ok (.bipush 10, 2) := by decide +kernel
theorem dX8_aim_9 : decode cX8_aim 9 = .ok (.idiv, 1) := by decide +kernel
theorem dX8_aim_10 : decode cX8_aim 10 = .ok (.isub, 1) := by decide +kernel
theorem dX8_aim_11 : decode cX8_aim 11 = .ok (.invokestatic 11, 3) := by decide +kernel
theorem dX8_aim_14 : decode cX8_aim 14 = .ok (.ireturn, 1) := by decide +kernel
set_option maxRecDepth 20000 in
theorem ggX9_init_X5_init : GoodIn wsX9_init wsX5_init := goodIn_r _ [4, 5, 6, 7, 8, 9, 10, 11, 12, 13, 14, 15, 16, 17, 18, 19, 20, 21, 22, 23, 24, 25, 26, 27, 28, 29, 30, 31, 32, 33, 34, 35, 36, 37, 38, 39] (by decide +kernel) (by decide +kernel)
set_option maxRecDepth 20000 in
theorem gX9_init_X5_init : GoodIn wsX9_init (wsX5_init) := ggX9_init_X5_init
theorem dX9_init_0 : decode cX9_init 0 = .ok (.aload_n 0, 1) := by decide +kernel
theorem dX9_init_1 : decode cX9_init 1 = .ok (.iload_n 1, 1) := by decide +kernel
theorem dX9_init_2 : decode cX9_init 2 = .ok (.iload_n 2, 1) := by decide +kernel
theorem dX9_init_3 : decode cX9_init 3 = .ok (.iload_n 3, 1) := by decide +kernel
theorem dX9_init_4 : decode cX9_init 4 = .ok (.iload 4, 2) := by decide +kernel
theorem dX9_init_6 : decode cX9_init 6 = .ok (.invokespecial 1, 3) := by decide +kernel
theorem dX9_init_9 : decode cX9_init 9 = .ok (.return_, 1) := by decide +kernel
set_option maxRecDepth 20000 in
theorem ggX9_dodge_X5_dodge : GoodIn wsX9_dodge wsX5_dodge := goodIn_r _ [6, 7, 8, 9, 10, 11, 12, 13, 14, 15, 16, 17, 18, 19, 20, 21, 22, 23, 24, 25, 26, 27, 28, 29, 30, 31, 32, 33, 34, 35, 36, 37] (by decide +kernel) (by decide +kernel)
set_option maxRecDepth 20000 in
theorem gX9_dodge_X5_dodge_s7 : GoodIn wsX9_dodge (va_wsSU RX9 7 yX5_dodge wsX5_dodge) := goodIn_app (goodIn_of _ (by decide +kernel)) ggX9_dodge_X5_dodge
theorem dX9_dodge_0 : decode cX9_dodge 0 = .ok (.aload_n 0, 1) := by decide +kernel
theorem dX9_dodge_1 : decode cX9_dodge 1 = .ok (.iload_n 1, 1) := by decide +kernel
theorem dX9_dodge_2 : decode cX9_dodge 2 = .ok (.invokespecial 7, 3) := by decide +kernel
theorem dX9_dodge_5 : decode cX9_dodge 5 = .ok (.iload_n 1, 1) := by decide +kernel
theorem dX9_dodge_6 : decode cX9_dodge 6 = .ok (.ifCond .eq 7, 3) := by decide +kernel
theorem dX9_dodge_9 : decode cX9_dodge 9 = .ok (.iconst 2, 1) := by decide +kernel
theorem dX9_dodge_10 : decode cX9_dodge 10 = .ok (.goto 4, 3) := by decide +kernel
theorem dX9_dodge_13 : decode cX9_dodge 13 = .ok (.iconst 0, 1) := by decide +kernel
theorem dX9_dodge_14 : decode cX9_dodge 14 = .ok (.iadd, 1) := by decide +kernel
theorem dX9_dodge_15 : decode cX9_dodge 15 = .ok (.ireturn, 1) := by decide +kernel
set_option maxRecDepth 20000 in
theorem ggX10_init_X7_init : GoodIn wsX10_init wsX7_init := goodIn_r _ [22, 23, 2, 3, 24, 25, 67, 68] (by decide +kernel) (by decide +kernel)
set_option maxRecDepth 20000 in
theorem gX10_init_X7_init_n9 : GoodIn wsX10_init (wsX7_init) := ggX10_init_X7_init
set_option maxRecDepth 20000 in
theorem ggX10_init_X1_init : GoodIn wsX10_init wsX1_init := goodIn_r _ [28, 29, 2, 3, 30, 31, 32, 33, 34, 35, 36, 18, 37, 38, 39, 40, 41, 42, 43, 44, 45, 46, 47, 48, 49, 50, 51, 52, 53, 54, 55, 56, 10, 57, 58, 59, 60, 79, 80, 81, 82, 83, 84, 85, 86, 93, 94, 95, 96, 97, 98, 99, 100, 101, 102, 103, 104, 105, 106, 107, 108, 109, 110, 111, 112, 113, 114, 115, 116, 117, 118, 119] (by decide +kernel) (by decide +kernel)
set_option maxRecDepth 20000 in
theorem gX10_init_X1_init : GoodIn wsX10_init (wsX1_init) := ggX10_init_X1_init
set_option maxRecDepth 20000 in
theorem ggX10_init_X2_init : GoodIn wsX10_init wsX2_init := goodIn_r _ [62, 63, 2, 3, 64, 65, 66, 87, 88, 89, 90, 91, 92] (by decide +kernel) (by decide +kernel)
set_option maxRecDepth 20000 in
theorem gX10_init_X2_init_n31 : GoodIn wsX10_init (wsX2_init) := ggX10_init_X2_init
theorem dX10_init_0 : decode cX10_init 0 = .ok (.aload_n 0, 1) := by decide +kernel
theorem dX10_init_1 : decode cX10_init 1 = .ok (.invokespecial 1, 3) := by decide +kernel
theorem dX10_init_4 : decode cX10_init 4 = .ok (.aload_n 0, 1) := by decide +kernel
theorem dX10_init_5 : decode cX10_init 5 = .ok (.new 7, 3) := by decide +kernel
theorem dX10_init_8 : decode cX10_init 8 = .ok (.dup, 1) := by decide +kernel
theorem dX10_init_9 : decode cX10_init 9 = .ok (.invokespecial 9, 3) := by decide +kernel
theorem dX10_init_12 : decode cX10_init 12 = .ok (.putfield 10, 3) := by decide +kernel
theorem dX10_init_15 : decode cX10_init 15 = .ok (.aload_n 0, 1) := by decide +kernel
theorem dX10_init_16 : decode cX10_init 16 = .ok (.new 16, 3) := by decide +kernel
theorem dX10_init_19 : decode cX10_init 19 = .ok (.dup, 1) := by decide +kernel
theorem dX10_init_20 : decode cX10_init 20 = .ok (.invokespecial 18, 3) := by decide +kernel
theorem dX10_init_23 : decode cX10_init 23 = .ok (.putfield 19, 3) := by decide +kernel
theorem dX10_init_26 : decode cX10_init 26 = .ok (.aload_n 0, 1) := by decide +kernel
theorem dX10_init_27 : decode cX10_init 27 = .ok (.new 16, 3) := by decide +kernel
theorem dX10_init_30 : decode cX10_init 30 = .ok (.dup, 1) := by decide +kernel
theorem dX10_init_31 : decode cX10_init 31 = .ok (.invokespecial 18, 3) := by decide +kernel
theorem dX10_init_34 : decode cX10_init 34 = .ok (.putfield 23, 3) := by decide +kernel
theorem dX10_init_37 : decode cX10_init 37 = .ok (.aload_n 0, 1) := by decide +kernel
theorem dX10_init_38 : decode cX10_init 38 = .ok (.new 16, 3) := by decide +kernel
theorem dX10_init_41 : decode cX10_init 41 = .ok (.dup, 1) := by decide +kernel
theorem dX10_init_42 : decode cX10_init 42 = .ok (.invokespecial 18, 3) := by decide +kernel
theorem dX10_init_45 : decode cX10_init 45 = .ok (.putfield 26, 3) := by decide +kernel
theorem dX10_init_48 : decode cX10_init 48 = .ok (.aload_n 0, 1) := by decide +kernel
theorem dX10_init_49 : decode cX10_init 49 = .ok (.new 29, 3) := by decide +kernel
theorem dX10_init_52 : decode cX10_init 52 = .ok (.dup, 1) := by decide +kernel
theorem dX10_init_53 : decode cX10_init 53 = .ok (.invokespecial 31, 3) := by decide +kernel
theorem dX10_init_56 : decode cX10_init 56 = .ok (.putfield 32, 3) := by decide +kernel
theorem dX10_init_59 : decode cX10_init 59 = .ok (.aload_n 0, 1) := by decide +kernel
theorem dX10_init_60 : decode cX10_init 60 = .ok (.bipush 12, 2) := by decide +kernel
theorem dX10_init_62 : decode cX10_init 62 = .ok (.newarray .int, 2) := by decide +kernel
theorem dX10_init_64 : decode cX10_init 64 = .ok (.putfield 36, 3) := by decide +kernel
theorem dX10_init_67 : decode cX10_init 67 = .ok (.aload_n 0, 1) := by decide +kernel
theorem dX10_init_68 : decode cX10_init 68 = .ok (.bipush 7, 2) := by decide +kernel
theorem dX10_init_70 : decode cX10_init 70 = .ok (.newarray .int, 2) := by decide +kernel
theorem dX10_init_72 : decode cX10_init 72 = .ok (.putfield 40, 3) := by decide +kernel
theorem dX10_init_75 : decode cX10_init 75 = .ok (.return_, 1) := by decide +kernel
set_option maxRecDepth 20000 in
theorem ggX10_letter_X10_refused : GoodIn wsX10_letter wsX10_refused := goodIn_r _ [6, 7, 20, 21, 22, 23, 24, 25, 26, 27, 28, 29] (by decide +kernel) (by decide +kernel)
set_option maxRecDepth 20000 in
theorem gX10_letter_X10_refused : GoodIn wsX10_letter (wsV RX10 43 RX10 yX10_refused wsX10_refused) := goodIn_app (goodIn_of _ (by decide +kernel)) ggX10_letter_X10_refused
set_option maxRecDepth 20000 in
theorem ggX10_letter_X7_isFull : GoodIn wsX10_letter wsX7_isFull := goodIn_r _ [12, 13, 14, 30, 31] (by decide +kernel) (by decide +kernel)
set_option maxRecDepth 20000 in
theorem gX10_letter_X7_isFull : GoodIn wsX10_letter (wsV RX10 47 RX7 yX7_isFull wsX7_isFull) := goodIn_app (goodIn_of _ (by decide +kernel)) ggX10_letter_X7_isFull
set_option maxRecDepth 20000 in
theorem ggX10_letter_X7_append : GoodIn wsX10_letter wsX7_append := goodIn_r _ [18, 14, 13, 19, 9, 10, 11, 12, 30, 31] (by decide +kernel) (by decide +kernel)
set_option maxRecDepth 20000 in
theorem gX10_letter_X7_append : GoodIn wsX10_letter (wsV RX10 51 RX7 yX7_append wsX7_append) := goodIn_app (goodIn_of _ (by decide +kernel)) ggX10_letter_X7_append
theorem dX10_letter_0 : decode cX10_letter 0 = .ok (.iload_n 1, 1) := by decide +kernel
theorem dX10_letter_1 : decode cX10_letter 1 = .ok (.ifCond .ge 10, 3) := by decide +kernel
theorem dX10_letter_4 : decode cX10_letter 4 = .ok (.aload_n 0, 1) := by decide +kernel
theorem dX10_letter_5 : decode cX10_letter 5 = .ok (.bipush (-4), 2) := by decide +kernel
theorem dX10_letter_7 : decode cX10_letter 7 = .ok (.invokevirtual 43, 3) := by decide +kernel
theorem dX10_letter_10 : decode cX10_letter 10 = .ok (.ireturn, 1) := by decide +kernel
theorem dX10_letter_11 : decode cX10_letter 11 = .ok (.iload_n 1, 1) := by decide +kernel
theorem dX10_letter_12 : decode cX10_letter 12 = .ok (.sipush 255, 3) := by decide +kernel
theorem dX10_letter_15 : decode cX10_letter 15 = .ok (.if_icmp .gt 13, 3) := by decide +kernel
theorem dX10_letter_18 : decode cX10_letter 18 = .ok (.aload_n 0, 1) := by decide +kernel
theorem dX10_letter_19 : decode cX10_letter 19 = .ok (.getfield 10, 3) := by decide +kernel
theorem dX10_letter_22 : decode cX10_letter 22 = .ok (.invokevirtual 47, 3) := by decide +kernel
theorem dX10_letter_25 : decode cX10_letter 25 = .ok (.ifCond .eq 10, 3) := by decide +kernel
theorem dX10_letter_28 : decode cX10_letter 28 = .ok (.aload_n 0, 1) := by decide +kernel
theorem dX10_letter_29 : decode cX10_letter 29 = .ok (.bipush (-6), 2) := by decide +kernel
theorem dX10_letter_31 : decode cX10_letter 31 = .ok (.invokevirtual 43, 3) := by decide +kernel
theorem dX10_letter_34 : decode cX10_letter 34 = .ok (.ireturn, 1) := by decide +kernel
theorem dX10_letter_35 : decode cX10_letter 35 = .ok (.aload_n 0, 1) := by decide +kernel
theorem dX10_letter_36 : decode cX10_letter 36 = .ok (.getfield 10, 3) := by decide +kernel
theorem dX10_letter_39 : decode cX10_letter 39 = .ok (.iload_n 1, 1) := by decide +kernel
theorem dX10_letter_40 : decode cX10_letter 40 = .ok (.i2c, 1) := by decide +kernel
theorem dX10_letter_41 : decode cX10_letter 41 = .ok (.invokevirtual 51, 3) := by decide +kernel
theorem dX10_letter_44 : decode cX10_letter 44 = .ok (.aload_n 0, 1) := by decide +kernel
theorem dX10_letter_45 : decode cX10_letter 45 = .ok (.getfield 10, 3) := by decide +kernel
theorem dX10_letter_48 : decode cX10_letter 48 = .ok (.getfield 55, 3) := by decide +kernel
theorem dX10_letter_51 : decode cX10_letter 51 = .ok (.ireturn, 1) := by decide +kernel
set_option maxRecDepth 20000 in
theorem ggX10_hall_X7_unfitLetter : GoodIn wsX10_hall wsX7_unfitLetter := goodIn_r _ [8, 9, 10, 11, 12, 13, 14, 15, 16, 17, 18, 19, 20, 21, 22, 23, 24, 25, 26, 27, 28, 29, 30, 31, 32, 33, 34, 35, 36, 37, 38, 39, 40, 41, 42, 43, 44, 45, 46, 47, 48, 49, 50, 51, 52, 53, 54, 55, 56, 57, 58, 59, 60, 61, 7, 62, 63, 64, 65, 66, 67, 68, 69, 70, 71, 72, 73, 74, 75, 76, 77, 78, 79, 80, 81, 82, 83, 84, 85, 86, 87, 88, 89, 90, 91, 92, 93, 94, 95, 96, 97, 98, 99, 100, 101, 102, 103, 104, 105, 106, 107, 108, 109, 110, 111, 112, 113, 114, 115, 116, 117, 118, 119, 120, 121, 122, 123, 124, 125, 126, 127, 128, 129, 130, 131, 132, 133, 134, 313, 314] (by decide +kernel) (by decide +kernel)
set_option maxRecDepth 20000 in
theorem gX10_hall_X7_unfitLetter : GoodIn wsX10_hall (wsV RX10 59 RX7 yX7_unfitLetter wsX7_unfitLetter) := goodIn_app (goodIn_of _ (by decide +kernel)) ggX10_hall_X7_unfitLetter
set_option maxRecDepth 20000 in
theorem ggX10_hall_X1_becomeLike : GoodIn wsX10_hall wsX1_becomeLike := goodIn_r _ [139, 140, 141, 142, 143, 144, 145, 146, 147, 148, 149, 150, 151, 152, 153, 154, 155, 156, 157, 158, 159, 160, 315, 316, 317, 318, 319, 320, 321, 322, 323, 324, 325] (by decide +kernel) (by decide +kernel)
set_option maxRecDepth 20000 in
theorem gX10_hall_X1_becomeLike : GoodIn wsX10_hall (wsV RX10 63 RX1 yX1_becomeLike wsX1_becomeLike) := goodIn_app (goodIn_of _ (by decide +kernel)) ggX10_hall_X1_becomeLike
set_option maxRecDepth 20000 in
theorem ggX10_hall_X7_tellTo : GoodIn wsX10_hall wsX7_tellTo := goodIn_r _ [164, 9, 59, 60, 61, 7, 62, 63, 165, 166, 167, 168, 169, 170, 171, 172, 173, 174, 175, 176, 67, 68, 69, 13, 70, 71, 72, 73, 74, 15, 26, 27, 28, 29, 20, 21, 75, 11, 12, 14, 16, 17, 18, 19, 76, 77, 32, 78, 79, 80, 81, 82, 83, 84, 85, 86, 87, 88, 89, 90, 91, 92, 93, 44, 94, 95, 96, 97, 98, 99, 100, 101, 102, 103, 49, 50, 51, 104, 105, 106, 37, 107, 108, 40, 109, 110, 111, 112, 53, 54, 55, 56, 57, 58, 113, 114, 115, 116, 117, 118, 119, 120, 121, 122, 123, 124, 125, 126, 127, 177, 178, 179, 180, 181, 182, 183, 184, 185, 186, 187, 188, 189, 190, 191, 192, 193, 194, 195, 196, 197, 198, 199, 200, 201, 202, 203, 204, 205, 206, 207, 208, 209, 210, 211, 212, 213, 214, 215, 216, 217, 218, 219, 220, 221, 222, 223, 224, 225, 226, 227, 228, 229, 230, 138, 231, 141, 140, 232, 233, 234, 235, 236, 237, 142, 143, 238, 239, 240, 155, 241, 157, 242, 243, 244, 245, 144, 246, 247, 248, 249, 250, 251, 252, 253, 254, 255, 256, 257, 258, 259, 260, 261, 262, 263, 264, 265, 266, 267, 268, 269, 270, 271, 272, 273, 274, 275, 276, 277, 278, 149, 150, 279, 280, 281, 282, 283, 284, 285, 286, 287, 288, 289, 290, 291, 292, 293, 294, 295, 296, 297, 298, 160, 158, 313, 314, 326, 327, 328, 329, 330, 331, 332, 333, 334, 335, 336, 337, 338, 339, 340, 341, 342, 343, 344, 345, 346, 347, 348, 349, 315, 316, 317, 318, 319, 320, 321, 322, 323, 324, 325] (by decide +kernel) (by decide +kernel)
set_option maxRecDepth 20000 in
theorem gX10_hall_X7_tellTo : GoodIn wsX10_hall (wsV RX10 67 RX7 yX7_tellTo wsX7_tellTo) := goodIn_app (goodIn_of _ (by decide +kernel)) ggX10_hall_X7_tellTo
set_option maxRecDepth 20000 in
theorem ggX10_hall_X7_forget : GoodIn wsX10_hall wsX7_forget := goodIn_r _ [302, 9, 313, 314] (by decide +kernel) (by decide +kernel)
set_option maxRecDepth 20000 in
theorem gX10_hall_X7_forget : GoodIn wsX10_hall (wsV RX10 71 RX7 yX7_forget wsX7_forget) := goodIn_app (goodIn_of _ (by decide +kernel)) ggX10_hall_X7_forget
theorem dX10_hall_0 : decode cX10_hall 0 = .ok (.aload_n 0, 1) := by decide +kernel
theorem dX10_hall_1 : decode cX10_hall 1 = .ok (.getfield 10, 3) := by decide +kernel
theorem dX10_hall_4 : decode cX10_hall 4 = .ok (.invokevirtual 59, 3) := by decide +kernel
theorem dX10_hall_7 : decode cX10_hall 7 = .ok (.istore_n 2, 1) := by decide +kernel
theorem dX10_hall_8 : decode cX10_hall 8 = .ok (.iload_n 2, 1) := by decide +kernel
theorem dX10_hall_9 : decode cX10_hall 9 = .ok (.bipush (-9), 2) := by decide +kernel
theorem dX10_hall_11 : decode cX10_hall 11 = .ok (.if_icmp .eq 12, 3) := by decide +kernel
theorem dX10_hall_14 : decode cX10_hall 14 = .ok (.sipush (-1000), 3) := by decide +kernel
theorem dX10_hall_17 : decode cX10_hall 17 = .ok (.iload_n 2, 1) := by decide +kernel
theorem dX10_hall_18 : decode cX10_hall 18 = .ok (.isub, 1) := by decide +kernel
theorem dX10_hall_19 : decode cX10_hall 19 = .ok (.istore_n 1, 1) := by decide +kernel
theorem dX10_hall_20 : decode cX10_hall 20 = .ok (.goto 41, 3) := by decide +kernel
theorem dX10_hall_23 : decode cX10_hall 23 = .ok (.aload_n 0, 1) := by decide +kernel
theorem dX10_hall_24 : decode cX10_hall 24 = .ok (.getfield 23, 3) := by decide +kernel
theorem dX10_hall_27 : decode cX10_hall 27 = .ok (.aload_n 0, 1) := by decide +kernel
theorem dX10_hall_28 : decode cX10_hall 28 = .ok (.getfield 19, 3) := by decide +kernel
theorem dX10_hall_31 : decode cX10_hall 31 = .ok (.invokevirtual 63, 3) := by decide +kernel
theorem dX10_hall_34 : decode cX10_hall 34 = .ok (.aload_n 0, 1) := by decide +kernel
theorem dX10_hall_35 : decode cX10_hall 35 = .ok (.getfield 10, 3) := by decide +kernel
theorem dX10_hall_38 : decode cX10_hall 38 = .ok (.aload_n 0, 1) := by decide +kernel
theorem dX10_hall_39 : decode cX10_hall 39 = .ok (.getfield 23, 3) := by decide +kernel
theorem dX10_hall_42 : decode cX10_hall 42 = .ok (.invokevirtual 67, 3) := by decide +kernel
theorem dX10_hall_45 : decode cX10_hall 45 = .ok (.istore_n 1, 1) := by decide +kernel
theorem dX10_hall_46 : decode cX10_hall 46 = .ok (.iload_n 1, 1) := by decide +kernel
theorem dX10_hall_47 : decode cX10_hall 47 = .ok (.ifCond .le 14, 3) := by decide +kernel
theorem dX10_hall_50 : decode cX10_hall 50 = .ok (.aload_n 0, 1) := by decide +kernel
theorem dX10_hall_51 : decode cX10_hall 51 = .ok (.getfield 19, 3) := by decide +kernel
theorem dX10_hall_54 : decode cX10_hall 54 = .ok (.aload_n 0, 1) := by decide +kernel
theorem dX10_hall_55 : decode cX10_hall 55 = .ok (.getfield 23, 3) := by decide +kernel
theorem dX10_hall_58 : decode cX10_hall 58 = .ok (.invokevirtual 63, 3) := by decide +kernel
theorem dX10_hall_61 : decode cX10_hall 61 = .ok (.aload_n 0, 1) := by decide +kernel
theorem dX10_hall_62 : decode cX10_hall 62 = .ok (.getfield 10, 3) := by decide +kernel
theorem dX10_hall_65 : decode cX10_hall 65 = .ok (.invokevirtual 71, 3) := by decide +kernel
theorem dX10_hall_68 : decode cX10_hall 68 = .ok (.iload_n 1, 1) := by decide +kernel
theorem dX10_hall_69 : decode cX10_hall 69 = .ok (.ireturn, 1) := by decide +kernel
set_option maxRecDepth 20000 in
theorem ggX10_player_X1_isPlayer : GoodIn wsX10_player wsX1_isPlayer := goodIn_r _ [6, 7, 8, 137, 138, 139, 140, 141, 142, 143, 144] (by decide +kernel) (by decide +kernel)
set_option maxRecDepth 20000 in
theorem gX10_player_X1_isPlayer : GoodIn wsX10_player (wsV RX10 74 RX1 yX1_isPlayer wsX1_isPlayer) := goodIn_app (goodIn_of _ (by decide +kernel)) ggX10_player_X1_isPlayer
set_option maxRecDepth 20000 in
theorem ggX10_player_X10_refused : GoodIn wsX10_player wsX10_refused := goodIn_r _ [13, 14, 127, 128, 129, 130, 131, 132, 133, 134, 135, 136] (by decide +kernel) (by decide +kernel)
set_option maxRecDepth 20000 in
theorem gX10_player_X10_refused : GoodIn wsX10_player (wsV RX10 43 RX10 yX10_refused wsX10_refused) := goodIn_app (goodIn_of _ (by decide +kernel)) ggX10_player_X10_refused
set_option maxRecDepth 20000 in
theorem ggX10_player_X1_sideOf : GoodIn wsX10_player wsX1_sideOf := goodIn_r _ [18, 8, 19, 3, 4, 5, 6, 7, 137, 138, 139, 140, 141, 142, 143, 144, 145, 146, 147, 148, 149, 150, 151, 152, 153, 154, 155, 156, 157, 158, 159, 160, 161, 162, 163, 164, 165, 166, 167, 168] (by decide +kernel) (by decide +kernel)
set_option maxRecDepth 20000 in
theorem gX10_player_X1_sideOf : GoodIn wsX10_player (wsV RX10 78 RX1 yX1_sideOf wsX1_sideOf) := goodIn_app (goodIn_of _ (by decide +kernel)) ggX10_player_X1_sideOf
set_option maxRecDepth 20000 in
theorem ggX10_player_X1_kindOf : GoodIn wsX10_player wsX1_kindOf := goodIn_r _ [23, 8, 19, 3, 4, 5, 6, 7, 137, 138, 139, 140, 141, 142, 143, 144, 145, 146, 147, 148, 149, 150, 151, 152, 153, 154, 155, 156, 157, 158, 159, 160, 161, 162, 163, 164, 165, 166, 167, 168] (by decide +kernel) (by decide +kernel)
set_option maxRecDepth 20000 in
theorem gX10_player_X1_kindOf : GoodIn wsX10_player (wsV RX10 81 RX1 yX1_kindOf wsX1_kindOf) := goodIn_app (goodIn_of _ (by decide +kernel)) ggX10_player_X1_kindOf
set_option maxRecDepth 20000 in
theorem ggX10_player_X1_isIn : GoodIn wsX10_player wsX1_isIn := goodIn_r _ [27, 19, 3, 4, 5, 6, 7, 8, 28, 29, 30, 31, 32, 33, 137, 138, 139, 140, 141, 142, 143, 144, 169, 170, 171] (by decide +kernel) (by decide +kernel)
set_option maxRecDepth 20000 in
theorem gX10_player_X1_isIn : GoodIn wsX10_player (wsV RX10 84 RX1 yX1_isIn wsX1_isIn) := goodIn_app (goodIn_of _ (by decide +kernel)) ggX10_player_X1_isIn
set_option maxRecDepth 20000 in
theorem ggX10_player_X1_ballsOf : GoodIn wsX10_player wsX1_ballsOf := goodIn_r _ [37, 38, 19, 3, 4, 5, 6, 7, 8, 137, 138, 139, 140, 141, 142, 143, 144] (by decide +kernel) (by decide +kernel)
set_option maxRecDepth 20000 in
theorem gX10_player_X1_ballsOf : GoodIn wsX10_player (wsV RX10 87 RX1 yX1_ballsOf wsX1_ballsOf) := goodIn_app (goodIn_of _ (by decide +kernel)) ggX10_player_X1_ballsOf
set_option maxRecDepth 20000 in
theorem ggX10_player_X1_aimOf : GoodIn wsX10_player wsX1_aimOf := goodIn_r _ [42, 8, 43, 19, 3, 4, 5, 6, 7, 44, 45, 46, 47, 48, 49, 50, 51, 52, 53, 54, 55, 56, 57, 58, 59, 60, 61, 62, 63, 64, 65, 66, 137, 138, 139, 140, 141, 142, 143, 144, 145, 146, 147, 148, 149, 150, 151, 152, 153, 154, 155, 156, 157, 158, 159, 160, 161, 162, 163, 164, 165, 166, 167, 168] (by decide +kernel) (by decide +kernel)
set_option maxRecDepth 20000 in
theorem gX10_player_X1_aimOf : GoodIn wsX10_player (wsV RX10 90 RX1 yX1_aimOf wsX1_aimOf) := goodIn_app (goodIn_of _ (by decide +kernel)) ggX10_player_X1_aimOf
set_option maxRecDepth 20000 in
theorem ggX10_player_X1_dodgeOf : GoodIn wsX10_player wsX1_dodgeOf := goodIn_r _ [70, 8, 19, 3, 4, 5, 6, 7, 71, 35, 36, 37, 38, 72, 73, 74, 75, 48, 76, 77, 78, 79, 80, 81, 82, 83, 84, 85, 86, 87, 88, 89, 90, 91, 92, 93, 94, 95, 137, 138, 139, 140, 141, 142, 143, 144, 145, 146, 147, 148, 149, 150, 151, 152, 153, 154, 155, 156, 157, 158, 159, 160, 161, 162, 163, 164, 165, 166, 167, 168] (by decide +kernel) (by decide +kernel)
set_option maxRecDepth 20000 in
theorem gX10_player_X1_dodgeOf : GoodIn wsX10_player (wsV RX10 93 RX1 yX1_dodgeOf wsX1_dodgeOf) := goodIn_app (goodIn_of _ (by decide +kernel)) ggX10_player_X1_dodgeOf
set_option maxRecDepth 20000 in
theorem ggX10_player_X1_graspOf : GoodIn wsX10_player wsX1_graspOf := goodIn_r _ [99, 8, 19, 3, 4, 5, 6, 7, 100, 101, 102, 103, 32, 33, 104, 105, 106, 107, 108, 109, 110, 111, 112, 113, 48, 114, 50, 77, 115, 116, 117, 118, 119, 120, 121, 122, 123, 124, 125, 126, 137, 138, 139, 140, 141, 142, 143, 144, 169, 170, 171, 145, 146, 147, 148, 149, 150, 151, 152, 153, 154, 155, 156, 157, 158, 159, 160, 161, 162, 163, 164, 165, 166, 167, 168] (by decide +kernel) (by decide +kernel)
set_option maxRecDepth 20000 in
theorem gX10_player_X1_graspOf : GoodIn wsX10_player (wsV RX10 96 RX1 yX1_graspOf wsX1_graspOf) := goodIn_app (goodIn_of _ (by decide +kernel)) ggX10_player_X1_graspOf
theorem dX10_player_0 : decode cX10_player 0 = .ok (.aload_n 0, 1) := by decide +kernel
theorem dX10_player_1 : decode cX10_player 1 = .ok (.getfield 19, 3) := by decide +kernel
theorem dX10_player_4 : decode cX10_player 4 = .ok (.iload_n 1, 1) := by decide +kernel
theorem dX10_player_5 : decode cX10_player 5 = .ok (.invokevirtual 74, 3) := by decide +kernel
theorem dX10_player_8 : decode cX10_player 8 = .ok (.ifCond .ne 9, 3) := by decide +kernel
theorem dX10_player_11 : decode cX10_player 11 = .ok (.aload_n 0, 1) := by decide +kernel
theorem dX10_player_12 : decode cX10_player 12 = .ok (.iconst (-1), 1) := by decide +kernel
theorem dX10_player_13 : decode cX10_player 13 = .ok (.invokevirtual 43, 3) := by decide +kernel
theorem dX10_player_16 : decode cX10_player 16 = .ok (.ireturn, 1) := by decide +kernel
theorem dX10_player_17 : decode cX10_player 17 = .ok (.iload_n 2, 1) := by decide +kernel
theorem dX10_player_18 : decode cX10_player 18 = .ok (.tableswitch 113 0 6 #[42, 51, 60, 77, 86, 95, 104], 42) := by decide +kernel
theorem dX10_player_60 : decode cX10_player 60 = .ok (.aload_n 0, 1) := by decide +kernel
theorem dX10_player_61 : decode cX10_player 61 = .ok (.getfield 19, 3) := by decide +kernel
theorem dX10_player_64 : decode cX10_player 64 = .ok (.iload_n 1, 1) := by decide +kernel
theorem dX10_player_65 : decode cX10_player 65 = .ok (.invokevirtual 78, 3) := by decide +kernel
theorem dX10_player_68 : decode cX10_player 68 = .ok (.ireturn, 1) := by decide +kernel
theorem dX10_player_69 : decode cX10_player 69 = .ok (.aload_n 0, 1) := by decide +kernel
theorem dX10_player_70 : decode cX10_player 70 = .ok (.getfield 19, 3) := by decide +kernel
theorem dX10_player_73 : decode cX10_player 73 = .ok (.iload_n 1, 1) := by decide +kernel
theorem dX10_player_74 : decode cX10_player 74 = .ok (.invokevirtual 81, 3) := by decide +kernel
theorem dX10_player_77 : decode cX10_player 77 = .ok (.ireturn, 1) := by decide +kernel
theorem dX10_player_78 : decode cX10_player 78 = .ok (.aload_n 0, 1) := by decide +kernel
theorem dX10_player_79 : decode cX10_player 79 = .ok (.getfield 19, 3) := by decide +kernel
theorem dX10_player_82 : decode cX10_player 82 = .ok (.iload_n 1, 1) := by decide +kernel
theorem dX10_player_83 : decode cX10_player 83 = .ok (.invokevirtual 84, 3) := by decide +kernel
theorem dX10_player_86 : decode cX10_player 86 = .ok (.ifCond .eq 7, 3) := by decide +kernel
theorem dX10_player_89 : decode cX10_player 89 = .ok (.iconst 1, 1) := by decide +kernel
theorem dX10_player_90 : decode cX10_player 90 = .ok (.goto 4, 3) := by decide +kernel
theorem dX10_player_93 : decode cX10_player 93 = .ok (.iconst 0, 1) := by decide +kernel
theorem dX10_player_94 : decode cX10_player 94 = .ok (.ireturn, 1) := by decide +kernel
theorem dX10_player_95 : decode cX10_player 95 = .ok (.aload_n 0, 1) := by decide +kernel
theorem dX10_player_96 : decode cX10_player 96 = .ok (.getfield 19, 3) := by decide +kernel
theorem dX10_player_99 : decode cX10_player 99 = .ok (.iload_n 1, 1) := by decide +kernel
theorem dX10_player_100 : decode cX10_player 100 = .ok (.invokevirtual 87, 3) := by decide +kernel
theorem dX10_player_103 : decode cX10_player 103 = .ok (.ireturn, 1) := by decide +kernel
theorem dX10_player_104 : decode cX10_player 104 = .ok (.aload_n 0, 1) := by decide +kernel
theorem dX10_player_105 : decode cX10_player 105 = .ok (.getfield 19, 3) := by decide +kernel
theorem dX10_player_108 : decode cX10_player 108 = .ok (.iload_n 1, 1) := by decide +kernel
theorem dX10_player_109 : decode cX10_player 109 = .ok (.invokevirtual 90, 3) := by decide +kernel
theorem dX10_player_112 : decode cX10_player 112 = .ok (.ireturn, 1) := by decide +kernel
theorem dX10_player_113 : decode cX10_player 113 = .ok (.aload_n 0, 1) := by decide +kernel
theorem dX10_player_114 : decode cX10_player 114 = .ok (.getfield 19, 3) := by decide +kernel
theorem dX10_player_117 : decode cX10_player 117 = .ok (.iload_n 1, 1) := by decide +kernel
theorem dX10_player_118 : decode cX10_player 118 = .ok (.invokevirtual 93, 3) := by decide +kernel
theorem dX10_player_121 : decode cX10_player 121 = .ok (.ireturn, 1) := by decide +kernel
theorem dX10_player_122 : decode cX10_player 122 = .ok (.aload_n 0, 1) := by decide +kernel
theorem dX10_player_123 : decode cX10_player 123 = .ok (.getfield 19, 3) := by decide +kernel
theorem dX10_player_126 : decode cX10_player 126 = .ok (.iload_n 1, 1) := by decide +kernel
theorem dX10_player_127 : decode cX10_player 127 = .ok (.invokevirtual 96, 3) := by decide +kernel
theorem dX10_player_130 : decode cX10_player 130 = .ok (.ireturn, 1) := by decide +kernel
theorem dX10_player_131 : decode cX10_player 131 = .ok (.aload_n 0, 1) := by decide +kernel
theorem dX10_player_132 : decode cX10_player 132 = .ok (.bipush (-2), 2) := by decide +kernel
theorem dX10_player_134 : decode cX10_player 134 = .ok (.invokevirtual 43, 3) := by decide +kernel
theorem dX10_player_137 : decode cX10_player 137 = .ok (.ireturn, 1) := by decide +kernel
set_option maxRecDepth 20000 in
theorem ggX10_ball_X10_isBall : GoodIn wsX10_ball wsX10_isBall := goodIn_r _ [5] (by decide +kernel) (by decide +kernel)
set_option maxRecDepth 20000 in
theorem gX10_ball_X10_isBall : GoodIn wsX10_ball (va_wsS RX10 99 yX10_isBall wsX10_isBall) := goodIn_app (goodIn_of _ (by decide +kernel)) ggX10_ball_X10_isBall
set_option maxRecDepth 20000 in
theorem ggX10_ball_X10_refused : GoodIn wsX10_ball wsX10_refused := goodIn_r _ [9, 10, 27, 28, 29, 30, 31, 32, 33, 34, 35, 36] (by decide +kernel) (by decide +kernel)
set_option maxRecDepth 20000 in
theorem gX10_ball_X10_refused : GoodIn wsX10_ball (wsV RX10 43 RX10 yX10_refused wsX10_refused) := goodIn_app (goodIn_of _ (by decide +kernel)) ggX10_ball_X10_refused
set_option maxRecDepth 20000 in
theorem ggX10_ball_X1_holderOf : GoodIn wsX10_ball wsX1_holderOf := goodIn_r _ [15, 16, 3, 4, 5, 37, 38, 39, 40, 41, 42, 43, 44] (by decide +kernel) (by decide +kernel)
set_option maxRecDepth 20000 in
theorem gX10_ball_X1_holderOf : GoodIn wsX10_ball (wsV RX10 102 RX1 yX1_holderOf wsX1_holderOf) := goodIn_app (goodIn_of _ (by decide +kernel)) ggX10_ball_X1_holderOf
set_option maxRecDepth 20000 in
theorem ggX10_ball_X1_floorOf : GoodIn wsX10_ball wsX1_floorOf := goodIn_r _ [20, 21, 3, 4, 5, 37, 38, 39, 40, 41, 42, 43, 44] (by decide +kernel) (by decide +kernel)
set_option maxRecDepth 20000 in
theorem gX10_ball_X1_floorOf : GoodIn wsX10_ball (wsV RX10 105 RX1 yX1_floorOf wsX1_floorOf) := goodIn_app (goodIn_of _ (by decide +kernel)) ggX10_ball_X1_floorOf
set_option maxRecDepth 20000 in
theorem ggX10_ball_X1_heldOf : GoodIn wsX10_ball wsX1_heldOf := goodIn_r _ [25, 26, 3, 4, 5, 37, 38, 39, 40, 41, 42, 43, 44] (by decide +kernel) (by decide +kernel)
set_option maxRecDepth 20000 in
theorem gX10_ball_X1_heldOf : GoodIn wsX10_ball (wsV RX10 108 RX1 yX1_heldOf wsX1_heldOf) := goodIn_app (goodIn_of _ (by decide +kernel)) ggX10_ball_X1_heldOf
theorem dX10_ball_0 : decode cX10_ball 0 = .ok (.iload_n 1, 1) := by decide +kernel
theorem dX10_ball_1 : decode cX10_ball 1 = .ok (.invokestatic 99, 3) := by decide +kernel
theorem dX10_ball_4 : decode cX10_ball 4 = .ok (.ifCond .ne 9, 3) := by decide +kernel
theorem dX10_ball_7 : decode cX10_ball 7 = .ok (.aload_n 0, 1) := by decide +kernel
theorem dX10_ball_8 : decode cX10_ball 8 = .ok (.iconst (-1), 1) := by decide +kernel
theorem dX10_ball_9 : decode cX10_ball 9 = .ok (.invokevirtual 43, 3) := by decide +kernel
theorem dX10_ball_12 : decode cX10_ball 12 = .ok (.ireturn, 1) := by decide +kernel
theorem dX10_ball_13 : decode cX10_ball 13 = .ok (.iload_n 2, 1) := by decide +kernel
theorem dX10_ball_14 : decode cX10_ball 14 = .ok (.tableswitch 53 0 2 #[26, 35, 44], 26) := by decide +kernel
theorem dX10_ball_40 : decode cX10_ball 40 = .ok (.aload_n 0, 1) := by decide +kernel
theorem dX10_ball_41 : decode cX10_ball 41 = .ok (.getfield 19, 3) := by decide +kernel
theorem dX10_ball_44 : decode cX10_ball 44 = .ok (.iload_n 1, 1) := by decide +kernel
theorem dX10_ball_45 : decode cX10_ball 45 = .ok (.invokevirtual 102, 3) := by decide +kernel
theorem dX10_ball_48 : decode cX10_ball 48 = .ok (.ireturn, 1) := by decide +kernel
theorem dX10_ball_49 : decode cX10_ball 49 = .ok (.aload_n 0, 1) := by decide +kernel
theorem dX10_ball_50 : decode cX10_ball 50 = .ok (.getfield 19, 3) := by decide +kernel
theorem dX10_ball_53 : decode cX10_ball 53 = .ok (.iload_n 1, 1) := by decide +kernel
theorem dX10_ball_54 : decode cX10_ball 54 = .ok (.invokevirtual 105, 3) := by decide +kernel
theorem dX10_ball_57 : decode cX10_ball 57 = .ok (.ireturn, 1) := by decide +kernel
theorem dX10_ball_58 : decode cX10_ball 58 = .ok (.aload_n 0, 1) := by decide +kernel
theorem dX10_ball_59 : decode cX10_ball 59 = .ok (.getfield 19, 3) := by decide +kernel
theorem dX10_ball_62 : decode cX10_ball 62 = .ok (.iload_n 1, 1) := by decide +kernel
theorem dX10_ball_63 : decode cX10_ball 63 = .ok (.invokevirtual 108, 3) := by decide +kernel
theorem dX10_ball_66 : decode cX10_ball 66 = .ok (.ireturn, 1) := by decide +kernel
theorem dX10_ball_67 : decode cX10_ball 67 = .ok (.aload_n 0, 1) := by decide +kernel
theorem dX10_ball_68 : decode cX10_ball 68 = .ok (.bipush (-2), 2) := by decide +kernel
theorem dX10_ball_70 : decode cX10_ball 70 = .ok (.invokevirtual 43, 3) := by decide +kernel
theorem dX10_ball_73 : decode cX10_ball 73 = .ok (.ireturn, 1) := by decide +kernel
set_option maxRecDepth 20000 in
theorem ggX10_odds_X1_isPlayer : GoodIn wsX10_odds wsX1_isPlayer := goodIn_r _ [6, 7, 8, 156, 157, 158, 159, 160, 161, 162, 163] (by decide +kernel) (by decide +kernel)
set_option maxRecDepth 20000 in
theorem gX10_odds_X1_isPlayer : GoodIn wsX10_odds (wsV RX10 74 RX1 yX1_isPlayer wsX1_isPlayer) := goodIn_app (goodIn_of _ (by decide +kernel)) ggX10_odds_X1_isPlayer
set_option maxRecDepth 20000 in
theorem ggX10_odds_X10_refused : GoodIn wsX10_odds wsX10_refused := goodIn_r _ [13, 14, 146, 147, 148, 149, 150, 151, 152, 153, 154, 155] (by decide +kernel) (by decide +kernel)
set_option maxRecDepth 20000 in
theorem gX10_odds_X10_refused : GoodIn wsX10_odds (wsV RX10 43 RX10 yX10_refused wsX10_refused) := goodIn_app (goodIn_of _ (by decide +kernel)) ggX10_odds_X10_refused
set_option maxRecDepth 20000 in
theorem ggX10_odds_X10_isHow : GoodIn wsX10_odds wsX10_isHow := goodIn_r _ [17] (by decide +kernel) (by decide +kernel)
set_option maxRecDepth 20000 in
theorem gX10_odds_X10_isHow : GoodIn wsX10_odds (va_wsS RX10 111 yX10_isHow wsX10_isHow) := goodIn_app (goodIn_of _ (by decide +kernel)) ggX10_odds_X10_isHow
set_option maxRecDepth 20000 in
theorem ggX10_odds_X10_isEnd : GoodIn wsX10_odds wsX10_isEnd := goodIn_r _ [20] (by decide +kernel) (by decide +kernel)
set_option maxRecDepth 20000 in
theorem gX10_odds_X10_isEnd : GoodIn wsX10_odds (va_wsS RX10 114 yX10_isEnd wsX10_isEnd) := goodIn_app (goodIn_of _ (by decide +kernel)) ggX10_odds_X10_isEnd
set_option maxRecDepth 20000 in
theorem ggX10_odds_X1_areOpposed : GoodIn wsX10_odds wsX1_areOpposed := goodIn_r _ [24, 25, 26, 27, 5, 28, 29, 3, 4, 6, 7, 8, 30, 31, 32, 33, 34, 35, 36, 37, 38, 39, 156, 157, 158, 159, 160, 161, 162, 163, 164, 165, 166, 167, 168, 169, 170, 171, 172, 173, 174, 175, 176, 177, 178, 179, 180, 181, 182, 183, 184, 185, 186, 187, 188, 189, 190] (by decide +kernel) (by decide +kernel)
set_option maxRecDepth 20000 in
theorem gX10_odds_X1_areOpposed : GoodIn wsX10_odds (wsV RX10 117 RX1 yX1_areOpposed wsX1_areOpposed) := goodIn_app (goodIn_of _ (by decide +kernel)) ggX10_odds_X1_areOpposed
set_option maxRecDepth 20000 in
theorem ggX10_odds_X1_hitOf : GoodIn wsX10_odds wsX1_hitOf := goodIn_r _ [43, 44, 45, 46, 5, 47, 8, 48, 29, 3, 4, 6, 7, 49, 50, 51, 52, 53, 54, 55, 56, 57, 58, 59, 60, 61, 62, 63, 64, 65, 66, 67, 68, 69, 70, 71, 72, 73, 74, 75, 76, 77, 78, 79, 80, 81, 82, 83, 84, 85, 86, 87, 88, 89, 90, 91, 92, 93, 94, 95, 96, 97, 98, 99, 100, 101, 102, 103, 104, 16, 12, 17, 105, 106, 107, 108, 109, 110, 156, 157, 158, 159, 160, 161, 162, 163, 167, 168, 169, 170, 171, 172, 173, 174, 175, 176, 177, 178, 179, 180, 181, 182, 183, 184, 185, 186, 187, 188, 189, 190] (by decide +kernel) (by decide +kernel)
set_option maxRecDepth 20000 in
theorem gX10_odds_X1_hitOf : GoodIn wsX10_odds (wsV RX10 121 RX1 yX1_hitOf wsX1_hitOf) := goodIn_app (goodIn_of _ (by decide +kernel)) ggX10_odds_X1_hitOf
set_option maxRecDepth 20000 in
theorem ggX10_odds_X1_caughtOf : GoodIn wsX10_odds wsX1_caughtOf := goodIn_r _ [114, 115, 116, 117, 5, 118, 8, 29, 3, 4, 6, 7, 119, 120, 121, 122, 34, 35, 123, 124, 125, 126, 127, 128, 129, 130, 131, 132, 53, 133, 55, 86, 134, 135, 136, 137, 138, 139, 140, 141, 142, 143, 144, 145, 16, 12, 17, 105, 106, 107, 108, 67, 109, 110, 66, 68, 156, 157, 158, 159, 160, 161, 162, 163, 164, 165, 166, 167, 168, 169, 170, 171, 172, 173, 174, 175, 176, 177, 178, 179, 180, 181, 182, 183, 184, 185, 186, 187, 188, 189, 190] (by decide +kernel) (by decide +kernel)
set_option maxRecDepth 20000 in
theorem gX10_odds_X1_caughtOf : GoodIn wsX10_odds (wsV RX10 125 RX1 yX1_caughtOf wsX1_caughtOf) := goodIn_app (goodIn_of _ (by decide +kernel)) ggX10_odds_X1_caughtOf
theorem dX10_odds_0 : decode cX10_odds 0 = .ok (.aload_n 0, 1) := by decide +kernel
theorem dX10_odds_1 : decode cX10_odds 1 = .ok (.getfield 19, 3) := by decide +kernel
theorem dX10_odds_4 : decode cX10_odds 4 = .ok (.iload_n 1, 1) := by decide +kernel
theorem dX10_odds_5 : decode cX10_odds 5 = .ok (.invokevirtual 74, 3) := by decide +kernel
theorem dX10_odds_8 : decode cX10_odds 8 = .ok (.ifCond .eq 14, 3) := by decide +kernel
theorem dX10_odds_11 : decode cX10_odds 11 = .ok (.aload_n 0, 1) := by decide +kernel
theorem dX10_odds_12 : decode cX10_odds 12 = .ok (.getfield 19, 3) := by decide +kernel
theorem dX10_odds_15 : decode cX10_odds 15 = .ok (.iload_n 2, 1) := by decide +kernel
theorem dX10_odds_16 : decode cX10_odds 16 = .ok (.invokevirtual 74, 3) := by decide +kernel
theorem dX10_odds_19 : decode cX10_odds 19 = .ok (.ifCond .ne 9, 3) := by decide +kernel
theorem dX10_odds_22 : decode cX10_odds 22 = .ok (.aload_n 0, 1) := by decide +kernel
theorem dX10_odds_23 : decode cX10_odds 23 = .ok (.iconst (-1), 1) := by decide +kernel
theorem dX10_odds_24 : decode cX10_odds 24 = .ok (.invokevirtual 43, 3) := by decide +kernel
theorem dX10_odds_27 : decode cX10_odds 27 = .ok (.ireturn, 1) := by decide +kernel
theorem dX10_odds_28 : decode cX10_odds 28 = .ok (.iload_n 3, 1) := by decide +kernel
theorem dX10_odds_29 : decode cX10_odds 29 = .ok (.invokestatic 111, 3) := by decide +kernel
theorem dX10_odds_32 : decode cX10_odds 32 = .ok (.ifCond .eq 11, 3) := by decide +kernel
theorem dX10_odds_35 : decode cX10_odds 35 = .ok (.iload 4, 2) := by decide +kernel
theorem dX10_odds_37 : decode cX10_odds 37 = .ok (.invokestatic 114, 3) := by decide +kernel
theorem dX10_odds_40 : decode cX10_odds 40 = .ok (.ifCond .ne 10, 3) := by decide +kernel
theorem dX10_odds_43 : decode cX10_odds 43 = .ok (.aload_n 0, 1) := by decide +kernel
theorem dX10_odds_44 : decode cX10_odds 44 = .ok (.bipush (-2), 2) := by decide +kernel
theorem dX10_odds_46 : decode cX10_odds 46 = .ok (.invokevirtual 43, 3) := by decide +kernel
theorem dX10_odds_49 : decode cX10_odds 49 = .ok (.ireturn, 1) := by decide +kernel
theorem dX10_odds_50 : decode cX10_odds 50 = .ok (.aload_n 0, 1) := by decide +kernel
theorem dX10_odds_51 : decode cX10_odds 51 = .ok (.getfield 19, 3) := by decide +kernel
theorem dX10_odds_54 : decode cX10_odds 54 = .ok (.iload_n 1, 1) := by decide +kernel
theorem dX10_odds_55 : decode cX10_odds 55 = .ok (.iload_n 2, 1) := by decide +kernel
theorem dX10_odds_56 : decode cX10_odds 56 = .ok (.invokevirtual 117, 3) := by decide +kernel
theorem dX10_odds_59 : decode cX10_odds 59 = .ok (.ifCond .ne 10, 3) := by decide +kernel
theorem dX10_odds_62 : decode cX10_odds 62 = .ok (.aload_n 0, 1) := by decide +kernel
theorem dX10_odds_63 : decode cX10_odds 63 = .ok (.bipush (-3), 2) := by decide +kernel
theorem dX10_odds_65 : decode cX10_odds 65 = .ok (.invokevirtual 43, 3) := by decide +kernel
theorem dX10_odds_68 : decode cX10_odds 68 = .ok (.ireturn, 1) := by decide +kernel
theorem dX10_odds_69 : decode cX10_odds 69 = .ok (.aload_n 0, 1) := by decide +kernel
theorem dX10_odds_70 : decode cX10_odds 70 = .ok (.getfield 19, 3) := by decide +kernel
theorem dX10_odds_73 : decode cX10_odds 73 = .ok (.iload_n 1, 1) := by decide +kernel
theorem dX10_odds_74 : decode cX10_odds 74 = .ok (.iload_n 2, 1) := by decide +kernel
theorem dX10_odds_75 : decode cX10_odds 75 = .ok (.iload_n 3, 1) := by decide +kernel
theorem dX10_odds_76 : decode cX10_odds 76 = .ok (.invokevirtual 121, 3) := by decide +kernel
theorem dX10_odds_79 : decode cX10_odds 79 = .ok (.istore 5, 2) := by decide +kernel
theorem dX10_odds_81 : decode cX10_odds 81 = .ok (.aload_n 0, 1) := by decide +kernel
theorem dX10_odds_82 : decode cX10_odds 82 = .ok (.getfield 19, 3) := by decide +kernel
theorem dX10_odds_85 : decode cX10_odds 85 = .ok (.iload_n 2, 1) := by decide +kernel
theorem dX10_odds_86 : decode cX10_odds 86 = .ok (.iload_n 3, 1) := by decide +kernel
theorem dX10_odds_87 : decode cX10_odds 87 = .ok (.invokevirtual 125, 3) := by decide +kernel
theorem dX10_odds_90 : decode cX10_odds 90 = .ok (.istore 6, 2) := by decide +kernel
theorem dX10_odds_92 : decode cX10_odds 92 = .ok (.iload 4, 2) := by decide +kernel
theorem dX10_odds_94 : decode cX10_odds 94 = .ok (.lookupswitch 32 #[(0, 26), (1, 29)], 26) := by decide +kernel
theorem dX10_odds_120 : decode cX10_odds 120 = .ok (.iload 5, 2) := by decide +kernel
theorem dX10_odds_122 : decode cX10_odds 122 = .ok (.ireturn, 1) := by decide +kernel
theorem dX10_odds_123 : decode cX10_odds 123 = .ok (.iload 6, 2) := by decide +kernel
theorem dX10_odds_125 : decode cX10_odds 125 = .ok (.ireturn, 1) := by decide +kernel
theorem dX10_odds_126 : decode cX10_odds 126 = .ok (.bipush 40, 2) := by decide +kernel
theorem dX10_odds_128 : decode cX10_odds 128 = .ok (.iload 5, 2) := by decide +kernel
theorem dX10_odds_130 : decode cX10_odds 130 = .ok (.isub, 1) := by decide +kernel
theorem dX10_odds_131 : decode cX10_odds 131 = .ok (.iload 6, 2) := by decide +kernel
theorem dX10_odds_133 : decode cX10_odds 133 = .ok (.isub, 1) := by decide +kernel
theorem dX10_odds_134 : decode cX10_odds 134 = .ok (.ireturn, 1) := by decide +kernel
set_option maxRecDepth 20000 in
theorem ggX10_throwIt_X10_isBall : GoodIn wsX10_throwIt wsX10_isBall := goodIn_r _ [5] (by decide +kernel) (by decide +kernel)
set_option maxRecDepth 20000 in
theorem gX10_throwIt_X10_isBall : GoodIn wsX10_throwIt (va_wsS RX10 99 yX10_isBall wsX10_isBall) := goodIn_app (goodIn_of _ (by decide +kernel)) ggX10_throwIt_X10_isBall
set_option maxRecDepth 20000 in
theorem ggX10_throwIt_X1_isPlayer : GoodIn wsX10_throwIt wsX1_isPlayer := goodIn_r _ [10, 11, 12, 120, 121, 122, 123, 124, 125, 126, 127] (by decide +kernel) (by decide +kernel)
set_option maxRecDepth 20000 in
theorem gX10_throwIt_X1_isPlayer : GoodIn wsX10_throwIt (wsV RX10 74 RX1 yX1_isPlayer wsX1_isPlayer) := goodIn_app (goodIn_of _ (by decide +kernel)) ggX10_throwIt_X1_isPlayer
set_option maxRecDepth 20000 in
theorem ggX10_throwIt_X10_refused : GoodIn wsX10_throwIt wsX10_refused := goodIn_r _ [16, 17, 110, 111, 112, 113, 114, 115, 116, 117, 118, 119] (by decide +kernel) (by decide +kernel)
set_option maxRecDepth 20000 in
theorem gX10_throwIt_X10_refused : GoodIn wsX10_throwIt (wsV RX10 43 RX10 yX10_refused wsX10_refused) := goodIn_app (goodIn_of _ (by decide +kernel)) ggX10_throwIt_X10_refused
set_option maxRecDepth 20000 in
theorem ggX10_throwIt_X10_isHow : GoodIn wsX10_throwIt wsX10_isHow := goodIn_r _ [20] (by decide +kernel) (by decide +kernel)
set_option maxRecDepth 20000 in
theorem gX10_throwIt_X10_isHow : GoodIn wsX10_throwIt (va_wsS RX10 111 yX10_isHow wsX10_isHow) := goodIn_app (goodIn_of _ (by decide +kernel)) ggX10_throwIt_X10_isHow
set_option maxRecDepth 20000 in
theorem ggX10_throwIt_X10_isEnd : GoodIn wsX10_throwIt wsX10_isEnd := goodIn_r _ [23] (by decide +kernel) (by decide +kernel)
set_option maxRecDepth 20000 in
theorem gX10_throwIt_X10_isEnd : GoodIn wsX10_throwIt (va_wsS RX10 114 yX10_isEnd wsX10_isEnd) := goodIn_app (goodIn_of _ (by decide +kernel)) ggX10_throwIt_X10_isEnd
set_option maxRecDepth 20000 in
theorem ggX10_throwIt_X1_canThrow : GoodIn wsX10_throwIt wsX1_canThrow := goodIn_r _ [27, 28, 29, 30, 9, 31, 32, 3, 4, 5, 33, 34, 35, 36, 37, 38, 39, 40, 41, 7, 8, 10, 11, 12, 42, 43, 44, 45, 46, 47, 48, 49, 50, 51, 120, 121, 122, 123, 124, 125, 126, 127, 128, 129, 130, 131, 132, 133, 134, 135, 136, 137, 138, 139, 140, 141, 142, 143, 144, 145, 146, 147, 148, 149, 150, 151, 152, 153, 154] (by decide +kernel) (by decide +kernel)
set_option maxRecDepth 20000 in
theorem gX10_throwIt_X1_canThrow : GoodIn wsX10_throwIt (wsV RX10 129 RX1 yX1_canThrow wsX1_canThrow) := goodIn_app (goodIn_of _ (by decide +kernel)) ggX10_throwIt_X1_canThrow
set_option maxRecDepth 20000 in
theorem ggX10_throwIt_X1_endThrow : GoodIn wsX10_throwIt wsX1_endThrow := goodIn_r _ [55, 28, 29, 30, 9, 31, 32, 3, 4, 5, 48, 49, 50, 51, 12, 41, 7, 8, 10, 11, 56, 57, 58, 59, 60, 61, 62, 63, 64, 65, 37, 38, 39, 40, 42, 43, 44, 45, 46, 47, 66, 67, 68, 69, 70, 71, 72, 73, 74, 75, 76, 77, 78, 79, 80, 81, 82, 83, 84, 85, 86, 87, 88, 89, 90, 91, 92, 93, 94, 95, 96, 97, 98, 99, 100, 101, 102, 103, 104, 105, 106, 107, 108, 109, 120, 121, 122, 123, 124, 125, 126, 127, 131, 132, 133, 134, 135, 136, 137, 138, 139, 140, 141, 142, 143, 144, 145, 146, 147, 148, 149, 150, 151, 152, 153, 154, 128, 129, 130] (by decide +kernel) (by decide +kernel)
set_option maxRecDepth 20000 in
theorem gX10_throwIt_X1_endThrow : GoodIn wsX10_throwIt (wsV RX10 135 RX1 yX1_endThrow wsX1_endThrow) := goodIn_app (goodIn_of _ (by decide +kernel)) ggX10_throwIt_X1_endThrow
theorem dX10_throwIt_0 : decode cX10_throwIt 0 = .ok (.iload_n 1, 1) := by decide +kernel
theorem dX10_throwIt_1 : decode cX10_throwIt 1 = .ok (.invokestatic 99, 3) := by decide +kernel
theorem dX10_throwIt_4 : decode cX10_throwIt 4 = .ok (.ifCond .eq 14, 3) := by decide +kernel
theorem dX10_throwIt_7 : decode cX10_throwIt 7 = .ok (.aload_n 0, 1) := by decide +kernel
theorem dX10_throwIt_8 : decode cX10_throwIt 8 = .ok (.getfield 19, 3) := by decide +kernel
theorem dX10_throwIt_11 : decode cX10_throwIt 11 = .ok (.iload_n 2, 1) := by decide +kernel
theorem dX10_throwIt_12 : decode cX10_throwIt 12 = .ok (.invokevirtual 74, 3) := by decide +kernel
theorem dX10_throwIt_15 : decode cX10_throwIt 15 = .ok (.ifCond .ne 9, 3) := by decide +kernel
theorem dX10_throwIt_18 : decode cX10_throwIt 18 = .ok (.aload_n 0, 1) := by decide +kernel
theorem dX10_throwIt_19 : decode cX10_throwIt 19 = .ok (.iconst (-1), 1) := by decide +kernel
theorem dX10_throwIt_20 : decode cX10_throwIt 20 = .ok (.invokevirtual 43, 3) := by decide +kernel
theorem dX10_throwIt_23 : decode cX10_throwIt 23 = .ok (.ireturn, 1) := by decide +kernel
theorem dX10_throwIt_24 : decode cX10_throwIt 24 = .ok (.iload_n 3, 1) := by decide +kernel
theorem dX10_throwIt_25 : decode cX10_throwIt 25 = .ok (.invokestatic 111, 3) := by decide +kernel
theorem dX10_throwIt_28 : decode cX10_throwIt 28 = .ok (.ifCond .eq 11, 3) := by decide +kernel
theorem dX10_throwIt_31 : decode cX10_throwIt 31 = .ok (.iload 4, 2) := by decide +kernel
theorem dX10_throwIt_33 : decode cX10_throwIt 33 = .ok (.invokestatic 114, 3) := by decide +kernel
theorem dX10_throwIt_36 : decode cX10_throwIt 36 = .ok (.ifCond .ne 10, 3) := by decide +kernel
theorem dX10_throwIt_39 : decode cX10_throwIt 39 = .ok (.aload_n 0, 1) := by decide +kernel
theorem dX10_throwIt_40 : decode cX10_throwIt 40 = .ok (.bipush (-2), 2) := by decide +kernel
theorem dX10_throwIt_42 : decode cX10_throwIt 42 = .ok (.invokevirtual 43, 3) := by decide +kernel
theorem dX10_throwIt_45 : decode cX10_throwIt 45 = .ok (.ireturn, 1) := by decide +kernel
theorem dX10_throwIt_46 : decode cX10_throwIt 46 = .ok (.aload_n 0, 1) := by decide +kernel
theorem dX10_throwIt_47 : decode cX10_throwIt 47 = .ok (.getfield 19, 3) := by decide +kernel
theorem dX10_throwIt_50 : decode cX10_throwIt 50 = .ok (.iload_n 1, 1) := by decide +kernel
theorem dX10_throwIt_51 : decode cX10_throwIt 51 = .ok (.iload_n 2, 1) := by decide +kernel
theorem dX10_throwIt_52 : decode cX10_throwIt 52 = .ok (.invokevirtual 129, 3) := by decide +kernel
theorem dX10_throwIt_55 : decode cX10_throwIt 55 = .ok (.ifCond .ne 10, 3) := by decide +kernel
theorem dX10_throwIt_58 : decode cX10_throwIt 58 = .ok (.aload_n 0, 1) := by decide +kernel
theorem dX10_throwIt_59 : decode cX10_throwIt 59 = .ok (.bipush (-3), 2) := by decide +kernel
theorem dX10_throwIt_61 : decode cX10_throwIt 61 = .ok (.invokevirtual 43, 3) := by decide +kernel
theorem dX10_throwIt_64 : decode cX10_throwIt 64 = .ok (.ireturn, 1) := by decide +kernel
theorem dX10_throwIt_65 : decode cX10_throwIt 65 = .ok (.aload_n 0, 1) := by decide +kernel
theorem dX10_throwIt_66 : decode cX10_throwIt 66 = .ok (.getfield 19, 3) := by decide +kernel
theorem dX10_throwIt_69 : decode cX10_throwIt 69 = .ok (.getfield 132, 3) := by decide +kernel
theorem dX10_throwIt_72 : decode cX10_throwIt 72 = .ok (.sipush 9999, 3) := by decide +kernel
theorem dX10_throwIt_75 : decode cX10_throwIt 75 = .ok (.if_icmp .lt 10, 3) := by decide +kernel
theorem dX10_throwIt_78 : decode cX10_throwIt 78 = .ok (.aload_n 0, 1) := by decide +kernel
theorem dX10_throwIt_79 : decode cX10_throwIt 79 = .ok (.bipush (-6), 2) := by decide +kernel
theorem dX10_throwIt_81 : decode cX10_throwIt 81 = .ok (.invokevirtual 43, 3) := by decide +kernel
theorem dX10_throwIt_84 : decode cX10_throwIt 84 = .ok (.ireturn, 1) := by decide +kernel
theorem dX10_throwIt_85 : decode cX10_throwIt 85 = .ok (.aload_n 0, 1) := by decide +kernel
theorem dX10_throwIt_86 : decode cX10_throwIt 86 = .ok (.getfield 19, 3) := by decide +kernel
theorem dX10_throwIt_89 : decode cX10_throwIt 89 = .ok (.iload_n 1, 1) := by decide +kernel
theorem dX10_throwIt_90 : decode cX10_throwIt 90 = .ok (.iload_n 2, 1) := by decide +kernel
theorem dX10_throwIt_91 : decode cX10_throwIt 91 = .ok (.iload 4, 2) := by decide +kernel
theorem dX10_throwIt_93 : decode cX10_throwIt 93 = .ok (.invokevirtual 135, 3) := by decide +kernel
theorem dX10_throwIt_96 : decode cX10_throwIt 96 = .ok (.aload_n 0, 1) := by decide +kernel
theorem dX10_throwIt_97 : decode cX10_throwIt 97 = .ok (.getfield 19, 3) := by decide +kernel
theorem dX10_throwIt_100 : decode cX10_throwIt 100 = .ok (.getfield 132, 3) := by decide +kernel
theorem dX10_throwIt_103 : decode cX10_throwIt 103 = .ok (.ireturn, 1) := by decide +kernel
set_option maxRecDepth 20000 in
theorem ggX10_take_X1_isPlayer : GoodIn wsX10_take wsX1_isPlayer := goodIn_r _ [6, 7, 8, 82, 83, 84, 85, 86, 87, 88, 89] (by decide +kernel) (by decide +kernel)
set_option maxRecDepth 20000 in
theorem gX10_take_X1_isPlayer : GoodIn wsX10_take (wsV RX10 74 RX1 yX1_isPlayer wsX1_isPlayer) := goodIn_app (goodIn_of _ (by decide +kernel)) ggX10_take_X1_isPlayer
set_option maxRecDepth 20000 in
theorem ggX10_take_X10_isBall : GoodIn wsX10_take wsX10_isBall := goodIn_r _ [12] (by decide +kernel) (by decide +kernel)
set_option maxRecDepth 20000 in
theorem gX10_take_X10_isBall : GoodIn wsX10_take (va_wsS RX10 99 yX10_isBall wsX10_isBall) := goodIn_app (goodIn_of _ (by decide +kernel)) ggX10_take_X10_isBall
set_option maxRecDepth 20000 in
theorem ggX10_take_X10_refused : GoodIn wsX10_take wsX10_refused := goodIn_r _ [16, 17, 72, 73, 74, 75, 76, 77, 78, 79, 80, 81] (by decide +kernel) (by decide +kernel)
set_option maxRecDepth 20000 in
theorem gX10_take_X10_refused : GoodIn wsX10_take (wsV RX10 43 RX10 yX10_refused wsX10_refused) := goodIn_app (goodIn_of _ (by decide +kernel)) ggX10_take_X10_refused
set_option maxRecDepth 20000 in
theorem ggX10_take_X1_canTake : GoodIn wsX10_take wsX1_canTake := goodIn_r _ [21, 22, 23, 24, 5, 25, 26, 27, 28, 29, 30, 3, 4, 6, 7, 8, 31, 32, 33, 34, 35, 36, 37, 38, 39, 40, 41, 42, 43, 44, 45, 46, 47, 48, 49, 50, 51, 52, 53, 10, 11, 12, 54, 55, 56, 57, 82, 83, 84, 85, 86, 87, 88, 89, 90, 91, 92, 93, 94, 95, 96, 97, 98, 99, 100, 101, 102, 103, 104, 105, 106, 107, 108, 109, 110, 111, 112, 113, 114, 115, 116] (by decide +kernel) (by decide +kernel)
set_option maxRecDepth 20000 in
theorem gX10_take_X1_canTake : GoodIn wsX10_take (wsV RX10 139 RX1 yX1_canTake wsX1_canTake) := goodIn_app (goodIn_of _ (by decide +kernel)) ggX10_take_X1_canTake
set_option maxRecDepth 20000 in
theorem ggX10_take_X1_hold : GoodIn wsX10_take wsX1_hold := goodIn_r _ [61, 41, 53, 62, 10, 11, 12, 82, 83, 84, 85, 86, 87, 88, 89] (by decide +kernel) (by decide +kernel)
set_option maxRecDepth 20000 in
theorem gX10_take_X1_hold : GoodIn wsX10_take (wsV RX10 142 RX1 yX1_hold wsX1_hold) := goodIn_app (goodIn_of _ (by decide +kernel)) ggX10_take_X1_hold
set_option maxRecDepth 20000 in
theorem ggX10_take_X1_letTenthGoBy : GoodIn wsX10_take wsX1_letTenthGoBy := goodIn_r _ [66, 67, 41, 62, 54, 55, 56, 5, 57, 8, 30, 3, 4, 6, 7, 68, 69, 70, 71, 53, 10, 11, 12, 82, 83, 84, 85, 86, 87, 88, 89, 93, 94, 95, 96, 97, 98, 99, 100, 101, 102, 103, 104, 105, 106, 107, 108, 109, 110, 111, 112, 113, 114, 115, 116] (by decide +kernel) (by decide +kernel)
set_option maxRecDepth 20000 in
theorem gX10_take_X1_letTenthGoBy : GoodIn wsX10_take (wsV RX10 146 RX1 yX1_letTenthGoBy wsX1_letTenthGoBy) := goodIn_app (goodIn_of _ (by decide +kernel)) ggX10_take_X1_letTenthGoBy
theorem dX10_take_0 : decode cX10_take 0 = .ok (.aload_n 0, 1) := by decide +kernel
theorem dX10_take_1 : decode cX10_take 1 = .ok (.getfield 19, 3) := by decide +kernel
theorem dX10_take_4 : decode cX10_take 4 = .ok (.iload_n 1, 1) := by decide +kernel
theorem dX10_take_5 : decode cX10_take 5 = .ok (.invokevirtual 74, 3) := by decide +kernel
theorem dX10_take_8 : decode cX10_take 8 = .ok (.ifCond .eq 10, 3) := by decide +kernel
theorem dX10_take_11 : decode cX10_take 11 = .ok (.iload_n 2, 1) := by decide +kernel
theorem dX10_take_12 : decode cX10_take 12 = .ok (.invokestatic 99, 3) := by decide +kernel
theorem dX10_take_15 : decode cX10_take 15 = .ok (.ifCond .ne 9, 3) := by decide +kernel
theorem dX10_take_18 : decode cX10_take 18 = .ok (.aload_n 0, 1) := by decide +kernel
theorem dX10_take_19 : decode cX10_take 19 = .ok (.iconst (-1), 1) := by decide +kernel
theorem dX10_take_20 : decode cX10_take 20 = .ok (.invokevirtual 43, 3) := by decide +kernel
theorem dX10_take_23 : decode cX10_take 23 = .ok (.ireturn, 1) := by decide +kernel
theorem dX10_take_24 : decode cX10_take 24 = .ok (.aload_n 0, 1) := by decide +kernel
theorem dX10_take_25 : decode cX10_take 25 = .ok (.getfield 19, 3) := by decide +kernel
theorem dX10_take_28 : decode cX10_take 28 = .ok (.iload_n 1, 1) := by decide +kernel
theorem dX10_take_29 : decode cX10_take 29 = .ok (.iload_n 2, 1) := by decide +kernel
theorem dX10_take_30 : decode cX10_take 30 = .ok (.invokevirtual 139, 3) := by decide +kernel
theorem dX10_take_33 : decode cX10_take 33 = .ok (.ifCond .ne 10, 3) := by decide +kernel
theorem dX10_take_36 : decode cX10_take 36 = .ok (.aload_n 0, 1) := by decide +kernel
theorem dX10_take_37 : decode cX10_take 37 = .ok (.bipush (-3), 2) := by decide +kernel
theorem dX10_take_39 : decode cX10_take 39 = .ok (.invokevirtual 43, 3) := by decide +kernel
theorem dX10_take_42 : decode cX10_take 42 = .ok (.ireturn, 1) := by decide +kernel
theorem dX10_take_43 : decode cX10_take 43 = .ok (.aload_n 0, 1) := by decide +kernel
theorem dX10_take_44 : decode cX10_take 44 = .ok (.getfield 19, 3) := by decide +kernel
theorem dX10_take_47 : decode cX10_take 47 = .ok (.getfield 132, 3) := by decide +kernel
theorem dX10_take_50 : decode cX10_take 50 = .ok (.sipush 9999, 3) := by decide +kernel
theorem dX10_take_53 : decode cX10_take 53 = .ok (.if_icmp .lt 10, 3) := by decide +kernel
theorem dX10_take_56 : decode cX10_take 56 = .ok (.aload_n 0, 1) := by decide +kernel
theorem dX10_take_57 : decode cX10_take 57 = .ok (.bipush (-6), 2) := by decide +kernel
theorem dX10_take_59 : decode cX10_take 59 = .ok (.invokevirtual 43, 3) := by decide +kernel
theorem dX10_take_62 : decode cX10_take 62 = .ok (.ireturn, 1) := by decide +kernel
theorem dX10_take_63 : decode cX10_take 63 = .ok (.aload_n 0, 1) := by decide +kernel
theorem dX10_take_64 : decode cX10_take 64 = .ok (.getfield 19, 3) := by decide +kernel
theorem dX10_take_67 : decode cX10_take 67 = .ok (.iload_n 2, 1) := by decide +kernel
theorem dX10_take_68 : decode cX10_take 68 = .ok (.iload_n 1, 1) := by decide +kernel
theorem dX10_take_69 : decode cX10_take 69 = .ok (.invokevirtual 142, 3) := by decide +kernel
theorem dX10_take_72 : decode cX10_take 72 = .ok (.aload_n 0, 1) := by decide +kernel
theorem dX10_take_73 : decode cX10_take 73 = .ok (.getfield 19, 3) := by decide +kernel
theorem dX10_take_76 : decode cX10_take 76 = .ok (.invokevirtual 146, 3) := by decide +kernel
theorem dX10_take_79 : decode cX10_take 79 = .ok (.aload_n 0, 1) := by decide +kernel
theorem dX10_take_80 : decode cX10_take 80 = .ok (.getfield 19, 3) := by decide +kernel
theorem dX10_take_83 : decode cX10_take 83 = .ok (.getfield 132, 3) := by decide +kernel
theorem dX10_take_86 : decode cX10_take 86 = .ok (.ireturn, 1) := by decide +kernel
set_option maxRecDepth 20000 in
theorem ggX10_pass_X10_refused : GoodIn wsX10_pass wsX10_refused := goodIn_r _ [6, 7, 33, 34, 35, 36, 37, 38, 39, 40, 41, 42] (by decide +kernel) (by decide +kernel)
set_option maxRecDepth 20000 in
theorem gX10_pass_X10_refused : GoodIn wsX10_pass (wsV RX10 43 RX10 yX10_refused wsX10_refused) := goodIn_app (goodIn_of _ (by decide +kernel)) ggX10_pass_X10_refused
set_option maxRecDepth 20000 in
theorem ggX10_pass_X1_letTenthGoBy : GoodIn wsX10_pass wsX1_letTenthGoBy := goodIn_r _ [12, 13, 14, 15, 16, 17, 18, 11, 19, 20, 21, 22, 23, 24, 25, 26, 27, 28, 29, 30, 31, 5, 32, 43, 44, 45, 46, 47, 48, 49, 50, 51, 52, 53, 54, 55, 56, 57, 58, 59, 60, 61, 62, 63, 64, 65, 66, 67, 68, 69, 70, 71, 72, 73, 74] (by decide +kernel) (by decide +kernel)
set_option maxRecDepth 20000 in
theorem gX10_pass_X1_letTenthGoBy : GoodIn wsX10_pass (wsV RX10 146 RX1 yX1_letTenthGoBy wsX1_letTenthGoBy) := goodIn_app (goodIn_of _ (by decide +kernel)) ggX10_pass_X1_letTenthGoBy
theorem dX10_pass_0 : decode cX10_pass 0 = .ok (.iload_n 1, 1) := by decide +kernel
theorem dX10_pass_1 : decode cX10_pass 1 = .ok (.iconst 1, 1) := by decide +kernel
theorem dX10_pass_2 : decode cX10_pass 2 = .ok (.if_icmp .ge 10, 3) := by decide +kernel
theorem dX10_pass_5 : decode cX10_pass 5 = .ok (.aload_n 0, 1) := by decide +kernel
theorem dX10_pass_6 : decode cX10_pass 6 = .ok (.bipush (-4), 2) := by decide +kernel
theorem dX10_pass_8 : decode cX10_pass 8 = .ok (.invokevirtual 43, 3) := by decide +kernel
theorem dX10_pass_11 : decode cX10_pass 11 = .ok (.ireturn, 1) := by decide +kernel
theorem dX10_pass_12 : decode cX10_pass 12 = .ok (.iload_n 1, 1) := by decide +kernel
theorem dX10_pass_13 : decode cX10_pass 13 = .ok (.bipush 50, 2) := by decide +kernel
theorem dX10_pass_15 : decode cX10_pass 15 = .ok (.if_icmp .gt 18, 3) := by decide +kernel
theorem dX10_pass_18 : decode cX10_pass 18 = .ok (.aload_n 0, 1) := by decide +kernel
theorem dX10_pass_19 : decode cX10_pass 19 = .ok (.getfield 19, 3) := by decide +kernel
theorem dX10_pass_22 : decode cX10_pass 22 = .ok (.getfield 132, 3) := by decide +kernel
theorem dX10_pass_25 : decode cX10_pass 25 = .ok (.iload_n 1, 1) := by decide +kernel
theorem dX10_pass_26 : decode cX10_pass 26 = .ok (.iadd, 1) := by decide +kernel
theorem dX10_pass_27 : decode cX10_pass 27 = .ok (.sipush 9999, 3) := by decide +kernel
theorem dX10_pass_30 : decode cX10_pass 30 = .ok (.if_icmp .le 10, 3) := by decide +kernel
theorem dX10_pass_33 : decode cX10_pass 33 = .ok (.aload_n 0, 1) := by decide +kernel
theorem dX10_pass_34 : decode cX10_pass 34 = .ok (.bipush (-6), 2) := by decide +kernel
theorem dX10_pass_36 : decode cX10_pass 36 = .ok (.invokevirtual 43, 3) := by decide +kernel
theorem dX10_pass_39 : decode cX10_pass 39 = .ok (.ireturn, 1) := by decide +kernel
theorem dX10_pass_40 : decode cX10_pass 40 = .ok (.iconst 0, 1) := by decide +kernel
theorem dX10_pass_41 : decode cX10_pass 41 = .ok (.istore_n 2, 1) := by decide +kernel
theorem dX10_pass_42 : decode cX10_pass 42 = .ok (.iload_n 2, 1) := by decide +kernel
theorem dX10_pass_43 : decode cX10_pass 43 = .ok (.iload_n 1, 1) := by decide +kernel
theorem dX10_pass_44 : decode cX10_pass 44 = .ok (.if_icmp .ge 16, 3) := by decide +kernel
theorem dX10_pass_47 : decode cX10_pass 47 = .ok (.aload_n 0, 1) := by decide +kernel
theorem dX10_pass_48 : decode cX10_pass 48 = .ok (.getfield 19, 3) := by decide +kernel
theorem dX10_pass_51 : decode cX10_pass 51 = .ok (.invokevirtual 146, 3) := by decide +kernel
theorem dX10_pass_54 : decode cX10_pass 54 = .ok (.iinc 2 1, 3) := by decide +kernel
theorem dX10_pass_57 : decode cX10_pass 57 = .ok (.goto (-15), 3) := by decide +kernel
theorem dX10_pass_60 : decode cX10_pass 60 = .ok (.aload_n 0, 1) := by decide +kernel
theorem dX10_pass_61 : decode cX10_pass 61 = .ok (.getfield 19, 3) := by decide +kernel
theorem dX10_pass_64 : decode cX10_pass 64 = .ok (.getfield 132, 3) := by decide +kernel
theorem dX10_pass_67 : decode cX10_pass 67 = .ok (.ireturn, 1) := by decide +kernel
set_option maxRecDepth 20000 in
theorem ggX10_best_X1_isPlayer : GoodIn wsX10_best wsX1_isPlayer := goodIn_r _ [7, 8, 9, 162, 163, 164, 165, 166, 167, 168, 169] (by decide +kernel) (by decide +kernel)
set_option maxRecDepth 20000 in
theorem gX10_best_X1_isPlayer : GoodIn wsX10_best (wsV RX10 74 RX1 yX1_isPlayer wsX1_isPlayer) := goodIn_app (goodIn_of _ (by decide +kernel)) ggX10_best_X1_isPlayer
set_option maxRecDepth 20000 in
theorem ggX10_best_X10_refused : GoodIn wsX10_best wsX10_refused := goodIn_r _ [14, 15, 152, 153, 154, 155, 156, 157, 158, 159, 160, 161] (by decide +kernel) (by decide +kernel)
set_option maxRecDepth 20000 in
theorem gX10_best_X10_refused : GoodIn wsX10_best (wsV RX10 43 RX10 yX10_refused wsX10_refused) := goodIn_app (goodIn_of _ (by decide +kernel)) ggX10_best_X10_refused
set_option maxRecDepth 20000 in
theorem ggX10_best_X1_ballsOf : GoodIn wsX10_best wsX1_ballsOf := goodIn_r _ [19, 20, 21, 4, 5, 6, 7, 8, 9, 162, 163, 164, 165, 166, 167, 168, 169] (by decide +kernel) (by decide +kernel)
set_option maxRecDepth 20000 in
theorem gX10_best_X1_ballsOf : GoodIn wsX10_best (wsV RX10 87 RX1 yX1_ballsOf wsX1_ballsOf) := goodIn_app (goodIn_of _ (by decide +kernel)) ggX10_best_X1_ballsOf
set_option maxRecDepth 20000 in
theorem ggX10_best_X10_bestThrow : GoodIn wsX10_best wsX10_bestThrow := goodIn_r _ [25, 1, 26, 27, 28, 6, 29, 30, 31, 32, 33, 21, 4, 5, 7, 8, 9, 34, 35, 36, 37, 38, 39, 40, 41, 42, 43, 44, 45, 46, 47, 48, 49, 50, 51, 52, 53, 54, 55, 56, 57, 58, 59, 60, 61, 62, 63, 64, 65, 66, 67, 68, 69, 70, 71, 72, 73, 74, 75, 76, 77, 78, 79, 80, 81, 82, 83, 84, 17, 18, 19, 20, 85, 86, 87, 88, 89, 90, 91, 92, 93, 94, 95, 96, 97, 98, 99, 100, 101, 102, 103, 104, 105, 106, 107, 108, 109, 13, 110, 111, 112, 113, 114, 115, 116, 117, 118, 119, 120, 121, 122, 123, 124, 125, 126, 127, 128, 129, 130, 131, 132, 133, 134, 135, 136, 137, 138, 139, 140, 141, 142, 143, 144, 145, 146, 147, 148, 149, 150, 151, 152, 153, 154, 155, 156, 157, 158, 159, 160, 161, 162, 163, 164, 165, 166, 167, 168, 169, 170, 171, 172, 173, 174, 175, 176, 177, 178, 179, 180, 181, 182, 183, 184, 185, 186, 187, 188, 189, 190, 191, 192, 193, 194, 195, 196] (by decide +kernel) (by decide +kernel)
set_option maxRecDepth 20000 in
theorem gX10_best_X10_bestThrow : GoodIn wsX10_best (wsV RX10 150 RX10 yX10_bestThrow wsX10_bestThrow) := goodIn_app (goodIn_of _ (by decide +kernel)) ggX10_best_X10_bestThrow
set_option maxRecDepth 20000 in
theorem ggX10_best_X1_gainOf : GoodIn wsX10_best wsX1_gainOf := goodIn_r _ [47, 48, 49, 50, 6, 51, 52, 53, 54, 55, 9, 56, 21, 4, 5, 7, 8, 57, 58, 59, 60, 61, 62, 63, 64, 65, 66, 67, 68, 69, 70, 71, 72, 73, 74, 75, 76, 77, 78, 79, 80, 81, 82, 83, 84, 17, 18, 19, 20, 85, 86, 87, 88, 89, 90, 91, 92, 93, 94, 95, 96, 97, 98, 99, 100, 101, 102, 103, 104, 105, 106, 107, 108, 109, 13, 110, 111, 112, 113, 114, 115, 116, 117, 118, 119, 120, 121, 122, 123, 124, 125, 126, 127, 128, 38, 39, 129, 130, 131, 132, 133, 134, 135, 136, 137, 138, 139, 140, 141, 142, 143, 144, 145, 146, 147, 148, 149, 150, 151, 162, 163, 164, 165, 166, 167, 168, 169, 173, 174, 175, 176, 177, 178, 179, 180, 181, 182, 183, 184, 185, 186, 187, 188, 189, 190, 191, 192, 193, 194, 195, 196, 170, 171, 172] (by decide +kernel) (by decide +kernel)
set_option maxRecDepth 20000 in
theorem gX10_best_X1_gainOf : GoodIn wsX10_best (wsV RX10 153 RX1 yX1_gainOf wsX1_gainOf) := goodIn_app (goodIn_of _ (by decide +kernel)) ggX10_best_X1_gainOf
theorem dX10_best_0 : decode cX10_best 0 = .ok (.aload_n 0, 1) := by decide +kernel
theorem dX10_best_1 : decode cX10_best 1 = .ok (.getfield 19, 3) := by decide +kernel
theorem dX10_best_4 : decode cX10_best 4 = .ok (.iload_n 1, 1) := by decide +kernel
theorem dX10_best_5 : decode cX10_best 5 = .ok (.invokevirtual 74, 3) := by decide +kernel
theorem dX10_best_8 : decode cX10_best 8 = .ok (.ifCond .ne 12, 3) := by decide +kernel
theorem dX10_best_11 : decode cX10_best 11 = .ok (.ldc 149, 2) := by decide +kernel
theorem dX10_best_13 : decode cX10_best 13 = .ok (.aload_n 0, 1) := by decide +kernel
theorem dX10_best_14 : decode cX10_best 14 = .ok (.iconst (-1), 1) := by decide +kernel
theorem dX10_best_15 : decode cX10_best 15 = .ok (.invokevirtual 43, 3) := by decide +kernel
theorem dX10_best_18 : decode cX10_best 18 = .ok (.isub, 1) := by decide +kernel
theorem dX10_best_19 : decode cX10_best 19 = .ok (.ireturn, 1) := by decide +kernel
theorem dX10_best_20 : decode cX10_best 20 = .ok (.iload_n 2, 1) := by decide +kernel
theorem dX10_best_21 : decode cX10_best 21 = .ok (.ifCond .eq 18, 3) := by decide +kernel
theorem dX10_best_24 : decode cX10_best 24 = .ok (.iload_n 2, 1) := by decide +kernel
theorem dX10_best_25 : decode cX10_best 25 = .ok (.iconst 1, 1) := by decide +kernel
theorem dX10_best_26 : decode cX10_best 26 = .ok (.if_icmp .eq 13, 3) := by decide +kernel
theorem dX10_best_29 : decode cX10_best 29 = .ok (.ldc 149, 2) := by decide +kernel
theorem dX10_best_31 : decode cX10_best 31 = .ok (.aload_n 0, 1) := by decide +kernel
theorem dX10_best_32 : decode cX10_best 32 = .ok (.bipush (-2), 2) := by decide +kernel
theorem dX10_best_34 : decode cX10_best 34 = .ok (.invokevirtual 43, 3) := by decide +kernel
theorem dX10_best_37 : decode cX10_best 37 = .ok (.isub, 1) := by decide +kernel
theorem dX10_best_38 : decode cX10_best 38 = .ok (.ireturn, 1) := by decide +kernel
theorem dX10_best_39 : decode cX10_best 39 = .ok (.aload_n 0, 1) := by decide +kernel
theorem dX10_best_40 : decode cX10_best 40 = .ok (.getfield 19, 3) := by decide +kernel
theorem dX10_best_43 : decode cX10_best 43 = .ok (.iload_n 1, 1) := by decide +kernel
theorem dX10_best_44 : decode cX10_best 44 = .ok (.invokevirtual 87, 3) := by decide +kernel
theorem dX10_best_47 : decode cX10_best 47 = .ok (.ifCond .ne 13, 3) := by decide +kernel
theorem dX10_best_50 : decode cX10_best 50 = .ok (.ldc 149, 2) := by decide +kernel
theorem dX10_best_52 : decode cX10_best 52 = .ok (.aload_n 0, 1) := by decide +kernel
theorem dX10_best_53 : decode cX10_best 53 = .ok (.bipush (-3), 2) := by decide +kernel
theorem dX10_best_55 : decode cX10_best 55 = .ok (.invokevirtual 43, 3) := by decide +kernel
theorem dX10_best_58 : decode cX10_best 58 = .ok (.isub, 1) := by decide +kernel
theorem dX10_best_59 : decode cX10_best 59 = .ok (.ireturn, 1) := by decide +kernel
theorem dX10_best_60 : decode cX10_best 60 = .ok (.aload_n 0, 1) := by decide +kernel
theorem dX10_best_61 : decode cX10_best 61 = .ok (.iload_n 1, 1) := by decide +kernel
theorem dX10_best_62 : decode cX10_best 62 = .ok (.invokevirtual 150, 3) := by decide +kernel
theorem dX10_best_65 : decode cX10_best 65 = .ok (.istore_n 3, 1) := by decide +kernel
theorem dX10_best_66 : decode cX10_best 66 = .ok (.iload_n 3, 1) := by decide +kernel
theorem dX10_best_67 : decode cX10_best 67 = .ok (.bipush (-9), 2) := by decide +kernel
theorem dX10_best_69 : decode cX10_best 69 = .ok (.if_icmp .eq 7, 3) := by decide +kernel
theorem dX10_best_72 : decode cX10_best 72 = .ok (.iload_n 2, 1) := by decide +kernel
theorem dX10_best_73 : decode cX10_best 73 = .ok (.ifCond .ne 5, 3) := by decide +kernel
theorem dX10_best_76 : decode cX10_best 76 = .ok (.iload_n 3, 1) := by decide +kernel
theorem dX10_best_77 : decode cX10_best 77 = .ok (.ireturn, 1) := by decide +kernel
theorem dX10_best_78 : decode cX10_best 78 = .ok (.aload_n 0, 1) := by decide +kernel
theorem dX10_best_79 : decode cX10_best 79 = .ok (.getfield 19, 3) := by decide +kernel
theorem dX10_best_82 : decode cX10_best 82 = .ok (.iload_n 1, 1) := by decide +kernel
theorem dX10_best_83 : decode cX10_best 83 = .ok (.iload_n 3, 1) := by decide +kernel
theorem dX10_best_84 : decode cX10_best 84 = .ok (.bipush 10, 2) := by decide +kernel
theorem dX10_best_86 : decode cX10_best 86 = .ok (.idiv, 1) := by decide +kernel
theorem dX10_best_87 : decode cX10_best 87 = .ok (.iload_n 3, 1) := by decide +kernel
theorem dX10_best_88 : decode cX10_best 88 = .ok (.bipush 10, 2) := by decide +kernel
theorem dX10_best_90 : decode cX10_best 90 = .ok (.irem, 1) := by decide +kernel
theorem dX10_best_91 : decode cX10_best 91 = .ok (.invokevirtual 153, 3) := by decide +kernel
theorem dX10_best_94 : decode cX10_best 94 = .ok (.ireturn, 1) := by decide +kernel
set_option maxRecDepth 20000 in
theorem ggX10_two_X1_isPlayer : GoodIn wsX10_two wsX1_isPlayer := goodIn_r _ [6, 7, 8, 125, 126, 127, 128, 129, 130, 131, 132] (by decide +kernel) (by decide +kernel)
set_option maxRecDepth 20000 in
theorem gX10_two_X1_isPlayer : GoodIn wsX10_two (wsV RX10 74 RX1 yX1_isPlayer wsX1_isPlayer) := goodIn_app (goodIn_of _ (by decide +kernel)) ggX10_two_X1_isPlayer
set_option maxRecDepth 20000 in
theorem ggX10_two_X10_isOneTwice : GoodIn wsX10_two wsX10_isOneTwice := goodIn_r _ [12] (by decide +kernel) (by decide +kernel)
set_option maxRecDepth 20000 in
theorem gX10_two_X10_isOneTwice : GoodIn wsX10_two (va_wsS RX10 156 yX10_isOneTwice wsX10_isOneTwice) := goodIn_app (goodIn_of _ (by decide +kernel)) ggX10_two_X10_isOneTwice
set_option maxRecDepth 20000 in
theorem ggX10_two_X10_refused : GoodIn wsX10_two wsX10_refused := goodIn_r _ [16, 17, 115, 116, 117, 118, 119, 120, 121, 122, 123, 124] (by decide +kernel) (by decide +kernel)
set_option maxRecDepth 20000 in
theorem gX10_two_X10_refused : GoodIn wsX10_two (wsV RX10 43 RX10 yX10_refused wsX10_refused) := goodIn_app (goodIn_of _ (by decide +kernel)) ggX10_two_X10_refused
set_option maxRecDepth 20000 in
theorem ggX10_two_X10_isHow : GoodIn wsX10_two wsX10_isHow := goodIn_r _ [20] (by decide +kernel) (by decide +kernel)
set_option maxRecDepth 20000 in
theorem gX10_two_X10_isHow : GoodIn wsX10_two (va_wsS RX10 111 yX10_isHow wsX10_isHow) := goodIn_app (goodIn_of _ (by decide +kernel)) ggX10_two_X10_isHow
set_option maxRecDepth 20000 in
theorem ggX10_two_X1_couldThrowAt : GoodIn wsX10_two wsX1_couldThrowAt := goodIn_r _ [24, 25, 26, 27, 5, 28, 29, 30, 31, 32, 33, 3, 4, 6, 7, 8, 34, 35, 36, 37, 38, 39, 40, 41, 42, 43, 44, 45, 46, 47, 48, 125, 126, 127, 128, 129, 130, 131, 132, 133, 134, 135, 136, 137, 138, 139, 140, 141, 142, 143, 144, 145, 146, 147, 148, 149, 150, 151, 152, 153, 154, 155, 156, 157, 158, 159] (by decide +kernel) (by decide +kernel)
set_option maxRecDepth 20000 in
theorem gX10_two_X1_couldThrowAt : GoodIn wsX10_two (wsV RX10 160 RX1 yX1_couldThrowAt wsX1_couldThrowAt) := goodIn_app (goodIn_of _ (by decide +kernel)) ggX10_two_X1_couldThrowAt
set_option maxRecDepth 20000 in
theorem ggX10_two_X1_hitOf : GoodIn wsX10_two wsX1_hitOf := goodIn_r _ [52, 53, 54, 55, 5, 56, 8, 57, 33, 3, 4, 6, 7, 58, 59, 60, 61, 62, 63, 64, 65, 66, 67, 68, 69, 70, 71, 72, 73, 74, 75, 76, 77, 78, 79, 80, 81, 82, 83, 84, 44, 45, 46, 47, 48, 85, 86, 87, 88, 89, 90, 91, 92, 93, 94, 95, 96, 97, 98, 99, 100, 101, 102, 103, 104, 105, 106, 107, 108, 19, 11, 20, 109, 110, 111, 112, 113, 114, 125, 126, 127, 128, 129, 130, 131, 132, 136, 137, 138, 139, 140, 141, 142, 143, 144, 145, 146, 147, 148, 149, 150, 151, 152, 153, 154, 155, 156, 157, 158, 159] (by decide +kernel) (by decide +kernel)
set_option maxRecDepth 20000 in
theorem gX10_two_X1_hitOf : GoodIn wsX10_two (wsV RX10 121 RX1 yX1_hitOf wsX1_hitOf) := goodIn_app (goodIn_of _ (by decide +kernel)) ggX10_two_X1_hitOf
theorem dX10_two_0 : decode cX10_two 0 = .ok (.aload_n 0, 1) := by decide +kernel
theorem dX10_two_1 : decode cX10_two 1 = .ok (.getfield 19, 3) := by decide +kernel
theorem dX10_two_4 : decode cX10_two 4 = .ok (.iload_n 1, 1) := by decide +kernel
theorem dX10_two_5 : decode cX10_two 5 = .ok (.invokevirtual 74, 3) := by decide +kernel
theorem dX10_two_8 : decode cX10_two 8 = .ok (.ifCond .eq 34, 3) := by decide +kernel
theorem dX10_two_11 : decode cX10_two 11 = .ok (.aload_n 0, 1) := by decide +kernel
theorem dX10_two_12 : decode cX10_two 12 = .ok (.getfield 19, 3) := by decide +kernel
theorem dX10_two_15 : decode cX10_two 15 = .ok (.iload_n 2, 1) := by decide +kernel
theorem dX10_two_16 : decode cX10_two 16 = .ok (.invokevirtual 74, 3) := by decide +kernel
theorem dX10_two_19 : decode cX10_two 19 = .ok (.ifCond .eq 23, 3) := by decide +kernel
theorem dX10_two_22 : decode cX10_two 22 = .ok (.aload_n 0, 1) := by decide +kernel
theorem dX10_two_23 : decode cX10_two 23 = .ok (.getfield 19, 3) := by decide +kernel
theorem dX10_two_26 : decode cX10_two 26 = .ok (.iload_n 3, 1) := by decide +kernel
theorem dX10_two_27 : decode cX10_two 27 = .ok (.invokevirtual 74, 3) := by decide +kernel
theorem dX10_two_30 : decode cX10_two 30 = .ok (.ifCond .eq 12, 3) := by decide +kernel
theorem dX10_two_33 : decode cX10_two 33 = .ok (.iload_n 1, 1) := by decide +kernel
theorem dX10_two_34 : decode cX10_two 34 = .ok (.iload_n 2, 1) := by decide +kernel
theorem dX10_two_35 : decode cX10_two 35 = .ok (.iload_n 3, 1) := by decide +kernel
theorem dX10_two_36 : decode cX10_two 36 = .ok (.invokestatic 156, 3) := by decide +kernel
theorem dX10_two_39 : decode cX10_two 39 = .ok (.ifCond .eq 9, 3) := by decide +kernel
theorem dX10_two_42 : decode cX10_two 42 = .ok (.aload_n 0, 1) := by decide +kernel
theorem dX10_two_43 : decode cX10_two 43 = .ok (.iconst (-1), 1) := by decide +kernel
theorem dX10_two_44 : decode cX10_two 44 = .ok (.invokevirtual 43, 3) := by decide +kernel
theorem dX10_two_47 : decode cX10_two 47 = .ok (.ireturn, 1) := by decide +kernel
theorem dX10_two_48 : decode cX10_two 48 = .ok (.iload 4, 2) := by decide +kernel
theorem dX10_two_50 : decode cX10_two 50 = .ok (.invokestatic 111, 3) := by decide +kernel
theorem dX10_two_53 : decode cX10_two 53 = .ok (.ifCond .ne 10, 3) := by decide +kernel
theorem dX10_two_56 : decode cX10_two 56 = .ok (.aload_n 0, 1) := by decide +kernel
theorem dX10_two_57 : decode cX10_two 57 = .ok (.bipush (-2), 2) := by decide +kernel
theorem dX10_two_59 : decode cX10_two 59 = .ok (.invokevirtual 43, 3) := by decide +kernel
theorem dX10_two_62 : decode cX10_two 62 = .ok (.ireturn, 1) := by decide +kernel
theorem dX10_two_63 : decode cX10_two 63 = .ok (.aload_n 0, 1) := by decide +kernel
