theorem inlX0 : ∀ w ∈ wsX00, w ∈ wsL_law := fun _ h => List.mem_append_left _ (List.mem_append_left _ (List.mem_append_left _ (List.mem_append_left _ (List.mem_append_left _ (List.mem_append_right _ h)))))
theorem inlX1 : ∀ w ∈ wsX10, w ∈ wsL_law := fun _ h => List.mem_append_left _ (List.mem_append_left _ (List.mem_append_left _ (List.mem_append_left _ (List.mem_append_left _ (List.mem_append_left _ (List.mem_append_left _ (List.mem_append_left _ (List.mem_append_left _ (List.mem_append_right _ h)))))))))
theorem inlX2 : ∀ w ∈ wsX20, w ∈ wsL_law := fun _ h => List.mem_append_left _ (List.mem_append_left _ (List.mem_append_left _ (List.mem_append_left _ (List.mem_append_left _ (List.mem_append_left _ (List.mem_append_left _ (List.mem_append_left _ (List.mem_append_right _ h))))))))
theorem inlX3 : ∀ w ∈ wsX30, w ∈ wsL_law := fun _ h => List.mem_append_left _ (List.mem_append_left _ (List.mem_append_left _ (List.mem_append_left _ (List.mem_append_right _ h))))
theorem inlX4 : ∀ w ∈ wsX40, w ∈ wsL_law := fun _ h => List.mem_append_left _ (List.mem_append_left _ (List.mem_append_left _ (List.mem_append_left _ (List.mem_append_left _ (List.mem_append_left _ (List.mem_append_right _ h))))))
theorem inlX5 : ∀ w ∈ wsX50, w ∈ wsL_law := fun _ h => List.mem_append_left _ (List.mem_append_left _ (List.mem_append_left _ (List.mem_append_right _ h)))
theorem inlX6 : ∀ w ∈ wsX60, w ∈ wsL_law := fun _ h => List.mem_append_left _ (List.mem_append_left _ (List.mem_append_left _ (List.mem_append_left _ (List.mem_append_left _ (List.mem_append_left _ (List.mem_append_left _ (List.mem_append_right _ h)))))))
theorem inlX7 : ∀ w ∈ wsX70, w ∈ wsL_law := fun _ h => List.mem_append_left _ (List.mem_append_left _ (List.mem_append_left _ (List.mem_append_left _ (List.mem_append_left _ (List.mem_append_left _ (List.mem_append_left _ (List.mem_append_left _ (List.mem_append_left _ (List.mem_append_left _ (List.mem_append_right _ h))))))))))
theorem inlX8 : ∀ w ∈ wsX80, w ∈ wsL_law := fun _ h => List.mem_append_left _ (List.mem_append_left _ (List.mem_append_right _ h))
theorem inlX9 : ∀ w ∈ wsX90, w ∈ wsL_law := fun _ h => List.mem_append_left _ (List.mem_append_right _ h)
theorem inlX10 : ∀ w ∈ wsX100, w ∈ wsL_law := fun _ h => List.mem_append_left _ (List.mem_append_left _ (List.mem_append_left _ (List.mem_append_left _ (List.mem_append_left _ (List.mem_append_left _ (List.mem_append_left _ (List.mem_append_left _ (List.mem_append_left _ (List.mem_append_left _ (List.mem_append_left _ (List.mem_append_left _ (List.mem_append_right _ h))))))))))))
theorem inlX11 : ∀ w ∈ wsX110, w ∈ wsL_law := fun _ h => List.mem_append_left _ (List.mem_append_left _ (List.mem_append_left _ (List.mem_append_left _ (List.mem_append_left _ (List.mem_append_left _ (List.mem_append_left _ (List.mem_append_left _ (List.mem_append_left _ (List.mem_append_left _ (List.mem_append_left _ (List.mem_append_right _ h)))))))))))
theorem inJ11 : ∀ w ∈ wsJ110, w ∈ lw_tbl := by decide +kernel
theorem inJ6 : ∀ w ∈ wsJ60, w ∈ lw_tbl := by decide +kernel
theorem inJ9 : ∀ w ∈ wsJ90, w ∈ lw_tbl := by decide +kernel
theorem inJ0 : ∀ w ∈ wsJ00, w ∈ lw_tbl := by decide +kernel
theorem inJ1 : ∀ w ∈ wsJ10, w ∈ lw_tbl := by decide +kernel
theorem inJ2 : ∀ w ∈ wsJ20, w ∈ lw_tbl := by decide +kernel
theorem inJ10 : ∀ w ∈ wsJ100, w ∈ lw_tbl := by decide +kernel
theorem inJ3 : ∀ w ∈ wsJ30, w ∈ lw_tbl := by decide +kernel
set_option maxRecDepth 20000 in
theorem ggX0_init_X4_init : GoodIn wsX0_init wsX4_init := goodIn_r _ [4, 5, 6, 7, 8, 9, 10, 11, 12, 13, 14, 15, 16, 17, 18, 19, 20, 21, 22, 23, 24, 25, 26, 27, 28, 29, 30, 31, 32, 33, 34, 35] (by decide +kernel) (by decide +kernel)
set_option maxRecDepth 20000 in
theorem gX0_init_X4_init : GoodIn wsX0_init (wsX4_init) := ggX0_init_X4_init
theorem dX0_init_0 : decode cX0_init 0 = .ok (.aload_n 0, 1) := by decide +kernel
theorem dX0_init_1 : decode cX0_init 1 = .ok (.iload_n 1, 1) := by decide +kernel
theorem dX0_init_2 : decode cX0_init 2 = .ok (.iload_n 2, 1) := by decide +kernel
theorem dX0_init_3 : decode cX0_init 3 = .ok (.iload_n 3, 1) := by decide +kernel
theorem dX0_init_4 : decode cX0_init 4 = .ok (.iload 4, 2) := by decide +kernel
theorem dX0_init_6 : decode cX0_init 6 = .ok (.invokespecial 1, 3) := by decide +kernel
theorem dX0_init_9 : decode cX0_init 9 = .ok (.return_, 1) := by decide +kernel
set_option maxRecDepth 20000 in
theorem ggX0_grasp_X4_grasp : GoodIn wsX0_grasp wsX4_grasp := goodIn_r _ [6, 7, 8, 9, 10, 11, 12, 13, 14, 15, 16, 17, 18, 19, 20, 21, 22, 23, 24, 25, 26, 27, 28, 29, 30, 31, 32] (by decide +kernel) (by decide +kernel)
set_option maxRecDepth 20000 in
theorem gX0_grasp_X4_grasp_s7 : GoodIn wsX0_grasp (va_wsSU RX0 7 yX4_grasp wsX4_grasp) := goodIn_app (goodIn_of _ (by decide +kernel)) ggX0_grasp_X4_grasp
theorem dX0_grasp_0 : decode cX0_grasp 0 = .ok (.aload_n 0, 1) := by decide +kernel
theorem dX0_grasp_1 : decode cX0_grasp 1 = .ok (.iload_n 1, 1) := by decide +kernel
theorem dX0_grasp_2 : decode cX0_grasp 2 = .ok (.invokespecial 7, 3) := by decide +kernel
theorem dX0_grasp_5 : decode cX0_grasp 5 = .ok (.iconst 4, 1) := by decide +kernel
theorem dX0_grasp_6 : decode cX0_grasp 6 = .ok (.iadd, 1) := by decide +kernel
theorem dX0_grasp_7 : decode cX0_grasp 7 = .ok (.ireturn, 1) := by decide +kernel
set_option maxRecDepth 20000 in
theorem ggX1_init_X6_init : GoodIn wsX1_init wsX6_init := goodIn_r _ [18, 19, 2, 3, 11, 20, 45, 46, 47] (by decide +kernel) (by decide +kernel)
set_option maxRecDepth 20000 in
theorem gX1_init_X6_init_n19 : GoodIn wsX1_init (wsX6_init) := ggX1_init_X6_init
set_option maxRecDepth 20000 in
theorem ggX1_init_X4_init : GoodIn wsX1_init wsX4_init := goodIn_r _ [23, 24, 2, 3, 25, 26, 27, 28, 52, 53, 54, 55, 56, 57, 58, 59, 48, 49, 50, 51, 60, 61, 62, 63, 64, 65, 66, 67, 68, 69, 70, 71] (by decide +kernel) (by decide +kernel)
set_option maxRecDepth 20000 in
theorem gX1_init_X4_init : GoodIn wsX1_init (wsX4_init) := ggX1_init_X4_init
set_option maxRecDepth 20000 in
theorem ggX1_init_X1_layOn : GoodIn wsX1_init wsX1_layOn := goodIn_r _ [33, 12, 13, 14, 34, 35, 36, 37, 38, 39, 40, 41, 42, 43, 44] (by decide +kernel) (by decide +kernel)
set_option maxRecDepth 20000 in
theorem gX1_init_X1_layOn : GoodIn wsX1_init (wsV RX1 40 RX1 yX1_layOn wsX1_layOn) := goodIn_app (goodIn_of _ (by decide +kernel)) ggX1_init_X1_layOn
theorem dX1_init_0 : decode cX1_init 0 = .ok (.aload_n 0, 1) := by decide +kernel
theorem dX1_init_1 : decode cX1_init 1 = .ok (.invokespecial 3, 3) := by decide +kernel
theorem dX1_init_4 : decode cX1_init 4 = .ok (.aload_n 0, 1) := by decide +kernel
theorem dX1_init_5 : decode cX1_init 5 = .ok (.bipush 8, 2) := by decide +kernel
theorem dX1_init_7 : decode cX1_init 7 = .ok (.anewarray 9, 3) := by decide +kernel
theorem dX1_init_10 : decode cX1_init 10 = .ok (.putfield 11, 3) := by decide +kernel
theorem dX1_init_13 : decode cX1_init 13 = .ok (.aload_n 0, 1) := by decide +kernel
theorem dX1_init_14 : decode cX1_init 14 = .ok (.new 17, 3) := by decide +kernel
theorem dX1_init_17 : decode cX1_init 17 = .ok (.dup, 1) := by decide +kernel
theorem dX1_init_18 : decode cX1_init 18 = .ok (.invokespecial 19, 3) := by decide +kernel
theorem dX1_init_21 : decode cX1_init 21 = .ok (.putfield 20, 3) := by decide +kernel
theorem dX1_init_24 : decode cX1_init 24 = .ok (.aload_n 0, 1) := by decide +kernel
theorem dX1_init_25 : decode cX1_init 25 = .ok (.new 17, 3) := by decide +kernel
theorem dX1_init_28 : decode cX1_init 28 = .ok (.dup, 1) := by decide +kernel
theorem dX1_init_29 : decode cX1_init 29 = .ok (.invokespecial 19, 3) := by decide +kernel
theorem dX1_init_32 : decode cX1_init 32 = .ok (.putfield 24, 3) := by decide +kernel
theorem dX1_init_35 : decode cX1_init 35 = .ok (.aload_n 0, 1) := by decide +kernel
theorem dX1_init_36 : decode cX1_init 36 = .ok (.bipush 6, 2) := by decide +kernel
theorem dX1_init_38 : decode cX1_init 38 = .ok (.newarray .int, 2) := by decide +kernel
theorem dX1_init_40 : decode cX1_init 40 = .ok (.putfield 27, 3) := by decide +kernel
theorem dX1_init_43 : decode cX1_init 43 = .ok (.aload_n 0, 1) := by decide +kernel
theorem dX1_init_44 : decode cX1_init 44 = .ok (.bipush 6, 2) := by decide +kernel
theorem dX1_init_46 : decode cX1_init 46 = .ok (.newarray .int, 2) := by decide +kernel
theorem dX1_init_48 : decode cX1_init 48 = .ok (.putfield 31, 3) := by decide +kernel
theorem dX1_init_51 : decode cX1_init 51 = .ok (.aload_n 0, 1) := by decide +kernel
theorem dX1_init_52 : decode cX1_init 52 = .ok (.bipush 6, 2) := by decide +kernel
theorem dX1_init_54 : decode cX1_init 54 = .ok (.newarray .int, 2) := by decide +kernel
theorem dX1_init_56 : decode cX1_init 56 = .ok (.putfield 34, 3) := by decide +kernel
theorem dX1_init_59 : decode cX1_init 59 = .ok (.new 9, 3) := by decide +kernel
theorem dX1_init_62 : decode cX1_init 62 = .ok (.dup, 1) := by decide +kernel
theorem dX1_init_63 : decode cX1_init 63 = .ok (.iconst 0, 1) := by decide +kernel
theorem dX1_init_64 : decode cX1_init 64 = .ok (.iconst 0, 1) := by decide +kernel
theorem dX1_init_65 : decode cX1_init 65 = .ok (.iconst 0, 1) := by decide +kernel
theorem dX1_init_66 : decode cX1_init 66 = .ok (.iconst 0, 1) := by decide +kernel
theorem dX1_init_67 : decode cX1_init 67 = .ok (.invokespecial 37, 3) := by decide +kernel
theorem dX1_init_70 : decode cX1_init 70 = .ok (.astore_n 1, 1) := by decide +kernel
theorem dX1_init_71 : decode cX1_init 71 = .ok (.iconst 0, 1) := by decide +kernel
theorem dX1_init_72 : decode cX1_init 72 = .ok (.istore_n 2, 1) := by decide +kernel
theorem dX1_init_73 : decode cX1_init 73 = .ok (.iload_n 2, 1) := by decide +kernel
theorem dX1_init_74 : decode cX1_init 74 = .ok (.bipush 8, 2) := by decide +kernel
theorem dX1_init_76 : decode cX1_init 76 = .ok (.if_icmp .ge 16, 3) := by decide +kernel
theorem dX1_init_79 : decode cX1_init 79 = .ok (.aload_n 0, 1) := by decide +kernel
theorem dX1_init_80 : decode cX1_init 80 = .ok (.getfield 11, 3) := by decide +kernel
theorem dX1_init_83 : decode cX1_init 83 = .ok (.iload_n 2, 1) := by decide +kernel
theorem dX1_init_84 : decode cX1_init 84 = .ok (.aload_n 1, 1) := by decide +kernel
theorem dX1_init_85 : decode cX1_init 85 = .ok (.aastore, 1) := by decide +kernel
theorem dX1_init_86 : decode cX1_init 86 = .ok (.iinc 2 1, 3) := by decide +kernel
theorem dX1_init_89 : decode cX1_init 89 = .ok (.goto (-16), 3) := by decide +kernel
theorem dX1_init_92 : decode cX1_init 92 = .ok (.iconst 0, 1) := by decide +kernel
theorem dX1_init_93 : decode cX1_init 93 = .ok (.istore_n 2, 1) := by decide +kernel
theorem dX1_init_94 : decode cX1_init 94 = .ok (.iload_n 2, 1) := by decide +kernel
theorem dX1_init_95 : decode cX1_init 95 = .ok (.bipush 6, 2) := by decide +kernel
theorem dX1_init_97 : decode cX1_init 97 = .ok (.if_icmp .ge 24, 3) := by decide +kernel
theorem dX1_init_100 : decode cX1_init 100 = .ok (.aload_n 0, 1) := by decide +kernel
theorem dX1_init_101 : decode cX1_init 101 = .ok (.iload_n 2, 1) := by decide +kernel
theorem dX1_init_102 : decode cX1_init 102 = .ok (.iload_n 2, 1) := by decide +kernel
theorem dX1_init_103 : decode cX1_init 103 = .ok (.iconst 3, 1) := by decide +kernel
theorem dX1_init_104 : decode cX1_init 104 = .ok (.if_icmp .ge 7, 3) := by decide +kernel
theorem dX1_init_107 : decode cX1_init 107 = .ok (.iconst 0, 1) := by decide +kernel
theorem dX1_init_108 : decode cX1_init 108 = .ok (.goto 4, 3) := by decide +kernel
theorem dX1_init_111 : decode cX1_init 111 = .ok (.iconst 1, 1) := by decide +kernel
theorem dX1_init_112 : decode cX1_init 112 = .ok (.invokevirtual 40, 3) := by decide +kernel
theorem dX1_init_115 : decode cX1_init 115 = .ok (.iinc 2 1, 3) := by decide +kernel
theorem dX1_init_118 : decode cX1_init 118 = .ok (.goto (-24), 3) := by decide +kernel
theorem dX1_init_121 : decode cX1_init 121 = .ok (.return_, 1) := by decide +kernel
set_option maxRecDepth 20000 in
theorem ggX1_becomeLike_X6_becomeLike : GoodIn wsX1_becomeLike wsX6_becomeLike := goodIn_r _ [17, 18, 19, 20, 7, 8, 9, 21, 30, 31, 32] (by decide +kernel) (by decide +kernel)
set_option maxRecDepth 20000 in
theorem gX1_becomeLike_X6_becomeLike : GoodIn wsX1_becomeLike (wsV RX1 48 RX6 yX6_becomeLike wsX6_becomeLike) := goodIn_app (goodIn_of _ (by decide +kernel)) ggX1_becomeLike_X6_becomeLike
theorem dX1_becomeLike_0 : decode cX1_becomeLike 0 = .ok (.iconst 0, 1) := by decide +kernel
theorem dX1_becomeLike_1 : decode cX1_becomeLike 1 = .ok (.istore_n 2, 1) := by decide +kernel
theorem dX1_becomeLike_2 : decode cX1_becomeLike 2 = .ok (.iload_n 2, 1) := by decide +kernel
theorem dX1_becomeLike_3 : decode cX1_becomeLike 3 = .ok (.bipush 8, 2) := by decide +kernel
theorem dX1_becomeLike_5 : decode cX1_becomeLike 5 = .ok (.if_icmp .ge 21, 3) := by decide +kernel
theorem dX1_becomeLike_8 : decode cX1_becomeLike 8 = .ok (.aload_n 0, 1) := by decide +kernel
theorem dX1_becomeLike_9 : decode cX1_becomeLike 9 = .ok (.getfield 11, 3) := by decide +kernel
theorem dX1_becomeLike_12 : decode cX1_becomeLike 12 = .ok (.iload_n 2, 1) := by decide +kernel
theorem dX1_becomeLike_13 : decode cX1_becomeLike 13 = .ok (.aload_n 1, 1) := by decide +kernel
theorem dX1_becomeLike_14 : decode cX1_becomeLike 14 = .ok (.getfield 11, 3) := by decide +kernel
theorem dX1_becomeLike_17 : decode cX1_becomeLike 17 = .ok (.iload_n 2, 1) := by decide +kernel
theorem dX1_becomeLike_18 : decode cX1_becomeLike 18 = .ok (.aaload, 1) := by decide +kernel
theorem dX1_becomeLike_19 : decode cX1_becomeLike 19 = .ok (.aastore, 1) := by decide +kernel
theorem dX1_becomeLike_20 : decode cX1_becomeLike 20 = .ok (.iinc 2 1, 3) := by decide +kernel
theorem dX1_becomeLike_23 : decode cX1_becomeLike 23 = .ok (.goto (-21), 3) := by decide +kernel
theorem dX1_becomeLike_26 : decode cX1_becomeLike 26 = .ok (.aload_n 0, 1) := by decide +kernel
theorem dX1_becomeLike_27 : decode cX1_becomeLike 27 = .ok (.aload_n 1, 1) := by decide +kernel
theorem dX1_becomeLike_28 : decode cX1_becomeLike 28 = .ok (.getfield 44, 3) := by decide +kernel
theorem dX1_becomeLike_31 : decode cX1_becomeLike 31 = .ok (.putfield 44, 3) := by decide +kernel
theorem dX1_becomeLike_34 : decode cX1_becomeLike 34 = .ok (.aload_n 0, 1) := by decide +kernel
theorem dX1_becomeLike_35 : decode cX1_becomeLike 35 = .ok (.getfield 20, 3) := by decide +kernel
theorem dX1_becomeLike_38 : decode cX1_becomeLike 38 = .ok (.aload_n 1, 1) := by decide +kernel
theorem dX1_becomeLike_39 : decode cX1_becomeLike 39 = .ok (.getfield 20, 3) := by decide +kernel
theorem dX1_becomeLike_42 : decode cX1_becomeLike 42 = .ok (.invokevirtual 48, 3) := by decide +kernel
theorem dX1_becomeLike_45 : decode cX1_becomeLike 45 = .ok (.aload_n 0, 1) := by decide +kernel
theorem dX1_becomeLike_46 : decode cX1_becomeLike 46 = .ok (.getfield 24, 3) := by decide +kernel
theorem dX1_becomeLike_49 : decode cX1_becomeLike 49 = .ok (.aload_n 1, 1) := by decide +kernel
theorem dX1_becomeLike_50 : decode cX1_becomeLike 50 = .ok (.getfield 24, 3) := by decide +kernel
theorem dX1_becomeLike_53 : decode cX1_becomeLike 53 = .ok (.invokevirtual 48, 3) := by decide +kernel
theorem dX1_becomeLike_56 : decode cX1_becomeLike 56 = .ok (.aload_n 1, 1) := by decide +kernel
theorem dX1_becomeLike_57 : decode cX1_becomeLike 57 = .ok (.getfield 27, 3) := by decide +kernel
theorem dX1_becomeLike_60 : decode cX1_becomeLike 60 = .ok (.iconst 0, 1) := by decide +kernel
theorem dX1_becomeLike_61 : decode cX1_becomeLike 61 = .ok (.aload_n 0, 1) := by decide +kernel
theorem dX1_becomeLike_62 : decode cX1_becomeLike 62 = .ok (.getfield 27, 3) := by decide +kernel
theorem dX1_becomeLike_65 : decode cX1_becomeLike 65 = .ok (.iconst 0, 1) := by decide +kernel
theorem dX1_becomeLike_66 : decode cX1_becomeLike 66 = .ok (.bipush 6, 2) := by decide +kernel
theorem dX1_becomeLike_68 : decode cX1_becomeLike 68 = .ok (.invokestatic 52, 3) := by decide +kernel
theorem dX1_becomeLike_71 : decode cX1_becomeLike 71 = .ok (.aload_n 1, 1) := by decide +kernel
theorem dX1_becomeLike_72 : decode cX1_becomeLike 72 = .ok (.getfield 31, 3) := by decide +kernel
theorem dX1_becomeLike_75 : decode cX1_becomeLike 75 = .ok (.iconst 0, 1) := by decide +kernel
theorem dX1_becomeLike_76 : decode cX1_becomeLike 76 = .ok (.aload_n 0, 1) := by decide +kernel
theorem dX1_becomeLike_77 : decode cX1_becomeLike 77 = .ok (.getfield 31, 3) := by decide +kernel
theorem dX1_becomeLike_80 : decode cX1_becomeLike 80 = .ok (.iconst 0, 1) := by decide +kernel
theorem dX1_becomeLike_81 : decode cX1_becomeLike 81 = .ok (.bipush 6, 2) := by decide +kernel
theorem dX1_becomeLike_83 : decode cX1_becomeLike 83 = .ok (.invokestatic 52, 3) := by decide +kernel
theorem dX1_becomeLike_86 : decode cX1_becomeLike 86 = .ok (.aload_n 1, 1) := by decide +kernel
theorem dX1_becomeLike_87 : decode cX1_becomeLike 87 = .ok (.getfield 34, 3) := by decide +kernel
theorem dX1_becomeLike_90 : decode cX1_becomeLike 90 = .ok (.iconst 0, 1) := by decide +kernel
theorem dX1_becomeLike_91 : decode cX1_becomeLike 91 = .ok (.aload_n 0, 1) := by decide +kernel
theorem dX1_becomeLike_92 : decode cX1_becomeLike 92 = .ok (.getfield 34, 3) := by decide +kernel
theorem dX1_becomeLike_95 : decode cX1_becomeLike 95 = .ok (.iconst 0, 1) := by decide +kernel
theorem dX1_becomeLike_96 : decode cX1_becomeLike 96 = .ok (.bipush 6, 2) := by decide +kernel
theorem dX1_becomeLike_98 : decode cX1_becomeLike 98 = .ok (.invokestatic 52, 3) := by decide +kernel
theorem dX1_becomeLike_101 : decode cX1_becomeLike 101 = .ok (.aload_n 0, 1) := by decide +kernel
theorem dX1_becomeLike_102 : decode cX1_becomeLike 102 = .ok (.aload_n 1, 1) := by decide +kernel
theorem dX1_becomeLike_103 : decode cX1_becomeLike 103 = .ok (.getfield 58, 3) := by decide +kernel
theorem dX1_becomeLike_106 : decode cX1_becomeLike 106 = .ok (.putfield 58, 3) := by decide +kernel
theorem dX1_becomeLike_109 : decode cX1_becomeLike 109 = .ok (.return_, 1) := by decide +kernel
theorem dX1_isPlayer_0 : decode cX1_isPlayer 0 = .ok (.iload_n 1, 1) := by decide +kernel
theorem dX1_isPlayer_1 : decode cX1_isPlayer 1 = .ok (.ifCond .lt 24, 3) := by decide +kernel
theorem dX1_isPlayer_4 : decode cX1_isPlayer 4 = .ok (.iload_n 1, 1) := by decide +kernel
theorem dX1_isPlayer_5 : decode cX1_isPlayer 5 = .ok (.aload_n 0, 1) := by decide +kernel
theorem dX1_isPlayer_6 : decode cX1_isPlayer 6 = .ok (.getfield 44, 3) := by decide +kernel
theorem dX1_isPlayer_9 : decode cX1_isPlayer 9 = .ok (.if_icmp .ge 16, 3) := by decide +kernel
theorem dX1_isPlayer_12 : decode cX1_isPlayer 12 = .ok (.iload_n 1, 1) := by decide +kernel
theorem dX1_isPlayer_13 : decode cX1_isPlayer 13 = .ok (.aload_n 0, 1) := by decide +kernel
theorem dX1_isPlayer_14 : decode cX1_isPlayer 14 = .ok (.getfield 11, 3) := by decide +kernel
theorem dX1_isPlayer_17 : decode cX1_isPlayer 17 = .ok (.arraylength, 1) := by decide +kernel
theorem dX1_isPlayer_18 : decode cX1_isPlayer 18 = .ok (.if_icmp .ge 7, 3) := by decide +kernel
theorem dX1_isPlayer_21 : decode cX1_isPlayer 21 = .ok (.iconst 1, 1) := by decide +kernel
theorem dX1_isPlayer_22 : decode cX1_isPlayer 22 = .ok (.goto 4, 3) := by decide +kernel
theorem dX1_isPlayer_25 : decode cX1_isPlayer 25 = .ok (.iconst 0, 1) := by decide +kernel
theorem dX1_isPlayer_26 : decode cX1_isPlayer 26 = .ok (.ireturn, 1) := by decide +kernel
set_option maxRecDepth 20000 in
theorem ggX1_isIn_X1_isPlayer : GoodIn wsX1_isIn wsX1_isPlayer := goodIn_r _ [5, 6, 7, 14, 15, 16, 17, 18, 19, 20, 21] (by decide +kernel) (by decide +kernel)
set_option maxRecDepth 20000 in
theorem gX1_isIn_X1_isPlayer : GoodIn wsX1_isIn (wsV RX1 61 RX1 yX1_isPlayer wsX1_isPlayer) := goodIn_app (goodIn_of _ (by decide +kernel)) ggX1_isIn_X1_isPlayer
set_option maxRecDepth 20000 in
theorem ggX1_isIn_X1_inBits : GoodIn wsX1_isIn wsX1_inBits := goodIn_r _ [11, 12, 13, 14, 15, 16, 17, 18, 19, 20, 21, 22, 23, 24] (by decide +kernel) (by decide +kernel)
set_option maxRecDepth 20000 in
theorem gX1_isIn_X1_inBits : GoodIn wsX1_isIn (wsV RX1 65 RX1 yX1_inBits wsX1_inBits) := goodIn_app (goodIn_of _ (by decide +kernel)) ggX1_isIn_X1_inBits
theorem dX1_isIn_0 : decode cX1_isIn 0 = .ok (.aload_n 0, 1) := by decide +kernel
theorem dX1_isIn_1 : decode cX1_isIn 1 = .ok (.iload_n 1, 1) := by decide +kernel
theorem dX1_isIn_2 : decode cX1_isIn 2 = .ok (.invokevirtual 61, 3) := by decide +kernel
theorem dX1_isIn_5 : decode cX1_isIn 5 = .ok (.ifCond .eq 19, 3) := by decide +kernel
theorem dX1_isIn_8 : decode cX1_isIn 8 = .ok (.aload_n 0, 1) := by decide +kernel
theorem dX1_isIn_9 : decode cX1_isIn 9 = .ok (.invokevirtual 65, 3) := by decide +kernel
theorem dX1_isIn_12 : decode cX1_isIn 12 = .ok (.iload_n 1, 1) := by decide +kernel
theorem dX1_isIn_13 : decode cX1_isIn 13 = .ok (.ishr, 1) := by decide +kernel
theorem dX1_isIn_14 : decode cX1_isIn 14 = .ok (.iconst 1, 1) := by decide +kernel
theorem dX1_isIn_15 : decode cX1_isIn 15 = .ok (.iand, 1) := by decide +kernel
theorem dX1_isIn_16 : decode cX1_isIn 16 = .ok (.iconst 1, 1) := by decide +kernel
theorem dX1_isIn_17 : decode cX1_isIn 17 = .ok (.if_icmp .ne 7, 3) := by decide +kernel
theorem dX1_isIn_20 : decode cX1_isIn 20 = .ok (.iconst 1, 1) := by decide +kernel
theorem dX1_isIn_21 : decode cX1_isIn 21 = .ok (.goto 4, 3) := by decide +kernel
theorem dX1_isIn_24 : decode cX1_isIn 24 = .ok (.iconst 0, 1) := by decide +kernel
theorem dX1_isIn_25 : decode cX1_isIn 25 = .ok (.ireturn, 1) := by decide +kernel
theorem dX1_inBits_0 : decode cX1_inBits 0 = .ok (.aload_n 0, 1) := by decide +kernel
theorem dX1_inBits_1 : decode cX1_inBits 1 = .ok (.getfield 20, 3) := by decide +kernel
theorem dX1_inBits_4 : decode cX1_inBits 4 = .ok (.getfield 69, 3) := by decide +kernel
theorem dX1_inBits_7 : decode cX1_inBits 7 = .ok (.aload_n 0, 1) := by decide +kernel
theorem dX1_inBits_8 : decode cX1_inBits 8 = .ok (.getfield 24, 3) := by decide +kernel
theorem dX1_inBits_11 : decode cX1_inBits 11 = .ok (.getfield 69, 3) := by decide +kernel
theorem dX1_inBits_14 : decode cX1_inBits 14 = .ok (.ior, 1) := by decide +kernel
theorem dX1_inBits_15 : decode cX1_inBits 15 = .ok (.ireturn, 1) := by decide +kernel
theorem dX1_sideAt_0 : decode cX1_sideAt 0 = .ok (.iload_n 1, 1) := by decide +kernel
theorem dX1_sideAt_1 : decode cX1_sideAt 1 = .ok (.ifCond .ne 10, 3) := by decide +kernel
theorem dX1_sideAt_4 : decode cX1_sideAt 4 = .ok (.aload_n 0, 1) := by decide +kernel
theorem dX1_sideAt_5 : decode cX1_sideAt 5 = .ok (.getfield 20, 3) := by decide +kernel
theorem dX1_sideAt_8 : decode cX1_sideAt 8 = .ok (.goto 7, 3) := by decide +kernel
theorem dX1_sideAt_11 : decode cX1_sideAt 11 = .ok (.aload_n 0, 1) := by decide +kernel
theorem dX1_sideAt_12 : decode cX1_sideAt 12 = .ok (.getfield 24, 3) := by decide +kernel
theorem dX1_sideAt_15 : decode cX1_sideAt 15 = .ok (.areturn, 1) := by decide +kernel
set_option maxRecDepth 20000 in
theorem ggX1_sideOf_X1_isPlayer : GoodIn wsX1_sideOf wsX1_isPlayer := goodIn_r _ [6, 7, 1, 8, 9, 10, 11, 12, 13, 14, 15] (by decide +kernel) (by decide +kernel)
set_option maxRecDepth 20000 in
theorem gX1_sideOf_X1_isPlayer : GoodIn wsX1_sideOf (wsV RX1 61 RX1 yX1_isPlayer wsX1_isPlayer) := goodIn_app (goodIn_of _ (by decide +kernel)) ggX1_sideOf_X1_isPlayer
theorem dX1_sideOf_0 : decode cX1_sideOf 0 = .ok (.aload_n 0, 1) := by decide +kernel
theorem dX1_sideOf_1 : decode cX1_sideOf 1 = .ok (.iload_n 1, 1) := by decide +kernel
theorem dX1_sideOf_2 : decode cX1_sideOf 2 = .ok (.invokevirtual 61, 3) := by decide +kernel
theorem dX1_sideOf_5 : decode cX1_sideOf 5 = .ok (.ifCond .eq 15, 3) := by decide +kernel
theorem dX1_sideOf_8 : decode cX1_sideOf 8 = .ok (.aload_n 0, 1) := by decide +kernel
theorem dX1_sideOf_9 : decode cX1_sideOf 9 = .ok (.getfield 11, 3) := by decide +kernel
theorem dX1_sideOf_12 : decode cX1_sideOf 12 = .ok (.iload_n 1, 1) := by decide +kernel
theorem dX1_sideOf_13 : decode cX1_sideOf 13 = .ok (.aaload, 1) := by decide +kernel
theorem dX1_sideOf_14 : decode cX1_sideOf 14 = .ok (.getfield 72, 3) := by decide +kernel
theorem dX1_sideOf_17 : decode cX1_sideOf 17 = .ok (.goto 5, 3) := by decide +kernel
theorem dX1_sideOf_20 : decode cX1_sideOf 20 = .ok (.bipush (-9), 2) := by decide +kernel
theorem dX1_sideOf_22 : decode cX1_sideOf 22 = .ok (.ireturn, 1) := by decide +kernel
set_option maxRecDepth 20000 in
theorem ggX1_kindOf_X1_isPlayer : GoodIn wsX1_kindOf wsX1_isPlayer := goodIn_r _ [6, 7, 1, 8, 9, 10, 11, 12, 13, 14, 15] (by decide +kernel) (by decide +kernel)
set_option maxRecDepth 20000 in
theorem gX1_kindOf_X1_isPlayer : GoodIn wsX1_kindOf (wsV RX1 61 RX1 yX1_isPlayer wsX1_isPlayer) := goodIn_app (goodIn_of _ (by decide +kernel)) ggX1_kindOf_X1_isPlayer
theorem dX1_kindOf_0 : decode cX1_kindOf 0 = .ok (.aload_n 0, 1) := by decide +kernel
theorem dX1_kindOf_1 : decode cX1_kindOf 1 = .ok (.iload_n 1, 1) := by decide +kernel
theorem dX1_kindOf_2 : decode cX1_kindOf 2 = .ok (.invokevirtual 61, 3) := by decide +kernel
theorem dX1_kindOf_5 : decode cX1_kindOf 5 = .ok (.ifCond .eq 15, 3) := by decide +kernel
theorem dX1_kindOf_8 : decode cX1_kindOf 8 = .ok (.aload_n 0, 1) := by decide +kernel
theorem dX1_kindOf_9 : decode cX1_kindOf 9 = .ok (.getfield 11, 3) := by decide +kernel
theorem dX1_kindOf_12 : decode cX1_kindOf 12 = .ok (.iload_n 1, 1) := by decide +kernel
theorem dX1_kindOf_13 : decode cX1_kindOf 13 = .ok (.aaload, 1) := by decide +kernel
theorem dX1_kindOf_14 : decode cX1_kindOf 14 = .ok (.getfield 75, 3) := by decide +kernel
theorem dX1_kindOf_17 : decode cX1_kindOf 17 = .ok (.goto 5, 3) := by decide +kernel
theorem dX1_kindOf_20 : decode cX1_kindOf 20 = .ok (.bipush (-9), 2) := by decide +kernel
theorem dX1_kindOf_22 : decode cX1_kindOf 22 = .ok (.ireturn, 1) := by decide +kernel
set_option maxRecDepth 20000 in
theorem ggX1_aimOf_X1_isPlayer : GoodIn wsX1_aimOf wsX1_isPlayer := goodIn_r _ [7, 8, 1, 32, 33, 34, 35, 36, 37, 38, 39] (by decide +kernel) (by decide +kernel)
set_option maxRecDepth 20000 in
theorem gX1_aimOf_X1_isPlayer : GoodIn wsX1_aimOf (wsV RX1 61 RX1 yX1_isPlayer wsX1_isPlayer) := goodIn_app (goodIn_of _ (by decide +kernel)) ggX1_aimOf_X1_isPlayer
set_option maxRecDepth 20000 in
theorem ggX1_aimOf_X4_aim : GoodIn wsX1_aimOf wsX4_aim := goodIn_r _ [14, 15, 40, 41, 42, 43, 44, 45, 46, 47, 48, 49, 50, 51, 52, 53, 54, 55, 56, 57, 58, 59, 60, 61, 62, 63] (by decide +kernel) (by decide +kernel)
set_option maxRecDepth 20000 in
theorem gX1_aimOf_X4_aim_u78X0 : GoodIn wsX1_aimOf (va_wsU RX1 78 RX0 "BallsAtDodger$Player" ⟨"BallsAtDodger$Player", "aim", "(I)I"⟩ yX4_aim wsX4_aim) := goodIn_app (goodIn_of _ (by decide +kernel)) ggX1_aimOf_X4_aim
set_option maxRecDepth 20000 in
theorem gX1_aimOf_X4_aim_u78X3 : GoodIn wsX1_aimOf (va_wsU RX1 78 RX3 "BallsAtDodger$Player" ⟨"BallsAtDodger$Player", "aim", "(I)I"⟩ yX4_aim wsX4_aim) := goodIn_app (goodIn_of _ (by decide +kernel)) ggX1_aimOf_X4_aim
set_option maxRecDepth 20000 in
theorem gX1_aimOf_X4_aim : GoodIn wsX1_aimOf (wsV RX1 78 RX4 yX4_aim wsX4_aim) := goodIn_app (goodIn_of _ (by decide +kernel)) ggX1_aimOf_X4_aim
set_option maxRecDepth 20000 in
theorem gX1_aimOf_X4_aim_u78X5 : GoodIn wsX1_aimOf (va_wsU RX1 78 RX5 "BallsAtDodger$Player" ⟨"BallsAtDodger$Player", "aim", "(I)I"⟩ yX4_aim wsX4_aim) := goodIn_app (goodIn_of _ (by decide +kernel)) ggX1_aimOf_X4_aim
set_option maxRecDepth 20000 in
theorem ggX1_aimOf_X8_aim : GoodIn wsX1_aimOf wsX8_aim := goodIn_r _ [24, 25, 26, 27, 28, 29, 10, 30, 12, 13, 14, 15, 40, 41, 42, 43, 44, 45, 46, 47, 48, 49, 50, 51, 52, 53, 54, 55, 56, 57, 58, 59, 60, 61, 62, 63] (by decide +kernel) (by decide +kernel)
set_option maxRecDepth 20000 in
theorem gX1_aimOf_X8_aim_u78X8 : GoodIn wsX1_aimOf (va_wsO RX1 78 RX8 "BallsAtDodger$Player" ⟨"BallsAtDodger$Player", "aim", "(I)I"⟩ yX8_aim wsX8_aim) := goodIn_app (goodIn_of _ (by decide +kernel)) ggX1_aimOf_X8_aim
set_option maxRecDepth 20000 in
theorem gX1_aimOf_X4_aim_u78X9 : GoodIn wsX1_aimOf (va_wsU RX1 78 RX9 "BallsAtDodger$Player" ⟨"BallsAtDodger$Player", "aim", "(I)I"⟩ yX4_aim wsX4_aim) := goodIn_app (goodIn_of _ (by decide +kernel)) ggX1_aimOf_X4_aim
theorem dX1_aimOf_0 : decode cX1_aimOf 0 = .ok (.aload_n 0, 1) := by decide +kernel
theorem dX1_aimOf_1 : decode cX1_aimOf 1 = .ok (.iload_n 1, 1) := by decide +kernel
theorem dX1_aimOf_2 : decode cX1_aimOf 2 = .ok (.invokevirtual 61, 3) := by decide +kernel
theorem dX1_aimOf_5 : decode cX1_aimOf 5 = .ok (.ifCond .eq 19, 3) := by decide +kernel
theorem dX1_aimOf_8 : decode cX1_aimOf 8 = .ok (.aload_n 0, 1) := by decide +kernel
theorem dX1_aimOf_9 : decode cX1_aimOf 9 = .ok (.getfield 11, 3) := by decide +kernel
theorem dX1_aimOf_12 : decode cX1_aimOf 12 = .ok (.iload_n 1, 1) := by decide +kernel
theorem dX1_aimOf_13 : decode cX1_aimOf 13 = .ok (.aaload, 1) := by decide +kernel
theorem dX1_aimOf_14 : decode cX1_aimOf 14 = .ok (.aload_n 0, 1) := by decide +kernel
theorem dX1_aimOf_15 : decode cX1_aimOf 15 = .ok (.getfield 58, 3) := by decide +kernel
theorem dX1_aimOf_18 : decode cX1_aimOf 18 = .ok (.invokevirtual 78, 3) := by decide +kernel
theorem dX1_aimOf_21 : decode cX1_aimOf 21 = .ok (.goto 4, 3) := by decide +kernel
theorem dX1_aimOf_24 : decode cX1_aimOf 24 = .ok (.iconst 0, 1) := by decide +kernel
theorem dX1_aimOf_25 : decode cX1_aimOf 25 = .ok (.ireturn, 1) := by decide +kernel
set_option maxRecDepth 20000 in
theorem ggX1_dodgeOf_X1_isPlayer : GoodIn wsX1_dodgeOf wsX1_isPlayer := goodIn_r _ [6, 7, 1, 38, 39, 40, 41, 42, 43, 44, 45] (by decide +kernel) (by decide +kernel)
set_option maxRecDepth 20000 in
theorem gX1_dodgeOf_X1_isPlayer : GoodIn wsX1_dodgeOf (wsV RX1 61 RX1 yX1_isPlayer wsX1_isPlayer) := goodIn_app (goodIn_of _ (by decide +kernel)) ggX1_dodgeOf_X1_isPlayer
set_option maxRecDepth 20000 in
theorem ggX1_dodgeOf_X1_ballsOf : GoodIn wsX1_dodgeOf wsX1_ballsOf := goodIn_r _ [11, 12, 2, 3, 4, 5, 6, 7, 1, 38, 39, 40, 41, 42, 43, 44, 45] (by decide +kernel) (by decide +kernel)
set_option maxRecDepth 20000 in
theorem gX1_dodgeOf_X1_ballsOf : GoodIn wsX1_dodgeOf (wsV RX1 82 RX1 yX1_ballsOf wsX1_ballsOf) := goodIn_app (goodIn_of _ (by decide +kernel)) ggX1_dodgeOf_X1_ballsOf
set_option maxRecDepth 20000 in
theorem ggX1_dodgeOf_X4_dodge : GoodIn wsX1_dodgeOf wsX4_dodge := goodIn_r _ [18, 19, 46, 47, 48, 49, 50, 51, 52, 53, 54, 55, 56, 57, 58, 59, 60, 61, 62, 63, 64, 65, 66, 67, 68, 69] (by decide +kernel) (by decide +kernel)
set_option maxRecDepth 20000 in
theorem gX1_dodgeOf_X4_dodge_u85X0 : GoodIn wsX1_dodgeOf (va_wsU RX1 85 RX0 "BallsAtDodger$Player" ⟨"BallsAtDodger$Player", "dodge", "(Z)I"⟩ yX4_dodge wsX4_dodge) := goodIn_app (goodIn_of _ (by decide +kernel)) ggX1_dodgeOf_X4_dodge
set_option maxRecDepth 20000 in
theorem gX1_dodgeOf_X4_dodge_u85X3 : GoodIn wsX1_dodgeOf (va_wsU RX1 85 RX3 "BallsAtDodger$Player" ⟨"BallsAtDodger$Player", "dodge", "(Z)I"⟩ yX4_dodge wsX4_dodge) := goodIn_app (goodIn_of _ (by decide +kernel)) ggX1_dodgeOf_X4_dodge
set_option maxRecDepth 20000 in
theorem gX1_dodgeOf_X4_dodge : GoodIn wsX1_dodgeOf (wsV RX1 85 RX4 yX4_dodge wsX4_dodge) := goodIn_app (goodIn_of _ (by decide +kernel)) ggX1_dodgeOf_X4_dodge
set_option maxRecDepth 20000 in
theorem ggX1_dodgeOf_X5_dodge : GoodIn wsX1_dodgeOf wsX5_dodge := goodIn_r _ [27, 28, 14, 29, 16, 17, 18, 19, 46, 47, 48, 49, 50, 51, 52, 53, 54, 55, 56, 57, 58, 59, 60, 61, 62, 63, 64, 65, 66, 67, 68, 69] (by decide +kernel) (by decide +kernel)
set_option maxRecDepth 20000 in
theorem gX1_dodgeOf_X5_dodge_u85X5 : GoodIn wsX1_dodgeOf (va_wsO RX1 85 RX5 "BallsAtDodger$Player" ⟨"BallsAtDodger$Player", "dodge", "(Z)I"⟩ yX5_dodge wsX5_dodge) := goodIn_app (goodIn_of _ (by decide +kernel)) ggX1_dodgeOf_X5_dodge
set_option maxRecDepth 20000 in
theorem gX1_dodgeOf_X4_dodge_u85X8 : GoodIn wsX1_dodgeOf (va_wsU RX1 85 RX8 "BallsAtDodger$Player" ⟨"BallsAtDodger$Player", "dodge", "(Z)I"⟩ yX4_dodge wsX4_dodge) := goodIn_app (goodIn_of _ (by decide +kernel)) ggX1_dodgeOf_X4_dodge
set_option maxRecDepth 20000 in
theorem ggX1_dodgeOf_X9_dodge : GoodIn wsX1_dodgeOf wsX9_dodge := goodIn_r _ [34, 35, 36, 37, 25, 26, 27, 28, 14, 29, 16, 17, 18, 19, 46, 47, 48, 49, 50, 51, 52, 53, 54, 55, 56, 57, 58, 59, 60, 61, 62, 63, 64, 65, 66, 67, 68, 69] (by decide +kernel) (by decide +kernel)
set_option maxRecDepth 20000 in
theorem gX1_dodgeOf_X9_dodge_u85X9 : GoodIn wsX1_dodgeOf (va_wsO RX1 85 RX9 "BallsAtDodger$Player" ⟨"BallsAtDodger$Player", "dodge", "(Z)I"⟩ yX9_dodge wsX9_dodge) := goodIn_app (goodIn_of _ (by decide +kernel)) ggX1_dodgeOf_X9_dodge
theorem dX1_dodgeOf_0 : decode cX1_dodgeOf 0 = .ok (.aload_n 0, 1) := by decide +kernel
theorem dX1_dodgeOf_1 : decode cX1_dodgeOf 1 = .ok (.iload_n 1, 1) := by decide +kernel
theorem dX1_dodgeOf_2 : decode cX1_dodgeOf 2 = .ok (.invokevirtual 61, 3) := by decide +kernel
theorem dX1_dodgeOf_5 : decode cX1_dodgeOf 5 = .ok (.ifCond .eq 28, 3) := by decide +kernel
theorem dX1_dodgeOf_8 : decode cX1_dodgeOf 8 = .ok (.aload_n 0, 1) := by decide +kernel
theorem dX1_dodgeOf_9 : decode cX1_dodgeOf 9 = .ok (.getfield 11, 3) := by decide +kernel
theorem dX1_dodgeOf_12 : decode cX1_dodgeOf 12 = .ok (.iload_n 1, 1) := by decide +kernel
theorem dX1_dodgeOf_13 : decode cX1_dodgeOf 13 = .ok (.aaload, 1) := by decide +kernel
theorem dX1_dodgeOf_14 : decode cX1_dodgeOf 14 = .ok (.aload_n 0, 1) := by decide +kernel
theorem dX1_dodgeOf_15 : decode cX1_dodgeOf 15 = .ok (.iload_n 1, 1) := by decide +kernel
theorem dX1_dodgeOf_16 : decode cX1_dodgeOf 16 = .ok (.invokevirtual 82, 3) := by decide +kernel
theorem dX1_dodgeOf_19 : decode cX1_dodgeOf 19 = .ok (.ifCond .eq 7, 3) := by decide +kernel
theorem dX1_dodgeOf_22 : decode cX1_dodgeOf 22 = .ok (.iconst 1, 1) := by decide +kernel
theorem dX1_dodgeOf_23 : decode cX1_dodgeOf 23 = .ok (.goto 4, 3) := by decide +kernel
theorem dX1_dodgeOf_26 : decode cX1_dodgeOf 26 = .ok (.iconst 0, 1) := by decide +kernel
theorem dX1_dodgeOf_27 : decode cX1_dodgeOf 27 = .ok (.invokevirtual 85, 3) := by decide +kernel
theorem dX1_dodgeOf_30 : decode cX1_dodgeOf 30 = .ok (.goto 4, 3) := by decide +kernel
theorem dX1_dodgeOf_33 : decode cX1_dodgeOf 33 = .ok (.iconst 0, 1) := by decide +kernel
theorem dX1_dodgeOf_34 : decode cX1_dodgeOf 34 = .ok (.ireturn, 1) := by decide +kernel
set_option maxRecDepth 20000 in
theorem ggX1_graspOf_X1_isPlayer : GoodIn wsX1_graspOf wsX1_isPlayer := goodIn_r _ [6, 7, 1, 40, 41, 42, 43, 44, 45, 46, 47] (by decide +kernel) (by decide +kernel)
set_option maxRecDepth 20000 in
theorem gX1_graspOf_X1_isPlayer : GoodIn wsX1_graspOf (wsV RX1 61 RX1 yX1_isPlayer wsX1_isPlayer) := goodIn_app (goodIn_of _ (by decide +kernel)) ggX1_graspOf_X1_isPlayer
set_option maxRecDepth 20000 in
theorem ggX1_graspOf_X1_isAlone : GoodIn wsX1_graspOf wsX1_isAlone := goodIn_r _ [11, 12, 13, 40, 41, 42, 43, 44, 45, 46, 47, 48, 49, 50] (by decide +kernel) (by decide +kernel)
set_option maxRecDepth 20000 in
theorem gX1_graspOf_X1_isAlone : GoodIn wsX1_graspOf (wsV RX1 89 RX1 yX1_isAlone wsX1_isAlone) := goodIn_app (goodIn_of _ (by decide +kernel)) ggX1_graspOf_X1_isAlone
set_option maxRecDepth 20000 in
theorem ggX1_graspOf_X0_grasp : GoodIn wsX1_graspOf wsX0_grasp := goodIn_r _ [20, 21, 15, 22, 23, 24, 25, 26, 27, 51, 52, 53, 54, 55, 56, 57, 58, 59, 60, 61, 62, 63, 64, 65, 66, 67, 68, 69, 70, 71, 72, 73, 74] (by decide +kernel) (by decide +kernel)
set_option maxRecDepth 20000 in
theorem gX1_graspOf_X0_grasp_u92X0 : GoodIn wsX1_graspOf (va_wsO RX1 92 RX0 "BallsAtDodger$Player" ⟨"BallsAtDodger$Player", "grasp", "(Z)I"⟩ yX0_grasp wsX0_grasp) := goodIn_app (goodIn_of _ (by decide +kernel)) ggX1_graspOf_X0_grasp
set_option maxRecDepth 20000 in
theorem ggX1_graspOf_X3_grasp : GoodIn wsX1_graspOf wsX3_grasp := goodIn_r _ [31, 32, 33, 34, 18, 19, 20, 21, 15, 22, 23, 24, 25, 26, 27, 51, 52, 53, 54, 55, 56, 57, 58, 59, 60, 61, 62, 63, 64, 65, 66, 67, 68, 69, 70, 71, 72, 73, 74] (by decide +kernel) (by decide +kernel)
set_option maxRecDepth 20000 in
theorem gX1_graspOf_X3_grasp_u92X3 : GoodIn wsX1_graspOf (va_wsO RX1 92 RX3 "BallsAtDodger$Player" ⟨"BallsAtDodger$Player", "grasp", "(Z)I"⟩ yX3_grasp wsX3_grasp) := goodIn_app (goodIn_of _ (by decide +kernel)) ggX1_graspOf_X3_grasp
set_option maxRecDepth 20000 in
theorem ggX1_graspOf_X4_grasp : GoodIn wsX1_graspOf wsX4_grasp := goodIn_r _ [25, 26, 27, 51, 52, 53, 54, 55, 56, 57, 58, 59, 60, 61, 62, 63, 64, 65, 66, 67, 68, 69, 70, 71, 72, 73, 74] (by decide +kernel) (by decide +kernel)
set_option maxRecDepth 20000 in
theorem gX1_graspOf_X4_grasp : GoodIn wsX1_graspOf (wsV RX1 92 RX4 yX4_grasp wsX4_grasp) := goodIn_app (goodIn_of _ (by decide +kernel)) ggX1_graspOf_X4_grasp
set_option maxRecDepth 20000 in
theorem gX1_graspOf_X4_grasp_u92X5 : GoodIn wsX1_graspOf (va_wsU RX1 92 RX5 "BallsAtDodger$Player" ⟨"BallsAtDodger$Player", "grasp", "(Z)I"⟩ yX4_grasp wsX4_grasp) := goodIn_app (goodIn_of _ (by decide +kernel)) ggX1_graspOf_X4_grasp
set_option maxRecDepth 20000 in
theorem gX1_graspOf_X4_grasp_u92X8 : GoodIn wsX1_graspOf (va_wsU RX1 92 RX8 "BallsAtDodger$Player" ⟨"BallsAtDodger$Player", "grasp", "(Z)I"⟩ yX4_grasp wsX4_grasp) := goodIn_app (goodIn_of _ (by decide +kernel)) ggX1_graspOf_X4_grasp
set_option maxRecDepth 20000 in
theorem gX1_graspOf_X4_grasp_u92X9 : GoodIn wsX1_graspOf (va_wsU RX1 92 RX9 "BallsAtDodger$Player" ⟨"BallsAtDodger$Player", "grasp", "(Z)I"⟩ yX4_grasp wsX4_grasp) := goodIn_app (goodIn_of _ (by decide +kernel)) ggX1_graspOf_X4_grasp
theorem dX1_graspOf_0 : decode cX1_graspOf 0 = .ok (.aload_n 0, 1) := by decide +kernel
theorem dX1_graspOf_1 : decode cX1_graspOf 1 = .ok (.iload_n 1, 1) := by decide +kernel
theorem dX1_graspOf_2 : decode cX1_graspOf 2 = .ok (.invokevirtual 61, 3) := by decide +kernel
theorem dX1_graspOf_5 : decode cX1_graspOf 5 = .ok (.ifCond .eq 20, 3) := by decide +kernel
theorem dX1_graspOf_8 : decode cX1_graspOf 8 = .ok (.aload_n 0, 1) := by decide +kernel
theorem dX1_graspOf_9 : decode cX1_graspOf 9 = .ok (.getfield 11, 3) := by decide +kernel
theorem dX1_graspOf_12 : decode cX1_graspOf 12 = .ok (.iload_n 1, 1) := by decide +kernel
theorem dX1_graspOf_13 : decode cX1_graspOf 13 = .ok (.aaload, 1) := by decide +kernel
theorem dX1_graspOf_14 : decode cX1_graspOf 14 = .ok (.aload_n 0, 1) := by decide +kernel
theorem dX1_graspOf_15 : decode cX1_graspOf 15 = .ok (.iload_n 1, 1) := by decide +kernel
theorem dX1_graspOf_16 : decode cX1_graspOf 16 = .ok (.invokevirtual 89, 3) := by decide +kernel
theorem dX1_graspOf_19 : decode cX1_graspOf 19 = .ok (.invokevirtual 92, 3) := by decide +kernel
theorem dX1_graspOf_22 : decode cX1_graspOf 22 = .ok (.goto 4, 3) := by decide +kernel
theorem dX1_graspOf_25 : decode cX1_graspOf 25 = .ok (.iconst 0, 1) := by decide +kernel
theorem dX1_graspOf_26 : decode cX1_graspOf 26 = .ok (.ireturn, 1) := by decide +kernel
theorem dX1_isAlone_0 : decode cX1_isAlone 0 = .ok (.aload_n 0, 1) := by decide +kernel
theorem dX1_isAlone_1 : decode cX1_isAlone 1 = .ok (.getfield 20, 3) := by decide +kernel
theorem dX1_isAlone_4 : decode cX1_isAlone 4 = .ok (.getfield 69, 3) := by decide +kernel
theorem dX1_isAlone_7 : decode cX1_isAlone 7 = .ok (.iconst 1, 1) := by decide +kernel
theorem dX1_isAlone_8 : decode cX1_isAlone 8 = .ok (.iload_n 1, 1) := by decide +kernel
theorem dX1_isAlone_9 : decode cX1_isAlone 9 = .ok (.ishl, 1) := by decide +kernel
theorem dX1_isAlone_10 : decode cX1_isAlone 10 = .ok (.if_icmp .eq 16, 3) := by decide +kernel
theorem dX1_isAlone_13 : decode cX1_isAlone 13 = .ok (.aload_n 0, 1) := by decide +kernel
theorem dX1_isAlone_14 : decode cX1_isAlone 14 = .ok (.getfield 24, 3) := by decide +kernel
theorem dX1_isAlone_17 : decode cX1_isAlone 17 = .ok (.getfield 69, 3) := by decide +kernel
theorem dX1_isAlone_20 : decode cX1_isAlone 20 = .ok (.iconst 1, 1) := by decide +kernel
theorem dX1_isAlone_21 : decode cX1_isAlone 21 = .ok (.iload_n 1, 1) := by decide +kernel
theorem dX1_isAlone_22 : decode cX1_isAlone 22 = .ok (.ishl, 1) := by decide +kernel
theorem dX1_isAlone_23 : decode cX1_isAlone 23 = .ok (.if_icmp .ne 7, 3) := by decide +kernel
theorem dX1_isAlone_26 : decode cX1_isAlone 26 = .ok (.iconst 1, 1) := by decide +kernel
theorem dX1_isAlone_27 : decode cX1_isAlone 27 = .ok (.goto 4, 3) := by decide +kernel
theorem dX1_isAlone_30 : decode cX1_isAlone 30 = .ok (.iconst 0, 1) := by decide +kernel
theorem dX1_isAlone_31 : decode cX1_isAlone 31 = .ok (.ireturn, 1) := by decide +kernel
set_option maxRecDepth 20000 in
theorem ggX1_holderOf_X10_isBall : GoodIn wsX1_holderOf wsX10_isBall := goodIn_r _ [4] (by decide +kernel) (by decide +kernel)
set_option maxRecDepth 20000 in
theorem gX1_holderOf_X10_isBall_n95 : GoodIn wsX1_holderOf (wsX10_isBall) := ggX1_holderOf_X10_isBall
theorem dX1_holderOf_0 : decode cX1_holderOf 0 = .ok (.iload_n 1, 1) := by decide +kernel
theorem dX1_holderOf_1 : decode cX1_holderOf 1 = .ok (.invokestatic 95, 3) := by decide +kernel
theorem dX1_holderOf_4 : decode cX1_holderOf 4 = .ok (.ifCond .eq 12, 3) := by decide +kernel
theorem dX1_holderOf_7 : decode cX1_holderOf 7 = .ok (.aload_n 0, 1) := by decide +kernel
theorem dX1_holderOf_8 : decode cX1_holderOf 8 = .ok (.getfield 27, 3) := by decide +kernel
theorem dX1_holderOf_11 : decode cX1_holderOf 11 = .ok (.iload_n 1, 1) := by decide +kernel
theorem dX1_holderOf_12 : decode cX1_holderOf 12 = .ok (.iaload, 1) := by decide +kernel
theorem dX1_holderOf_13 : decode cX1_holderOf 13 = .ok (.goto 5, 3) := by decide +kernel
theorem dX1_holderOf_16 : decode cX1_holderOf 16 = .ok (.bipush (-9), 2) := by decide +kernel
theorem dX1_holderOf_18 : decode cX1_holderOf 18 = .ok (.ireturn, 1) := by decide +kernel
set_option maxRecDepth 20000 in
theorem ggX1_floorOf_X10_isBall : GoodIn wsX1_floorOf wsX10_isBall := goodIn_r _ [4] (by decide +kernel) (by decide +kernel)
set_option maxRecDepth 20000 in
theorem gX1_floorOf_X10_isBall_n95 : GoodIn wsX1_floorOf (wsX10_isBall) := ggX1_floorOf_X10_isBall
theorem dX1_floorOf_0 : decode cX1_floorOf 0 = .ok (.iload_n 1, 1) := by decide +kernel
theorem dX1_floorOf_1 : decode cX1_floorOf 1 = .ok (.invokestatic 95, 3) := by decide +kernel
theorem dX1_floorOf_4 : decode cX1_floorOf 4 = .ok (.ifCond .eq 12, 3) := by decide +kernel
theorem dX1_floorOf_7 : decode cX1_floorOf 7 = .ok (.aload_n 0, 1) := by decide +kernel
theorem dX1_floorOf_8 : decode cX1_floorOf 8 = .ok (.getfield 31, 3) := by decide +kernel
theorem dX1_floorOf_11 : decode cX1_floorOf 11 = .ok (.iload_n 1, 1) := by decide +kernel
theorem dX1_floorOf_12 : decode cX1_floorOf 12 = .ok (.iaload, 1) := by decide +kernel
theorem dX1_floorOf_13 : decode cX1_floorOf 13 = .ok (.goto 5, 3) := by decide +kernel
theorem dX1_floorOf_16 : decode cX1_floorOf 16 = .ok (.bipush (-9), 2) := by decide +kernel
theorem dX1_floorOf_18 : decode cX1_floorOf 18 = .ok (.ireturn, 1) := by decide +kernel
set_option maxRecDepth 20000 in
theorem ggX1_heldOf_X10_isBall : GoodIn wsX1_heldOf wsX10_isBall := goodIn_r _ [4] (by decide +kernel) (by decide +kernel)
set_option maxRecDepth 20000 in
theorem gX1_heldOf_X10_isBall_n95 : GoodIn wsX1_heldOf (wsX10_isBall) := ggX1_heldOf_X10_isBall
theorem dX1_heldOf_0 : decode cX1_heldOf 0 = .ok (.iload_n 1, 1) := by decide +kernel
theorem dX1_heldOf_1 : decode cX1_heldOf 1 = .ok (.invokestatic 95, 3) := by decide +kernel
theorem dX1_heldOf_4 : decode cX1_heldOf 4 = .ok (.ifCond .eq 12, 3) := by decide +kernel
theorem dX1_heldOf_7 : decode cX1_heldOf 7 = .ok (.aload_n 0, 1) := by decide +kernel
theorem dX1_heldOf_8 : decode cX1_heldOf 8 = .ok (.getfield 34, 3) := by decide +kernel
theorem dX1_heldOf_11 : decode cX1_heldOf 11 = .ok (.iload_n 1, 1) := by decide +kernel
theorem dX1_heldOf_12 : decode cX1_heldOf 12 = .ok (.iaload, 1) := by decide +kernel
theorem dX1_heldOf_13 : decode cX1_heldOf 13 = .ok (.goto 4, 3) := by decide +kernel
theorem dX1_heldOf_16 : decode cX1_heldOf 16 = .ok (.iconst 0, 1) := by decide +kernel
theorem dX1_heldOf_17 : decode cX1_heldOf 17 = .ok (.ireturn, 1) := by decide +kernel
set_option maxRecDepth 20000 in
theorem ggX1_ballsOf_X1_isPlayer : GoodIn wsX1_ballsOf wsX1_isPlayer := goodIn_r _ [6, 7, 8, 9, 10, 11, 12, 13, 14, 15, 16] (by decide +kernel) (by decide +kernel)
set_option maxRecDepth 20000 in
theorem gX1_ballsOf_X1_isPlayer : GoodIn wsX1_ballsOf (wsV RX1 61 RX1 yX1_isPlayer wsX1_isPlayer) := goodIn_app (goodIn_of _ (by decide +kernel)) ggX1_ballsOf_X1_isPlayer
theorem dX1_ballsOf_0 : decode cX1_ballsOf 0 = .ok (.iconst 0, 1) := by decide +kernel
theorem dX1_ballsOf_1 : decode cX1_ballsOf 1 = .ok (.istore_n 2, 1) := by decide +kernel
theorem dX1_ballsOf_2 : decode cX1_ballsOf 2 = .ok (.iconst 0, 1) := by decide +kernel
theorem dX1_ballsOf_3 : decode cX1_ballsOf 3 = .ok (.istore_n 3, 1) := by decide +kernel
theorem dX1_ballsOf_4 : decode cX1_ballsOf 4 = .ok (.iload_n 3, 1) := by decide +kernel
theorem dX1_ballsOf_5 : decode cX1_ballsOf 5 = .ok (.bipush 6, 2) := by decide +kernel
theorem dX1_ballsOf_7 : decode cX1_ballsOf 7 = .ok (.if_icmp .ge 33, 3) := by decide +kernel
theorem dX1_ballsOf_10 : decode cX1_ballsOf 10 = .ok (.aload_n 0, 1) := by decide +kernel
theorem dX1_ballsOf_11 : decode cX1_ballsOf 11 = .ok (.iload_n 1, 1) := by decide +kernel
theorem dX1_ballsOf_12 : decode cX1_ballsOf 12 = .ok (.invokevirtual 61, 3) := by decide +kernel
theorem dX1_ballsOf_15 : decode cX1_ballsOf 15 = .ok (.ifCond .eq 25, 3) := by decide +kernel
theorem dX1_ballsOf_18 : decode cX1_ballsOf 18 = .ok (.aload_n 0, 1) := by decide +kernel
theorem dX1_ballsOf_19 : decode cX1_ballsOf 19 = .ok (.getfield 27, 3) := by decide +kernel
theorem dX1_ballsOf_22 : decode cX1_ballsOf 22 = .ok (.iload_n 3, 1) := by decide +kernel
theorem dX1_ballsOf_23 : decode cX1_ballsOf 23 = .ok (.iaload, 1) := by decide +kernel
theorem dX1_ballsOf_24 : decode cX1_ballsOf 24 = .ok (.iload_n 1, 1) := by decide +kernel
theorem dX1_ballsOf_25 : decode cX1_ballsOf 25 = .ok (.if_icmp .ne 9, 3) := by decide +kernel
theorem dX1_ballsOf_28 : decode cX1_ballsOf 28 = .ok (.iload_n 2, 1) := by decide +kernel
theorem dX1_ballsOf_29 : decode cX1_ballsOf 29 = .ok (.iconst 1, 1) := by decide +kernel
theorem dX1_ballsOf_30 : decode cX1_ballsOf 30 = .ok (.iload_n 3, 1) := by decide +kernel
theorem dX1_ballsOf_31 : decode cX1_ballsOf 31 = .ok (.ishl, 1) := by decide +kernel
theorem dX1_ballsOf_32 : decode cX1_ballsOf 32 = .ok (.ior, 1) := by decide +kernel
theorem dX1_ballsOf_33 : decode cX1_ballsOf 33 = .ok (.istore_n 2, 1) := by decide +kernel
theorem dX1_ballsOf_34 : decode cX1_ballsOf 34 = .ok (.iinc 3 1, 3) := by decide +kernel
theorem dX1_ballsOf_37 : decode cX1_ballsOf 37 = .ok (.goto (-33), 3) := by decide +kernel
theorem dX1_ballsOf_40 : decode cX1_ballsOf 40 = .ok (.iload_n 2, 1) := by decide +kernel
theorem dX1_ballsOf_41 : decode cX1_ballsOf 41 = .ok (.ireturn, 1) := by decide +kernel
set_option maxRecDepth 20000 in
theorem ggX1_leastBallOf_X1_isPlayer : GoodIn wsX1_leastBallOf wsX1_isPlayer := goodIn_r _ [6, 7, 8, 9, 10, 11, 12, 13, 14, 15, 16] (by decide +kernel) (by decide +kernel)
set_option maxRecDepth 20000 in
theorem gX1_leastBallOf_X1_isPlayer : GoodIn wsX1_leastBallOf (wsV RX1 61 RX1 yX1_isPlayer wsX1_isPlayer) := goodIn_app (goodIn_of _ (by decide +kernel)) ggX1_leastBallOf_X1_isPlayer
theorem dX1_leastBallOf_0 : decode cX1_leastBallOf 0 = .ok (.iconst 0, 1) := by decide +kernel
theorem dX1_leastBallOf_1 : decode cX1_leastBallOf 1 = .ok (.istore_n 2, 1) := by decide +kernel
theorem dX1_leastBallOf_2 : decode cX1_leastBallOf 2 = .ok (.iload_n 2, 1) := by decide +kernel
theorem dX1_leastBallOf_3 : decode cX1_leastBallOf 3 = .ok (.bipush 6, 2) := by decide +kernel
theorem dX1_leastBallOf_5 : decode cX1_leastBallOf 5 = .ok (.if_icmp .ge 29, 3) := by decide +kernel
theorem dX1_leastBallOf_8 : decode cX1_leastBallOf 8 = .ok (.aload_n 0, 1) := by decide +kernel
theorem dX1_leastBallOf_9 : decode cX1_leastBallOf 9 = .ok (.iload_n 1, 1) := by decide +kernel
theorem dX1_leastBallOf_10 : decode cX1_leastBallOf 10 = .ok (.invokevirtual 61, 3) := by decide +kernel
theorem dX1_leastBallOf_13 : decode cX1_leastBallOf 13 = .ok (.ifCond .eq 21, 3) := by decide +kernel
theorem dX1_leastBallOf_16 : decode cX1_leastBallOf 16 = .ok (.aload_n 0, 1) := by decide +kernel
theorem dX1_leastBallOf_17 : decode cX1_leastBallOf 17 = .ok (.getfield 27, 3) := by decide +kernel
theorem dX1_leastBallOf_20 : decode cX1_leastBallOf 20 = .ok (.iload_n 2, 1) := by decide +kernel
theorem dX1_leastBallOf_21 : decode cX1_leastBallOf 21 = .ok (.iaload, 1) := by decide +kernel
theorem dX1_leastBallOf_22 : decode cX1_leastBallOf 22 = .ok (.iload_n 1, 1) := by decide +kernel
theorem dX1_leastBallOf_23 : decode cX1_leastBallOf 23 = .ok (.if_icmp .ne 5, 3) := by decide +kernel
theorem dX1_leastBallOf_26 : decode cX1_leastBallOf 26 = .ok (.iload_n 2, 1) := by decide +kernel
theorem dX1_leastBallOf_27 : decode cX1_leastBallOf 27 = .ok (.ireturn, 1) := by decide +kernel
theorem dX1_leastBallOf_28 : decode cX1_leastBallOf 28 = .ok (.iinc 2 1, 3) := by decide +kernel
theorem dX1_leastBallOf_31 : decode cX1_leastBallOf 31 = .ok (.goto (-29), 3) := by decide +kernel
theorem dX1_leastBallOf_34 : decode cX1_leastBallOf 34 = .ok (.bipush (-9), 2) := by decide +kernel
theorem dX1_leastBallOf_36 : decode cX1_leastBallOf 36 = .ok (.ireturn, 1) := by decide +kernel
set_option maxRecDepth 20000 in
theorem ggX1_hasHandFree_X1_isIn : GoodIn wsX1_hasHandFree wsX1_isIn := goodIn_r _ [5, 6, 7, 8, 4, 9, 10, 11, 12, 13, 14, 15, 16, 17, 30, 31, 32, 33, 34, 35, 36, 37, 38, 39, 40] (by decide +kernel) (by decide +kernel)
set_option maxRecDepth 20000 in
theorem gX1_hasHandFree_X1_isIn : GoodIn wsX1_hasHandFree (wsV RX1 98 RX1 yX1_isIn wsX1_isIn) := goodIn_app (goodIn_of _ (by decide +kernel)) ggX1_hasHandFree_X1_isIn
set_option maxRecDepth 20000 in
theorem ggX1_hasHandFree_X1_ballsOf : GoodIn wsX1_hasHandFree wsX1_ballsOf := goodIn_r _ [21, 22, 6, 7, 8, 4, 9, 10, 11, 30, 31, 32, 33, 34, 35, 36, 37] (by decide +kernel) (by decide +kernel)
set_option maxRecDepth 20000 in
theorem gX1_hasHandFree_X1_ballsOf : GoodIn wsX1_hasHandFree (wsV RX1 82 RX1 yX1_ballsOf wsX1_ballsOf) := goodIn_app (goodIn_of _ (by decide +kernel)) ggX1_hasHandFree_X1_ballsOf
set_option maxRecDepth 20000 in
theorem ggX1_hasHandFree_J6_bitCount_0f7a4 : GoodIn wsX1_hasHandFree wsJ6_bitCount_0f7a4 := goodIn_r _ [26, 27, 28, 29] (by decide +kernel) (by decide +kernel)
set_option maxRecDepth 20000 in
theorem gX1_hasHandFree_J6_bitCount_0f7a4 : GoodIn wsX1_hasHandFree (va_wsS RX1 101 yJ6_bitCount_0f7a4 wsJ6_bitCount_0f7a4) := goodIn_app (goodIn_of _ (by decide +kernel)) ggX1_hasHandFree_J6_bitCount_0f7a4
theorem dX1_hasHandFree_0 : decode cX1_hasHandFree 0 = .ok (.aload_n 0, 1) := by decide +kernel
theorem dX1_hasHandFree_1 : decode cX1_hasHandFree 1 = .ok (.iload_n 1, 1) := by decide +kernel
theorem dX1_hasHandFree_2 : decode cX1_hasHandFree 2 = .ok (.invokevirtual 98, 3) := by decide +kernel
theorem dX1_hasHandFree_5 : decode cX1_hasHandFree 5 = .ok (.ifCond .eq 19, 3) := by decide +kernel
theorem dX1_hasHandFree_8 : decode cX1_hasHandFree 8 = .ok (.aload_n 0, 1) := by decide +kernel
theorem dX1_hasHandFree_9 : decode cX1_hasHandFree 9 = .ok (.iload_n 1, 1) := by decide +kernel
theorem dX1_hasHandFree_10 : decode cX1_hasHandFree 10 = .ok (.invokevirtual 82, 3) := by decide +kernel
theorem dX1_hasHandFree_13 : decode cX1_hasHandFree 13 = .ok (.invokestatic 101, 3) := by decide +kernel
theorem dX1_hasHandFree_16 : decode cX1_hasHandFree 16 = .ok (.iconst 2, 1) := by decide +kernel
theorem dX1_hasHandFree_17 : decode cX1_hasHandFree 17 = .ok (.if_icmp .ge 7, 3) := by decide +kernel
theorem dX1_hasHandFree_20 : decode cX1_hasHandFree 20 = .ok (.iconst 1, 1) := by decide +kernel
theorem dX1_hasHandFree_21 : decode cX1_hasHandFree 21 = .ok (.goto 4, 3) := by decide +kernel
theorem dX1_hasHandFree_24 : decode cX1_hasHandFree 24 = .ok (.iconst 0, 1) := by decide +kernel
theorem dX1_hasHandFree_25 : decode cX1_hasHandFree 25 = .ok (.ireturn, 1) := by decide +kernel
theorem dX1_lyingCount_0 : decode cX1_lyingCount 0 = .ok (.iconst 0, 1) := by decide +kernel
theorem dX1_lyingCount_1 : decode cX1_lyingCount 1 = .ok (.istore_n 2, 1) := by decide +kernel
theorem dX1_lyingCount_2 : decode cX1_lyingCount 2 = .ok (.iconst 0, 1) := by decide +kernel
theorem dX1_lyingCount_3 : decode cX1_lyingCount 3 = .ok (.istore_n 3, 1) := by decide +kernel
theorem dX1_lyingCount_4 : decode cX1_lyingCount 4 = .ok (.iload_n 3, 1) := by decide +kernel
theorem dX1_lyingCount_5 : decode cX1_lyingCount 5 = .ok (.bipush 6, 2) := by decide +kernel
theorem dX1_lyingCount_7 : decode cX1_lyingCount 7 = .ok (.if_icmp .ge 22, 3) := by decide +kernel
theorem dX1_lyingCount_10 : decode cX1_lyingCount 10 = .ok (.aload_n 0, 1) := by decide +kernel
theorem dX1_lyingCount_11 : decode cX1_lyingCount 11 = .ok (.getfield 31, 3) := by decide +kernel
theorem dX1_lyingCount_14 : decode cX1_lyingCount 14 = .ok (.iload_n 3, 1) := by decide +kernel
theorem dX1_lyingCount_15 : decode cX1_lyingCount 15 = .ok (.iaload, 1) := by decide +kernel
theorem dX1_lyingCount_16 : decode cX1_lyingCount 16 = .ok (.iload_n 1, 1) := by decide +kernel
theorem dX1_lyingCount_17 : decode cX1_lyingCount 17 = .ok (.if_icmp .ne 6, 3) := by decide +kernel
theorem dX1_lyingCount_20 : decode cX1_lyingCount 20 = .ok (.iinc 2 1, 3) := by decide +kernel
theorem dX1_lyingCount_23 : decode cX1_lyingCount 23 = .ok (.iinc 3 1, 3) := by decide +kernel
theorem dX1_lyingCount_26 : decode cX1_lyingCount 26 = .ok (.goto (-22), 3) := by decide +kernel
theorem dX1_lyingCount_29 : decode cX1_lyingCount 29 = .ok (.iload_n 2, 1) := by decide +kernel
theorem dX1_lyingCount_30 : decode cX1_lyingCount 30 = .ok (.ireturn, 1) := by decide +kernel
set_option maxRecDepth 20000 in
theorem ggX1_areOpposed_X1_isIn : GoodIn wsX1_areOpposed wsX1_isIn := goodIn_r _ [5, 6, 7, 8, 4, 9, 10, 11, 12, 13, 14, 15, 16, 17, 22, 23, 24, 25, 26, 27, 28, 29, 30, 31, 32] (by decide +kernel) (by decide +kernel)
set_option maxRecDepth 20000 in
theorem gX1_areOpposed_X1_isIn : GoodIn wsX1_areOpposed (wsV RX1 98 RX1 yX1_isIn wsX1_isIn) := goodIn_app (goodIn_of _ (by decide +kernel)) ggX1_areOpposed_X1_isIn
set_option maxRecDepth 20000 in
theorem ggX1_areOpposed_X1_sideOf : GoodIn wsX1_areOpposed wsX1_sideOf := goodIn_r _ [21, 11, 6, 7, 8, 4, 9, 10, 22, 23, 24, 25, 26, 27, 28, 29, 33, 34, 35, 36, 37, 38, 39, 40, 41, 42, 43, 44, 45, 46, 47, 48, 49, 50, 51, 52, 53, 54, 55, 56] (by decide +kernel) (by decide +kernel)
set_option maxRecDepth 20000 in
theorem gX1_areOpposed_X1_sideOf : GoodIn wsX1_areOpposed (wsV RX1 106 RX1 yX1_sideOf wsX1_sideOf) := goodIn_app (goodIn_of _ (by decide +kernel)) ggX1_areOpposed_X1_sideOf
theorem dX1_areOpposed_0 : decode cX1_areOpposed 0 = .ok (.aload_n 0, 1) := by decide +kernel
theorem dX1_areOpposed_1 : decode cX1_areOpposed 1 = .ok (.iload_n 1, 1) := by decide +kernel
theorem dX1_areOpposed_2 : decode cX1_areOpposed 2 = .ok (.invokevirtual 98, 3) := by decide +kernel
theorem dX1_areOpposed_5 : decode cX1_areOpposed 5 = .ok (.ifCond .eq 28, 3) := by decide +kernel
theorem dX1_areOpposed_8 : decode cX1_areOpposed 8 = .ok (.aload_n 0, 1) := by decide +kernel
theorem dX1_areOpposed_9 : decode cX1_areOpposed 9 = .ok (.iload_n 2, 1) := by decide +kernel
theorem dX1_areOpposed_10 : decode cX1_areOpposed 10 = .ok (.invokevirtual 98, 3) := by decide +kernel
theorem dX1_areOpposed_13 : decode cX1_areOpposed 13 = .ok (.ifCond .eq 20, 3) := by decide +kernel
theorem dX1_areOpposed_16 : decode cX1_areOpposed 16 = .ok (.aload_n 0, 1) := by decide +kernel
theorem dX1_areOpposed_17 : decode cX1_areOpposed 17 = .ok (.iload_n 1, 1) := by decide +kernel
theorem dX1_areOpposed_18 : decode cX1_areOpposed 18 = .ok (.invokevirtual 106, 3) := by decide +kernel
theorem dX1_areOpposed_21 : decode cX1_areOpposed 21 = .ok (.aload_n 0, 1) := by decide +kernel
theorem dX1_areOpposed_22 : decode cX1_areOpposed 22 = .ok (.iload_n 2, 1) := by decide +kernel
theorem dX1_areOpposed_23 : decode cX1_areOpposed 23 = .ok (.invokevirtual 106, 3) := by decide +kernel
theorem dX1_areOpposed_26 : decode cX1_areOpposed 26 = .ok (.if_icmp .eq 7, 3) := by decide +kernel
theorem dX1_areOpposed_29 : decode cX1_areOpposed 29 = .ok (.iconst 1, 1) := by decide +kernel
theorem dX1_areOpposed_30 : decode cX1_areOpposed 30 = .ok (.goto 4, 3) := by decide +kernel
theorem dX1_areOpposed_33 : decode cX1_areOpposed 33 = .ok (.iconst 0, 1) := by decide +kernel
theorem dX1_areOpposed_34 : decode cX1_areOpposed 34 = .ok (.ireturn, 1) := by decide +kernel
set_option maxRecDepth 20000 in
theorem ggX1_couldThrowAt_X1_areOpposed : GoodIn wsX1_couldThrowAt wsX1_areOpposed := goodIn_r _ [5, 6, 7, 8, 4, 9, 10, 11, 12, 13, 14, 15, 16, 17, 18, 19, 20, 21, 22, 23, 24, 25, 31, 32, 33, 34, 35, 36, 37, 38, 39, 40, 41, 42, 43, 44, 45, 46, 47, 48, 49, 50, 51, 52, 53, 54, 55, 56, 57, 58, 59, 60, 61, 62, 63, 64, 65] (by decide +kernel) (by decide +kernel)
set_option maxRecDepth 20000 in
theorem gX1_couldThrowAt_X1_areOpposed : GoodIn wsX1_couldThrowAt (wsV RX1 109 RX1 yX1_areOpposed wsX1_areOpposed) := goodIn_app (goodIn_of _ (by decide +kernel)) ggX1_couldThrowAt_X1_areOpposed
set_option maxRecDepth 20000 in
theorem ggX1_couldThrowAt_X1_ballsOf : GoodIn wsX1_couldThrowAt wsX1_ballsOf := goodIn_r _ [29, 30, 10, 11, 12, 4, 13, 14, 15, 31, 32, 33, 34, 35, 36, 37, 38] (by decide +kernel) (by decide +kernel)
set_option maxRecDepth 20000 in
theorem gX1_couldThrowAt_X1_ballsOf : GoodIn wsX1_couldThrowAt (wsV RX1 82 RX1 yX1_ballsOf wsX1_ballsOf) := goodIn_app (goodIn_of _ (by decide +kernel)) ggX1_couldThrowAt_X1_ballsOf
theorem dX1_couldThrowAt_0 : decode cX1_couldThrowAt 0 = .ok (.aload_n 0, 1) := by decide +kernel
theorem dX1_couldThrowAt_1 : decode cX1_couldThrowAt 1 = .ok (.iload_n 1, 1) := by decide +kernel
theorem dX1_couldThrowAt_2 : decode cX1_couldThrowAt 2 = .ok (.iload_n 2, 1) := by decide +kernel
theorem dX1_couldThrowAt_3 : decode cX1_couldThrowAt 3 = .ok (.invokevirtual 109, 3) := by decide +kernel
theorem dX1_couldThrowAt_6 : decode cX1_couldThrowAt 6 = .ok (.ifCond .eq 15, 3) := by decide +kernel
theorem dX1_couldThrowAt_9 : decode cX1_couldThrowAt 9 = .ok (.aload_n 0, 1) := by decide +kernel
theorem dX1_couldThrowAt_10 : decode cX1_couldThrowAt 10 = .ok (.iload_n 1, 1) := by decide +kernel
theorem dX1_couldThrowAt_11 : decode cX1_couldThrowAt 11 = .ok (.invokevirtual 82, 3) := by decide +kernel
theorem dX1_couldThrowAt_14 : decode cX1_couldThrowAt 14 = .ok (.ifCond .eq 7, 3) := by decide +kernel
theorem dX1_couldThrowAt_17 : decode cX1_couldThrowAt 17 = .ok (.iconst 1, 1) := by decide +kernel
theorem dX1_couldThrowAt_18 : decode cX1_couldThrowAt 18 = .ok (.goto 4, 3) := by decide +kernel
theorem dX1_couldThrowAt_21 : decode cX1_couldThrowAt 21 = .ok (.iconst 0, 1) := by decide +kernel
theorem dX1_couldThrowAt_22 : decode cX1_couldThrowAt 22 = .ok (.ireturn, 1) := by decide +kernel
set_option maxRecDepth 20000 in
theorem ggX1_canThrow_X1_holderOf : GoodIn wsX1_canThrow wsX1_holderOf := goodIn_r _ [5, 6, 7, 8, 9, 34, 35, 36, 37, 38, 39, 40, 41] (by decide +kernel) (by decide +kernel)
set_option maxRecDepth 20000 in
theorem gX1_canThrow_X1_holderOf : GoodIn wsX1_canThrow (wsV RX1 113 RX1 yX1_holderOf wsX1_holderOf) := goodIn_app (goodIn_of _ (by decide +kernel)) ggX1_canThrow_X1_holderOf
set_option maxRecDepth 20000 in
theorem ggX1_canThrow_X1_areOpposed : GoodIn wsX1_canThrow wsX1_areOpposed := goodIn_r _ [13, 14, 15, 16, 4, 17, 18, 19, 20, 21, 22, 23, 24, 25, 26, 27, 28, 29, 30, 31, 32, 33, 34, 35, 36, 37, 38, 39, 40, 41, 42, 43, 44, 45, 46, 47, 48, 49, 50, 51, 52, 53, 54, 55, 56, 57, 58, 59, 60, 61, 62, 63, 64, 65, 66, 67, 68] (by decide +kernel) (by decide +kernel)
set_option maxRecDepth 20000 in
theorem gX1_canThrow_X1_areOpposed : GoodIn wsX1_canThrow (wsV RX1 109 RX1 yX1_areOpposed wsX1_areOpposed) := goodIn_app (goodIn_of _ (by decide +kernel)) ggX1_canThrow_X1_areOpposed
theorem dX1_canThrow_0 : decode cX1_canThrow 0 = .ok (.aload_n 0, 1) := by decide +kernel
theorem dX1_canThrow_1 : decode cX1_canThrow 1 = .ok (.aload_n 0, 1) := by decide +kernel
theorem dX1_canThrow_2 : decode cX1_canThrow 2 = .ok (.iload_n 1, 1) := by decide +kernel
theorem dX1_canThrow_3 : decode cX1_canThrow 3 = .ok (.invokevirtual 113, 3) := by decide +kernel
theorem dX1_canThrow_6 : decode cX1_canThrow 6 = .ok (.iload_n 2, 1) := by decide +kernel
theorem dX1_canThrow_7 : decode cX1_canThrow 7 = .ok (.invokevirtual 109, 3) := by decide +kernel
theorem dX1_canThrow_10 : decode cX1_canThrow 10 = .ok (.ireturn, 1) := by decide +kernel
set_option maxRecDepth 20000 in
theorem ggX1_canTake_X1_hasHandFree : GoodIn wsX1_canTake wsX1_hasHandFree := goodIn_r _ [5, 6, 7, 8, 4, 9, 10, 11, 12, 13, 14, 15, 16, 17, 18, 19, 20, 21, 22, 23, 24, 25, 26, 27, 28, 29, 30, 31, 32, 33, 46, 47, 48, 49, 50, 51, 52, 53, 54, 55, 56] (by decide +kernel) (by decide +kernel)
set_option maxRecDepth 20000 in
theorem gX1_canTake_X1_hasHandFree : GoodIn wsX1_canTake (wsV RX1 116 RX1 yX1_hasHandFree wsX1_hasHandFree) := goodIn_app (goodIn_of _ (by decide +kernel)) ggX1_canTake_X1_hasHandFree
set_option maxRecDepth 20000 in
theorem ggX1_canTake_X1_floorOf : GoodIn wsX1_canTake wsX1_floorOf := goodIn_r _ [37, 38, 39, 40, 41, 46, 47, 48, 49, 50, 51, 52, 53] (by decide +kernel) (by decide +kernel)
set_option maxRecDepth 20000 in
theorem gX1_canTake_X1_floorOf : GoodIn wsX1_canTake (wsV RX1 119 RX1 yX1_floorOf wsX1_floorOf) := goodIn_app (goodIn_of _ (by decide +kernel)) ggX1_canTake_X1_floorOf
set_option maxRecDepth 20000 in
theorem ggX1_canTake_X1_sideOf : GoodIn wsX1_canTake wsX1_sideOf := goodIn_r _ [45, 15, 10, 11, 12, 4, 13, 14, 46, 47, 48, 49, 50, 51, 52, 53, 57, 58, 59, 60, 61, 62, 63, 64, 65, 66, 67, 68, 69, 70, 71, 72, 73, 74, 75, 76, 77, 78, 79, 80] (by decide +kernel) (by decide +kernel)
set_option maxRecDepth 20000 in
theorem gX1_canTake_X1_sideOf : GoodIn wsX1_canTake (wsV RX1 106 RX1 yX1_sideOf wsX1_sideOf) := goodIn_app (goodIn_of _ (by decide +kernel)) ggX1_canTake_X1_sideOf
theorem dX1_canTake_0 : decode cX1_canTake 0 = .ok (.aload_n 0, 1) := by decide +kernel
theorem dX1_canTake_1 : decode cX1_canTake 1 = .ok (.iload_n 1, 1) := by decide +kernel
theorem dX1_canTake_2 : decode cX1_canTake 2 = .ok (.invokevirtual 116, 3) := by decide +kernel
theorem dX1_canTake_5 : decode cX1_canTake 5 = .ok (.ifCond .eq 20, 3) := by decide +kernel
theorem dX1_canTake_8 : decode cX1_canTake 8 = .ok (.aload_n 0, 1) := by decide +kernel
theorem dX1_canTake_9 : decode cX1_canTake 9 = .ok (.iload_n 2, 1) := by decide +kernel
theorem dX1_canTake_10 : decode cX1_canTake 10 = .ok (.invokevirtual 119, 3) := by decide +kernel
theorem dX1_canTake_13 : decode cX1_canTake 13 = .ok (.aload_n 0, 1) := by decide +kernel
theorem dX1_canTake_14 : decode cX1_canTake 14 = .ok (.iload_n 1, 1) := by decide +kernel
theorem dX1_canTake_15 : decode cX1_canTake 15 = .ok (.invokevirtual 106, 3) := by decide +kernel
theorem dX1_canTake_18 : decode cX1_canTake 18 = .ok (.if_icmp .ne 7, 3) := by decide +kernel
theorem dX1_canTake_21 : decode cX1_canTake 21 = .ok (.iconst 1, 1) := by decide +kernel
theorem dX1_canTake_22 : decode cX1_canTake 22 = .ok (.goto 4, 3) := by decide +kernel
theorem dX1_canTake_25 : decode cX1_canTake 25 = .ok (.iconst 0, 1) := by decide +kernel
theorem dX1_canTake_26 : decode cX1_canTake 26 = .ok (.ireturn, 1) := by decide +kernel
set_option maxRecDepth 20000 in
theorem ggX1_hitOf_X1_aimOf : GoodIn wsX1_hitOf wsX1_aimOf := goodIn_r _ [5, 6, 7, 8, 9, 10, 4, 11, 12, 13, 14, 15, 16, 17, 18, 19, 20, 21, 22, 23, 24, 25, 26, 27, 28, 29, 30, 31, 32, 33, 34, 35, 78, 79, 80, 81, 82, 83, 84, 85, 86, 87, 88, 89, 90, 91, 92, 93, 94, 95, 96, 97, 98, 99, 100, 101, 102, 103, 104, 105, 106, 107, 108, 109] (by decide +kernel) (by decide +kernel)
set_option maxRecDepth 20000 in
theorem gX1_hitOf_X1_aimOf : GoodIn wsX1_hitOf (wsV RX1 122 RX1 yX1_aimOf wsX1_aimOf) := goodIn_app (goodIn_of _ (by decide +kernel)) ggX1_hitOf_X1_aimOf
set_option maxRecDepth 20000 in
theorem ggX1_hitOf_X1_dodgeOf : GoodIn wsX1_hitOf wsX1_dodgeOf := goodIn_r _ [39, 6, 8, 9, 10, 4, 11, 12, 40, 41, 42, 43, 44, 45, 46, 47, 48, 17, 49, 50, 51, 52, 53, 54, 55, 56, 57, 58, 59, 60, 61, 62, 63, 64, 65, 66, 67, 68, 78, 79, 80, 81, 82, 83, 84, 85, 86, 87, 88, 89, 90, 91, 92, 93, 94, 95, 96, 97, 98, 99, 100, 101, 102, 103, 104, 105, 106, 107, 108, 109] (by decide +kernel) (by decide +kernel)
set_option maxRecDepth 20000 in
theorem gX1_hitOf_X1_dodgeOf : GoodIn wsX1_hitOf (wsV RX1 125 RX1 yX1_dodgeOf wsX1_dodgeOf) := goodIn_app (goodIn_of _ (by decide +kernel)) ggX1_hitOf_X1_dodgeOf
set_option maxRecDepth 20000 in
theorem ggX1_hitOf_X10_isHow : GoodIn wsX1_hitOf wsX10_isHow := goodIn_r _ [71] (by decide +kernel) (by decide +kernel)
set_option maxRecDepth 20000 in
theorem gX1_hitOf_X10_isHow_n128 : GoodIn wsX1_hitOf (wsX10_isHow) := ggX1_hitOf_X10_isHow
set_option maxRecDepth 20000 in
theorem ggX1_hitOf_X10_withinOdds : GoodIn wsX1_hitOf wsX10_withinOdds := goodIn_r _ [73, 74, 75, 31, 76, 77, 30, 32] (by decide +kernel) (by decide +kernel)
set_option maxRecDepth 20000 in
theorem gX1_hitOf_X10_withinOdds_n134 : GoodIn wsX1_hitOf (wsX10_withinOdds) := ggX1_hitOf_X10_withinOdds
theorem dX1_hitOf_0 : decode cX1_hitOf 0 = .ok (.bipush 10, 2) := by decide +kernel
theorem dX1_hitOf_2 : decode cX1_hitOf 2 = .ok (.aload_n 0, 1) := by decide +kernel
theorem dX1_hitOf_3 : decode cX1_hitOf 3 = .ok (.iload_n 1, 1) := by decide +kernel
theorem dX1_hitOf_4 : decode cX1_hitOf 4 = .ok (.invokevirtual 122, 3) := by decide +kernel
theorem dX1_hitOf_7 : decode cX1_hitOf 7 = .ok (.iadd, 1) := by decide +kernel
theorem dX1_hitOf_8 : decode cX1_hitOf 8 = .ok (.aload_n 0, 1) := by decide +kernel
theorem dX1_hitOf_9 : decode cX1_hitOf 9 = .ok (.iload_n 2, 1) := by decide +kernel
theorem dX1_hitOf_10 : decode cX1_hitOf 10 = .ok (.invokevirtual 125, 3) := by decide +kernel
theorem dX1_hitOf_13 : decode cX1_hitOf 13 = .ok (.isub, 1) := by decide +kernel
theorem dX1_hitOf_14 : decode cX1_hitOf 14 = .ok (.iload_n 3, 1) := by decide +kernel
theorem dX1_hitOf_15 : decode cX1_hitOf 15 = .ok (.invokestatic 128, 3) := by decide +kernel
theorem dX1_hitOf_18 : decode cX1_hitOf 18 = .ok (.ifCond .eq 11, 3) := by decide +kernel
theorem dX1_hitOf_21 : decode cX1_hitOf 21 = .ok (.getstatic 131, 3) := by decide +kernel
theorem dX1_hitOf_24 : decode cX1_hitOf 24 = .ok (.iload_n 3, 1) := by decide +kernel
theorem dX1_hitOf_25 : decode cX1_hitOf 25 = .ok (.iaload, 1) := by decide +kernel
theorem dX1_hitOf_26 : decode cX1_hitOf 26 = .ok (.goto 4, 3) := by decide +kernel
theorem dX1_hitOf_29 : decode cX1_hitOf 29 = .ok (.iconst 0, 1) := by decide +kernel
theorem dX1_hitOf_30 : decode cX1_hitOf 30 = .ok (.iadd, 1) := by decide +kernel
theorem dX1_hitOf_31 : decode cX1_hitOf 31 = .ok (.invokestatic 134, 3) := by decide +kernel
theorem dX1_hitOf_34 : decode cX1_hitOf 34 = .ok (.ireturn, 1) := by decide +kernel
set_option maxRecDepth 20000 in
theorem ggX1_caughtOf_X1_graspOf : GoodIn wsX1_caughtOf wsX1_graspOf := goodIn_r _ [5, 6, 7, 8, 9, 4, 10, 11, 12, 13, 14, 15, 16, 17, 18, 19, 20, 21, 22, 23, 24, 25, 26, 27, 28, 29, 30, 31, 32, 33, 34, 35, 36, 37, 38, 39, 40, 41, 42, 43, 56, 57, 58, 59, 60, 61, 62, 63, 64, 65, 66, 67, 68, 69, 70, 71, 72, 73, 74, 75, 76, 77, 78, 79, 80, 81, 82, 83, 84, 85, 86, 87, 88, 89, 90] (by decide +kernel) (by decide +kernel)
set_option maxRecDepth 20000 in
theorem gX1_caughtOf_X1_graspOf : GoodIn wsX1_caughtOf (wsV RX1 137 RX1 yX1_graspOf wsX1_graspOf) := goodIn_app (goodIn_of _ (by decide +kernel)) ggX1_caughtOf_X1_graspOf
set_option maxRecDepth 20000 in
theorem ggX1_caughtOf_X10_isHow : GoodIn wsX1_caughtOf wsX10_isHow := goodIn_r _ [46] (by decide +kernel) (by decide +kernel)
set_option maxRecDepth 20000 in
theorem gX1_caughtOf_X10_isHow_n128 : GoodIn wsX1_caughtOf (wsX10_isHow) := ggX1_caughtOf_X10_isHow
set_option maxRecDepth 20000 in
theorem ggX1_caughtOf_X10_withinOdds : GoodIn wsX1_caughtOf wsX10_withinOdds := goodIn_r _ [48, 49, 50, 51, 52, 53, 54, 55] (by decide +kernel) (by decide +kernel)
set_option maxRecDepth 20000 in
theorem gX1_caughtOf_X10_withinOdds_n134 : GoodIn wsX1_caughtOf (wsX10_withinOdds) := ggX1_caughtOf_X10_withinOdds
theorem dX1_caughtOf_0 : decode cX1_caughtOf 0 = .ok (.aload_n 0, 1) := by decide +kernel
theorem dX1_caughtOf_1 : decode cX1_caughtOf 1 = .ok (.iload_n 1, 1) := by decide +kernel
theorem dX1_caughtOf_2 : decode cX1_caughtOf 2 = .ok (.invokevirtual 137, 3) := by decide +kernel
theorem dX1_caughtOf_5 : decode cX1_caughtOf 5 = .ok (.iload_n 2, 1) := by decide +kernel
theorem dX1_caughtOf_6 : decode cX1_caughtOf 6 = .ok (.invokestatic 128, 3) := by decide +kernel
theorem dX1_caughtOf_9 : decode cX1_caughtOf 9 = .ok (.ifCond .eq 11, 3) := by decide +kernel
theorem dX1_caughtOf_12 : decode cX1_caughtOf 12 = .ok (.getstatic 140, 3) := by decide +kernel
theorem dX1_caughtOf_15 : decode cX1_caughtOf 15 = .ok (.iload_n 2, 1) := by decide +kernel
theorem dX1_caughtOf_16 : decode cX1_caughtOf 16 = .ok (.iaload, 1) := by decide +kernel
theorem dX1_caughtOf_17 : decode cX1_caughtOf 17 = .ok (.goto 4, 3) := by decide +kernel
theorem dX1_caughtOf_20 : decode cX1_caughtOf 20 = .ok (.iconst 0, 1) := by decide +kernel
theorem dX1_caughtOf_21 : decode cX1_caughtOf 21 = .ok (.iadd, 1) := by decide +kernel
theorem dX1_caughtOf_22 : decode cX1_caughtOf 22 = .ok (.invokestatic 134, 3) := by decide +kernel
theorem dX1_caughtOf_25 : decode cX1_caughtOf 25 = .ok (.ireturn, 1) := by decide +kernel
set_option maxRecDepth 20000 in
theorem ggX1_gainOf_X1_hitOf : GoodIn wsX1_gainOf wsX1_hitOf := goodIn_r _ [5, 6, 7, 8, 4, 9, 10, 11, 12, 13, 14, 15, 16, 17, 18, 19, 20, 21, 22, 23, 24, 25, 26, 27, 28, 29, 30, 31, 32, 33, 34, 35, 36, 37, 38, 39, 40, 41, 42, 43, 44, 45, 46, 47, 48, 49, 50, 51, 52, 53, 54, 55, 56, 57, 58, 59, 60, 61, 62, 63, 64, 65, 66, 67, 68, 69, 70, 71, 72, 73, 74, 75, 76, 77, 78, 79, 80, 81, 119, 120, 121, 122, 123, 124, 125, 126, 127, 128, 129, 130, 131, 132, 133, 134, 135, 136, 137, 138, 139, 140, 141, 142, 143, 144, 145, 146, 147, 148, 149, 150] (by decide +kernel) (by decide +kernel)
set_option maxRecDepth 20000 in
theorem gX1_gainOf_X1_hitOf : GoodIn wsX1_gainOf (wsV RX1 143 RX1 yX1_hitOf wsX1_hitOf) := goodIn_app (goodIn_of _ (by decide +kernel)) ggX1_gainOf_X1_hitOf
set_option maxRecDepth 20000 in
theorem ggX1_gainOf_X1_caughtOf : GoodIn wsX1_gainOf wsX1_caughtOf := goodIn_r _ [85, 86, 87, 88, 4, 89, 10, 12, 13, 14, 15, 16, 90, 91, 92, 93, 94, 95, 96, 97, 98, 99, 100, 101, 102, 103, 104, 105, 21, 106, 23, 54, 107, 108, 109, 110, 111, 112, 113, 114, 115, 116, 117, 118, 73, 74, 75, 76, 77, 78, 79, 35, 80, 81, 34, 36, 119, 120, 121, 122, 123, 124, 125, 126, 151, 152, 153, 127, 128, 129, 130, 131, 132, 133, 134, 135, 136, 137, 138, 139, 140, 141, 142, 143, 144, 145, 146, 147, 148, 149, 150] (by decide +kernel) (by decide +kernel)
set_option maxRecDepth 20000 in
theorem gX1_gainOf_X1_caughtOf : GoodIn wsX1_gainOf (wsV RX1 147 RX1 yX1_caughtOf wsX1_caughtOf) := goodIn_app (goodIn_of _ (by decide +kernel)) ggX1_gainOf_X1_caughtOf
theorem dX1_gainOf_0 : decode cX1_gainOf 0 = .ok (.aload_n 0, 1) := by decide +kernel
theorem dX1_gainOf_1 : decode cX1_gainOf 1 = .ok (.iload_n 1, 1) := by decide +kernel
theorem dX1_gainOf_2 : decode cX1_gainOf 2 = .ok (.iload_n 2, 1) := by decide +kernel
theorem dX1_gainOf_3 : decode cX1_gainOf 3 = .ok (.iload_n 3, 1) := by decide +kernel
theorem dX1_gainOf_4 : decode cX1_gainOf 4 = .ok (.invokevirtual 143, 3) := by decide +kernel
theorem dX1_gainOf_7 : decode cX1_gainOf 7 = .ok (.iconst 2, 1) := by decide +kernel
theorem dX1_gainOf_8 : decode cX1_gainOf 8 = .ok (.aload_n 0, 1) := by decide +kernel
theorem dX1_gainOf_9 : decode cX1_gainOf 9 = .ok (.iload_n 2, 1) := by decide +kernel
theorem dX1_gainOf_10 : decode cX1_gainOf 10 = .ok (.iload_n 3, 1) := by decide +kernel
theorem dX1_gainOf_11 : decode cX1_gainOf 11 = .ok (.invokevirtual 147, 3) := by decide +kernel
theorem dX1_gainOf_14 : decode cX1_gainOf 14 = .ok (.imul, 1) := by decide +kernel
theorem dX1_gainOf_15 : decode cX1_gainOf 15 = .ok (.isub, 1) := by decide +kernel
theorem dX1_gainOf_16 : decode cX1_gainOf 16 = .ok (.ireturn, 1) := by decide +kernel
set_option maxRecDepth 20000 in
theorem ggX1_gainAt_X1_sideOf : GoodIn wsX1_gainAt wsX1_sideOf := goodIn_r _ [6, 7, 8, 9, 10, 5, 11, 1, 139, 140, 141, 142, 143, 144, 145, 146, 147, 148, 149, 150, 151, 152, 153, 154, 155, 156, 157, 158, 159, 160, 161, 162, 163, 164, 165, 166, 167, 168, 169, 170] (by decide +kernel) (by decide +kernel)
set_option maxRecDepth 20000 in
theorem gX1_gainAt_X1_sideOf : GoodIn wsX1_gainAt (wsV RX1 106 RX1 yX1_sideOf wsX1_sideOf) := goodIn_app (goodIn_of _ (by decide +kernel)) ggX1_gainAt_X1_sideOf
set_option maxRecDepth 20000 in
theorem ggX1_gainAt_X1_areOpposed : GoodIn wsX1_gainAt wsX1_areOpposed := goodIn_r _ [15, 16, 17, 18, 5, 19, 8, 9, 10, 11, 1, 7, 20, 21, 22, 23, 24, 25, 2, 3, 4, 6, 139, 140, 141, 142, 143, 144, 145, 146, 171, 172, 173, 147, 148, 149, 150, 151, 152, 153, 154, 155, 156, 157, 158, 159, 160, 161, 162, 163, 164, 165, 166, 167, 168, 169, 170] (by decide +kernel) (by decide +kernel)
set_option maxRecDepth 20000 in
theorem gX1_gainAt_X1_areOpposed : GoodIn wsX1_gainAt (wsV RX1 109 RX1 yX1_areOpposed wsX1_areOpposed) := goodIn_app (goodIn_of _ (by decide +kernel)) ggX1_gainAt_X1_areOpposed
set_option maxRecDepth 20000 in
theorem ggX1_gainAt_X1_gainOf : GoodIn wsX1_gainAt wsX1_gainOf := goodIn_r _ [29, 30, 31, 32, 5, 33, 34, 35, 36, 37, 7, 38, 8, 9, 10, 11, 1, 39, 40, 41, 42, 43, 44, 45, 46, 47, 48, 49, 50, 51, 52, 53, 54, 55, 56, 57, 58, 59, 60, 61, 62, 63, 64, 65, 66, 67, 68, 69, 70, 71, 72, 73, 74, 75, 76, 77, 78, 79, 80, 81, 82, 83, 84, 85, 86, 87, 88, 89, 90, 91, 92, 93, 94, 95, 96, 97, 98, 99, 100, 101, 102, 103, 104, 105, 106, 107, 108, 109, 110, 111, 112, 113, 114, 115, 24, 25, 116, 117, 118, 119, 120, 121, 122, 123, 124, 125, 126, 127, 128, 129, 130, 131, 132, 133, 134, 135, 136, 137, 138, 139, 140, 141, 142, 143, 144, 145, 146, 147, 148, 149, 150, 151, 152, 153, 154, 155, 156, 157, 158, 159, 160, 161, 162, 163, 164, 165, 166, 167, 168, 169, 170, 171, 172, 173] (by decide +kernel) (by decide +kernel)
set_option maxRecDepth 20000 in
theorem gX1_gainAt_X1_gainOf : GoodIn wsX1_gainAt (wsV RX1 151 RX1 yX1_gainOf wsX1_gainOf) := goodIn_app (goodIn_of _ (by decide +kernel)) ggX1_gainAt_X1_gainOf
theorem dX1_gainAt_0 : decode cX1_gainAt 0 = .ok (.iconst 0, 1) := by decide +kernel
theorem dX1_gainAt_1 : decode cX1_gainAt 1 = .ok (.istore_n 2, 1) := by decide +kernel
theorem dX1_gainAt_2 : decode cX1_gainAt 2 = .ok (.iconst 0, 1) := by decide +kernel
theorem dX1_gainAt_3 : decode cX1_gainAt 3 = .ok (.istore_n 3, 1) := by decide +kernel
theorem dX1_gainAt_4 : decode cX1_gainAt 4 = .ok (.iload_n 3, 1) := by decide +kernel
theorem dX1_gainAt_5 : decode cX1_gainAt 5 = .ok (.aload_n 0, 1) := by decide +kernel
theorem dX1_gainAt_6 : decode cX1_gainAt 6 = .ok (.getfield 44, 3) := by decide +kernel
theorem dX1_gainAt_9 : decode cX1_gainAt 9 = .ok (.if_icmp .ge 58, 3) := by decide +kernel
theorem dX1_gainAt_12 : decode cX1_gainAt 12 = .ok (.iconst 0, 1) := by decide +kernel
theorem dX1_gainAt_13 : decode cX1_gainAt 13 = .ok (.istore 4, 2) := by decide +kernel
theorem dX1_gainAt_15 : decode cX1_gainAt 15 = .ok (.iload 4, 2) := by decide +kernel
theorem dX1_gainAt_17 : decode cX1_gainAt 17 = .ok (.aload_n 0, 1) := by decide +kernel
theorem dX1_gainAt_18 : decode cX1_gainAt 18 = .ok (.getfield 44, 3) := by decide +kernel
theorem dX1_gainAt_21 : decode cX1_gainAt 21 = .ok (.if_icmp .ge 40, 3) := by decide +kernel
theorem dX1_gainAt_24 : decode cX1_gainAt 24 = .ok (.aload_n 0, 1) := by decide +kernel
theorem dX1_gainAt_25 : decode cX1_gainAt 25 = .ok (.iload 4, 2) := by decide +kernel
theorem dX1_gainAt_27 : decode cX1_gainAt 27 = .ok (.invokevirtual 106, 3) := by decide +kernel
theorem dX1_gainAt_30 : decode cX1_gainAt 30 = .ok (.iload_n 1, 1) := by decide +kernel
theorem dX1_gainAt_31 : decode cX1_gainAt 31 = .ok (.if_icmp .ne 24, 3) := by decide +kernel
theorem dX1_gainAt_34 : decode cX1_gainAt 34 = .ok (.aload_n 0, 1) := by decide +kernel
theorem dX1_gainAt_35 : decode cX1_gainAt 35 = .ok (.iload_n 3, 1) := by decide +kernel
theorem dX1_gainAt_36 : decode cX1_gainAt 36 = .ok (.iload 4, 2) := by decide +kernel
theorem dX1_gainAt_38 : decode cX1_gainAt 38 = .ok (.invokevirtual 109, 3) := by decide +kernel
theorem dX1_gainAt_41 : decode cX1_gainAt 41 = .ok (.ifCond .eq 14, 3) := by decide +kernel
theorem dX1_gainAt_44 : decode cX1_gainAt 44 = .ok (.iload_n 2, 1) := by decide +kernel
theorem dX1_gainAt_45 : decode cX1_gainAt 45 = .ok (.aload_n 0, 1) := by decide +kernel
theorem dX1_gainAt_46 : decode cX1_gainAt 46 = .ok (.iload_n 3, 1) := by decide +kernel
theorem dX1_gainAt_47 : decode cX1_gainAt 47 = .ok (.iload 4, 2) := by decide +kernel
theorem dX1_gainAt_49 : decode cX1_gainAt 49 = .ok (.iconst 0, 1) := by decide +kernel
theorem dX1_gainAt_50 : decode cX1_gainAt 50 = .ok (.invokevirtual 151, 3) := by decide +kernel
theorem dX1_gainAt_53 : decode cX1_gainAt 53 = .ok (.iadd, 1) := by decide +kernel
theorem dX1_gainAt_54 : decode cX1_gainAt 54 = .ok (.istore_n 2, 1) := by decide +kernel
theorem dX1_gainAt_55 : decode cX1_gainAt 55 = .ok (.iinc 4 1, 3) := by decide +kernel
theorem dX1_gainAt_58 : decode cX1_gainAt 58 = .ok (.goto (-43), 3) := by decide +kernel
theorem dX1_gainAt_61 : decode cX1_gainAt 61 = .ok (.iinc 3 1, 3) := by decide +kernel
theorem dX1_gainAt_64 : decode cX1_gainAt 64 = .ok (.goto (-60), 3) := by decide +kernel
theorem dX1_gainAt_67 : decode cX1_gainAt 67 = .ok (.iload_n 2, 1) := by decide +kernel
theorem dX1_gainAt_68 : decode cX1_gainAt 68 = .ok (.ireturn, 1) := by decide +kernel
set_option maxRecDepth 20000 in
theorem ggX1_add_X10_isSide : GoodIn wsX1_add wsX10_isSide := goodIn_r _ [5] (by decide +kernel) (by decide +kernel)
set_option maxRecDepth 20000 in
theorem gX1_add_X10_isSide_n154 : GoodIn wsX1_add (wsX10_isSide) := ggX1_add_X10_isSide
set_option maxRecDepth 20000 in
theorem ggX1_add_X1_sideAt : GoodIn wsX1_add wsX1_sideAt := goodIn_r _ [10, 11, 12, 43, 44, 45, 46, 47, 48, 49, 50] (by decide +kernel) (by decide +kernel)
set_option maxRecDepth 20000 in
theorem gX1_add_X1_sideAt : GoodIn wsX1_add (wsV RX1 157 RX1 yX1_sideAt wsX1_sideAt) := goodIn_app (goodIn_of _ (by decide +kernel)) ggX1_add_X1_sideAt
set_option maxRecDepth 20000 in
theorem ggX1_add_X6_letIn : GoodIn wsX1_add wsX6_letIn := goodIn_r _ [17, 18, 51, 52, 53] (by decide +kernel) (by decide +kernel)
set_option maxRecDepth 20000 in
theorem gX1_add_X6_letIn : GoodIn wsX1_add (wsV RX1 161 RX6 yX6_letIn wsX6_letIn) := goodIn_app (goodIn_of _ (by decide +kernel)) ggX1_add_X6_letIn
theorem dX1_add_0 : decode cX1_add 0 = .ok (.aload_n 1, 1) := by decide +kernel
theorem dX1_add_1 : decode cX1_add 1 = .ok (.getfield 72, 3) := by decide +kernel
theorem dX1_add_4 : decode cX1_add 4 = .ok (.invokestatic 154, 3) := by decide +kernel
theorem dX1_add_7 : decode cX1_add 7 = .ok (.ifCond .eq 15, 3) := by decide +kernel
theorem dX1_add_10 : decode cX1_add 10 = .ok (.aload_n 0, 1) := by decide +kernel
theorem dX1_add_11 : decode cX1_add 11 = .ok (.getfield 44, 3) := by decide +kernel
theorem dX1_add_14 : decode cX1_add 14 = .ok (.aload_n 0, 1) := by decide +kernel
theorem dX1_add_15 : decode cX1_add 15 = .ok (.getfield 11, 3) := by decide +kernel
theorem dX1_add_18 : decode cX1_add 18 = .ok (.arraylength, 1) := by decide +kernel
theorem dX1_add_19 : decode cX1_add 19 = .ok (.if_icmp .lt 5, 3) := by decide +kernel
theorem dX1_add_22 : decode cX1_add 22 = .ok (.iconst 0, 1) := by decide +kernel
theorem dX1_add_23 : decode cX1_add 23 = .ok (.ireturn, 1) := by decide +kernel
theorem dX1_add_24 : decode cX1_add 24 = .ok (.aload_n 0, 1) := by decide +kernel
theorem dX1_add_25 : decode cX1_add 25 = .ok (.getfield 11, 3) := by decide +kernel
theorem dX1_add_28 : decode cX1_add 28 = .ok (.aload_n 0, 1) := by decide +kernel
theorem dX1_add_29 : decode cX1_add 29 = .ok (.getfield 44, 3) := by decide +kernel
theorem dX1_add_32 : decode cX1_add 32 = .ok (.aload_n 1, 1) := by decide +kernel
theorem dX1_add_33 : decode cX1_add 33 = .ok (.aastore, 1) := by decide +kernel
theorem dX1_add_34 : decode cX1_add 34 = .ok (.aload_n 0, 1) := by decide +kernel
theorem dX1_add_35 : decode cX1_add 35 = .ok (.aload_n 1, 1) := by decide +kernel
theorem dX1_add_36 : decode cX1_add 36 = .ok (.getfield 72, 3) := by decide +kernel
theorem dX1_add_39 : decode cX1_add 39 = .ok (.invokevirtual 157, 3) := by decide +kernel
theorem dX1_add_42 : decode cX1_add 42 = .ok (.aload_n 0, 1) := by decide +kernel
theorem dX1_add_43 : decode cX1_add 43 = .ok (.getfield 44, 3) := by decide +kernel
theorem dX1_add_46 : decode cX1_add 46 = .ok (.invokevirtual 161, 3) := by decide +kernel
theorem dX1_add_49 : decode cX1_add 49 = .ok (.aload_n 0, 1) := by decide +kernel
theorem dX1_add_50 : decode cX1_add 50 = .ok (.dup, 1) := by decide +kernel
theorem dX1_add_51 : decode cX1_add 51 = .ok (.getfield 44, 3) := by decide +kernel
theorem dX1_add_54 : decode cX1_add 54 = .ok (.iconst 1, 1) := by decide +kernel
theorem dX1_add_55 : decode cX1_add 55 = .ok (.iadd, 1) := by decide +kernel
theorem dX1_add_56 : decode cX1_add 56 = .ok (.putfield 44, 3) := by decide +kernel
theorem dX1_add_59 : decode cX1_add 59 = .ok (.iconst 1, 1) := by decide +kernel
theorem dX1_add_60 : decode cX1_add 60 = .ok (.ireturn, 1) := by decide +kernel
set_option maxRecDepth 20000 in
theorem ggX1_give_X10_isBall : GoodIn wsX1_give wsX10_isBall := goodIn_r _ [4] (by decide +kernel) (by decide +kernel)
set_option maxRecDepth 20000 in
theorem gX1_give_X10_isBall_n95 : GoodIn wsX1_give (wsX10_isBall) := ggX1_give_X10_isBall
set_option maxRecDepth 20000 in
theorem ggX1_give_X1_isIn : GoodIn wsX1_give wsX1_isIn := goodIn_r _ [9, 10, 11, 12, 8, 13, 14, 15, 16, 17, 18, 19, 20, 21, 43, 44, 45, 46, 47, 48, 49, 50, 51, 52, 53] (by decide +kernel) (by decide +kernel)
set_option maxRecDepth 20000 in
theorem gX1_give_X1_isIn : GoodIn wsX1_give (wsV RX1 98 RX1 yX1_isIn wsX1_isIn) := goodIn_app (goodIn_of _ (by decide +kernel)) ggX1_give_X1_isIn
set_option maxRecDepth 20000 in
theorem ggX1_give_X1_hasHandFree : GoodIn wsX1_give wsX1_hasHandFree := goodIn_r _ [25, 5, 6, 7, 8, 9, 10, 11, 12, 13, 14, 15, 16, 17, 18, 19, 20, 21, 26, 27, 28, 29, 1, 30, 31, 32, 33, 34, 35, 36, 43, 44, 45, 46, 47, 48, 49, 50, 51, 52, 53] (by decide +kernel) (by decide +kernel)
set_option maxRecDepth 20000 in
theorem gX1_give_X1_hasHandFree : GoodIn wsX1_give (wsV RX1 116 RX1 yX1_hasHandFree wsX1_hasHandFree) := goodIn_app (goodIn_of _ (by decide +kernel)) ggX1_give_X1_hasHandFree
set_option maxRecDepth 20000 in
theorem ggX1_give_X1_hold : GoodIn wsX1_give wsX1_hold := goodIn_r _ [40, 1, 41, 42, 2, 3, 4, 43, 44, 45, 46, 47, 48, 49, 50] (by decide +kernel) (by decide +kernel)
set_option maxRecDepth 20000 in
theorem gX1_give_X1_hold : GoodIn wsX1_give (wsV RX1 165 RX1 yX1_hold wsX1_hold) := goodIn_app (goodIn_of _ (by decide +kernel)) ggX1_give_X1_hold
theorem dX1_give_0 : decode cX1_give 0 = .ok (.iload_n 1, 1) := by decide +kernel
theorem dX1_give_1 : decode cX1_give 1 = .ok (.invokestatic 95, 3) := by decide +kernel
theorem dX1_give_4 : decode cX1_give 4 = .ok (.ifCond .eq 29, 3) := by decide +kernel
theorem dX1_give_7 : decode cX1_give 7 = .ok (.aload_n 0, 1) := by decide +kernel
theorem dX1_give_8 : decode cX1_give 8 = .ok (.iload_n 2, 1) := by decide +kernel
theorem dX1_give_9 : decode cX1_give 9 = .ok (.invokevirtual 98, 3) := by decide +kernel
theorem dX1_give_12 : decode cX1_give 12 = .ok (.ifCond .eq 21, 3) := by decide +kernel
theorem dX1_give_15 : decode cX1_give 15 = .ok (.aload_n 0, 1) := by decide +kernel
theorem dX1_give_16 : decode cX1_give 16 = .ok (.getfield 27, 3) := by decide +kernel
theorem dX1_give_19 : decode cX1_give 19 = .ok (.iload_n 1, 1) := by decide +kernel
theorem dX1_give_20 : decode cX1_give 20 = .ok (.iaload, 1) := by decide +kernel
theorem dX1_give_21 : decode cX1_give 21 = .ok (.iload_n 2, 1) := by decide +kernel
theorem dX1_give_22 : decode cX1_give 22 = .ok (.if_icmp .eq 13, 3) := by decide +kernel
theorem dX1_give_25 : decode cX1_give 25 = .ok (.aload_n 0, 1) := by decide +kernel
theorem dX1_give_26 : decode cX1_give 26 = .ok (.iload_n 2, 1) := by decide +kernel
theorem dX1_give_27 : decode cX1_give 27 = .ok (.invokevirtual 116, 3) := by decide +kernel
theorem dX1_give_30 : decode cX1_give 30 = .ok (.ifCond .ne 5, 3) := by decide +kernel
theorem dX1_give_33 : decode cX1_give 33 = .ok (.iconst 0, 1) := by decide +kernel
theorem dX1_give_34 : decode cX1_give 34 = .ok (.ireturn, 1) := by decide +kernel
theorem dX1_give_35 : decode cX1_give 35 = .ok (.aload_n 0, 1) := by decide +kernel
theorem dX1_give_36 : decode cX1_give 36 = .ok (.iload_n 1, 1) := by decide +kernel
theorem dX1_give_37 : decode cX1_give 37 = .ok (.iload_n 2, 1) := by decide +kernel
theorem dX1_give_38 : decode cX1_give 38 = .ok (.invokevirtual 165, 3) := by decide +kernel
theorem dX1_give_41 : decode cX1_give 41 = .ok (.iconst 1, 1) := by decide +kernel
theorem dX1_give_42 : decode cX1_give 42 = .ok (.ireturn, 1) := by decide +kernel
set_option maxRecDepth 20000 in
theorem ggX1_lay_X10_isBall : GoodIn wsX1_lay wsX10_isBall := goodIn_r _ [3] (by decide +kernel) (by decide +kernel)
set_option maxRecDepth 20000 in
theorem gX1_lay_X10_isBall_n95 : GoodIn wsX1_lay (wsX10_isBall) := ggX1_lay_X10_isBall
set_option maxRecDepth 20000 in
theorem ggX1_lay_X10_isSide : GoodIn wsX1_lay wsX10_isSide := goodIn_r _ [5] (by decide +kernel) (by decide +kernel)
set_option maxRecDepth 20000 in
theorem gX1_lay_X10_isSide_n154 : GoodIn wsX1_lay (wsX10_isSide) := ggX1_lay_X10_isSide
set_option maxRecDepth 20000 in
theorem ggX1_lay_X1_layOn : GoodIn wsX1_lay wsX1_layOn := goodIn_r _ [10, 11, 12, 13, 1, 2, 3, 14, 15, 16, 17, 18, 19, 20, 21] (by decide +kernel) (by decide +kernel)
set_option maxRecDepth 20000 in
theorem gX1_lay_X1_layOn : GoodIn wsX1_lay (wsV RX1 40 RX1 yX1_layOn wsX1_layOn) := goodIn_app (goodIn_of _ (by decide +kernel)) ggX1_lay_X1_layOn
theorem dX1_lay_0 : decode cX1_lay 0 = .ok (.iload_n 1, 1) := by decide +kernel
theorem dX1_lay_1 : decode cX1_lay 1 = .ok (.invokestatic 95, 3) := by decide +kernel
theorem dX1_lay_4 : decode cX1_lay 4 = .ok (.ifCond .eq 10, 3) := by decide +kernel
theorem dX1_lay_7 : decode cX1_lay 7 = .ok (.iload_n 2, 1) := by decide +kernel
theorem dX1_lay_8 : decode cX1_lay 8 = .ok (.invokestatic 154, 3) := by decide +kernel
theorem dX1_lay_11 : decode cX1_lay 11 = .ok (.ifCond .ne 5, 3) := by decide +kernel
theorem dX1_lay_14 : decode cX1_lay 14 = .ok (.iconst 0, 1) := by decide +kernel
theorem dX1_lay_15 : decode cX1_lay 15 = .ok (.ireturn, 1) := by decide +kernel
theorem dX1_lay_16 : decode cX1_lay 16 = .ok (.aload_n 0, 1) := by decide +kernel
theorem dX1_lay_17 : decode cX1_lay 17 = .ok (.iload_n 1, 1) := by decide +kernel
theorem dX1_lay_18 : decode cX1_lay 18 = .ok (.iload_n 2, 1) := by decide +kernel
theorem dX1_lay_19 : decode cX1_lay 19 = .ok (.invokevirtual 40, 3) := by decide +kernel
theorem dX1_lay_22 : decode cX1_lay 22 = .ok (.iconst 1, 1) := by decide +kernel
theorem dX1_lay_23 : decode cX1_lay 23 = .ok (.ireturn, 1) := by decide +kernel
set_option maxRecDepth 20000 in
theorem ggX1_goOut_X1_isIn : GoodIn wsX1_goOut wsX1_isIn := goodIn_r _ [6, 7, 8, 9, 5, 10, 11, 12, 13, 14, 15, 16, 17, 18, 44, 45, 46, 47, 48, 49, 50, 51, 52, 53, 54] (by decide +kernel) (by decide +kernel)
set_option maxRecDepth 20000 in
theorem gX1_goOut_X1_isIn : GoodIn wsX1_goOut (wsV RX1 98 RX1 yX1_isIn wsX1_isIn) := goodIn_app (goodIn_of _ (by decide +kernel)) ggX1_goOut_X1_isIn
set_option maxRecDepth 20000 in
theorem ggX1_goOut_X1_sideOf : GoodIn wsX1_goOut wsX1_sideOf := goodIn_r _ [22, 12, 7, 8, 9, 5, 10, 11, 44, 45, 46, 47, 48, 49, 50, 51, 55, 56, 57, 58, 59, 60, 61, 62, 63, 64, 65, 66, 67, 68, 69, 70, 71, 72, 73, 74, 75, 76, 77, 78] (by decide +kernel) (by decide +kernel)
set_option maxRecDepth 20000 in
theorem gX1_goOut_X1_sideOf : GoodIn wsX1_goOut (wsV RX1 106 RX1 yX1_sideOf wsX1_sideOf) := goodIn_app (goodIn_of _ (by decide +kernel)) ggX1_goOut_X1_sideOf
set_option maxRecDepth 20000 in
theorem ggX1_goOut_X1_layOn : GoodIn wsX1_goOut wsX1_layOn := goodIn_r _ [26, 1, 27, 28, 29, 30, 31, 44, 45, 46, 47, 48, 49, 50, 51] (by decide +kernel) (by decide +kernel)
set_option maxRecDepth 20000 in
theorem gX1_goOut_X1_layOn : GoodIn wsX1_goOut (wsV RX1 40 RX1 yX1_layOn wsX1_layOn) := goodIn_app (goodIn_of _ (by decide +kernel)) ggX1_goOut_X1_layOn
set_option maxRecDepth 20000 in
theorem ggX1_goOut_X1_sideAt : GoodIn wsX1_goOut wsX1_sideAt := goodIn_r _ [35, 17, 18, 44, 45, 46, 47, 48, 49, 50, 51] (by decide +kernel) (by decide +kernel)
set_option maxRecDepth 20000 in
theorem gX1_goOut_X1_sideAt : GoodIn wsX1_goOut (wsV RX1 157 RX1 yX1_sideAt wsX1_sideAt) := goodIn_app (goodIn_of _ (by decide +kernel)) ggX1_goOut_X1_sideAt
set_option maxRecDepth 20000 in
theorem ggX1_goOut_X6_letOut : GoodIn wsX1_goOut wsX6_letOut := goodIn_r _ [40, 41, 42, 43, 52, 53, 54] (by decide +kernel) (by decide +kernel)
set_option maxRecDepth 20000 in
theorem gX1_goOut_X6_letOut : GoodIn wsX1_goOut (wsV RX1 168 RX6 yX6_letOut wsX6_letOut) := goodIn_app (goodIn_of _ (by decide +kernel)) ggX1_goOut_X6_letOut
theorem dX1_goOut_0 : decode cX1_goOut 0 = .ok (.aload_n 0, 1) := by decide +kernel
theorem dX1_goOut_1 : decode cX1_goOut 1 = .ok (.iload_n 1, 1) := by decide +kernel
theorem dX1_goOut_2 : decode cX1_goOut 2 = .ok (.invokevirtual 98, 3) := by decide +kernel
theorem dX1_goOut_5 : decode cX1_goOut 5 = .ok (.ifCond .ne 5, 3) := by decide +kernel
theorem dX1_goOut_8 : decode cX1_goOut 8 = .ok (.iconst 0, 1) := by decide +kernel
theorem dX1_goOut_9 : decode cX1_goOut 9 = .ok (.ireturn, 1) := by decide +kernel
theorem dX1_goOut_10 : decode cX1_goOut 10 = .ok (.aload_n 0, 1) := by decide +kernel
theorem dX1_goOut_11 : decode cX1_goOut 11 = .ok (.iload_n 1, 1) := by decide +kernel
theorem dX1_goOut_12 : decode cX1_goOut 12 = .ok (.invokevirtual 106, 3) := by decide +kernel
theorem dX1_goOut_15 : decode cX1_goOut 15 = .ok (.istore_n 2, 1) := by decide +kernel
theorem dX1_goOut_16 : decode cX1_goOut 16 = .ok (.iconst 0, 1) := by decide +kernel
theorem dX1_goOut_17 : decode cX1_goOut 17 = .ok (.istore_n 3, 1) := by decide +kernel
theorem dX1_goOut_18 : decode cX1_goOut 18 = .ok (.iload_n 3, 1) := by decide +kernel
theorem dX1_goOut_19 : decode cX1_goOut 19 = .ok (.bipush 6, 2) := by decide +kernel
theorem dX1_goOut_21 : decode cX1_goOut 21 = .ok (.if_icmp .ge 25, 3) := by decide +kernel
theorem dX1_goOut_24 : decode cX1_goOut 24 = .ok (.aload_n 0, 1) := by decide +kernel
theorem dX1_goOut_25 : decode cX1_goOut 25 = .ok (.getfield 27, 3) := by decide +kernel
theorem dX1_goOut_28 : decode cX1_goOut 28 = .ok (.iload_n 3, 1) := by decide +kernel
theorem dX1_goOut_29 : decode cX1_goOut 29 = .ok (.iaload, 1) := by decide +kernel
theorem dX1_goOut_30 : decode cX1_goOut 30 = .ok (.iload_n 1, 1) := by decide +kernel
theorem dX1_goOut_31 : decode cX1_goOut 31 = .ok (.if_icmp .ne 9, 3) := by decide +kernel
theorem dX1_goOut_34 : decode cX1_goOut 34 = .ok (.aload_n 0, 1) := by decide +kernel
theorem dX1_goOut_35 : decode cX1_goOut 35 = .ok (.iload_n 3, 1) := by decide +kernel
theorem dX1_goOut_36 : decode cX1_goOut 36 = .ok (.iload_n 2, 1) := by decide +kernel
theorem dX1_goOut_37 : decode cX1_goOut 37 = .ok (.invokevirtual 40, 3) := by decide +kernel
theorem dX1_goOut_40 : decode cX1_goOut 40 = .ok (.iinc 3 1, 3) := by decide +kernel
theorem dX1_goOut_43 : decode cX1_goOut 43 = .ok (.goto (-25), 3) := by decide +kernel
theorem dX1_goOut_46 : decode cX1_goOut 46 = .ok (.aload_n 0, 1) := by decide +kernel
theorem dX1_goOut_47 : decode cX1_goOut 47 = .ok (.iload_n 2, 1) := by decide +kernel
theorem dX1_goOut_48 : decode cX1_goOut 48 = .ok (.invokevirtual 157, 3) := by decide +kernel
theorem dX1_goOut_51 : decode cX1_goOut 51 = .ok (.iload_n 1, 1) := by decide +kernel
theorem dX1_goOut_52 : decode cX1_goOut 52 = .ok (.invokevirtual 168, 3) := by decide +kernel
theorem dX1_goOut_55 : decode cX1_goOut 55 = .ok (.iconst 1, 1) := by decide +kernel
theorem dX1_goOut_56 : decode cX1_goOut 56 = .ok (.ireturn, 1) := by decide +kernel
set_option maxRecDepth 20000 in
theorem ggX1_hold_X10_isBall : GoodIn wsX1_hold wsX10_isBall := goodIn_r _ [6] (by decide +kernel) (by decide +kernel)
set_option maxRecDepth 20000 in
theorem gX1_hold_X10_isBall_n95 : GoodIn wsX1_hold (wsX10_isBall) := ggX1_hold_X10_isBall
theorem dX1_hold_0 : decode cX1_hold 0 = .ok (.iload_n 1, 1) := by decide +kernel
theorem dX1_hold_1 : decode cX1_hold 1 = .ok (.invokestatic 95, 3) := by decide +kernel
theorem dX1_hold_4 : decode cX1_hold 4 = .ok (.ifCond .eq 25, 3) := by decide +kernel
theorem dX1_hold_7 : decode cX1_hold 7 = .ok (.aload_n 0, 1) := by decide +kernel
theorem dX1_hold_8 : decode cX1_hold 8 = .ok (.getfield 27, 3) := by decide +kernel
theorem dX1_hold_11 : decode cX1_hold 11 = .ok (.iload_n 1, 1) := by decide +kernel
theorem dX1_hold_12 : decode cX1_hold 12 = .ok (.iload_n 2, 1) := by decide +kernel
theorem dX1_hold_13 : decode cX1_hold 13 = .ok (.iastore, 1) := by decide +kernel
theorem dX1_hold_14 : decode cX1_hold 14 = .ok (.aload_n 0, 1) := by decide +kernel
theorem dX1_hold_15 : decode cX1_hold 15 = .ok (.getfield 31, 3) := by decide +kernel
theorem dX1_hold_18 : decode cX1_hold 18 = .ok (.iload_n 1, 1) := by decide +kernel
theorem dX1_hold_19 : decode cX1_hold 19 = .ok (.bipush (-9), 2) := by decide +kernel
theorem dX1_hold_21 : decode cX1_hold 21 = .ok (.iastore, 1) := by decide +kernel
theorem dX1_hold_22 : decode cX1_hold 22 = .ok (.aload_n 0, 1) := by decide +kernel
theorem dX1_hold_23 : decode cX1_hold 23 = .ok (.getfield 34, 3) := by decide +kernel
theorem dX1_hold_26 : decode cX1_hold 26 = .ok (.iload_n 1, 1) := by decide +kernel
theorem dX1_hold_27 : decode cX1_hold 27 = .ok (.iconst 0, 1) := by decide +kernel
theorem dX1_hold_28 : decode cX1_hold 28 = .ok (.iastore, 1) := by decide +kernel
theorem dX1_hold_29 : decode cX1_hold 29 = .ok (.return_, 1) := by decide +kernel
set_option maxRecDepth 20000 in
theorem ggX1_layOn_X10_isBall : GoodIn wsX1_layOn wsX10_isBall := goodIn_r _ [6] (by decide +kernel) (by decide +kernel)
set_option maxRecDepth 20000 in
theorem gX1_layOn_X10_isBall_n95 : GoodIn wsX1_layOn (wsX10_isBall) := ggX1_layOn_X10_isBall
theorem dX1_layOn_0 : decode cX1_layOn 0 = .ok (.iload_n 1, 1) := by decide +kernel
theorem dX1_layOn_1 : decode cX1_layOn 1 = .ok (.invokestatic 95, 3) := by decide +kernel
theorem dX1_layOn_4 : decode cX1_layOn 4 = .ok (.ifCond .eq 25, 3) := by decide +kernel
theorem dX1_layOn_7 : decode cX1_layOn 7 = .ok (.aload_n 0, 1) := by decide +kernel
theorem dX1_layOn_8 : decode cX1_layOn 8 = .ok (.getfield 27, 3) := by decide +kernel
theorem dX1_layOn_11 : decode cX1_layOn 11 = .ok (.iload_n 1, 1) := by decide +kernel
theorem dX1_layOn_12 : decode cX1_layOn 12 = .ok (.bipush (-9), 2) := by decide +kernel
theorem dX1_layOn_14 : decode cX1_layOn 14 = .ok (.iastore, 1) := by decide +kernel
theorem dX1_layOn_15 : decode cX1_layOn 15 = .ok (.aload_n 0, 1) := by decide +kernel
theorem dX1_layOn_16 : decode cX1_layOn 16 = .ok (.getfield 31, 3) := by decide +kernel
theorem dX1_layOn_19 : decode cX1_layOn 19 = .ok (.iload_n 1, 1) := by decide +kernel
theorem dX1_layOn_20 : decode cX1_layOn 20 = .ok (.iload_n 2, 1) := by decide +kernel
theorem dX1_layOn_21 : decode cX1_layOn 21 = .ok (.iastore, 1) := by decide +kernel
theorem dX1_layOn_22 : decode cX1_layOn 22 = .ok (.aload_n 0, 1) := by decide +kernel
theorem dX1_layOn_23 : decode cX1_layOn 23 = .ok (.getfield 34, 3) := by decide +kernel
theorem dX1_layOn_26 : decode cX1_layOn 26 = .ok (.iload_n 1, 1) := by decide +kernel
theorem dX1_layOn_27 : decode cX1_layOn 27 = .ok (.iconst 0, 1) := by decide +kernel
theorem dX1_layOn_28 : decode cX1_layOn 28 = .ok (.iastore, 1) := by decide +kernel
theorem dX1_layOn_29 : decode cX1_layOn 29 = .ok (.return_, 1) := by decide +kernel
set_option maxRecDepth 20000 in
theorem ggX1_endThrow_X1_holderOf : GoodIn wsX1_endThrow wsX1_holderOf := goodIn_r _ [5, 6, 7, 8, 9, 84, 85, 86, 87, 88, 89, 90, 91] (by decide +kernel) (by decide +kernel)
set_option maxRecDepth 20000 in
theorem gX1_endThrow_X1_holderOf : GoodIn wsX1_endThrow (wsV RX1 113 RX1 yX1_holderOf wsX1_holderOf) := goodIn_app (goodIn_of _ (by decide +kernel)) ggX1_endThrow_X1_holderOf
set_option maxRecDepth 20000 in
theorem ggX1_endThrow_X1_sideOf : GoodIn wsX1_endThrow wsX1_sideOf := goodIn_r _ [13, 14, 15, 16, 17, 4, 18, 19, 84, 85, 86, 87, 88, 89, 90, 91, 92, 93, 94, 95, 96, 97, 98, 99, 100, 101, 102, 103, 104, 105, 106, 107, 108, 109, 110, 111, 112, 113, 114, 115] (by decide +kernel) (by decide +kernel)
set_option maxRecDepth 20000 in
theorem gX1_endThrow_X1_sideOf : GoodIn wsX1_endThrow (wsV RX1 106 RX1 yX1_sideOf wsX1_sideOf) := goodIn_app (goodIn_of _ (by decide +kernel)) ggX1_endThrow_X1_sideOf
set_option maxRecDepth 20000 in
theorem ggX1_endThrow_X1_layOn : GoodIn wsX1_endThrow wsX1_layOn := goodIn_r _ [23, 6, 24, 25, 7, 8, 9, 84, 85, 86, 87, 88, 89, 90, 91] (by decide +kernel) (by decide +kernel)
set_option maxRecDepth 20000 in
theorem gX1_endThrow_X1_layOn : GoodIn wsX1_endThrow (wsV RX1 40 RX1 yX1_layOn wsX1_layOn) := goodIn_app (goodIn_of _ (by decide +kernel)) ggX1_endThrow_X1_layOn
set_option maxRecDepth 20000 in
theorem ggX1_endThrow_X1_goOut : GoodIn wsX1_endThrow wsX1_goOut := goodIn_r _ [29, 6, 30, 31, 32, 4, 33, 15, 16, 17, 18, 19, 14, 34, 35, 36, 37, 38, 39, 10, 11, 12, 13, 20, 21, 22, 23, 24, 25, 7, 8, 9, 40, 41, 42, 43, 44, 45, 46, 47, 48, 49, 50, 51, 84, 85, 86, 87, 88, 89, 90, 91, 116, 117, 118, 92, 93, 94, 95, 96, 97, 98, 99, 100, 101, 102, 103, 104, 105, 106, 107, 108, 109, 110, 111, 112, 113, 114, 115] (by decide +kernel) (by decide +kernel)
set_option maxRecDepth 20000 in
theorem gX1_endThrow_X1_goOut : GoodIn wsX1_endThrow (wsV RX1 171 RX1 yX1_goOut wsX1_goOut) := goodIn_app (goodIn_of _ (by decide +kernel)) ggX1_endThrow_X1_goOut
set_option maxRecDepth 20000 in
theorem ggX1_endThrow_X1_sideAt : GoodIn wsX1_endThrow wsX1_sideAt := goodIn_r _ [43, 38, 39, 84, 85, 86, 87, 88, 89, 90, 91] (by decide +kernel) (by decide +kernel)
set_option maxRecDepth 20000 in
theorem gX1_endThrow_X1_sideAt : GoodIn wsX1_endThrow (wsV RX1 157 RX1 yX1_sideAt wsX1_sideAt) := goodIn_app (goodIn_of _ (by decide +kernel)) ggX1_endThrow_X1_sideAt
set_option maxRecDepth 20000 in
theorem ggX1_endThrow_X6_letFirstIn : GoodIn wsX1_endThrow wsX6_letFirstIn := goodIn_r _ [55, 50, 51, 56, 57, 58, 47, 59, 49, 116, 117, 118] (by decide +kernel) (by decide +kernel)
set_option maxRecDepth 20000 in
theorem gX1_endThrow_X6_letFirstIn : GoodIn wsX1_endThrow (wsV RX1 174 RX6 yX6_letFirstIn wsX6_letFirstIn) := goodIn_app (goodIn_of _ (by decide +kernel)) ggX1_endThrow_X6_letFirstIn
set_option maxRecDepth 20000 in
theorem ggX1_endThrow_X1_hasHandFree : GoodIn wsX1_endThrow wsX1_hasHandFree := goodIn_r _ [63, 30, 31, 32, 4, 33, 15, 16, 17, 18, 19, 14, 34, 35, 36, 37, 38, 39, 64, 65, 66, 67, 6, 68, 69, 70, 71, 72, 73, 74, 84, 85, 86, 87, 88, 89, 90, 91, 116, 117, 118] (by decide +kernel) (by decide +kernel)
set_option maxRecDepth 20000 in
theorem gX1_endThrow_X1_hasHandFree : GoodIn wsX1_endThrow (wsV RX1 116 RX1 yX1_hasHandFree wsX1_hasHandFree) := goodIn_app (goodIn_of _ (by decide +kernel)) ggX1_endThrow_X1_hasHandFree
set_option maxRecDepth 20000 in
theorem ggX1_endThrow_X1_hold : GoodIn wsX1_endThrow wsX1_hold := goodIn_r _ [78, 6, 24, 25, 7, 8, 9, 84, 85, 86, 87, 88, 89, 90, 91] (by decide +kernel) (by decide +kernel)
set_option maxRecDepth 20000 in
theorem gX1_endThrow_X1_hold : GoodIn wsX1_endThrow (wsV RX1 165 RX1 yX1_hold wsX1_hold) := goodIn_app (goodIn_of _ (by decide +kernel)) ggX1_endThrow_X1_hold
set_option maxRecDepth 20000 in
theorem ggX1_endThrow_X1_letTenthGoBy : GoodIn wsX1_endThrow wsX1_letTenthGoBy := goodIn_r _ [82, 83, 6, 25, 10, 11, 12, 4, 13, 14, 15, 16, 17, 18, 19, 20, 21, 22, 23, 24, 7, 8, 9, 84, 85, 86, 87, 88, 89, 90, 91, 92, 93, 94, 95, 96, 97, 98, 99, 100, 101, 102, 103, 104, 105, 106, 107, 108, 109, 110, 111, 112, 113, 114, 115] (by decide +kernel) (by decide +kernel)
set_option maxRecDepth 20000 in
theorem gX1_endThrow_X1_letTenthGoBy : GoodIn wsX1_endThrow (wsV RX1 177 RX1 yX1_letTenthGoBy wsX1_letTenthGoBy) := goodIn_app (goodIn_of _ (by decide +kernel)) ggX1_endThrow_X1_letTenthGoBy
theorem dX1_endThrow_0 : decode cX1_endThrow 0 = .ok (.aload_n 0, 1) := by decide +kernel
theorem dX1_endThrow_1 : decode cX1_endThrow 1 = .ok (.iload_n 1, 1) := by decide +kernel
theorem dX1_endThrow_2 : decode cX1_endThrow 2 = .ok (.invokevirtual 113, 3) := by decide +kernel
theorem dX1_endThrow_5 : decode cX1_endThrow 5 = .ok (.istore 4, 2) := by decide +kernel
theorem dX1_endThrow_7 : decode cX1_endThrow 7 = .ok (.aload_n 0, 1) := by decide +kernel
theorem dX1_endThrow_8 : decode cX1_endThrow 8 = .ok (.iload_n 1, 1) := by decide +kernel
theorem dX1_endThrow_9 : decode cX1_endThrow 9 = .ok (.aload_n 0, 1) := by decide +kernel
theorem dX1_endThrow_10 : decode cX1_endThrow 10 = .ok (.iload_n 2, 1) := by decide +kernel
theorem dX1_endThrow_11 : decode cX1_endThrow 11 = .ok (.invokevirtual 106, 3) := by decide +kernel
theorem dX1_endThrow_14 : decode cX1_endThrow 14 = .ok (.invokevirtual 40, 3) := by decide +kernel
theorem dX1_endThrow_17 : decode cX1_endThrow 17 = .ok (.iload_n 3, 1) := by decide +kernel
theorem dX1_endThrow_18 : decode cX1_endThrow 18 = .ok (.ifCond .ne 9, 3) := by decide +kernel
theorem dX1_endThrow_21 : decode cX1_endThrow 21 = .ok (.aload_n 0, 1) := by decide +kernel
theorem dX1_endThrow_22 : decode cX1_endThrow 22 = .ok (.iload_n 2, 1) := by decide +kernel
theorem dX1_endThrow_23 : decode cX1_endThrow 23 = .ok (.invokevirtual 171, 3) := by decide +kernel
theorem dX1_endThrow_26 : decode cX1_endThrow 26 = .ok (.pop, 1) := by decide +kernel
theorem dX1_endThrow_27 : decode cX1_endThrow 27 = .ok (.iload_n 3, 1) := by decide +kernel
theorem dX1_endThrow_28 : decode cX1_endThrow 28 = .ok (.iconst 1, 1) := by decide +kernel
theorem dX1_endThrow_29 : decode cX1_endThrow 29 = .ok (.if_icmp .ne 36, 3) := by decide +kernel
theorem dX1_endThrow_32 : decode cX1_endThrow 32 = .ok (.aload_n 0, 1) := by decide +kernel
theorem dX1_endThrow_33 : decode cX1_endThrow 33 = .ok (.iload 4, 2) := by decide +kernel
theorem dX1_endThrow_35 : decode cX1_endThrow 35 = .ok (.invokevirtual 171, 3) := by decide +kernel
theorem dX1_endThrow_38 : decode cX1_endThrow 38 = .ok (.pop, 1) := by decide +kernel
theorem dX1_endThrow_39 : decode cX1_endThrow 39 = .ok (.aload_n 0, 1) := by decide +kernel
theorem dX1_endThrow_40 : decode cX1_endThrow 40 = .ok (.aload_n 0, 1) := by decide +kernel
theorem dX1_endThrow_41 : decode cX1_endThrow 41 = .ok (.iload_n 2, 1) := by decide +kernel
theorem dX1_endThrow_42 : decode cX1_endThrow 42 = .ok (.invokevirtual 106, 3) := by decide +kernel
theorem dX1_endThrow_45 : decode cX1_endThrow 45 = .ok (.invokevirtual 157, 3) := by decide +kernel
theorem dX1_endThrow_48 : decode cX1_endThrow 48 = .ok (.invokevirtual 174, 3) := by decide +kernel
theorem dX1_endThrow_51 : decode cX1_endThrow 51 = .ok (.aload_n 0, 1) := by decide +kernel
theorem dX1_endThrow_52 : decode cX1_endThrow 52 = .ok (.iload_n 2, 1) := by decide +kernel
theorem dX1_endThrow_53 : decode cX1_endThrow 53 = .ok (.invokevirtual 116, 3) := by decide +kernel
theorem dX1_endThrow_56 : decode cX1_endThrow 56 = .ok (.ifCond .eq 9, 3) := by decide +kernel
theorem dX1_endThrow_59 : decode cX1_endThrow 59 = .ok (.aload_n 0, 1) := by decide +kernel
theorem dX1_endThrow_60 : decode cX1_endThrow 60 = .ok (.iload_n 1, 1) := by decide +kernel
theorem dX1_endThrow_61 : decode cX1_endThrow 61 = .ok (.iload_n 2, 1) := by decide +kernel
theorem dX1_endThrow_62 : decode cX1_endThrow 62 = .ok (.invokevirtual 165, 3) := by decide +kernel
theorem dX1_endThrow_65 : decode cX1_endThrow 65 = .ok (.aload_n 0, 1) := by decide +kernel
theorem dX1_endThrow_66 : decode cX1_endThrow 66 = .ok (.invokevirtual 177, 3) := by decide +kernel
theorem dX1_endThrow_69 : decode cX1_endThrow 69 = .ok (.return_, 1) := by decide +kernel
set_option maxRecDepth 20000 in
theorem ggX1_letTenthGoBy_X1_sideOf : GoodIn wsX1_letTenthGoBy wsX1_sideOf := goodIn_r _ [8, 9, 10, 11, 12, 7, 13, 14, 23, 24, 25, 26, 27, 28, 29, 30, 31, 32, 33, 34, 35, 36, 37, 38, 39, 40, 41, 42, 43, 44, 45, 46, 47, 48, 49, 50, 51, 52, 53, 54] (by decide +kernel) (by decide +kernel)
set_option maxRecDepth 20000 in
theorem gX1_letTenthGoBy_X1_sideOf : GoodIn wsX1_letTenthGoBy (wsV RX1 106 RX1 yX1_sideOf wsX1_sideOf) := goodIn_app (goodIn_of _ (by decide +kernel)) ggX1_letTenthGoBy_X1_sideOf
set_option maxRecDepth 20000 in
theorem ggX1_letTenthGoBy_X1_layOn : GoodIn wsX1_letTenthGoBy wsX1_layOn := goodIn_r _ [18, 2, 19, 3, 20, 21, 22, 23, 24, 25, 26, 27, 28, 29, 30] (by decide +kernel) (by decide +kernel)
set_option maxRecDepth 20000 in
theorem gX1_letTenthGoBy_X1_layOn : GoodIn wsX1_letTenthGoBy (wsV RX1 40 RX1 yX1_layOn wsX1_layOn) := goodIn_app (goodIn_of _ (by decide +kernel)) ggX1_letTenthGoBy_X1_layOn
theorem dX1_letTenthGoBy_0 : decode cX1_letTenthGoBy 0 = .ok (.aload_n 0, 1) := by decide +kernel
theorem dX1_letTenthGoBy_1 : decode cX1_letTenthGoBy 1 = .ok (.dup, 1) := by decide +kernel
theorem dX1_letTenthGoBy_2 : decode cX1_letTenthGoBy 2 = .ok (.getfield 58, 3) := by decide +kernel
theorem dX1_letTenthGoBy_5 : decode cX1_letTenthGoBy 5 = .ok (.iconst 1, 1) := by decide +kernel
theorem dX1_letTenthGoBy_6 : decode cX1_letTenthGoBy 6 = .ok (.iadd, 1) := by decide +kernel
theorem dX1_letTenthGoBy_7 : decode cX1_letTenthGoBy 7 = .ok (.putfield 58, 3) := by decide +kernel
theorem dX1_letTenthGoBy_10 : decode cX1_letTenthGoBy 10 = .ok (.iconst 0, 1) := by decide +kernel
theorem dX1_letTenthGoBy_11 : decode cX1_letTenthGoBy 11 = .ok (.istore_n 1, 1) := by decide +kernel
theorem dX1_letTenthGoBy_12 : decode cX1_letTenthGoBy 12 = .ok (.iload_n 1, 1) := by decide +kernel
theorem dX1_letTenthGoBy_13 : decode cX1_letTenthGoBy 13 = .ok (.bipush 6, 2) := by decide +kernel
theorem dX1_letTenthGoBy_15 : decode cX1_letTenthGoBy 15 = .ok (.if_icmp .ge 58, 3) := by decide +kernel
theorem dX1_letTenthGoBy_18 : decode cX1_letTenthGoBy 18 = .ok (.aload_n 0, 1) := by decide +kernel
theorem dX1_letTenthGoBy_19 : decode cX1_letTenthGoBy 19 = .ok (.getfield 27, 3) := by decide +kernel
theorem dX1_letTenthGoBy_22 : decode cX1_letTenthGoBy 22 = .ok (.iload_n 1, 1) := by decide +kernel
theorem dX1_letTenthGoBy_23 : decode cX1_letTenthGoBy 23 = .ok (.iaload, 1) := by decide +kernel
theorem dX1_letTenthGoBy_24 : decode cX1_letTenthGoBy 24 = .ok (.bipush (-9), 2) := by decide +kernel
theorem dX1_letTenthGoBy_26 : decode cX1_letTenthGoBy 26 = .ok (.if_icmp .eq 13, 3) := by decide +kernel
theorem dX1_letTenthGoBy_29 : decode cX1_letTenthGoBy 29 = .ok (.aload_n 0, 1) := by decide +kernel
theorem dX1_letTenthGoBy_30 : decode cX1_letTenthGoBy 30 = .ok (.getfield 34, 3) := by decide +kernel
theorem dX1_letTenthGoBy_33 : decode cX1_letTenthGoBy 33 = .ok (.iload_n 1, 1) := by decide +kernel
theorem dX1_letTenthGoBy_34 : decode cX1_letTenthGoBy 34 = .ok (.dup2, 1) := by decide +kernel
theorem dX1_letTenthGoBy_35 : decode cX1_letTenthGoBy 35 = .ok (.iaload, 1) := by decide +kernel
theorem dX1_letTenthGoBy_36 : decode cX1_letTenthGoBy 36 = .ok (.iconst 1, 1) := by decide +kernel
theorem dX1_letTenthGoBy_37 : decode cX1_letTenthGoBy 37 = .ok (.iadd, 1) := by decide +kernel
theorem dX1_letTenthGoBy_38 : decode cX1_letTenthGoBy 38 = .ok (.iastore, 1) := by decide +kernel
theorem dX1_letTenthGoBy_39 : decode cX1_letTenthGoBy 39 = .ok (.aload_n 0, 1) := by decide +kernel
theorem dX1_letTenthGoBy_40 : decode cX1_letTenthGoBy 40 = .ok (.getfield 34, 3) := by decide +kernel
theorem dX1_letTenthGoBy_43 : decode cX1_letTenthGoBy 43 = .ok (.iload_n 1, 1) := by decide +kernel
theorem dX1_letTenthGoBy_44 : decode cX1_letTenthGoBy 44 = .ok (.iaload, 1) := by decide +kernel
theorem dX1_letTenthGoBy_45 : decode cX1_letTenthGoBy 45 = .ok (.bipush 9, 2) := by decide +kernel
theorem dX1_letTenthGoBy_47 : decode cX1_letTenthGoBy 47 = .ok (.if_icmp .le 20, 3) := by decide +kernel
theorem dX1_letTenthGoBy_50 : decode cX1_letTenthGoBy 50 = .ok (.aload_n 0, 1) := by decide +kernel
theorem dX1_letTenthGoBy_51 : decode cX1_letTenthGoBy 51 = .ok (.iload_n 1, 1) := by decide +kernel
theorem dX1_letTenthGoBy_52 : decode cX1_letTenthGoBy 52 = .ok (.iconst 1, 1) := by decide +kernel
theorem dX1_letTenthGoBy_53 : decode cX1_letTenthGoBy 53 = .ok (.aload_n 0, 1) := by decide +kernel
theorem dX1_letTenthGoBy_54 : decode cX1_letTenthGoBy 54 = .ok (.aload_n 0, 1) := by decide +kernel
theorem dX1_letTenthGoBy_55 : decode cX1_letTenthGoBy 55 = .ok (.getfield 27, 3) := by decide +kernel
theorem dX1_letTenthGoBy_58 : decode cX1_letTenthGoBy 58 = .ok (.iload_n 1, 1) := by decide +kernel
theorem dX1_letTenthGoBy_59 : decode cX1_letTenthGoBy 59 = .ok (.iaload, 1) := by decide +kernel
theorem dX1_letTenthGoBy_60 : decode cX1_letTenthGoBy 60 = .ok (.invokevirtual 106, 3) := by decide +kernel
theorem dX1_letTenthGoBy_63 : decode cX1_letTenthGoBy 63 = .ok (.isub, 1) := by decide +kernel
theorem dX1_letTenthGoBy_64 : decode cX1_letTenthGoBy 64 = .ok (.invokevirtual 40, 3) := by decide +kernel
theorem dX1_letTenthGoBy_67 : decode cX1_letTenthGoBy 67 = .ok (.iinc 1 1, 3) := by decide +kernel
theorem dX1_letTenthGoBy_70 : decode cX1_letTenthGoBy 70 = .ok (.goto (-58), 3) := by decide +kernel
theorem dX1_letTenthGoBy_73 : decode cX1_letTenthGoBy 73 = .ok (.return_, 1) := by decide +kernel
theorem dX2_init_0 : decode cX2_init 0 = .ok (.aload_n 0, 1) := by decide +kernel
theorem dX2_init_1 : decode cX2_init 1 = .ok (.invokespecial 3, 3) := by decide +kernel
theorem dX2_init_4 : decode cX2_init 4 = .ok (.aload_n 0, 1) := by decide +kernel
theorem dX2_init_5 : decode cX2_init 5 = .ok (.bipush 25, 2) := by decide +kernel
theorem dX2_init_7 : decode cX2_init 7 = .ok (.newarray .long, 2) := by decide +kernel
theorem dX2_init_9 : decode cX2_init 9 = .ok (.putfield 11, 3) := by decide +kernel
theorem dX2_init_12 : decode cX2_init 12 = .ok (.aload_n 0, 1) := by decide +kernel
theorem dX2_init_13 : decode cX2_init 13 = .ok (.bipush 25, 2) := by decide +kernel
theorem dX2_init_15 : decode cX2_init 15 = .ok (.newarray .long, 2) := by decide +kernel
theorem dX2_init_17 : decode cX2_init 17 = .ok (.putfield 15, 3) := by decide +kernel
theorem dX2_init_20 : decode cX2_init 20 = .ok (.return_, 1) := by decide +kernel
set_option maxRecDepth 20000 in
theorem ggX2_begin_X2_clearWays : GoodIn wsX2_begin wsX2_clearWays := goodIn_r _ [9, 10, 15, 16, 17, 18, 19, 20] (by decide +kernel) (by decide +kernel)
set_option maxRecDepth 20000 in
theorem gX2_begin_X2_clearWays : GoodIn wsX2_begin (wsV RX2 18 RX2 yX2_clearWays wsX2_clearWays) := goodIn_app (goodIn_of _ (by decide +kernel)) ggX2_begin_X2_clearWays
set_option maxRecDepth 20000 in
theorem ggX2_begin_X2_addWays : GoodIn wsX2_begin wsX2_addWays := goodIn_r _ [14, 10, 15, 16, 17, 18, 19, 20] (by decide +kernel) (by decide +kernel)
set_option maxRecDepth 20000 in
theorem gX2_begin_X2_addWays : GoodIn wsX2_begin (wsV RX2 35 RX2 yX2_addWays wsX2_addWays) := goodIn_app (goodIn_of _ (by decide +kernel)) ggX2_begin_X2_addWays
theorem dX2_begin_0 : decode cX2_begin 0 = .ok (.aload_n 0, 1) := by decide +kernel
theorem dX2_begin_1 : decode cX2_begin 1 = .ok (.invokevirtual 18, 3) := by decide +kernel
theorem dX2_begin_4 : decode cX2_begin 4 = .ok (.aload_n 0, 1) := by decide +kernel
theorem dX2_begin_5 : decode cX2_begin 5 = .ok (.iload_n 3, 1) := by decide +kernel
theorem dX2_begin_6 : decode cX2_begin 6 = .ok (.putfield 21, 3) := by decide +kernel
theorem dX2_begin_9 : decode cX2_begin 9 = .ok (.aload_n 0, 1) := by decide +kernel
theorem dX2_begin_10 : decode cX2_begin 10 = .ok (.iload 4, 2) := by decide +kernel
theorem dX2_begin_12 : decode cX2_begin 12 = .ok (.putfield 25, 3) := by decide +kernel
theorem dX2_begin_15 : decode cX2_begin 15 = .ok (.aload_n 0, 1) := by decide +kernel
theorem dX2_begin_16 : decode cX2_begin 16 = .ok (.iconst 0, 1) := by decide +kernel
theorem dX2_begin_17 : decode cX2_begin 17 = .ok (.putfield 28, 3) := by decide +kernel
theorem dX2_begin_20 : decode cX2_begin 20 = .ok (.aload_n 0, 1) := by decide +kernel
theorem dX2_begin_21 : decode cX2_begin 21 = .ok (.lconst 1, 1) := by decide +kernel
theorem dX2_begin_22 : decode cX2_begin 22 = .ok (.putfield 31, 3) := by decide +kernel
theorem dX2_begin_25 : decode cX2_begin 25 = .ok (.aload_n 0, 1) := by decide +kernel
theorem dX2_begin_26 : decode cX2_begin 26 = .ok (.iload_n 1, 1) := by decide +kernel
theorem dX2_begin_27 : decode cX2_begin 27 = .ok (.iload_n 2, 1) := by decide +kernel
theorem dX2_begin_28 : decode cX2_begin 28 = .ok (.lconst 1, 1) := by decide +kernel
theorem dX2_begin_29 : decode cX2_begin 29 = .ok (.invokevirtual 35, 3) := by decide +kernel
theorem dX2_begin_32 : decode cX2_begin 32 = .ok (.return_, 1) := by decide +kernel
set_option maxRecDepth 20000 in
theorem ggX2_throwNext_X2_clearWays : GoodIn wsX2_throwNext wsX2_clearWays := goodIn_r _ [14, 1, 25, 26, 27, 28, 29, 30] (by decide +kernel) (by decide +kernel)
set_option maxRecDepth 20000 in
theorem gX2_throwNext_X2_clearWays : GoodIn wsX2_throwNext (wsV RX2 18 RX2 yX2_clearWays wsX2_clearWays) := goodIn_app (goodIn_of _ (by decide +kernel)) ggX2_throwNext_X2_clearWays
set_option maxRecDepth 20000 in
theorem ggX2_throwNext_X2_throwFrom : GoodIn wsX2_throwNext wsX2_throwFrom := goodIn_r _ [18, 9, 19, 20, 7, 21, 22, 23, 13, 24, 1, 25, 26, 27, 28, 29, 30] (by decide +kernel) (by decide +kernel)
set_option maxRecDepth 20000 in
theorem gX2_throwNext_X2_throwFrom : GoodIn wsX2_throwNext (wsV RX2 45 RX2 yX2_throwFrom wsX2_throwFrom) := goodIn_app (goodIn_of _ (by decide +kernel)) ggX2_throwNext_X2_throwFrom
theorem dX2_throwNext_0 : decode cX2_throwNext 0 = .ok (.aload_n 0, 1) := by decide +kernel
theorem dX2_throwNext_1 : decode cX2_throwNext 1 = .ok (.getfield 11, 3) := by decide +kernel
theorem dX2_throwNext_4 : decode cX2_throwNext 4 = .ok (.iconst 0, 1) := by decide +kernel
theorem dX2_throwNext_5 : decode cX2_throwNext 5 = .ok (.aload_n 0, 1) := by decide +kernel
theorem dX2_throwNext_6 : decode cX2_throwNext 6 = .ok (.getfield 15, 3) := by decide +kernel
theorem dX2_throwNext_9 : decode cX2_throwNext 9 = .ok (.iconst 0, 1) := by decide +kernel
theorem dX2_throwNext_10 : decode cX2_throwNext 10 = .ok (.aload_n 0, 1) := by decide +kernel
theorem dX2_throwNext_11 : decode cX2_throwNext 11 = .ok (.getfield 11, 3) := by decide +kernel
theorem dX2_throwNext_14 : decode cX2_throwNext 14 = .ok (.arraylength, 1) := by decide +kernel
theorem dX2_throwNext_15 : decode cX2_throwNext 15 = .ok (.invokestatic 39, 3) := by decide +kernel
theorem dX2_throwNext_18 : decode cX2_throwNext 18 = .ok (.aload_n 0, 1) := by decide +kernel
theorem dX2_throwNext_19 : decode cX2_throwNext 19 = .ok (.invokevirtual 18, 3) := by decide +kernel
theorem dX2_throwNext_22 : decode cX2_throwNext 22 = .ok (.iconst 0, 1) := by decide +kernel
theorem dX2_throwNext_23 : decode cX2_throwNext 23 = .ok (.istore_n 1, 1) := by decide +kernel
theorem dX2_throwNext_24 : decode cX2_throwNext 24 = .ok (.iload_n 1, 1) := by decide +kernel
theorem dX2_throwNext_25 : decode cX2_throwNext 25 = .ok (.iconst 5, 1) := by decide +kernel
theorem dX2_throwNext_26 : decode cX2_throwNext 26 = .ok (.if_icmp .ge 38, 3) := by decide +kernel
theorem dX2_throwNext_29 : decode cX2_throwNext 29 = .ok (.iconst 0, 1) := by decide +kernel
theorem dX2_throwNext_30 : decode cX2_throwNext 30 = .ok (.istore_n 2, 1) := by decide +kernel
theorem dX2_throwNext_31 : decode cX2_throwNext 31 = .ok (.iload_n 2, 1) := by decide +kernel
theorem dX2_throwNext_32 : decode cX2_throwNext 32 = .ok (.iconst 5, 1) := by decide +kernel
theorem dX2_throwNext_33 : decode cX2_throwNext 33 = .ok (.if_icmp .ge 25, 3) := by decide +kernel
theorem dX2_throwNext_36 : decode cX2_throwNext 36 = .ok (.aload_n 0, 1) := by decide +kernel
theorem dX2_throwNext_37 : decode cX2_throwNext 37 = .ok (.iload_n 1, 1) := by decide +kernel
theorem dX2_throwNext_38 : decode cX2_throwNext 38 = .ok (.iload_n 2, 1) := by decide +kernel
theorem dX2_throwNext_39 : decode cX2_throwNext 39 = .ok (.aload_n 0, 1) := by decide +kernel
theorem dX2_throwNext_40 : decode cX2_throwNext 40 = .ok (.getfield 15, 3) := by decide +kernel
theorem dX2_throwNext_43 : decode cX2_throwNext 43 = .ok (.iconst 5, 1) := by decide +kernel
theorem dX2_throwNext_44 : decode cX2_throwNext 44 = .ok (.iload_n 1, 1) := by decide +kernel
theorem dX2_throwNext_45 : decode cX2_throwNext 45 = .ok (.imul, 1) := by decide +kernel
theorem dX2_throwNext_46 : decode cX2_throwNext 46 = .ok (.iload_n 2, 1) := by decide +kernel
theorem dX2_throwNext_47 : decode cX2_throwNext 47 = .ok (.iadd, 1) := by decide +kernel
theorem dX2_throwNext_48 : decode cX2_throwNext 48 = .ok (.laload, 1) := by decide +kernel
theorem dX2_throwNext_49 : decode cX2_throwNext 49 = .ok (.invokevirtual 45, 3) := by decide +kernel
theorem dX2_throwNext_52 : decode cX2_throwNext 52 = .ok (.iinc 2 1, 3) := by decide +kernel
theorem dX2_throwNext_55 : decode cX2_throwNext 55 = .ok (.goto (-24), 3) := by decide +kernel
theorem dX2_throwNext_58 : decode cX2_throwNext 58 = .ok (.iinc 1 1, 3) := by decide +kernel
theorem dX2_throwNext_61 : decode cX2_throwNext 61 = .ok (.goto (-37), 3) := by decide +kernel
theorem dX2_throwNext_64 : decode cX2_throwNext 64 = .ok (.aload_n 0, 1) := by decide +kernel
theorem dX2_throwNext_65 : decode cX2_throwNext 65 = .ok (.iconst 1, 1) := by decide +kernel
theorem dX2_throwNext_66 : decode cX2_throwNext 66 = .ok (.aload_n 0, 1) := by decide +kernel
theorem dX2_throwNext_67 : decode cX2_throwNext 67 = .ok (.getfield 28, 3) := by decide +kernel
theorem dX2_throwNext_70 : decode cX2_throwNext 70 = .ok (.isub, 1) := by decide +kernel
theorem dX2_throwNext_71 : decode cX2_throwNext 71 = .ok (.putfield 28, 3) := by decide +kernel
theorem dX2_throwNext_74 : decode cX2_throwNext 74 = .ok (.aload_n 0, 1) := by decide +kernel
theorem dX2_throwNext_75 : decode cX2_throwNext 75 = .ok (.dup, 1) := by decide +kernel
theorem dX2_throwNext_76 : decode cX2_throwNext 76 = .ok (.getfield 31, 3) := by decide +kernel
theorem dX2_throwNext_79 : decode cX2_throwNext 79 = .ok (.ldc2_w 48, 3) := by decide +kernel
theorem dX2_throwNext_82 : decode cX2_throwNext 82 = .ok (.lmul, 1) := by decide +kernel
theorem dX2_throwNext_83 : decode cX2_throwNext 83 = .ok (.putfield 31, 3) := by decide +kernel
theorem dX2_throwNext_86 : decode cX2_throwNext 86 = .ok (.return_, 1) := by decide +kernel
set_option maxRecDepth 20000 in
theorem ggX2_throwFrom_X2_addWays : GoodIn wsX2_throwFrom wsX2_addWays := goodIn_r _ [9, 10, 11, 12, 13, 14, 15, 16] (by decide +kernel) (by decide +kernel)
set_option maxRecDepth 20000 in
theorem gX2_throwFrom_X2_addWays : GoodIn wsX2_throwFrom (wsV RX2 35 RX2 yX2_addWays wsX2_addWays) := goodIn_app (goodIn_of _ (by decide +kernel)) ggX2_throwFrom_X2_addWays
theorem dX2_throwFrom_0 : decode cX2_throwFrom 0 = .ok (.iload_n 1, 1) := by decide +kernel
theorem dX2_throwFrom_1 : decode cX2_throwFrom 1 = .ok (.ifCond .eq 7, 3) := by decide +kernel
theorem dX2_throwFrom_4 : decode cX2_throwFrom 4 = .ok (.iload_n 2, 1) := by decide +kernel
theorem dX2_throwFrom_5 : decode cX2_throwFrom 5 = .ok (.ifCond .ne 15, 3) := by decide +kernel
theorem dX2_throwFrom_8 : decode cX2_throwFrom 8 = .ok (.aload_n 0, 1) := by decide +kernel
theorem dX2_throwFrom_9 : decode cX2_throwFrom 9 = .ok (.iload_n 1, 1) := by decide +kernel
theorem dX2_throwFrom_10 : decode cX2_throwFrom 10 = .ok (.iload_n 2, 1) := by decide +kernel
theorem dX2_throwFrom_11 : decode cX2_throwFrom 11 = .ok (.lload_n 3, 1) := by decide +kernel
theorem dX2_throwFrom_12 : decode cX2_throwFrom 12 = .ok (.ldc2_w 48, 3) := by decide +kernel
theorem dX2_throwFrom_15 : decode cX2_throwFrom 15 = .ok (.lmul, 1) := by decide +kernel
theorem dX2_throwFrom_16 : decode cX2_throwFrom 16 = .ok (.invokevirtual 35, 3) := by decide +kernel
theorem dX2_throwFrom_19 : decode cX2_throwFrom 19 = .ok (.return_, 1) := by decide +kernel
theorem dX2_throwFrom_20 : decode cX2_throwFrom 20 = .ok (.aload_n 0, 1) := by decide +kernel
theorem dX2_throwFrom_21 : decode cX2_throwFrom 21 = .ok (.iload_n 1, 1) := by decide +kernel
theorem dX2_throwFrom_22 : decode cX2_throwFrom 22 = .ok (.iload_n 2, 1) := by decide +kernel
theorem dX2_throwFrom_23 : decode cX2_throwFrom 23 = .ok (.lload_n 3, 1) := by decide +kernel
theorem dX2_throwFrom_24 : decode cX2_throwFrom 24 = .ok (.bipush 40, 2) := by decide +kernel
theorem dX2_throwFrom_26 : decode cX2_throwFrom 26 = .ok (.aload_n 0, 1) := by decide +kernel
theorem dX2_throwFrom_27 : decode cX2_throwFrom 27 = .ok (.getfield 21, 3) := by decide +kernel
theorem dX2_throwFrom_30 : decode cX2_throwFrom 30 = .ok (.isub, 1) := by decide +kernel
theorem dX2_throwFrom_31 : decode cX2_throwFrom 31 = .ok (.aload_n 0, 1) := by decide +kernel
theorem dX2_throwFrom_32 : decode cX2_throwFrom 32 = .ok (.getfield 25, 3) := by decide +kernel
theorem dX2_throwFrom_35 : decode cX2_throwFrom 35 = .ok (.isub, 1) := by decide +kernel
theorem dX2_throwFrom_36 : decode cX2_throwFrom 36 = .ok (.i2l, 1) := by decide +kernel
theorem dX2_throwFrom_37 : decode cX2_throwFrom 37 = .ok (.lmul, 1) := by decide +kernel
theorem dX2_throwFrom_38 : decode cX2_throwFrom 38 = .ok (.invokevirtual 35, 3) := by decide +kernel
theorem dX2_throwFrom_41 : decode cX2_throwFrom 41 = .ok (.aload_n 0, 1) := by decide +kernel
theorem dX2_throwFrom_42 : decode cX2_throwFrom 42 = .ok (.iload_n 1, 1) := by decide +kernel
theorem dX2_throwFrom_43 : decode cX2_throwFrom 43 = .ok (.iconst 1, 1) := by decide +kernel
theorem dX2_throwFrom_44 : decode cX2_throwFrom 44 = .ok (.isub, 1) := by decide +kernel
theorem dX2_throwFrom_45 : decode cX2_throwFrom 45 = .ok (.iload_n 2, 1) := by decide +kernel
theorem dX2_throwFrom_46 : decode cX2_throwFrom 46 = .ok (.lload_n 3, 1) := by decide +kernel
theorem dX2_throwFrom_47 : decode cX2_throwFrom 47 = .ok (.aload_n 0, 1) := by decide +kernel
theorem dX2_throwFrom_48 : decode cX2_throwFrom 48 = .ok (.getfield 28, 3) := by decide +kernel
theorem dX2_throwFrom_51 : decode cX2_throwFrom 51 = .ok (.ifCond .ne 10, 3) := by decide +kernel
theorem dX2_throwFrom_54 : decode cX2_throwFrom 54 = .ok (.aload_n 0, 1) := by decide +kernel
theorem dX2_throwFrom_55 : decode cX2_throwFrom 55 = .ok (.getfield 25, 3) := by decide +kernel
theorem dX2_throwFrom_58 : decode cX2_throwFrom 58 = .ok (.goto 7, 3) := by decide +kernel
theorem dX2_throwFrom_61 : decode cX2_throwFrom 61 = .ok (.aload_n 0, 1) := by decide +kernel
theorem dX2_throwFrom_62 : decode cX2_throwFrom 62 = .ok (.getfield 21, 3) := by decide +kernel
theorem dX2_throwFrom_65 : decode cX2_throwFrom 65 = .ok (.i2l, 1) := by decide +kernel
theorem dX2_throwFrom_66 : decode cX2_throwFrom 66 = .ok (.lmul, 1) := by decide +kernel
theorem dX2_throwFrom_67 : decode cX2_throwFrom 67 = .ok (.invokevirtual 35, 3) := by decide +kernel
theorem dX2_throwFrom_70 : decode cX2_throwFrom 70 = .ok (.aload_n 0, 1) := by decide +kernel
theorem dX2_throwFrom_71 : decode cX2_throwFrom 71 = .ok (.iload_n 1, 1) := by decide +kernel
theorem dX2_throwFrom_72 : decode cX2_throwFrom 72 = .ok (.iload_n 2, 1) := by decide +kernel
theorem dX2_throwFrom_73 : decode cX2_throwFrom 73 = .ok (.iconst 1, 1) := by decide +kernel
theorem dX2_throwFrom_74 : decode cX2_throwFrom 74 = .ok (.isub, 1) := by decide +kernel
theorem dX2_throwFrom_75 : decode cX2_throwFrom 75 = .ok (.lload_n 3, 1) := by decide +kernel
theorem dX2_throwFrom_76 : decode cX2_throwFrom 76 = .ok (.aload_n 0, 1) := by decide +kernel
theorem dX2_throwFrom_77 : decode cX2_throwFrom 77 = .ok (.getfield 28, 3) := by decide +kernel
theorem dX2_throwFrom_80 : decode cX2_throwFrom 80 = .ok (.ifCond .ne 10, 3) := by decide +kernel
theorem dX2_throwFrom_83 : decode cX2_throwFrom 83 = .ok (.aload_n 0, 1) := by decide +kernel
theorem dX2_throwFrom_84 : decode cX2_throwFrom 84 = .ok (.getfield 21, 3) := by decide +kernel
theorem dX2_throwFrom_87 : decode cX2_throwFrom 87 = .ok (.goto 7, 3) := by decide +kernel
theorem dX2_throwFrom_90 : decode cX2_throwFrom 90 = .ok (.aload_n 0, 1) := by decide +kernel
theorem dX2_throwFrom_91 : decode cX2_throwFrom 91 = .ok (.getfield 25, 3) := by decide +kernel
theorem dX2_throwFrom_94 : decode cX2_throwFrom 94 = .ok (.i2l, 1) := by decide +kernel
theorem dX2_throwFrom_95 : decode cX2_throwFrom 95 = .ok (.lmul, 1) := by decide +kernel
theorem dX2_throwFrom_96 : decode cX2_throwFrom 96 = .ok (.invokevirtual 35, 3) := by decide +kernel
theorem dX2_throwFrom_99 : decode cX2_throwFrom 99 = .ok (.return_, 1) := by decide +kernel
theorem dX2_clearWays_0 : decode cX2_clearWays 0 = .ok (.iconst 0, 1) := by decide +kernel
theorem dX2_clearWays_1 : decode cX2_clearWays 1 = .ok (.istore_n 1, 1) := by decide +kernel
theorem dX2_clearWays_2 : decode cX2_clearWays 2 = .ok (.iload_n 1, 1) := by decide +kernel
theorem dX2_clearWays_3 : decode cX2_clearWays 3 = .ok (.aload_n 0, 1) := by decide +kernel
theorem dX2_clearWays_4 : decode cX2_clearWays 4 = .ok (.getfield 11, 3) := by decide +kernel
theorem dX2_clearWays_7 : decode cX2_clearWays 7 = .ok (.arraylength, 1) := by decide +kernel
theorem dX2_clearWays_8 : decode cX2_clearWays 8 = .ok (.if_icmp .ge 16, 3) := by decide +kernel
theorem dX2_clearWays_11 : decode cX2_clearWays 11 = .ok (.aload_n 0, 1) := by decide +kernel
theorem dX2_clearWays_12 : decode cX2_clearWays 12 = .ok (.getfield 11, 3) := by decide +kernel
theorem dX2_clearWays_15 : decode cX2_clearWays 15 = .ok (.iload_n 1, 1) := by decide +kernel
theorem dX2_clearWays_16 : decode cX2_clearWays 16 = .ok (.lconst 0, 1) := by decide +kernel
theorem dX2_clearWays_17 : decode cX2_clearWays 17 = .ok (.lastore, 1) := by decide +kernel
theorem dX2_clearWays_18 : decode cX2_clearWays 18 = .ok (.iinc 1 1, 3) := by decide +kernel
theorem dX2_clearWays_21 : decode cX2_clearWays 21 = .ok (.goto (-19), 3) := by decide +kernel
theorem dX2_clearWays_24 : decode cX2_clearWays 24 = .ok (.return_, 1) := by decide +kernel
theorem dX2_addWays_0 : decode cX2_addWays 0 = .ok (.iload_n 1, 1) := by decide +kernel
theorem dX2_addWays_1 : decode cX2_addWays 1 = .ok (.ifCond .lt 31, 3) := by decide +kernel
theorem dX2_addWays_4 : decode cX2_addWays 4 = .ok (.iload_n 1, 1) := by decide +kernel
theorem dX2_addWays_5 : decode cX2_addWays 5 = .ok (.iconst 5, 1) := by decide +kernel
theorem dX2_addWays_6 : decode cX2_addWays 6 = .ok (.if_icmp .ge 26, 3) := by decide +kernel
theorem dX2_addWays_9 : decode cX2_addWays 9 = .ok (.iload_n 2, 1) := by decide +kernel
theorem dX2_addWays_10 : decode cX2_addWays 10 = .ok (.ifCond .lt 22, 3) := by decide +kernel
theorem dX2_addWays_13 : decode cX2_addWays 13 = .ok (.iload_n 2, 1) := by decide +kernel
theorem dX2_addWays_14 : decode cX2_addWays 14 = .ok (.iconst 5, 1) := by decide +kernel
theorem dX2_addWays_15 : decode cX2_addWays 15 = .ok (.if_icmp .ge 17, 3) := by decide +kernel
theorem dX2_addWays_18 : decode cX2_addWays 18 = .ok (.aload_n 0, 1) := by decide +kernel
theorem dX2_addWays_19 : decode cX2_addWays 19 = .ok (.getfield 11, 3) := by decide +kernel
theorem dX2_addWays_22 : decode cX2_addWays 22 = .ok (.iconst 5, 1) := by decide +kernel
theorem dX2_addWays_23 : decode cX2_addWays 23 = .ok (.iload_n 1, 1) := by decide +kernel
theorem dX2_addWays_24 : decode cX2_addWays 24 = .ok (.imul, 1) := by decide +kernel
theorem dX2_addWays_25 : decode cX2_addWays 25 = .ok (.iload_n 2, 1) := by decide +kernel
theorem dX2_addWays_26 : decode cX2_addWays 26 = .ok (.iadd, 1) := by decide +kernel
theorem dX2_addWays_27 : decode cX2_addWays 27 = .ok (.dup2, 1) := by decide +kernel
theorem dX2_addWays_28 : decode cX2_addWays 28 = .ok (.laload, 1) := by decide +kernel
theorem dX2_addWays_29 : decode cX2_addWays 29 = .ok (.lload_n 3, 1) := by decide +kernel
theorem dX2_addWays_30 : decode cX2_addWays 30 = .ok (.ladd, 1) := by decide +kernel
theorem dX2_addWays_31 : decode cX2_addWays 31 = .ok (.lastore, 1) := by decide +kernel
theorem dX2_addWays_32 : decode cX2_addWays 32 = .ok (.return_, 1) := by decide +kernel
theorem dX2_waysWonBy_0 : decode cX2_waysWonBy 0 = .ok (.lconst 0, 1) := by decide +kernel
theorem dX2_waysWonBy_1 : decode cX2_waysWonBy 1 = .ok (.lstore_n 2, 1) := by decide +kernel
theorem dX2_waysWonBy_2 : decode cX2_waysWonBy 2 = .ok (.iconst 1, 1) := by decide +kernel
theorem dX2_waysWonBy_3 : decode cX2_waysWonBy 3 = .ok (.istore 4, 2) := by decide +kernel
theorem dX2_waysWonBy_5 : decode cX2_waysWonBy 5 = .ok (.iload 4, 2) := by decide +kernel
theorem dX2_waysWonBy_7 : decode cX2_waysWonBy 7 = .ok (.iconst 5, 1) := by decide +kernel
theorem dX2_waysWonBy_8 : decode cX2_waysWonBy 8 = .ok (.if_icmp .ge 35, 3) := by decide +kernel
theorem dX2_waysWonBy_11 : decode cX2_waysWonBy 11 = .ok (.lload_n 2, 1) := by decide +kernel
theorem dX2_waysWonBy_12 : decode cX2_waysWonBy 12 = .ok (.iload_n 1, 1) := by decide +kernel
theorem dX2_waysWonBy_13 : decode cX2_waysWonBy 13 = .ok (.ifCond .ne 15, 3) := by decide +kernel
theorem dX2_waysWonBy_16 : decode cX2_waysWonBy 16 = .ok (.aload_n 0, 1) := by decide +kernel
theorem dX2_waysWonBy_17 : decode cX2_waysWonBy 17 = .ok (.getfield 11, 3) := by decide +kernel
theorem dX2_waysWonBy_20 : decode cX2_waysWonBy 20 = .ok (.iconst 5, 1) := by decide +kernel
theorem dX2_waysWonBy_21 : decode cX2_waysWonBy 21 = .ok (.iload 4, 2) := by decide +kernel
theorem dX2_waysWonBy_23 : decode cX2_waysWonBy 23 = .ok (.imul, 1) := by decide +kernel
theorem dX2_waysWonBy_24 : decode cX2_waysWonBy 24 = .ok (.laload, 1) := by decide +kernel
theorem dX2_waysWonBy_25 : decode cX2_waysWonBy 25 = .ok (.goto 10, 3) := by decide +kernel
theorem dX2_waysWonBy_28 : decode cX2_waysWonBy 28 = .ok (.aload_n 0, 1) := by decide +kernel
theorem dX2_waysWonBy_29 : decode cX2_waysWonBy 29 = .ok (.getfield 11, 3) := by decide +kernel
theorem dX2_waysWonBy_32 : decode cX2_waysWonBy 32 = .ok (.iload 4, 2) := by decide +kernel
theorem dX2_waysWonBy_34 : decode cX2_waysWonBy 34 = .ok (.laload, 1) := by decide +kernel
theorem dX2_waysWonBy_35 : decode cX2_waysWonBy 35 = .ok (.ladd, 1) := by decide +kernel
theorem dX2_waysWonBy_36 : decode cX2_waysWonBy 36 = .ok (.lstore_n 2, 1) := by decide +kernel
theorem dX2_waysWonBy_37 : decode cX2_waysWonBy 37 = .ok (.iinc 4 1, 3) := by decide +kernel
theorem dX2_waysWonBy_40 : decode cX2_waysWonBy 40 = .ok (.goto (-35), 3) := by decide +kernel
theorem dX2_waysWonBy_43 : decode cX2_waysWonBy 43 = .ok (.lload_n 2, 1) := by decide +kernel
theorem dX2_waysWonBy_44 : decode cX2_waysWonBy 44 = .ok (.lreturn, 1) := by decide +kernel
set_option maxRecDepth 20000 in
theorem ggX3_init_X0_init : GoodIn wsX3_init wsX0_init := goodIn_r _ [4, 5, 6, 7, 8, 9, 10, 11, 12, 13, 14, 15, 16, 17, 18, 19, 20, 21, 22, 23, 24, 25, 26, 27, 28, 29, 30, 31, 32, 33, 34, 35, 36, 37, 38, 39] (by decide +kernel) (by decide +kernel)
set_option maxRecDepth 20000 in
theorem gX3_init_X0_init : GoodIn wsX3_init (wsX0_init) := ggX3_init_X0_init
theorem dX3_init_0 : decode cX3_init 0 = .ok (.aload_n 0, 1) := by decide +kernel
theorem dX3_init_1 : decode cX3_init 1 = .ok (.iload_n 1, 1) := by decide +kernel
theorem dX3_init_2 : decode cX3_init 2 = .ok (.iload_n 2, 1) := by decide +kernel
theorem dX3_init_3 : decode cX3_init 3 = .ok (.iload_n 3, 1) := by decide +kernel
theorem dX3_init_4 : decode cX3_init 4 = .ok (.iload 4, 2) := by decide +kernel
theorem dX3_init_6 : decode cX3_init 6 = .ok (.invokespecial 1, 3) := by decide +kernel
theorem dX3_init_9 : decode cX3_init 9 = .ok (.return_, 1) := by decide +kernel
set_option maxRecDepth 20000 in
theorem ggX3_grasp_X0_grasp : GoodIn wsX3_grasp wsX0_grasp := goodIn_r _ [6, 7, 8, 9, 10, 11, 12, 13, 14, 15, 16, 17, 18, 19, 20, 21, 22, 23, 24, 25, 26, 27, 28, 29, 30, 31, 32, 33, 34, 35, 36, 37, 38] (by decide +kernel) (by decide +kernel)
set_option maxRecDepth 20000 in
theorem gX3_grasp_X0_grasp_s7 : GoodIn wsX3_grasp (va_wsSU RX3 7 yX0_grasp wsX0_grasp) := goodIn_app (goodIn_of _ (by decide +kernel)) ggX3_grasp_X0_grasp
theorem dX3_grasp_0 : decode cX3_grasp 0 = .ok (.aload_n 0, 1) := by decide +kernel
theorem dX3_grasp_1 : decode cX3_grasp 1 = .ok (.iload_n 1, 1) := by decide +kernel
theorem dX3_grasp_2 : decode cX3_grasp 2 = .ok (.invokespecial 7, 3) := by decide +kernel
theorem dX3_grasp_5 : decode cX3_grasp 5 = .ok (.iload_n 1, 1) := by decide +kernel
theorem dX3_grasp_6 : decode cX3_grasp 6 = .ok (.ifCond .eq 7, 3) := by decide +kernel
theorem dX3_grasp_9 : decode cX3_grasp 9 = .ok (.iconst 2, 1) := by decide +kernel
theorem dX3_grasp_10 : decode cX3_grasp 10 = .ok (.goto 4, 3) := by decide +kernel
theorem dX3_grasp_13 : decode cX3_grasp 13 = .ok (.iconst 1, 1) := by decide +kernel
theorem dX3_grasp_14 : decode cX3_grasp 14 = .ok (.imul, 1) := by decide +kernel
theorem dX3_grasp_15 : decode cX3_grasp 15 = .ok (.ireturn, 1) := by decide +kernel
theorem dX4_init_0 : decode cX4_init 0 = .ok (.aload_n 0, 1) := by decide +kernel
theorem dX4_init_1 : decode cX4_init 1 = .ok (.invokespecial 1, 3) := by decide +kernel
theorem dX4_init_4 : decode cX4_init 4 = .ok (.aload_n 0, 1) := by decide +kernel
theorem dX4_init_5 : decode cX4_init 5 = .ok (.iload_n 1, 1) := by decide +kernel
theorem dX4_init_6 : decode cX4_init 6 = .ok (.putfield 7, 3) := by decide +kernel
theorem dX4_init_9 : decode cX4_init 9 = .ok (.aload_n 0, 1) := by decide +kernel
theorem dX4_init_10 : decode cX4_init 10 = .ok (.iload_n 2, 1) := by decide +kernel
theorem dX4_init_11 : decode cX4_init 11 = .ok (.putfield 13, 3) := by decide +kernel
theorem dX4_init_14 : decode cX4_init 14 = .ok (.aload_n 0, 1) := by decide +kernel
theorem dX4_init_15 : decode cX4_init 15 = .ok (.iload_n 3, 1) := by decide +kernel
theorem dX4_init_16 : decode cX4_init 16 = .ok (.putfield 16, 3) := by decide +kernel
theorem dX4_init_19 : decode cX4_init 19 = .ok (.aload_n 0, 1) := by decide +kernel
theorem dX4_init_20 : decode cX4_init 20 = .ok (.iload 4, 2) := by decide +kernel
theorem dX4_init_22 : decode cX4_init 22 = .ok (.putfield 19, 3) := by decide +kernel
theorem dX4_init_25 : decode cX4_init 25 = .ok (.return_, 1) := by decide +kernel
theorem dX4_aim_0 : decode cX4_aim 0 = .ok (.aload_n 0, 1) := by decide +kernel
theorem dX4_aim_1 : decode cX4_aim 1 = .ok (.getfield 16, 3) := by decide +kernel
theorem dX4_aim_4 : decode cX4_aim 4 = .ok (.ireturn, 1) := by decide +kernel
theorem dX4_dodge_0 : decode cX4_dodge 0 = .ok (.aload_n 0, 1) := by decide +kernel
theorem dX4_dodge_1 : decode cX4_dodge 1 = .ok (.getfield 19, 3) := by decide +kernel
theorem dX4_dodge_4 : decode cX4_dodge 4 = .ok (.ireturn, 1) := by decide +kernel
theorem dX4_grasp_0 : decode cX4_grasp 0 = .ok (.aload_n 0, 1) := by decide +kernel
theorem dX4_grasp_1 : decode cX4_grasp 1 = .ok (.getfield 16, 3) := by decide +kernel
theorem dX4_grasp_4 : decode cX4_grasp 4 = .ok (.aload_n 0, 1) := by decide +kernel
theorem dX4_grasp_5 : decode cX4_grasp 5 = .ok (.getfield 19, 3) := by decide +kernel
theorem dX4_grasp_8 : decode cX4_grasp 8 = .ok (.iadd, 1) := by decide +kernel
theorem dX4_grasp_9 : decode cX4_grasp 9 = .ok (.iconst 2, 1) := by decide +kernel
theorem dX4_grasp_10 : decode cX4_grasp 10 = .ok (.idiv, 1) := by decide +kernel
theorem dX4_grasp_11 : decode cX4_grasp 11 = .ok (.ireturn, 1) := by decide +kernel
