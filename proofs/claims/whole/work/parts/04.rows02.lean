set_option maxRecDepth 20000 in
theorem gX6_headBringing_X6_bellAt : GoodIn wsX6_headBringing (va_wsS RX6 9 yX6_bellAt wsX6_bellAt) := goodIn_app (goodIn_of _ (by decide +kernel)) ggX6_headBringing_X6_bellAt
theorem dX6_headBringing_0 : decode cX6_headBringing 0 = .ok (.iconst 0, 1) := by decide +kernel
theorem dX6_headBringing_1 : decode cX6_headBringing 1 = .ok (.istore_n 3, 1) := by decide +kernel
theorem dX6_headBringing_2 : decode cX6_headBringing 2 = .ok (.iconst 0, 1) := by decide +kernel
theorem dX6_headBringing_3 : decode cX6_headBringing 3 = .ok (.istore 4, 2) := by decide +kernel
theorem dX6_headBringing_5 : decode cX6_headBringing 5 = .ok (.iload 4, 2) := by decide +kernel
theorem dX6_headBringing_7 : decode cX6_headBringing 7 = .ok (.iload_n 2, 1) := by decide +kernel
theorem dX6_headBringing_8 : decode cX6_headBringing 8 = .ok (.if_icmp .ge 27, 3) := by decide +kernel
theorem dX6_headBringing_11 : decode cX6_headBringing 11 = .ok (.iload_n 3, 1) := by decide +kernel
theorem dX6_headBringing_12 : decode cX6_headBringing 12 = .ok (.iload_n 0, 1) := by decide +kernel
theorem dX6_headBringing_13 : decode cX6_headBringing 13 = .ok (.iload 4, 2) := by decide +kernel
theorem dX6_headBringing_15 : decode cX6_headBringing 15 = .ok (.invokestatic 9, 3) := by decide +kernel
theorem dX6_headBringing_18 : decode cX6_headBringing 18 = .ok (.iconst 3, 1) := by decide +kernel
theorem dX6_headBringing_19 : decode cX6_headBringing 19 = .ok (.iload_n 1, 1) := by decide +kernel
theorem dX6_headBringing_20 : decode cX6_headBringing 20 = .ok (.iload 4, 2) := by decide +kernel
theorem dX6_headBringing_22 : decode cX6_headBringing 22 = .ok (.invokestatic 9, 3) := by decide +kernel
theorem dX6_headBringing_25 : decode cX6_headBringing 25 = .ok (.imul, 1) := by decide +kernel
theorem dX6_headBringing_26 : decode cX6_headBringing 26 = .ok (.ishl, 1) := by decide +kernel
theorem dX6_headBringing_27 : decode cX6_headBringing 27 = .ok (.ior, 1) := by decide +kernel
theorem dX6_headBringing_28 : decode cX6_headBringing 28 = .ok (.istore_n 3, 1) := by decide +kernel
theorem dX6_headBringing_29 : decode cX6_headBringing 29 = .ok (.iinc 4 1, 3) := by decide +kernel
theorem dX6_headBringing_32 : decode cX6_headBringing 32 = .ok (.goto (-27), 3) := by decide +kernel
theorem dX6_headBringing_35 : decode cX6_headBringing 35 = .ok (.iload_n 3, 1) := by decide +kernel
theorem dX6_headBringing_36 : decode cX6_headBringing 36 = .ok (.ireturn, 1) := by decide +kernel
set_option maxRecDepth 20000 in
theorem ggX6_order_X6_rounds : GoodIn wsX6_order wsX6_rounds := goodIn_r _ [5] (by decide +kernel) (by decide +kernel)
set_option maxRecDepth 20000 in
theorem gX6_order_X6_rounds : GoodIn wsX6_order (va_wsS RX6 15 yX6_rounds wsX6_rounds) := goodIn_app (goodIn_of _ (by decide +kernel)) ggX6_order_X6_rounds
set_option maxRecDepth 20000 in
theorem ggX6_order_X6_fromHead : GoodIn wsX6_order wsX6_fromHead := goodIn_r _ [8, 9, 10, 4, 11] (by decide +kernel) (by decide +kernel)
set_option maxRecDepth 20000 in
theorem gX6_order_X6_fromHead : GoodIn wsX6_order (va_wsS RX6 20 yX6_fromHead wsX6_fromHead) := goodIn_app (goodIn_of _ (by decide +kernel)) ggX6_order_X6_fromHead
theorem dX6_order_0 : decode cX6_order 0 = .ok (.iconst 1, 1) := by decide +kernel
theorem dX6_order_1 : decode cX6_order 1 = .ok (.istore_n 2, 1) := by decide +kernel
theorem dX6_order_2 : decode cX6_order 2 = .ok (.iload_n 0, 1) := by decide +kernel
theorem dX6_order_3 : decode cX6_order 3 = .ok (.istore_n 3, 1) := by decide +kernel
theorem dX6_order_4 : decode cX6_order 4 = .ok (.iload_n 3, 1) := by decide +kernel
theorem dX6_order_5 : decode cX6_order 5 = .ok (.iload_n 1, 1) := by decide +kernel
theorem dX6_order_6 : decode cX6_order 6 = .ok (.invokestatic 15, 3) := by decide +kernel
theorem dX6_order_9 : decode cX6_order 9 = .ok (.if_icmp .eq 22, 3) := by decide +kernel
theorem dX6_order_12 : decode cX6_order 12 = .ok (.iload_n 2, 1) := by decide +kernel
theorem dX6_order_13 : decode cX6_order 13 = .ok (.ldc 19, 2) := by decide +kernel
theorem dX6_order_15 : decode cX6_order 15 = .ok (.if_icmp .ge 16, 3) := by decide +kernel
theorem dX6_order_18 : decode cX6_order 18 = .ok (.iload_n 3, 1) := by decide +kernel
theorem dX6_order_19 : decode cX6_order 19 = .ok (.iload_n 0, 1) := by decide +kernel
theorem dX6_order_20 : decode cX6_order 20 = .ok (.iload_n 1, 1) := by decide +kernel
theorem dX6_order_21 : decode cX6_order 21 = .ok (.invokestatic 20, 3) := by decide +kernel
theorem dX6_order_24 : decode cX6_order 24 = .ok (.istore_n 3, 1) := by decide +kernel
theorem dX6_order_25 : decode cX6_order 25 = .ok (.iinc 2 1, 3) := by decide +kernel
theorem dX6_order_28 : decode cX6_order 28 = .ok (.goto (-24), 3) := by decide +kernel
theorem dX6_order_31 : decode cX6_order 31 = .ok (.iload_n 2, 1) := by decide +kernel
theorem dX6_order_32 : decode cX6_order 32 = .ok (.ireturn, 1) := by decide +kernel
set_option maxRecDepth 20000 in
theorem ggX6_told_X6_bellAt : GoodIn wsX6_told wsX6_bellAt := goodIn_r _ [4] (by decide +kernel) (by decide +kernel)
set_option maxRecDepth 20000 in
theorem gX6_told_X6_bellAt : GoodIn wsX6_told (va_wsS RX6 9 yX6_bellAt wsX6_bellAt) := goodIn_app (goodIn_of _ (by decide +kernel)) ggX6_told_X6_bellAt
theorem dX6_told_0 : decode cX6_told 0 = .ok (.iconst 0, 1) := by decide +kernel
theorem dX6_told_1 : decode cX6_told 1 = .ok (.istore_n 2, 1) := by decide +kernel
theorem dX6_told_2 : decode cX6_told 2 = .ok (.iconst 0, 1) := by decide +kernel
theorem dX6_told_3 : decode cX6_told 3 = .ok (.istore_n 3, 1) := by decide +kernel
theorem dX6_told_4 : decode cX6_told 4 = .ok (.iload_n 3, 1) := by decide +kernel
theorem dX6_told_5 : decode cX6_told 5 = .ok (.iload_n 1, 1) := by decide +kernel
theorem dX6_told_6 : decode cX6_told 6 = .ok (.if_icmp .ge 22, 3) := by decide +kernel
theorem dX6_told_9 : decode cX6_told 9 = .ok (.iload_n 2, 1) := by decide +kernel
theorem dX6_told_10 : decode cX6_told 10 = .ok (.bipush 10, 2) := by decide +kernel
theorem dX6_told_12 : decode cX6_told 12 = .ok (.imul, 1) := by decide +kernel
theorem dX6_told_13 : decode cX6_told 13 = .ok (.iload_n 0, 1) := by decide +kernel
theorem dX6_told_14 : decode cX6_told 14 = .ok (.iload_n 3, 1) := by decide +kernel
theorem dX6_told_15 : decode cX6_told 15 = .ok (.invokestatic 9, 3) := by decide +kernel
theorem dX6_told_18 : decode cX6_told 18 = .ok (.iadd, 1) := by decide +kernel
theorem dX6_told_19 : decode cX6_told 19 = .ok (.iconst 1, 1) := by decide +kernel
theorem dX6_told_20 : decode cX6_told 20 = .ok (.iadd, 1) := by decide +kernel
theorem dX6_told_21 : decode cX6_told 21 = .ok (.istore_n 2, 1) := by decide +kernel
theorem dX6_told_22 : decode cX6_told 22 = .ok (.iinc 3 1, 3) := by decide +kernel
theorem dX6_told_25 : decode cX6_told 25 = .ok (.goto (-21), 3) := by decide +kernel
theorem dX6_told_28 : decode cX6_told 28 = .ok (.iload_n 2, 1) := by decide +kernel
theorem dX6_told_29 : decode cX6_told 29 = .ok (.ireturn, 1) := by decide +kernel
theorem dX6_many_0 : decode cX6_many 0 = .ok (.iconst 1, 1) := by decide +kernel
theorem dX6_many_1 : decode cX6_many 1 = .ok (.istore_n 1, 1) := by decide +kernel
theorem dX6_many_2 : decode cX6_many 2 = .ok (.iconst 2, 1) := by decide +kernel
theorem dX6_many_3 : decode cX6_many 3 = .ok (.istore_n 2, 1) := by decide +kernel
theorem dX6_many_4 : decode cX6_many 4 = .ok (.iload_n 2, 1) := by decide +kernel
theorem dX6_many_5 : decode cX6_many 5 = .ok (.iload_n 0, 1) := by decide +kernel
theorem dX6_many_6 : decode cX6_many 6 = .ok (.if_icmp .gt 13, 3) := by decide +kernel
theorem dX6_many_9 : decode cX6_many 9 = .ok (.iload_n 1, 1) := by decide +kernel
theorem dX6_many_10 : decode cX6_many 10 = .ok (.iload_n 2, 1) := by decide +kernel
theorem dX6_many_11 : decode cX6_many 11 = .ok (.imul, 1) := by decide +kernel
theorem dX6_many_12 : decode cX6_many 12 = .ok (.istore_n 1, 1) := by decide +kernel
theorem dX6_many_13 : decode cX6_many 13 = .ok (.iinc 2 1, 3) := by decide +kernel
theorem dX6_many_16 : decode cX6_many 16 = .ok (.goto (-12), 3) := by decide +kernel
theorem dX6_many_19 : decode cX6_many 19 = .ok (.iload_n 1, 1) := by decide +kernel
theorem dX6_many_20 : decode cX6_many 20 = .ok (.ireturn, 1) := by decide +kernel
set_option maxRecDepth 20000 in
theorem ggX6_rank_X6_bellAt : GoodIn wsX6_rank wsX6_bellAt := goodIn_r _ [4] (by decide +kernel) (by decide +kernel)
set_option maxRecDepth 20000 in
theorem gX6_rank_X6_bellAt : GoodIn wsX6_rank (va_wsS RX6 9 yX6_bellAt wsX6_bellAt) := goodIn_app (goodIn_of _ (by decide +kernel)) ggX6_rank_X6_bellAt
set_option maxRecDepth 20000 in
theorem ggX6_rank_J6_bitCount_0f7a4 : GoodIn wsX6_rank wsJ6_bitCount_0f7a4 := goodIn_r _ [8, 9, 10, 11] (by decide +kernel) (by decide +kernel)
set_option maxRecDepth 20000 in
theorem gX6_rank_J6_bitCount_0f7a4 : GoodIn wsX6_rank (va_wsS RX6 24 yJ6_bitCount_0f7a4 wsJ6_bitCount_0f7a4) := goodIn_app (goodIn_of _ (by decide +kernel)) ggX6_rank_J6_bitCount_0f7a4
theorem dX6_rank_0 : decode cX6_rank 0 = .ok (.iconst 0, 1) := by decide +kernel
theorem dX6_rank_1 : decode cX6_rank 1 = .ok (.istore_n 2, 1) := by decide +kernel
theorem dX6_rank_2 : decode cX6_rank 2 = .ok (.iconst 0, 1) := by decide +kernel
theorem dX6_rank_3 : decode cX6_rank 3 = .ok (.istore_n 3, 1) := by decide +kernel
theorem dX6_rank_4 : decode cX6_rank 4 = .ok (.iconst 0, 1) := by decide +kernel
theorem dX6_rank_5 : decode cX6_rank 5 = .ok (.istore 4, 2) := by decide +kernel
theorem dX6_rank_7 : decode cX6_rank 7 = .ok (.iload 4, 2) := by decide +kernel
theorem dX6_rank_9 : decode cX6_rank 9 = .ok (.iload_n 1, 1) := by decide +kernel
theorem dX6_rank_10 : decode cX6_rank 10 = .ok (.if_icmp .ge 50, 3) := by decide +kernel
theorem dX6_rank_13 : decode cX6_rank 13 = .ok (.iload_n 0, 1) := by decide +kernel
theorem dX6_rank_14 : decode cX6_rank 14 = .ok (.iload 4, 2) := by decide +kernel
theorem dX6_rank_16 : decode cX6_rank 16 = .ok (.invokestatic 9, 3) := by decide +kernel
theorem dX6_rank_19 : decode cX6_rank 19 = .ok (.istore 5, 2) := by decide +kernel
theorem dX6_rank_21 : decode cX6_rank 21 = .ok (.iload_n 3, 1) := by decide +kernel
theorem dX6_rank_22 : decode cX6_rank 22 = .ok (.iconst 1, 1) := by decide +kernel
theorem dX6_rank_23 : decode cX6_rank 23 = .ok (.iload 5, 2) := by decide +kernel
theorem dX6_rank_25 : decode cX6_rank 25 = .ok (.ishl, 1) := by decide +kernel
theorem dX6_rank_26 : decode cX6_rank 26 = .ok (.iconst 1, 1) := by decide +kernel
theorem dX6_rank_27 : decode cX6_rank 27 = .ok (.isub, 1) := by decide +kernel
theorem dX6_rank_28 : decode cX6_rank 28 = .ok (.iand, 1) := by decide +kernel
theorem dX6_rank_29 : decode cX6_rank 29 = .ok (.invokestatic 24, 3) := by decide +kernel
theorem dX6_rank_32 : decode cX6_rank 32 = .ok (.istore 6, 2) := by decide +kernel
theorem dX6_rank_34 : decode cX6_rank 34 = .ok (.iload_n 2, 1) := by decide +kernel
theorem dX6_rank_35 : decode cX6_rank 35 = .ok (.iload_n 1, 1) := by decide +kernel
theorem dX6_rank_36 : decode cX6_rank 36 = .ok (.iload 4, 2) := by decide +kernel
theorem dX6_rank_38 : decode cX6_rank 38 = .ok (.isub, 1) := by decide +kernel
theorem dX6_rank_39 : decode cX6_rank 39 = .ok (.imul, 1) := by decide +kernel
theorem dX6_rank_40 : decode cX6_rank 40 = .ok (.iload 5, 2) := by decide +kernel
theorem dX6_rank_42 : decode cX6_rank 42 = .ok (.iadd, 1) := by decide +kernel
theorem dX6_rank_43 : decode cX6_rank 43 = .ok (.iload 6, 2) := by decide +kernel
theorem dX6_rank_45 : decode cX6_rank 45 = .ok (.isub, 1) := by decide +kernel
theorem dX6_rank_46 : decode cX6_rank 46 = .ok (.istore_n 2, 1) := by decide +kernel
theorem dX6_rank_47 : decode cX6_rank 47 = .ok (.iload_n 3, 1) := by decide +kernel
theorem dX6_rank_48 : decode cX6_rank 48 = .ok (.iconst 1, 1) := by decide +kernel
theorem dX6_rank_49 : decode cX6_rank 49 = .ok (.iload 5, 2) := by decide +kernel
theorem dX6_rank_51 : decode cX6_rank 51 = .ok (.ishl, 1) := by decide +kernel
theorem dX6_rank_52 : decode cX6_rank 52 = .ok (.ior, 1) := by decide +kernel
theorem dX6_rank_53 : decode cX6_rank 53 = .ok (.istore_n 3, 1) := by decide +kernel
theorem dX6_rank_54 : decode cX6_rank 54 = .ok (.iinc 4 1, 3) := by decide +kernel
theorem dX6_rank_57 : decode cX6_rank 57 = .ok (.goto (-50), 3) := by decide +kernel
theorem dX6_rank_60 : decode cX6_rank 60 = .ok (.iload_n 2, 1) := by decide +kernel
theorem dX6_rank_61 : decode cX6_rank 61 = .ok (.ireturn, 1) := by decide +kernel
set_option maxRecDepth 20000 in
theorem ggX6_ofRank_X6_many : GoodIn wsX6_ofRank wsX6_many := goodIn_r _ [4] (by decide +kernel) (by decide +kernel)
set_option maxRecDepth 20000 in
theorem gX6_ofRank_X6_many : GoodIn wsX6_ofRank (va_wsS RX6 29 yX6_many wsX6_many) := goodIn_app (goodIn_of _ (by decide +kernel)) ggX6_ofRank_X6_many
set_option maxRecDepth 20000 in
theorem ggX6_ofRank_X6_unused : GoodIn wsX6_ofRank wsX6_unused := goodIn_r _ [7] (by decide +kernel) (by decide +kernel)
set_option maxRecDepth 20000 in
theorem gX6_ofRank_X6_unused : GoodIn wsX6_ofRank (va_wsS RX6 32 yX6_unused wsX6_unused) := goodIn_app (goodIn_of _ (by decide +kernel)) ggX6_ofRank_X6_unused
theorem dX6_ofRank_0 : decode cX6_ofRank 0 = .ok (.iconst 0, 1) := by decide +kernel
theorem dX6_ofRank_1 : decode cX6_ofRank 1 = .ok (.istore_n 2, 1) := by decide +kernel
theorem dX6_ofRank_2 : decode cX6_ofRank 2 = .ok (.iconst 0, 1) := by decide +kernel
theorem dX6_ofRank_3 : decode cX6_ofRank 3 = .ok (.istore_n 3, 1) := by decide +kernel
theorem dX6_ofRank_4 : decode cX6_ofRank 4 = .ok (.iload_n 0, 1) := by decide +kernel
theorem dX6_ofRank_5 : decode cX6_ofRank 5 = .ok (.istore 4, 2) := by decide +kernel
theorem dX6_ofRank_7 : decode cX6_ofRank 7 = .ok (.iconst 0, 1) := by decide +kernel
theorem dX6_ofRank_8 : decode cX6_ofRank 8 = .ok (.istore 5, 2) := by decide +kernel
theorem dX6_ofRank_10 : decode cX6_ofRank 10 = .ok (.iload 5, 2) := by decide +kernel
theorem dX6_ofRank_12 : decode cX6_ofRank 12 = .ok (.iload_n 1, 1) := by decide +kernel
theorem dX6_ofRank_13 : decode cX6_ofRank 13 = .ok (.if_icmp .ge 72, 3) := by decide +kernel
theorem dX6_ofRank_16 : decode cX6_ofRank 16 = .ok (.iload_n 1, 1) := by decide +kernel
theorem dX6_ofRank_17 : decode cX6_ofRank 17 = .ok (.iconst 1, 1) := by decide +kernel
theorem dX6_ofRank_18 : decode cX6_ofRank 18 = .ok (.isub, 1) := by decide +kernel
theorem dX6_ofRank_19 : decode cX6_ofRank 19 = .ok (.iload 5, 2) := by decide +kernel
theorem dX6_ofRank_21 : decode cX6_ofRank 21 = .ok (.isub, 1) := by decide +kernel
theorem dX6_ofRank_22 : decode cX6_ofRank 22 = .ok (.invokestatic 29, 3) := by decide +kernel
theorem dX6_ofRank_25 : decode cX6_ofRank 25 = .ok (.istore 6, 2) := by decide +kernel
theorem dX6_ofRank_27 : decode cX6_ofRank 27 = .ok (.iload 6, 2) := by decide +kernel
theorem dX6_ofRank_29 : decode cX6_ofRank 29 = .ok (.ifCond .le 11, 3) := by decide +kernel
theorem dX6_ofRank_32 : decode cX6_ofRank 32 = .ok (.iload 4, 2) := by decide +kernel
theorem dX6_ofRank_34 : decode cX6_ofRank 34 = .ok (.iload 6, 2) := by decide +kernel
theorem dX6_ofRank_36 : decode cX6_ofRank 36 = .ok (.idiv, 1) := by decide +kernel
theorem dX6_ofRank_37 : decode cX6_ofRank 37 = .ok (.goto 4, 3) := by decide +kernel
theorem dX6_ofRank_40 : decode cX6_ofRank 40 = .ok (.iconst 0, 1) := by decide +kernel
theorem dX6_ofRank_41 : decode cX6_ofRank 41 = .ok (.istore 7, 2) := by decide +kernel
theorem dX6_ofRank_43 : decode cX6_ofRank 43 = .ok (.iload 4, 2) := by decide +kernel
theorem dX6_ofRank_45 : decode cX6_ofRank 45 = .ok (.iload 7, 2) := by decide +kernel
theorem dX6_ofRank_47 : decode cX6_ofRank 47 = .ok (.iload 6, 2) := by decide +kernel
theorem dX6_ofRank_49 : decode cX6_ofRank 49 = .ok (.imul, 1) := by decide +kernel
theorem dX6_ofRank_50 : decode cX6_ofRank 50 = .ok (.isub, 1) := by decide +kernel
theorem dX6_ofRank_51 : decode cX6_ofRank 51 = .ok (.istore 4, 2) := by decide +kernel
theorem dX6_ofRank_53 : decode cX6_ofRank 53 = .ok (.iload_n 3, 1) := by decide +kernel
theorem dX6_ofRank_54 : decode cX6_ofRank 54 = .ok (.iload 7, 2) := by decide +kernel
theorem dX6_ofRank_56 : decode cX6_ofRank 56 = .ok (.iload_n 1, 1) := by decide +kernel
theorem dX6_ofRank_57 : decode cX6_ofRank 57 = .ok (.invokestatic 32, 3) := by decide +kernel
theorem dX6_ofRank_60 : decode cX6_ofRank 60 = .ok (.istore 8, 2) := by decide +kernel
theorem dX6_ofRank_62 : decode cX6_ofRank 62 = .ok (.iload_n 2, 1) := by decide +kernel
theorem dX6_ofRank_63 : decode cX6_ofRank 63 = .ok (.iload 8, 2) := by decide +kernel
theorem dX6_ofRank_65 : decode cX6_ofRank 65 = .ok (.iconst 3, 1) := by decide +kernel
theorem dX6_ofRank_66 : decode cX6_ofRank 66 = .ok (.iload 5, 2) := by decide +kernel
theorem dX6_ofRank_68 : decode cX6_ofRank 68 = .ok (.imul, 1) := by decide +kernel
theorem dX6_ofRank_69 : decode cX6_ofRank 69 = .ok (.ishl, 1) := by decide +kernel
theorem dX6_ofRank_70 : decode cX6_ofRank 70 = .ok (.ior, 1) := by decide +kernel
theorem dX6_ofRank_71 : decode cX6_ofRank 71 = .ok (.istore_n 2, 1) := by decide +kernel
theorem dX6_ofRank_72 : decode cX6_ofRank 72 = .ok (.iload_n 3, 1) := by decide +kernel
theorem dX6_ofRank_73 : decode cX6_ofRank 73 = .ok (.iconst 1, 1) := by decide +kernel
theorem dX6_ofRank_74 : decode cX6_ofRank 74 = .ok (.iload 8, 2) := by decide +kernel
theorem dX6_ofRank_76 : decode cX6_ofRank 76 = .ok (.ishl, 1) := by decide +kernel
theorem dX6_ofRank_77 : decode cX6_ofRank 77 = .ok (.ior, 1) := by decide +kernel
theorem dX6_ofRank_78 : decode cX6_ofRank 78 = .ok (.istore_n 3, 1) := by decide +kernel
theorem dX6_ofRank_79 : decode cX6_ofRank 79 = .ok (.iinc 5 1, 3) := by decide +kernel
theorem dX6_ofRank_82 : decode cX6_ofRank 82 = .ok (.goto (-72), 3) := by decide +kernel
theorem dX6_ofRank_85 : decode cX6_ofRank 85 = .ok (.iload_n 2, 1) := by decide +kernel
theorem dX6_ofRank_86 : decode cX6_ofRank 86 = .ok (.ireturn, 1) := by decide +kernel
theorem dX6_unused_0 : decode cX6_unused 0 = .ok (.iload_n 1, 1) := by decide +kernel
theorem dX6_unused_1 : decode cX6_unused 1 = .ok (.istore_n 3, 1) := by decide +kernel
theorem dX6_unused_2 : decode cX6_unused 2 = .ok (.iconst 0, 1) := by decide +kernel
theorem dX6_unused_3 : decode cX6_unused 3 = .ok (.istore 4, 2) := by decide +kernel
theorem dX6_unused_5 : decode cX6_unused 5 = .ok (.iload 4, 2) := by decide +kernel
theorem dX6_unused_7 : decode cX6_unused 7 = .ok (.iload_n 2, 1) := by decide +kernel
theorem dX6_unused_8 : decode cX6_unused 8 = .ok (.if_icmp .ge 28, 3) := by decide +kernel
theorem dX6_unused_11 : decode cX6_unused 11 = .ok (.iload_n 0, 1) := by decide +kernel
theorem dX6_unused_12 : decode cX6_unused 12 = .ok (.iload 4, 2) := by decide +kernel
theorem dX6_unused_14 : decode cX6_unused 14 = .ok (.iushr, 1) := by decide +kernel
theorem dX6_unused_15 : decode cX6_unused 15 = .ok (.iconst 1, 1) := by decide +kernel
theorem dX6_unused_16 : decode cX6_unused 16 = .ok (.iand, 1) := by decide +kernel
theorem dX6_unused_17 : decode cX6_unused 17 = .ok (.ifCond .ne 13, 3) := by decide +kernel
theorem dX6_unused_20 : decode cX6_unused 20 = .ok (.iload_n 3, 1) := by decide +kernel
theorem dX6_unused_21 : decode cX6_unused 21 = .ok (.ifCond .ne 6, 3) := by decide +kernel
theorem dX6_unused_24 : decode cX6_unused 24 = .ok (.iload 4, 2) := by decide +kernel
theorem dX6_unused_26 : decode cX6_unused 26 = .ok (.ireturn, 1) := by decide +kernel
theorem dX6_unused_27 : decode cX6_unused 27 = .ok (.iinc 3 (-1), 3) := by decide +kernel
theorem dX6_unused_30 : decode cX6_unused 30 = .ok (.iinc 4 1, 3) := by decide +kernel
theorem dX6_unused_33 : decode cX6_unused 33 = .ok (.goto (-28), 3) := by decide +kernel
theorem dX6_unused_36 : decode cX6_unused 36 = .ok (.iconst 0, 1) := by decide +kernel
theorem dX6_unused_37 : decode cX6_unused 37 = .ok (.ireturn, 1) := by decide +kernel
theorem dX7_init_0 : decode cX7_init 0 = .ok (.aload_n 0, 1) := by decide +kernel
theorem dX7_init_1 : decode cX7_init 1 = .ok (.invokespecial 3, 3) := by decide +kernel
theorem dX7_init_4 : decode cX7_init 4 = .ok (.aload_n 0, 1) := by decide +kernel
theorem dX7_init_5 : decode cX7_init 5 = .ok (.sipush 200, 3) := by decide +kernel
theorem dX7_init_8 : decode cX7_init 8 = .ok (.newarray .int, 2) := by decide +kernel
theorem dX7_init_10 : decode cX7_init 10 = .ok (.putfield 9, 3) := by decide +kernel
theorem dX7_init_13 : decode cX7_init 13 = .ok (.aload_n 0, 1) := by decide +kernel
theorem dX7_init_14 : decode cX7_init 14 = .ok (.sipush 200, 3) := by decide +kernel
theorem dX7_init_17 : decode cX7_init 17 = .ok (.newarray .int, 2) := by decide +kernel
theorem dX7_init_19 : decode cX7_init 19 = .ok (.putfield 15, 3) := by decide +kernel
theorem dX7_init_22 : decode cX7_init 22 = .ok (.aload_n 0, 1) := by decide +kernel
theorem dX7_init_23 : decode cX7_init 23 = .ok (.iconst 0, 1) := by decide +kernel
theorem dX7_init_24 : decode cX7_init 24 = .ok (.putfield 18, 3) := by decide +kernel
theorem dX7_init_27 : decode cX7_init 27 = .ok (.aload_n 0, 1) := by decide +kernel
theorem dX7_init_28 : decode cX7_init 28 = .ok (.iconst 0, 1) := by decide +kernel
theorem dX7_init_29 : decode cX7_init 29 = .ok (.putfield 22, 3) := by decide +kernel
theorem dX7_init_32 : decode cX7_init 32 = .ok (.aload_n 0, 1) := by decide +kernel
theorem dX7_init_33 : decode cX7_init 33 = .ok (.aload_n 1, 1) := by decide +kernel
theorem dX7_init_34 : decode cX7_init 34 = .ok (.putfield 25, 3) := by decide +kernel
theorem dX7_init_37 : decode cX7_init 37 = .ok (.return_, 1) := by decide +kernel
theorem dX7_looked_0 : decode cX7_looked 0 = .ok (.aload_n 0, 1) := by decide +kernel
theorem dX7_looked_1 : decode cX7_looked 1 = .ok (.getfield 22, 3) := by decide +kernel
theorem dX7_looked_4 : decode cX7_looked 4 = .ok (.ireturn, 1) := by decide +kernel
set_option maxRecDepth 20000 in
theorem ggX7_callOf_X11_cell : GoodIn wsX7_callOf wsX11_cell := goodIn_r _ [4] (by decide +kernel) (by decide +kernel)
set_option maxRecDepth 20000 in
theorem gX7_callOf_X11_cell_n29 : GoodIn wsX7_callOf (wsX11_cell) := ggX7_callOf_X11_cell
theorem dX7_callOf_0 : decode cX7_callOf 0 = .ok (.aload_n 0, 1) := by decide +kernel
theorem dX7_callOf_1 : decode cX7_callOf 1 = .ok (.getfield 15, 3) := by decide +kernel
theorem dX7_callOf_4 : decode cX7_callOf 4 = .ok (.iload_n 1, 1) := by decide +kernel
theorem dX7_callOf_5 : decode cX7_callOf 5 = .ok (.invokestatic 29, 3) := by decide +kernel
theorem dX7_callOf_8 : decode cX7_callOf 8 = .ok (.ireturn, 1) := by decide +kernel
set_option maxRecDepth 20000 in
theorem ggX7_seek_X2_bells : GoodIn wsX7_seek wsX2_bells := goodIn_r _ [10, 11, 104, 105, 106, 107, 108, 109, 110, 111] (by decide +kernel) (by decide +kernel)
set_option maxRecDepth 20000 in
theorem gX7_seek_X2_bells : GoodIn wsX7_seek (wsV RX7 33 RX2 yX2_bells wsX2_bells) := goodIn_app (goodIn_of _ (by decide +kernel)) ggX7_seek_X2_bells
set_option maxRecDepth 20000 in
theorem ggX7_seek_X8_begin : GoodIn wsX7_seek wsX8_begin := goodIn_r _ [16, 17, 18, 19, 112, 113, 114, 115] (by decide +kernel) (by decide +kernel)
set_option maxRecDepth 20000 in
theorem gX7_seek_X8_begin : GoodIn wsX7_seek (wsV RX7 39 RX8 yX8_begin wsX8_begin) := goodIn_app (goodIn_of _ (by decide +kernel)) ggX7_seek_X8_begin
set_option maxRecDepth 20000 in
theorem ggX7_seek_X6_rounds : GoodIn wsX7_seek wsX6_rounds := goodIn_r _ [23] (by decide +kernel) (by decide +kernel)
set_option maxRecDepth 20000 in
theorem gX7_seek_X6_rounds : GoodIn wsX7_seek (va_wsS RX7 45 yX6_rounds wsX6_rounds) := goodIn_app (goodIn_of _ (by decide +kernel)) ggX7_seek_X6_rounds
set_option maxRecDepth 20000 in
theorem ggX7_seek_X7_ring : GoodIn wsX7_seek wsX7_ring := goodIn_r _ [28, 1, 29, 30, 31, 9, 32, 33, 34, 35, 36, 15, 37, 17, 38, 19, 18, 39, 40, 41, 42, 43, 44, 22, 45, 46, 47, 48, 49, 50, 51, 52, 53, 54, 55, 56, 57, 58, 59, 60, 61, 62, 63, 27, 64, 65, 66, 67, 68, 69, 70, 71, 72, 73, 74, 75, 76, 99, 100, 101, 102, 103, 104, 105, 106, 107, 108, 109, 110, 111, 112, 113, 114, 115] (by decide +kernel) (by decide +kernel)
set_option maxRecDepth 20000 in
theorem gX7_seek_X7_ring : GoodIn wsX7_seek (wsV RX7 51 RX7 yX7_ring wsX7_ring) := goodIn_app (goodIn_of _ (by decide +kernel)) ggX7_seek_X7_ring
set_option maxRecDepth 20000 in
theorem ggX7_seek_X7_endsHome : GoodIn wsX7_seek wsX7_endsHome := goodIn_r _ [80, 5, 2, 81, 82, 83, 9, 84, 85, 11, 86, 87, 88, 89, 22, 90, 46, 47, 48, 6, 7, 8, 10, 20, 21, 23, 59, 57, 60, 99, 100, 101, 102, 103, 104, 105, 106, 107, 108, 109, 110, 111] (by decide +kernel) (by decide +kernel)
set_option maxRecDepth 20000 in
theorem gX7_seek_X7_endsHome : GoodIn wsX7_seek (wsV RX7 55 RX7 yX7_endsHome wsX7_endsHome) := goodIn_app (goodIn_of _ (by decide +kernel)) ggX7_seek_X7_endsHome
set_option maxRecDepth 20000 in
theorem ggX7_seek_X11_setCell : GoodIn wsX7_seek wsX11_setCell := goodIn_r _ [60] (by decide +kernel) (by decide +kernel)
set_option maxRecDepth 20000 in
theorem gX7_seek_X11_setCell_n58 : GoodIn wsX7_seek (wsX11_setCell) := ggX7_seek_X11_setCell
set_option maxRecDepth 20000 in
theorem ggX7_seek_X7_turnBack : GoodIn wsX7_seek wsX7_turnBack := goodIn_r _ [94, 2, 5, 4, 95, 96, 97, 27, 98, 56, 57, 58, 59, 60, 29, 30, 31, 9, 32, 33, 61, 62, 63, 64, 1, 65, 66, 67, 15, 68, 38, 17, 43, 44, 22, 45, 46, 47, 48, 49, 50, 51, 52, 53, 54, 55, 69, 70, 71, 72, 73, 74, 75, 76, 99, 100, 101, 102, 103, 104, 105, 106, 107, 108, 109, 110, 111, 112, 113, 114, 115] (by decide +kernel) (by decide +kernel)
set_option maxRecDepth 20000 in
theorem gX7_seek_X7_turnBack : GoodIn wsX7_seek (wsV RX7 62 RX7 yX7_turnBack wsX7_turnBack) := goodIn_app (goodIn_of _ (by decide +kernel)) ggX7_seek_X7_turnBack
set_option maxRecDepth 20000 in
theorem ggX7_seek_X11_cell : GoodIn wsX7_seek wsX11_cell := goodIn_r _ [58] (by decide +kernel) (by decide +kernel)
set_option maxRecDepth 20000 in
theorem gX7_seek_X11_cell_n29 : GoodIn wsX7_seek (wsX11_cell) := ggX7_seek_X11_cell
set_option maxRecDepth 20000 in
theorem ggX7_seek_X7_callOf : GoodIn wsX7_seek wsX7_callOf := goodIn_r _ [98, 5, 56, 57, 58, 99, 100, 101, 102, 103] (by decide +kernel) (by decide +kernel)
set_option maxRecDepth 20000 in
theorem gX7_seek_X7_callOf : GoodIn wsX7_seek (wsV RX7 66 RX7 yX7_callOf wsX7_callOf) := goodIn_app (goodIn_of _ (by decide +kernel)) ggX7_seek_X7_callOf
set_option maxRecDepth 20000 in
theorem ggX7_seek_X2_following : GoodIn wsX7_seek wsX2_following := goodIn_r _ [84, 85, 11, 86, 87, 88, 89, 22, 90, 46, 47, 48, 104, 105, 106, 107, 108, 109, 110, 111] (by decide +kernel) (by decide +kernel)
set_option maxRecDepth 20000 in
theorem gX7_seek_X2_following : GoodIn wsX7_seek (wsV RX7 69 RX2 yX2_following wsX2_following) := goodIn_app (goodIn_of _ (by decide +kernel)) ggX7_seek_X2_following
theorem dX7_seek_0 : decode cX7_seek 0 = .ok (.aload_n 0, 1) := by decide +kernel
theorem dX7_seek_1 : decode cX7_seek 1 = .ok (.getfield 25, 3) := by decide +kernel
theorem dX7_seek_4 : decode cX7_seek 4 = .ok (.aload_n 1, 1) := by decide +kernel
theorem dX7_seek_5 : decode cX7_seek 5 = .ok (.invokevirtual 33, 3) := by decide +kernel
theorem dX7_seek_8 : decode cX7_seek 8 = .ok (.invokevirtual 39, 3) := by decide +kernel
theorem dX7_seek_11 : decode cX7_seek 11 = .ok (.aload_n 0, 1) := by decide +kernel
theorem dX7_seek_12 : decode cX7_seek 12 = .ok (.iconst 0, 1) := by decide +kernel
theorem dX7_seek_13 : decode cX7_seek 13 = .ok (.putfield 18, 3) := by decide +kernel
theorem dX7_seek_16 : decode cX7_seek 16 = .ok (.aload_n 1, 1) := by decide +kernel
theorem dX7_seek_17 : decode cX7_seek 17 = .ok (.invokevirtual 33, 3) := by decide +kernel
theorem dX7_seek_20 : decode cX7_seek 20 = .ok (.invokestatic 45, 3) := by decide +kernel
theorem dX7_seek_23 : decode cX7_seek 23 = .ok (.istore 4, 2) := by decide +kernel
theorem dX7_seek_25 : decode cX7_seek 25 = .ok (.aload_n 0, 1) := by decide +kernel
theorem dX7_seek_26 : decode cX7_seek 26 = .ok (.iconst 1, 1) := by decide +kernel
theorem dX7_seek_27 : decode cX7_seek 27 = .ok (.putfield 22, 3) := by decide +kernel
theorem dX7_seek_30 : decode cX7_seek 30 = .ok (.aload_n 0, 1) := by decide +kernel
theorem dX7_seek_31 : decode cX7_seek 31 = .ok (.getfield 22, 3) := by decide +kernel
theorem dX7_seek_34 : decode cX7_seek 34 = .ok (.iload_n 3, 1) := by decide +kernel
theorem dX7_seek_35 : decode cX7_seek 35 = .ok (.if_icmp .gt 151, 3) := by decide +kernel
theorem dX7_seek_38 : decode cX7_seek 38 = .ok (.iconst 0, 1) := by decide +kernel
theorem dX7_seek_39 : decode cX7_seek 39 = .ok (.istore 5, 2) := by decide +kernel
theorem dX7_seek_41 : decode cX7_seek 41 = .ok (.aload_n 0, 1) := by decide +kernel
theorem dX7_seek_42 : decode cX7_seek 42 = .ok (.aload_n 1, 1) := by decide +kernel
theorem dX7_seek_43 : decode cX7_seek 43 = .ok (.iload 4, 2) := by decide +kernel
theorem dX7_seek_45 : decode cX7_seek 45 = .ok (.invokevirtual 51, 3) := by decide +kernel
theorem dX7_seek_48 : decode cX7_seek 48 = .ok (.ifCond .eq 81, 3) := by decide +kernel
theorem dX7_seek_51 : decode cX7_seek 51 = .ok (.aload_n 0, 1) := by decide +kernel
theorem dX7_seek_52 : decode cX7_seek 52 = .ok (.getfield 18, 3) := by decide +kernel
theorem dX7_seek_55 : decode cX7_seek 55 = .ok (.iconst 1, 1) := by decide +kernel
theorem dX7_seek_56 : decode cX7_seek 56 = .ok (.iadd, 1) := by decide +kernel
theorem dX7_seek_57 : decode cX7_seek 57 = .ok (.iload_n 2, 1) := by decide +kernel
theorem dX7_seek_58 : decode cX7_seek 58 = .ok (.if_icmp .ge 7, 3) := by decide +kernel
theorem dX7_seek_61 : decode cX7_seek 61 = .ok (.iconst 1, 1) := by decide +kernel
theorem dX7_seek_62 : decode cX7_seek 62 = .ok (.goto 4, 3) := by decide +kernel
theorem dX7_seek_65 : decode cX7_seek 65 = .ok (.iconst 0, 1) := by decide +kernel
theorem dX7_seek_66 : decode cX7_seek 66 = .ok (.istore 5, 2) := by decide +kernel
theorem dX7_seek_68 : decode cX7_seek 68 = .ok (.iload 5, 2) := by decide +kernel
theorem dX7_seek_70 : decode cX7_seek 70 = .ok (.ifCond .ne 15, 3) := by decide +kernel
theorem dX7_seek_73 : decode cX7_seek 73 = .ok (.aload_n 0, 1) := by decide +kernel
theorem dX7_seek_74 : decode cX7_seek 74 = .ok (.aload_n 1, 1) := by decide +kernel
theorem dX7_seek_75 : decode cX7_seek 75 = .ok (.iload 4, 2) := by decide +kernel
theorem dX7_seek_77 : decode cX7_seek 77 = .ok (.invokevirtual 55, 3) := by decide +kernel
theorem dX7_seek_80 : decode cX7_seek 80 = .ok (.ifCond .eq 5, 3) := by decide +kernel
theorem dX7_seek_83 : decode cX7_seek 83 = .ok (.iconst 0, 1) := by decide +kernel
theorem dX7_seek_84 : decode cX7_seek 84 = .ok (.ireturn, 1) := by decide +kernel
theorem dX7_seek_85 : decode cX7_seek 85 = .ok (.aload_n 0, 1) := by decide +kernel
theorem dX7_seek_86 : decode cX7_seek 86 = .ok (.getfield 9, 3) := by decide +kernel
theorem dX7_seek_89 : decode cX7_seek 89 = .ok (.aload_n 0, 1) := by decide +kernel
theorem dX7_seek_90 : decode cX7_seek 90 = .ok (.getfield 18, 3) := by decide +kernel
theorem dX7_seek_93 : decode cX7_seek 93 = .ok (.iload 4, 2) := by decide +kernel
theorem dX7_seek_95 : decode cX7_seek 95 = .ok (.invokestatic 58, 3) := by decide +kernel
theorem dX7_seek_98 : decode cX7_seek 98 = .ok (.aload_n 0, 1) := by decide +kernel
theorem dX7_seek_99 : decode cX7_seek 99 = .ok (.getfield 15, 3) := by decide +kernel
theorem dX7_seek_102 : decode cX7_seek 102 = .ok (.aload_n 0, 1) := by decide +kernel
theorem dX7_seek_103 : decode cX7_seek 103 = .ok (.getfield 18, 3) := by decide +kernel
theorem dX7_seek_106 : decode cX7_seek 106 = .ok (.iload 5, 2) := by decide +kernel
theorem dX7_seek_108 : decode cX7_seek 108 = .ok (.ifCond .eq 7, 3) := by decide +kernel
theorem dX7_seek_111 : decode cX7_seek 111 = .ok (.iconst 0, 1) := by decide +kernel
theorem dX7_seek_112 : decode cX7_seek 112 = .ok (.goto 4, 3) := by decide +kernel
theorem dX7_seek_115 : decode cX7_seek 115 = .ok (.iconst 2, 1) := by decide +kernel
theorem dX7_seek_116 : decode cX7_seek 116 = .ok (.invokestatic 58, 3) := by decide +kernel
theorem dX7_seek_119 : decode cX7_seek 119 = .ok (.aload_n 0, 1) := by decide +kernel
theorem dX7_seek_120 : decode cX7_seek 120 = .ok (.dup, 1) := by decide +kernel
theorem dX7_seek_121 : decode cX7_seek 121 = .ok (.getfield 18, 3) := by decide +kernel
theorem dX7_seek_124 : decode cX7_seek 124 = .ok (.iconst 1, 1) := by decide +kernel
theorem dX7_seek_125 : decode cX7_seek 125 = .ok (.iadd, 1) := by decide +kernel
theorem dX7_seek_126 : decode cX7_seek 126 = .ok (.putfield 18, 3) := by decide +kernel
theorem dX7_seek_129 : decode cX7_seek 129 = .ok (.iload 5, 2) := by decide +kernel
theorem dX7_seek_131 : decode cX7_seek 131 = .ok (.ifCond .ne 13, 3) := by decide +kernel
theorem dX7_seek_134 : decode cX7_seek 134 = .ok (.aload_n 0, 1) := by decide +kernel
theorem dX7_seek_135 : decode cX7_seek 135 = .ok (.aload_n 1, 1) := by decide +kernel
theorem dX7_seek_136 : decode cX7_seek 136 = .ok (.invokevirtual 62, 3) := by decide +kernel
theorem dX7_seek_139 : decode cX7_seek 139 = .ok (.ifCond .ne 5, 3) := by decide +kernel
theorem dX7_seek_142 : decode cX7_seek 142 = .ok (.iconst 1, 1) := by decide +kernel
theorem dX7_seek_143 : decode cX7_seek 143 = .ok (.ireturn, 1) := by decide +kernel
theorem dX7_seek_144 : decode cX7_seek 144 = .ok (.aload_n 1, 1) := by decide +kernel
theorem dX7_seek_145 : decode cX7_seek 145 = .ok (.aload_n 0, 1) := by decide +kernel
theorem dX7_seek_146 : decode cX7_seek 146 = .ok (.getfield 9, 3) := by decide +kernel
theorem dX7_seek_149 : decode cX7_seek 149 = .ok (.aload_n 0, 1) := by decide +kernel
theorem dX7_seek_150 : decode cX7_seek 150 = .ok (.getfield 18, 3) := by decide +kernel
theorem dX7_seek_153 : decode cX7_seek 153 = .ok (.iconst 1, 1) := by decide +kernel
theorem dX7_seek_154 : decode cX7_seek 154 = .ok (.isub, 1) := by decide +kernel
theorem dX7_seek_155 : decode cX7_seek 155 = .ok (.invokestatic 29, 3) := by decide +kernel
theorem dX7_seek_158 : decode cX7_seek 158 = .ok (.aload_n 0, 1) := by decide +kernel
theorem dX7_seek_159 : decode cX7_seek 159 = .ok (.aload_n 0, 1) := by decide +kernel
theorem dX7_seek_160 : decode cX7_seek 160 = .ok (.getfield 18, 3) := by decide +kernel
theorem dX7_seek_163 : decode cX7_seek 163 = .ok (.iconst 1, 1) := by decide +kernel
theorem dX7_seek_164 : decode cX7_seek 164 = .ok (.isub, 1) := by decide +kernel
theorem dX7_seek_165 : decode cX7_seek 165 = .ok (.invokevirtual 66, 3) := by decide +kernel
theorem dX7_seek_168 : decode cX7_seek 168 = .ok (.invokevirtual 69, 3) := by decide +kernel
theorem dX7_seek_171 : decode cX7_seek 171 = .ok (.istore 4, 2) := by decide +kernel
theorem dX7_seek_173 : decode cX7_seek 173 = .ok (.aload_n 0, 1) := by decide +kernel
theorem dX7_seek_174 : decode cX7_seek 174 = .ok (.dup, 1) := by decide +kernel
theorem dX7_seek_175 : decode cX7_seek 175 = .ok (.getfield 22, 3) := by decide +kernel
theorem dX7_seek_178 : decode cX7_seek 178 = .ok (.iconst 1, 1) := by decide +kernel
theorem dX7_seek_179 : decode cX7_seek 179 = .ok (.iadd, 1) := by decide +kernel
theorem dX7_seek_180 : decode cX7_seek 180 = .ok (.putfield 22, 3) := by decide +kernel
theorem dX7_seek_183 : decode cX7_seek 183 = .ok (.goto (-153), 3) := by decide +kernel
theorem dX7_seek_186 : decode cX7_seek 186 = .ok (.aload_n 0, 1) := by decide +kernel
theorem dX7_seek_187 : decode cX7_seek 187 = .ok (.iload_n 3, 1) := by decide +kernel
theorem dX7_seek_188 : decode cX7_seek 188 = .ok (.putfield 22, 3) := by decide +kernel
theorem dX7_seek_191 : decode cX7_seek 191 = .ok (.iconst 2, 1) := by decide +kernel
theorem dX7_seek_192 : decode cX7_seek 192 = .ok (.ireturn, 1) := by decide +kernel
set_option maxRecDepth 20000 in
theorem ggX7_ring_X2_size : GoodIn wsX7_ring wsX2_size := goodIn_r _ [6, 7, 62, 63, 64, 65, 66, 67, 68, 69] (by decide +kernel) (by decide +kernel)
set_option maxRecDepth 20000 in
theorem gX7_ring_X2_size : GoodIn wsX7_ring (wsV RX7 73 RX2 yX2_size wsX2_size) := goodIn_app (goodIn_of _ (by decide +kernel)) ggX7_ring_X2_size
set_option maxRecDepth 20000 in
theorem ggX7_ring_X8_note : GoodIn wsX7_ring wsX8_note := goodIn_r _ [12, 13, 14, 15, 16, 17, 18, 19, 20, 21, 22, 23, 24, 25, 26, 27, 28, 29, 30, 31, 32, 33, 34, 35, 36, 37, 38, 39, 70, 71, 72, 73] (by decide +kernel) (by decide +kernel)
set_option maxRecDepth 20000 in
theorem gX7_ring_X8_note : GoodIn wsX7_ring (wsV RX7 76 RX8 yX8_note wsX8_note) := goodIn_app (goodIn_of _ (by decide +kernel)) ggX7_ring_X8_note
set_option maxRecDepth 20000 in
theorem ggX7_ring_X7_unring : GoodIn wsX7_ring wsX7_unring := goodIn_r _ [44, 1, 45, 46, 47, 11, 48, 14, 13, 21, 22, 23, 24, 25, 26, 27, 28, 29, 30, 31, 32, 33, 34, 38, 36, 39, 49, 50, 51, 5, 52, 53, 35, 37, 54, 55, 56, 57, 58, 59, 60, 61, 70, 71, 72, 73, 62, 63, 64, 65, 66, 67, 68, 69] (by decide +kernel) (by decide +kernel)
set_option maxRecDepth 20000 in
theorem gX7_ring_X7_unring : GoodIn wsX7_ring (wsV RX7 79 RX7 yX7_unring wsX7_unring) := goodIn_app (goodIn_of _ (by decide +kernel)) ggX7_ring_X7_unring
set_option maxRecDepth 20000 in
theorem ggX7_ring_X2_changeAt : GoodIn wsX7_ring wsX2_changeAt := goodIn_r _ [52, 53, 35, 36, 37, 62, 63, 64, 65, 66, 67, 68, 69] (by decide +kernel) (by decide +kernel)
set_option maxRecDepth 20000 in
theorem gX7_ring_X2_changeAt : GoodIn wsX7_ring (wsV RX7 83 RX2 yX2_changeAt wsX2_changeAt) := goodIn_app (goodIn_of _ (by decide +kernel)) ggX7_ring_X2_changeAt
set_option maxRecDepth 20000 in
theorem ggX7_ring_X6_changed : GoodIn wsX7_ring wsX6_changed := goodIn_r _ [56] (by decide +kernel) (by decide +kernel)
set_option maxRecDepth 20000 in
theorem gX7_ring_X6_changed : GoodIn wsX7_ring (va_wsS RX7 86 yX6_changed wsX6_changed) := goodIn_app (goodIn_of _ (by decide +kernel)) ggX7_ring_X6_changed
theorem dX7_ring_0 : decode cX7_ring 0 = .ok (.iload_n 2, 1) := by decide +kernel
theorem dX7_ring_1 : decode cX7_ring 1 = .ok (.istore_n 3, 1) := by decide +kernel
theorem dX7_ring_2 : decode cX7_ring 2 = .ok (.iconst 0, 1) := by decide +kernel
theorem dX7_ring_3 : decode cX7_ring 3 = .ok (.istore 4, 2) := by decide +kernel
theorem dX7_ring_5 : decode cX7_ring 5 = .ok (.iload 4, 2) := by decide +kernel
theorem dX7_ring_7 : decode cX7_ring 7 = .ok (.aload_n 1, 1) := by decide +kernel
theorem dX7_ring_8 : decode cX7_ring 8 = .ok (.invokevirtual 73, 3) := by decide +kernel
theorem dX7_ring_11 : decode cX7_ring 11 = .ok (.if_icmp .ge 43, 3) := by decide +kernel
theorem dX7_ring_14 : decode cX7_ring 14 = .ok (.aload_n 0, 1) := by decide +kernel
theorem dX7_ring_15 : decode cX7_ring 15 = .ok (.getfield 25, 3) := by decide +kernel
theorem dX7_ring_18 : decode cX7_ring 18 = .ok (.iload_n 3, 1) := by decide +kernel
theorem dX7_ring_19 : decode cX7_ring 19 = .ok (.iconst 0, 1) := by decide +kernel
theorem dX7_ring_20 : decode cX7_ring 20 = .ok (.invokevirtual 76, 3) := by decide +kernel
theorem dX7_ring_23 : decode cX7_ring 23 = .ok (.iconst (-1), 1) := by decide +kernel
theorem dX7_ring_24 : decode cX7_ring 24 = .ok (.if_icmp .eq 13, 3) := by decide +kernel
theorem dX7_ring_27 : decode cX7_ring 27 = .ok (.aload_n 0, 1) := by decide +kernel
theorem dX7_ring_28 : decode cX7_ring 28 = .ok (.aload_n 1, 1) := by decide +kernel
theorem dX7_ring_29 : decode cX7_ring 29 = .ok (.iload_n 2, 1) := by decide +kernel
theorem dX7_ring_30 : decode cX7_ring 30 = .ok (.iload 4, 2) := by decide +kernel
theorem dX7_ring_32 : decode cX7_ring 32 = .ok (.invokevirtual 79, 3) := by decide +kernel
theorem dX7_ring_35 : decode cX7_ring 35 = .ok (.iconst 0, 1) := by decide +kernel
theorem dX7_ring_36 : decode cX7_ring 36 = .ok (.ireturn, 1) := by decide +kernel
theorem dX7_ring_37 : decode cX7_ring 37 = .ok (.iload_n 3, 1) := by decide +kernel
theorem dX7_ring_38 : decode cX7_ring 38 = .ok (.aload_n 1, 1) := by decide +kernel
theorem dX7_ring_39 : decode cX7_ring 39 = .ok (.iload 4, 2) := by decide +kernel
theorem dX7_ring_41 : decode cX7_ring 41 = .ok (.invokevirtual 83, 3) := by decide +kernel
theorem dX7_ring_44 : decode cX7_ring 44 = .ok (.invokestatic 86, 3) := by decide +kernel
theorem dX7_ring_47 : decode cX7_ring 47 = .ok (.istore_n 3, 1) := by decide +kernel
theorem dX7_ring_48 : decode cX7_ring 48 = .ok (.iinc 4 1, 3) := by decide +kernel
theorem dX7_ring_51 : decode cX7_ring 51 = .ok (.goto (-46), 3) := by decide +kernel
theorem dX7_ring_54 : decode cX7_ring 54 = .ok (.iconst 1, 1) := by decide +kernel
theorem dX7_ring_55 : decode cX7_ring 55 = .ok (.ireturn, 1) := by decide +kernel
set_option maxRecDepth 20000 in
theorem ggX7_unring_X8_forget : GoodIn wsX7_unring wsX8_forget := goodIn_r _ [6, 7, 8, 9, 10, 11, 12, 13, 14, 15, 16, 17, 18, 19, 20, 21, 22, 23, 24, 25, 42, 43, 44, 45] (by decide +kernel) (by decide +kernel)
set_option maxRecDepth 20000 in
theorem gX7_unring_X8_forget : GoodIn wsX7_unring (wsV RX7 89 RX8 yX8_forget wsX8_forget) := goodIn_app (goodIn_of _ (by decide +kernel)) ggX7_unring_X8_forget
set_option maxRecDepth 20000 in
theorem ggX7_unring_X2_changeAt : GoodIn wsX7_unring wsX2_changeAt := goodIn_r _ [30, 31, 32, 24, 33, 46, 47, 48, 49, 50, 51, 52, 53] (by decide +kernel) (by decide +kernel)
set_option maxRecDepth 20000 in
theorem gX7_unring_X2_changeAt : GoodIn wsX7_unring (wsV RX7 83 RX2 yX2_changeAt wsX2_changeAt) := goodIn_app (goodIn_of _ (by decide +kernel)) ggX7_unring_X2_changeAt
set_option maxRecDepth 20000 in
theorem ggX7_unring_X6_changed : GoodIn wsX7_unring wsX6_changed := goodIn_r _ [36] (by decide +kernel) (by decide +kernel)
set_option maxRecDepth 20000 in
theorem gX7_unring_X6_changed : GoodIn wsX7_unring (va_wsS RX7 86 yX6_changed wsX6_changed) := goodIn_app (goodIn_of _ (by decide +kernel)) ggX7_unring_X6_changed
theorem dX7_unring_0 : decode cX7_unring 0 = .ok (.iload_n 2, 1) := by decide +kernel
theorem dX7_unring_1 : decode cX7_unring 1 = .ok (.istore 4, 2) := by decide +kernel
theorem dX7_unring_3 : decode cX7_unring 3 = .ok (.iconst 0, 1) := by decide +kernel
theorem dX7_unring_4 : decode cX7_unring 4 = .ok (.istore 5, 2) := by decide +kernel
theorem dX7_unring_6 : decode cX7_unring 6 = .ok (.iload 5, 2) := by decide +kernel
theorem dX7_unring_8 : decode cX7_unring 8 = .ok (.iload_n 3, 1) := by decide +kernel
theorem dX7_unring_9 : decode cX7_unring 9 = .ok (.if_icmp .ge 31, 3) := by decide +kernel
theorem dX7_unring_12 : decode cX7_unring 12 = .ok (.aload_n 0, 1) := by decide +kernel
theorem dX7_unring_13 : decode cX7_unring 13 = .ok (.getfield 25, 3) := by decide +kernel
theorem dX7_unring_16 : decode cX7_unring 16 = .ok (.iload 4, 2) := by decide +kernel
theorem dX7_unring_18 : decode cX7_unring 18 = .ok (.invokevirtual 89, 3) := by decide +kernel
theorem dX7_unring_21 : decode cX7_unring 21 = .ok (.iload 4, 2) := by decide +kernel
theorem dX7_unring_23 : decode cX7_unring 23 = .ok (.aload_n 1, 1) := by decide +kernel
theorem dX7_unring_24 : decode cX7_unring 24 = .ok (.iload 5, 2) := by decide +kernel
theorem dX7_unring_26 : decode cX7_unring 26 = .ok (.invokevirtual 83, 3) := by decide +kernel
theorem dX7_unring_29 : decode cX7_unring 29 = .ok (.invokestatic 86, 3) := by decide +kernel
theorem dX7_unring_32 : decode cX7_unring 32 = .ok (.istore 4, 2) := by decide +kernel
theorem dX7_unring_34 : decode cX7_unring 34 = .ok (.iinc 5 1, 3) := by decide +kernel
theorem dX7_unring_37 : decode cX7_unring 37 = .ok (.goto (-31), 3) := by decide +kernel
theorem dX7_unring_40 : decode cX7_unring 40 = .ok (.return_, 1) := by decide +kernel
set_option maxRecDepth 20000 in
theorem ggX7_endsHome_X2_following : GoodIn wsX7_endsHome wsX2_following := goodIn_r _ [7, 8, 9, 10, 11, 12, 13, 14, 15, 16, 17, 18, 34, 35, 36, 37, 38, 39, 40, 41] (by decide +kernel) (by decide +kernel)
set_option maxRecDepth 20000 in
theorem gX7_endsHome_X2_following : GoodIn wsX7_endsHome (wsV RX7 69 RX2 yX2_following wsX2_following) := goodIn_app (goodIn_of _ (by decide +kernel)) ggX7_endsHome_X2_following
set_option maxRecDepth 20000 in
theorem ggX7_endsHome_X2_bells : GoodIn wsX7_endsHome wsX2_bells := goodIn_r _ [22, 9, 34, 35, 36, 37, 38, 39, 40, 41] (by decide +kernel) (by decide +kernel)
set_option maxRecDepth 20000 in
theorem gX7_endsHome_X2_bells : GoodIn wsX7_endsHome (wsV RX7 33 RX2 yX2_bells wsX2_bells) := goodIn_app (goodIn_of _ (by decide +kernel)) ggX7_endsHome_X2_bells
set_option maxRecDepth 20000 in
theorem ggX7_endsHome_X6_rounds : GoodIn wsX7_endsHome wsX6_rounds := goodIn_r _ [25] (by decide +kernel) (by decide +kernel)
set_option maxRecDepth 20000 in
theorem gX7_endsHome_X6_rounds : GoodIn wsX7_endsHome (va_wsS RX7 45 yX6_rounds wsX6_rounds) := goodIn_app (goodIn_of _ (by decide +kernel)) ggX7_endsHome_X6_rounds
set_option maxRecDepth 20000 in
theorem ggX7_endsHome_X11_setCell : GoodIn wsX7_endsHome wsX11_setCell := goodIn_r _ [28] (by decide +kernel) (by decide +kernel)
set_option maxRecDepth 20000 in
theorem gX7_endsHome_X11_setCell_n58 : GoodIn wsX7_endsHome (wsX11_setCell) := ggX7_endsHome_X11_setCell
theorem dX7_endsHome_0 : decode cX7_endsHome 0 = .ok (.iconst 0, 1) := by decide +kernel
theorem dX7_endsHome_1 : decode cX7_endsHome 1 = .ok (.istore_n 3, 1) := by decide +kernel
theorem dX7_endsHome_2 : decode cX7_endsHome 2 = .ok (.iload_n 3, 1) := by decide +kernel
theorem dX7_endsHome_3 : decode cX7_endsHome 3 = .ok (.iconst 3, 1) := by decide +kernel
theorem dX7_endsHome_4 : decode cX7_endsHome 4 = .ok (.if_icmp .ge 39, 3) := by decide +kernel
theorem dX7_endsHome_7 : decode cX7_endsHome 7 = .ok (.aload_n 1, 1) := by decide +kernel
theorem dX7_endsHome_8 : decode cX7_endsHome 8 = .ok (.iload_n 2, 1) := by decide +kernel
theorem dX7_endsHome_9 : decode cX7_endsHome 9 = .ok (.iload_n 3, 1) := by decide +kernel
theorem dX7_endsHome_10 : decode cX7_endsHome 10 = .ok (.invokevirtual 69, 3) := by decide +kernel
theorem dX7_endsHome_13 : decode cX7_endsHome 13 = .ok (.aload_n 1, 1) := by decide +kernel
theorem dX7_endsHome_14 : decode cX7_endsHome 14 = .ok (.invokevirtual 33, 3) := by decide +kernel
theorem dX7_endsHome_17 : decode cX7_endsHome 17 = .ok (.invokestatic 45, 3) := by decide +kernel
theorem dX7_endsHome_20 : decode cX7_endsHome 20 = .ok (.if_icmp .ne 17, 3) := by decide +kernel
theorem dX7_endsHome_23 : decode cX7_endsHome 23 = .ok (.aload_n 0, 1) := by decide +kernel
theorem dX7_endsHome_24 : decode cX7_endsHome 24 = .ok (.getfield 15, 3) := by decide +kernel
theorem dX7_endsHome_27 : decode cX7_endsHome 27 = .ok (.aload_n 0, 1) := by decide +kernel
theorem dX7_endsHome_28 : decode cX7_endsHome 28 = .ok (.getfield 18, 3) := by decide +kernel
theorem dX7_endsHome_31 : decode cX7_endsHome 31 = .ok (.iload_n 3, 1) := by decide +kernel
theorem dX7_endsHome_32 : decode cX7_endsHome 32 = .ok (.invokestatic 58, 3) := by decide +kernel
theorem dX7_endsHome_35 : decode cX7_endsHome 35 = .ok (.iconst 1, 1) := by decide +kernel
theorem dX7_endsHome_36 : decode cX7_endsHome 36 = .ok (.ireturn, 1) := by decide +kernel
theorem dX7_endsHome_37 : decode cX7_endsHome 37 = .ok (.iinc 3 1, 3) := by decide +kernel
theorem dX7_endsHome_40 : decode cX7_endsHome 40 = .ok (.goto (-38), 3) := by decide +kernel
theorem dX7_endsHome_43 : decode cX7_endsHome 43 = .ok (.iconst 0, 1) := by decide +kernel
theorem dX7_endsHome_44 : decode cX7_endsHome 44 = .ok (.ireturn, 1) := by decide +kernel
set_option maxRecDepth 20000 in
theorem ggX7_turnBack_X7_callOf : GoodIn wsX7_turnBack wsX7_callOf := goodIn_r _ [8, 2, 9, 10, 11, 54, 55, 56, 57, 58] (by decide +kernel) (by decide +kernel)
set_option maxRecDepth 20000 in
theorem gX7_turnBack_X7_callOf : GoodIn wsX7_turnBack (wsV RX7 66 RX7 yX7_callOf wsX7_callOf) := goodIn_app (goodIn_of _ (by decide +kernel)) ggX7_turnBack_X7_callOf
set_option maxRecDepth 20000 in
theorem ggX7_turnBack_X11_setCell : GoodIn wsX7_turnBack wsX11_setCell := goodIn_r _ [13] (by decide +kernel) (by decide +kernel)
set_option maxRecDepth 20000 in
theorem gX7_turnBack_X11_setCell_n58 : GoodIn wsX7_turnBack (wsX11_setCell) := ggX7_turnBack_X11_setCell
set_option maxRecDepth 20000 in
theorem ggX7_turnBack_X11_cell : GoodIn wsX7_turnBack wsX11_cell := goodIn_r _ [11] (by decide +kernel) (by decide +kernel)
set_option maxRecDepth 20000 in
theorem gX7_turnBack_X11_cell_n29 : GoodIn wsX7_turnBack (wsX11_cell) := ggX7_turnBack_X11_cell
set_option maxRecDepth 20000 in
theorem ggX7_turnBack_X2_size : GoodIn wsX7_turnBack wsX2_size := goodIn_r _ [18, 19, 59, 60, 61, 62, 63, 64, 65, 66] (by decide +kernel) (by decide +kernel)
set_option maxRecDepth 20000 in
theorem gX7_turnBack_X2_size : GoodIn wsX7_turnBack (wsV RX7 73 RX2 yX2_size wsX2_size) := goodIn_app (goodIn_of _ (by decide +kernel)) ggX7_turnBack_X2_size
set_option maxRecDepth 20000 in
theorem ggX7_turnBack_X7_unring : GoodIn wsX7_turnBack wsX7_unring := goodIn_r _ [23, 24, 25, 26, 27, 28, 29, 30, 31, 32, 33, 34, 35, 36, 37, 38, 39, 40, 41, 42, 43, 44, 45, 12, 10, 13, 46, 47, 48, 17, 49, 50, 9, 11, 51, 52, 53, 54, 55, 56, 57, 58, 67, 68, 69, 70, 59, 60, 61, 62, 63, 64, 65, 66] (by decide +kernel) (by decide +kernel)
set_option maxRecDepth 20000 in
theorem gX7_turnBack_X7_unring : GoodIn wsX7_turnBack (wsV RX7 79 RX7 yX7_unring wsX7_unring) := goodIn_app (goodIn_of _ (by decide +kernel)) ggX7_turnBack_X7_unring
theorem dX7_turnBack_0 : decode cX7_turnBack 0 = .ok (.aload_n 0, 1) := by decide +kernel
theorem dX7_turnBack_1 : decode cX7_turnBack 1 = .ok (.getfield 18, 3) := by decide +kernel
theorem dX7_turnBack_4 : decode cX7_turnBack 4 = .ok (.ifCond .le 61, 3) := by decide +kernel
theorem dX7_turnBack_7 : decode cX7_turnBack 7 = .ok (.aload_n 0, 1) := by decide +kernel
theorem dX7_turnBack_8 : decode cX7_turnBack 8 = .ok (.getfield 18, 3) := by decide +kernel
theorem dX7_turnBack_11 : decode cX7_turnBack 11 = .ok (.iconst 1, 1) := by decide +kernel
theorem dX7_turnBack_12 : decode cX7_turnBack 12 = .ok (.isub, 1) := by decide +kernel
theorem dX7_turnBack_13 : decode cX7_turnBack 13 = .ok (.istore_n 2, 1) := by decide +kernel
theorem dX7_turnBack_14 : decode cX7_turnBack 14 = .ok (.aload_n 0, 1) := by decide +kernel
theorem dX7_turnBack_15 : decode cX7_turnBack 15 = .ok (.iload_n 2, 1) := by decide +kernel
theorem dX7_turnBack_16 : decode cX7_turnBack 16 = .ok (.invokevirtual 66, 3) := by decide +kernel
theorem dX7_turnBack_19 : decode cX7_turnBack 19 = .ok (.iconst 2, 1) := by decide +kernel
theorem dX7_turnBack_20 : decode cX7_turnBack 20 = .ok (.if_icmp .ge 20, 3) := by decide +kernel
theorem dX7_turnBack_23 : decode cX7_turnBack 23 = .ok (.aload_n 0, 1) := by decide +kernel
theorem dX7_turnBack_24 : decode cX7_turnBack 24 = .ok (.getfield 15, 3) := by decide +kernel
theorem dX7_turnBack_27 : decode cX7_turnBack 27 = .ok (.iload_n 2, 1) := by decide +kernel
theorem dX7_turnBack_28 : decode cX7_turnBack 28 = .ok (.aload_n 0, 1) := by decide +kernel
theorem dX7_turnBack_29 : decode cX7_turnBack 29 = .ok (.iload_n 2, 1) := by decide +kernel
theorem dX7_turnBack_30 : decode cX7_turnBack 30 = .ok (.invokevirtual 66, 3) := by decide +kernel
theorem dX7_turnBack_33 : decode cX7_turnBack 33 = .ok (.iconst 1, 1) := by decide +kernel
theorem dX7_turnBack_34 : decode cX7_turnBack 34 = .ok (.iadd, 1) := by decide +kernel
theorem dX7_turnBack_35 : decode cX7_turnBack 35 = .ok (.invokestatic 58, 3) := by decide +kernel
theorem dX7_turnBack_38 : decode cX7_turnBack 38 = .ok (.iconst 1, 1) := by decide +kernel
theorem dX7_turnBack_39 : decode cX7_turnBack 39 = .ok (.ireturn, 1) := by decide +kernel
theorem dX7_turnBack_40 : decode cX7_turnBack 40 = .ok (.aload_n 0, 1) := by decide +kernel
theorem dX7_turnBack_41 : decode cX7_turnBack 41 = .ok (.aload_n 1, 1) := by decide +kernel
theorem dX7_turnBack_42 : decode cX7_turnBack 42 = .ok (.aload_n 0, 1) := by decide +kernel
theorem dX7_turnBack_43 : decode cX7_turnBack 43 = .ok (.getfield 9, 3) := by decide +kernel
theorem dX7_turnBack_46 : decode cX7_turnBack 46 = .ok (.iload_n 2, 1) := by decide +kernel
theorem dX7_turnBack_47 : decode cX7_turnBack 47 = .ok (.invokestatic 29, 3) := by decide +kernel
theorem dX7_turnBack_50 : decode cX7_turnBack 50 = .ok (.aload_n 1, 1) := by decide +kernel
theorem dX7_turnBack_51 : decode cX7_turnBack 51 = .ok (.invokevirtual 73, 3) := by decide +kernel
theorem dX7_turnBack_54 : decode cX7_turnBack 54 = .ok (.invokevirtual 79, 3) := by decide +kernel
theorem dX7_turnBack_57 : decode cX7_turnBack 57 = .ok (.aload_n 0, 1) := by decide +kernel
theorem dX7_turnBack_58 : decode cX7_turnBack 58 = .ok (.iload_n 2, 1) := by decide +kernel
theorem dX7_turnBack_59 : decode cX7_turnBack 59 = .ok (.putfield 18, 3) := by decide +kernel
theorem dX7_turnBack_62 : decode cX7_turnBack 62 = .ok (.goto (-62), 3) := by decide +kernel
theorem dX7_turnBack_65 : decode cX7_turnBack 65 = .ok (.iconst 0, 1) := by decide +kernel
theorem dX7_turnBack_66 : decode cX7_turnBack 66 = .ok (.ireturn, 1) := by decide +kernel
theorem dX8_init_0 : decode cX8_init 0 = .ok (.aload_n 0, 1) := by decide +kernel
theorem dX8_init_1 : decode cX8_init 1 = .ok (.invokespecial 3, 3) := by decide +kernel
theorem dX8_init_4 : decode cX8_init 4 = .ok (.aload_n 0, 1) := by decide +kernel
theorem dX8_init_5 : decode cX8_init 5 = .ok (.ldc 9, 2) := by decide +kernel
theorem dX8_init_7 : decode cX8_init 7 = .ok (.newarray .int, 2) := by decide +kernel
theorem dX8_init_9 : decode cX8_init 9 = .ok (.putfield 10, 3) := by decide +kernel
theorem dX8_init_12 : decode cX8_init 12 = .ok (.aload_n 0, 1) := by decide +kernel
theorem dX8_init_13 : decode cX8_init 13 = .ok (.iconst 0, 1) := by decide +kernel
theorem dX8_init_14 : decode cX8_init 14 = .ok (.putfield 16, 3) := by decide +kernel
theorem dX8_init_17 : decode cX8_init 17 = .ok (.aload_n 0, 1) := by decide +kernel
theorem dX8_init_18 : decode cX8_init 18 = .ok (.iconst 0, 1) := by decide +kernel
theorem dX8_init_19 : decode cX8_init 19 = .ok (.putfield 20, 3) := by decide +kernel
theorem dX8_init_22 : decode cX8_init 22 = .ok (.aload_n 0, 1) := by decide +kernel
theorem dX8_init_23 : decode cX8_init 23 = .ok (.iconst 0, 1) := by decide +kernel
theorem dX8_init_24 : decode cX8_init 24 = .ok (.putfield 23, 3) := by decide +kernel
theorem dX8_init_27 : decode cX8_init 27 = .ok (.return_, 1) := by decide +kernel
theorem dX8_begin_0 : decode cX8_begin 0 = .ok (.aload_n 0, 1) := by decide +kernel
theorem dX8_begin_1 : decode cX8_begin 1 = .ok (.iload_n 1, 1) := by decide +kernel
theorem dX8_begin_2 : decode cX8_begin 2 = .ok (.putfield 16, 3) := by decide +kernel
theorem dX8_begin_5 : decode cX8_begin 5 = .ok (.aload_n 0, 1) := by decide +kernel
theorem dX8_begin_6 : decode cX8_begin 6 = .ok (.aload_n 0, 1) := by decide +kernel
theorem dX8_begin_7 : decode cX8_begin 7 = .ok (.getfield 23, 3) := by decide +kernel
theorem dX8_begin_10 : decode cX8_begin 10 = .ok (.putfield 20, 3) := by decide +kernel
theorem dX8_begin_13 : decode cX8_begin 13 = .ok (.return_, 1) := by decide +kernel
set_option maxRecDepth 20000 in
theorem ggX8_note_X6_rank : GoodIn wsX8_note wsX6_rank := goodIn_r _ [12, 13, 14, 11, 15, 16, 17, 18, 19, 20, 21, 22] (by decide +kernel) (by decide +kernel)
set_option maxRecDepth 20000 in
theorem gX8_note_X6_rank : GoodIn wsX8_note (va_wsS RX8 26 yX6_rank wsX6_rank) := goodIn_app (goodIn_of _ (by decide +kernel)) ggX8_note_X6_rank
set_option maxRecDepth 20000 in
theorem ggX8_note_X11_cell : GoodIn wsX8_note wsX11_cell := goodIn_r _ [25] (by decide +kernel) (by decide +kernel)
set_option maxRecDepth 20000 in
theorem gX8_note_X11_cell_n32 : GoodIn wsX8_note (wsX11_cell) := ggX8_note_X11_cell
set_option maxRecDepth 20000 in
theorem ggX8_note_X11_setCell : GoodIn wsX8_note wsX11_setCell := goodIn_r _ [27] (by decide +kernel) (by decide +kernel)
set_option maxRecDepth 20000 in
theorem gX8_note_X11_setCell_n36 : GoodIn wsX8_note (wsX11_setCell) := ggX8_note_X11_setCell
theorem dX8_note_0 : decode cX8_note 0 = .ok (.iload_n 1, 1) := by decide +kernel
theorem dX8_note_1 : decode cX8_note 1 = .ok (.aload_n 0, 1) := by decide +kernel
theorem dX8_note_2 : decode cX8_note 2 = .ok (.getfield 16, 3) := by decide +kernel
theorem dX8_note_5 : decode cX8_note 5 = .ok (.invokestatic 26, 3) := by decide +kernel
theorem dX8_note_8 : decode cX8_note 8 = .ok (.istore_n 3, 1) := by decide +kernel
theorem dX8_note_9 : decode cX8_note 9 = .ok (.aload_n 0, 1) := by decide +kernel
theorem dX8_note_10 : decode cX8_note 10 = .ok (.getfield 10, 3) := by decide +kernel
theorem dX8_note_13 : decode cX8_note 13 = .ok (.iload_n 3, 1) := by decide +kernel
theorem dX8_note_14 : decode cX8_note 14 = .ok (.invokestatic 32, 3) := by decide +kernel
theorem dX8_note_17 : decode cX8_note 17 = .ok (.istore 4, 2) := by decide +kernel
theorem dX8_note_19 : decode cX8_note 19 = .ok (.iload 4, 2) := by decide +kernel
theorem dX8_note_21 : decode cX8_note 21 = .ok (.aload_n 0, 1) := by decide +kernel
theorem dX8_note_22 : decode cX8_note 22 = .ok (.getfield 20, 3) := by decide +kernel
theorem dX8_note_25 : decode cX8_note 25 = .ok (.if_icmp .le 13, 3) := by decide +kernel
theorem dX8_note_28 : decode cX8_note 28 = .ok (.iload 4, 2) := by decide +kernel
theorem dX8_note_30 : decode cX8_note 30 = .ok (.aload_n 0, 1) := by decide +kernel
theorem dX8_note_31 : decode cX8_note 31 = .ok (.getfield 20, 3) := by decide +kernel
theorem dX8_note_34 : decode cX8_note 34 = .ok (.isub, 1) := by decide +kernel
theorem dX8_note_35 : decode cX8_note 35 = .ok (.iconst 1, 1) := by decide +kernel
theorem dX8_note_36 : decode cX8_note 36 = .ok (.isub, 1) := by decide +kernel
theorem dX8_note_37 : decode cX8_note 37 = .ok (.ireturn, 1) := by decide +kernel
theorem dX8_note_38 : decode cX8_note 38 = .ok (.aload_n 0, 1) := by decide +kernel
theorem dX8_note_39 : decode cX8_note 39 = .ok (.getfield 20, 3) := by decide +kernel
theorem dX8_note_42 : decode cX8_note 42 = .ok (.iload_n 2, 1) := by decide +kernel
theorem dX8_note_43 : decode cX8_note 43 = .ok (.iadd, 1) := by decide +kernel
theorem dX8_note_44 : decode cX8_note 44 = .ok (.iconst 1, 1) := by decide +kernel
theorem dX8_note_45 : decode cX8_note 45 = .ok (.iadd, 1) := by decide +kernel
theorem dX8_note_46 : decode cX8_note 46 = .ok (.istore 4, 2) := by decide +kernel
theorem dX8_note_48 : decode cX8_note 48 = .ok (.aload_n 0, 1) := by decide +kernel
theorem dX8_note_49 : decode cX8_note 49 = .ok (.getfield 10, 3) := by decide +kernel
theorem dX8_note_52 : decode cX8_note 52 = .ok (.iload_n 3, 1) := by decide +kernel
theorem dX8_note_53 : decode cX8_note 53 = .ok (.iload 4, 2) := by decide +kernel
theorem dX8_note_55 : decode cX8_note 55 = .ok (.invokestatic 36, 3) := by decide +kernel
theorem dX8_note_58 : decode cX8_note 58 = .ok (.aload_n 0, 1) := by decide +kernel
theorem dX8_note_59 : decode cX8_note 59 = .ok (.aload_n 0, 1) := by decide +kernel
theorem dX8_note_60 : decode cX8_note 60 = .ok (.getfield 23, 3) := by decide +kernel
theorem dX8_note_63 : decode cX8_note 63 = .ok (.iload 4, 2) := by decide +kernel
theorem dX8_note_65 : decode cX8_note 65 = .ok (.invokestatic 40, 3) := by decide +kernel
theorem dX8_note_68 : decode cX8_note 68 = .ok (.putfield 23, 3) := by decide +kernel
theorem dX8_note_71 : decode cX8_note 71 = .ok (.iconst (-1), 1) := by decide +kernel
theorem dX8_note_72 : decode cX8_note 72 = .ok (.ireturn, 1) := by decide +kernel
set_option maxRecDepth 20000 in
theorem ggX8_forget_X6_rank : GoodIn wsX8_forget wsX6_rank := goodIn_r _ [6, 7, 8, 5, 9, 10, 11, 12, 13, 14, 15, 16] (by decide +kernel) (by decide +kernel)
set_option maxRecDepth 20000 in
theorem gX8_forget_X6_rank : GoodIn wsX8_forget (va_wsS RX8 26 yX6_rank wsX6_rank) := goodIn_app (goodIn_of _ (by decide +kernel)) ggX8_forget_X6_rank
set_option maxRecDepth 20000 in
theorem ggX8_forget_X11_setCell : GoodIn wsX8_forget wsX11_setCell := goodIn_r _ [19] (by decide +kernel) (by decide +kernel)
set_option maxRecDepth 20000 in
theorem gX8_forget_X11_setCell_n36 : GoodIn wsX8_forget (wsX11_setCell) := ggX8_forget_X11_setCell
theorem dX8_forget_0 : decode cX8_forget 0 = .ok (.aload_n 0, 1) := by decide +kernel
theorem dX8_forget_1 : decode cX8_forget 1 = .ok (.getfield 10, 3) := by decide +kernel
theorem dX8_forget_4 : decode cX8_forget 4 = .ok (.iload_n 1, 1) := by decide +kernel
theorem dX8_forget_5 : decode cX8_forget 5 = .ok (.aload_n 0, 1) := by decide +kernel
theorem dX8_forget_6 : decode cX8_forget 6 = .ok (.getfield 16, 3) := by decide +kernel
theorem dX8_forget_9 : decode cX8_forget 9 = .ok (.invokestatic 26, 3) := by decide +kernel
theorem dX8_forget_12 : decode cX8_forget 12 = .ok (.iconst 0, 1) := by decide +kernel
theorem dX8_forget_13 : decode cX8_forget 13 = .ok (.invokestatic 36, 3) := by decide +kernel
theorem dX8_forget_16 : decode cX8_forget 16 = .ok (.return_, 1) := by decide +kernel
set_option maxRecDepth 20000 in
theorem ggX8_risingRow_X6_many : GoodIn wsX8_risingRow wsX6_many := goodIn_r _ [7] (by decide +kernel) (by decide +kernel)
set_option maxRecDepth 20000 in
theorem gX8_risingRow_X6_many : GoodIn wsX8_risingRow (va_wsS RX8 45 yX6_many wsX6_many) := goodIn_app (goodIn_of _ (by decide +kernel)) ggX8_risingRow_X6_many
set_option maxRecDepth 20000 in
theorem ggX8_risingRow_X11_cell : GoodIn wsX8_risingRow wsX11_cell := goodIn_r _ [10] (by decide +kernel) (by decide +kernel)
set_option maxRecDepth 20000 in
theorem gX8_risingRow_X11_cell_n32 : GoodIn wsX8_risingRow (wsX11_cell) := ggX8_risingRow_X11_cell
set_option maxRecDepth 20000 in
theorem ggX8_risingRow_X6_ofRank : GoodIn wsX8_risingRow wsX6_ofRank := goodIn_r _ [13, 14, 5, 6, 7, 15, 16, 17] (by decide +kernel) (by decide +kernel)
set_option maxRecDepth 20000 in
theorem gX8_risingRow_X6_ofRank : GoodIn wsX8_risingRow (va_wsS RX8 49 yX6_ofRank wsX6_ofRank) := goodIn_app (goodIn_of _ (by decide +kernel)) ggX8_risingRow_X6_ofRank
theorem dX8_risingRow_0 : decode cX8_risingRow 0 = .ok (.iload_n 1, 1) := by decide +kernel
theorem dX8_risingRow_1 : decode cX8_risingRow 1 = .ok (.istore_n 2, 1) := by decide +kernel
theorem dX8_risingRow_2 : decode cX8_risingRow 2 = .ok (.aload_n 0, 1) := by decide +kernel
theorem dX8_risingRow_3 : decode cX8_risingRow 3 = .ok (.getfield 16, 3) := by decide +kernel
theorem dX8_risingRow_6 : decode cX8_risingRow 6 = .ok (.invokestatic 45, 3) := by decide +kernel
theorem dX8_risingRow_9 : decode cX8_risingRow 9 = .ok (.istore_n 3, 1) := by decide +kernel
theorem dX8_risingRow_10 : decode cX8_risingRow 10 = .ok (.iconst 0, 1) := by decide +kernel
theorem dX8_risingRow_11 : decode cX8_risingRow 11 = .ok (.istore 4, 2) := by decide +kernel
theorem dX8_risingRow_13 : decode cX8_risingRow 13 = .ok (.iload 4, 2) := by decide +kernel
theorem dX8_risingRow_15 : decode cX8_risingRow 15 = .ok (.iload_n 3, 1) := by decide +kernel
theorem dX8_risingRow_16 : decode cX8_risingRow 16 = .ok (.if_icmp .ge 46, 3) := by decide +kernel
theorem dX8_risingRow_19 : decode cX8_risingRow 19 = .ok (.iload_n 2, 1) := by decide +kernel
theorem dX8_risingRow_20 : decode cX8_risingRow 20 = .ok (.ifCond .lt 42, 3) := by decide +kernel
theorem dX8_risingRow_23 : decode cX8_risingRow 23 = .ok (.aload_n 0, 1) := by decide +kernel
theorem dX8_risingRow_24 : decode cX8_risingRow 24 = .ok (.getfield 10, 3) := by decide +kernel
theorem dX8_risingRow_27 : decode cX8_risingRow 27 = .ok (.iload 4, 2) := by decide +kernel
theorem dX8_risingRow_29 : decode cX8_risingRow 29 = .ok (.invokestatic 32, 3) := by decide +kernel
theorem dX8_risingRow_32 : decode cX8_risingRow 32 = .ok (.aload_n 0, 1) := by decide +kernel
theorem dX8_risingRow_33 : decode cX8_risingRow 33 = .ok (.getfield 20, 3) := by decide +kernel
theorem dX8_risingRow_36 : decode cX8_risingRow 36 = .ok (.if_icmp .le 20, 3) := by decide +kernel
theorem dX8_risingRow_39 : decode cX8_risingRow 39 = .ok (.iload_n 2, 1) := by decide +kernel
theorem dX8_risingRow_40 : decode cX8_risingRow 40 = .ok (.ifCond .ne 13, 3) := by decide +kernel
theorem dX8_risingRow_43 : decode cX8_risingRow 43 = .ok (.iload 4, 2) := by decide +kernel
theorem dX8_risingRow_45 : decode cX8_risingRow 45 = .ok (.aload_n 0, 1) := by decide +kernel
theorem dX8_risingRow_46 : decode cX8_risingRow 46 = .ok (.getfield 16, 3) := by decide +kernel
theorem dX8_risingRow_49 : decode cX8_risingRow 49 = .ok (.invokestatic 49, 3) := by decide +kernel
theorem dX8_risingRow_52 : decode cX8_risingRow 52 = .ok (.ireturn, 1) := by decide +kernel
theorem dX8_risingRow_53 : decode cX8_risingRow 53 = .ok (.iinc 2 (-1), 3) := by decide +kernel
theorem dX8_risingRow_56 : decode cX8_risingRow 56 = .ok (.iinc 4 1, 3) := by decide +kernel
theorem dX8_risingRow_59 : decode cX8_risingRow 59 = .ok (.goto (-46), 3) := by decide +kernel
theorem dX8_risingRow_62 : decode cX8_risingRow 62 = .ok (.iconst (-1), 1) := by decide +kernel
theorem dX8_risingRow_63 : decode cX8_risingRow 63 = .ok (.ireturn, 1) := by decide +kernel
theorem dX9_init_0 : decode cX9_init 0 = .ok (.aload_n 0, 1) := by decide +kernel
theorem dX9_init_1 : decode cX9_init 1 = .ok (.invokespecial 3, 3) := by decide +kernel
theorem dX9_init_4 : decode cX9_init 4 = .ok (.aload_n 0, 1) := by decide +kernel
theorem dX9_init_5 : decode cX9_init 5 = .ok (.sipush 500, 3) := by decide +kernel
theorem dX9_init_8 : decode cX9_init 8 = .ok (.newarray .byte, 2) := by decide +kernel
theorem dX9_init_10 : decode cX9_init 10 = .ok (.putfield 9, 3) := by decide +kernel
theorem dX9_init_13 : decode cX9_init 13 = .ok (.aload_n 0, 1) := by decide +kernel
theorem dX9_init_14 : decode cX9_init 14 = .ok (.iconst 0, 1) := by decide +kernel
theorem dX9_init_15 : decode cX9_init 15 = .ok (.putfield 15, 3) := by decide +kernel
theorem dX9_init_18 : decode cX9_init 18 = .ok (.return_, 1) := by decide +kernel
theorem dX9_size_0 : decode cX9_size 0 = .ok (.aload_n 0, 1) := by decide +kernel
theorem dX9_size_1 : decode cX9_size 1 = .ok (.getfield 15, 3) := by decide +kernel
theorem dX9_size_4 : decode cX9_size 4 = .ok (.ireturn, 1) := by decide +kernel
theorem dX9_signAt_0 : decode cX9_signAt 0 = .ok (.iload_n 1, 1) := by decide +kernel
theorem dX9_signAt_1 : decode cX9_signAt 1 = .ok (.ifCond .lt 33, 3) := by decide +kernel
theorem dX9_signAt_4 : decode cX9_signAt 4 = .ok (.iload_n 1, 1) := by decide +kernel
theorem dX9_signAt_5 : decode cX9_signAt 5 = .ok (.aload_n 0, 1) := by decide +kernel
theorem dX9_signAt_6 : decode cX9_signAt 6 = .ok (.getfield 15, 3) := by decide +kernel
theorem dX9_signAt_9 : decode cX9_signAt 9 = .ok (.if_icmp .ge 25, 3) := by decide +kernel
theorem dX9_signAt_12 : decode cX9_signAt 12 = .ok (.iload_n 1, 1) := by decide +kernel
theorem dX9_signAt_13 : decode cX9_signAt 13 = .ok (.aload_n 0, 1) := by decide +kernel
theorem dX9_signAt_14 : decode cX9_signAt 14 = .ok (.getfield 9, 3) := by decide +kernel
theorem dX9_signAt_17 : decode cX9_signAt 17 = .ok (.arraylength, 1) := by decide +kernel
theorem dX9_signAt_18 : decode cX9_signAt 18 = .ok (.if_icmp .ge 16, 3) := by decide +kernel
theorem dX9_signAt_21 : decode cX9_signAt 21 = .ok (.aload_n 0, 1) := by decide +kernel
theorem dX9_signAt_22 : decode cX9_signAt 22 = .ok (.getfield 9, 3) := by decide +kernel
theorem dX9_signAt_25 : decode cX9_signAt 25 = .ok (.iload_n 1, 1) := by decide +kernel
theorem dX9_signAt_26 : decode cX9_signAt 26 = .ok (.baload, 1) := by decide +kernel
theorem dX9_signAt_27 : decode cX9_signAt 27 = .ok (.sipush 255, 3) := by decide +kernel
theorem dX9_signAt_30 : decode cX9_signAt 30 = .ok (.iand, 1) := by decide +kernel
theorem dX9_signAt_31 : decode cX9_signAt 31 = .ok (.goto 4, 3) := by decide +kernel
theorem dX9_signAt_34 : decode cX9_signAt 34 = .ok (.iconst (-1), 1) := by decide +kernel
theorem dX9_signAt_35 : decode cX9_signAt 35 = .ok (.ireturn, 1) := by decide +kernel
theorem dX9_addNumber_0 : decode cX9_addNumber 0 = .ok (.bipush 24, 2) := by decide +kernel
theorem dX9_addNumber_2 : decode cX9_addNumber 2 = .ok (.istore_n 2, 1) := by decide +kernel
theorem dX9_addNumber_3 : decode cX9_addNumber 3 = .ok (.iload_n 2, 1) := by decide +kernel
theorem dX9_addNumber_4 : decode cX9_addNumber 4 = .ok (.ifCond .lt 51, 3) := by decide +kernel
theorem dX9_addNumber_7 : decode cX9_addNumber 7 = .ok (.aload_n 0, 1) := by decide +kernel
theorem dX9_addNumber_8 : decode cX9_addNumber 8 = .ok (.getfield 15, 3) := by decide +kernel
theorem dX9_addNumber_11 : decode cX9_addNumber 11 = .ok (.ifCond .lt 38, 3) := by decide +kernel
theorem dX9_addNumber_14 : decode cX9_addNumber 14 = .ok (.aload_n 0, 1) := by decide +kernel
theorem dX9_addNumber_15 : decode cX9_addNumber 15 = .ok (.getfield 15, 3) := by decide +kernel
theorem dX9_addNumber_18 : decode cX9_addNumber 18 = .ok (.aload_n 0, 1) := by decide +kernel
theorem dX9_addNumber_19 : decode cX9_addNumber 19 = .ok (.getfield 9, 3) := by decide +kernel
theorem dX9_addNumber_22 : decode cX9_addNumber 22 = .ok (.arraylength, 1) := by decide +kernel
theorem dX9_addNumber_23 : decode cX9_addNumber 23 = .ok (.if_icmp .ge 26, 3) := by decide +kernel
theorem dX9_addNumber_26 : decode cX9_addNumber 26 = .ok (.aload_n 0, 1) := by decide +kernel
theorem dX9_addNumber_27 : decode cX9_addNumber 27 = .ok (.getfield 9, 3) := by decide +kernel
theorem dX9_addNumber_30 : decode cX9_addNumber 30 = .ok (.aload_n 0, 1) := by decide +kernel
theorem dX9_addNumber_31 : decode cX9_addNumber 31 = .ok (.getfield 15, 3) := by decide +kernel
theorem dX9_addNumber_34 : decode cX9_addNumber 34 = .ok (.iload_n 1, 1) := by decide +kernel
theorem dX9_addNumber_35 : decode cX9_addNumber 35 = .ok (.iload_n 2, 1) := by decide +kernel
theorem dX9_addNumber_36 : decode cX9_addNumber 36 = .ok (.iushr, 1) := by decide +kernel
theorem dX9_addNumber_37 : decode cX9_addNumber 37 = .ok (.i2b, 1) := by decide +kernel
theorem dX9_addNumber_38 : decode cX9_addNumber 38 = .ok (.bastore, 1) := by decide +kernel
theorem dX9_addNumber_39 : decode cX9_addNumber 39 = .ok (.aload_n 0, 1) := by decide +kernel
theorem dX9_addNumber_40 : decode cX9_addNumber 40 = .ok (.dup, 1) := by decide +kernel
theorem dX9_addNumber_41 : decode cX9_addNumber 41 = .ok (.getfield 15, 3) := by decide +kernel
theorem dX9_addNumber_44 : decode cX9_addNumber 44 = .ok (.iconst 1, 1) := by decide +kernel
theorem dX9_addNumber_45 : decode cX9_addNumber 45 = .ok (.iadd, 1) := by decide +kernel
theorem dX9_addNumber_46 : decode cX9_addNumber 46 = .ok (.putfield 15, 3) := by decide +kernel
theorem dX9_addNumber_49 : decode cX9_addNumber 49 = .ok (.iinc 2 (-8), 3) := by decide +kernel
theorem dX9_addNumber_52 : decode cX9_addNumber 52 = .ok (.goto (-49), 3) := by decide +kernel
theorem dX9_addNumber_55 : decode cX9_addNumber 55 = .ok (.return_, 1) := by decide +kernel
theorem dX9_cut_0 : decode cX9_cut 0 = .ok (.aload_n 0, 1) := by decide +kernel
theorem dX9_cut_1 : decode cX9_cut 1 = .ok (.iload_n 1, 1) := by decide +kernel
theorem dX9_cut_2 : decode cX9_cut 2 = .ok (.putfield 15, 3) := by decide +kernel
theorem dX9_cut_5 : decode cX9_cut 5 = .ok (.return_, 1) := by decide +kernel
theorem dX10_init_0 : decode cX10_init 0 = .ok (.aload_n 0, 1) := by decide +kernel
theorem dX10_init_1 : decode cX10_init 1 = .ok (.invokespecial 3, 3) := by decide +kernel
theorem dX10_init_4 : decode cX10_init 4 = .ok (.aload_n 0, 1) := by decide +kernel
theorem dX10_init_5 : decode cX10_init 5 = .ok (.iconst 0, 1) := by decide +kernel
theorem dX10_init_6 : decode cX10_init 6 = .ok (.putfield 9, 3) := by decide +kernel
theorem dX10_init_9 : decode cX10_init 9 = .ok (.aload_n 0, 1) := by decide +kernel
theorem dX10_init_10 : decode cX10_init 10 = .ok (.iconst 0, 1) := by decide +kernel
theorem dX10_init_11 : decode cX10_init 11 = .ok (.putfield 15, 3) := by decide +kernel
theorem dX10_init_14 : decode cX10_init 14 = .ok (.aload_n 0, 1) := by decide +kernel
theorem dX10_init_15 : decode cX10_init 15 = .ok (.iconst (-1), 1) := by decide +kernel
theorem dX10_init_16 : decode cX10_init 16 = .ok (.putfield 18, 3) := by decide +kernel
theorem dX10_init_19 : decode cX10_init 19 = .ok (.return_, 1) := by decide +kernel
set_option maxRecDepth 20000 in
theorem ggX10_readThrough_X9_size : GoodIn wsX10_readThrough wsX9_size := goodIn_r _ [8, 9, 241, 242] (by decide +kernel) (by decide +kernel)
set_option maxRecDepth 20000 in
theorem gX10_readThrough_X9_size : GoodIn wsX10_readThrough (wsV RX10 21 RX9 yX9_size wsX9_size) := goodIn_app (goodIn_of _ (by decide +kernel)) ggX10_readThrough_X9_size
set_option maxRecDepth 20000 in
theorem ggX10_readThrough_X9_signAt : GoodIn wsX10_readThrough wsX9_signAt := goodIn_r _ [13, 9, 14, 241, 242] (by decide +kernel) (by decide +kernel)
set_option maxRecDepth 20000 in
theorem gX10_readThrough_X9_signAt : GoodIn wsX10_readThrough (wsV RX10 27 RX9 yX9_signAt wsX9_signAt) := goodIn_app (goodIn_of _ (by decide +kernel)) ggX10_readThrough_X9_signAt
set_option maxRecDepth 20000 in
theorem ggX10_readThrough_X10_take : GoodIn wsX10_readThrough wsX10_take := goodIn_r _ [20, 3, 1, 21, 22, 23, 24, 25, 26, 27, 28, 29, 30, 31, 32, 33, 34, 35, 36, 37, 38, 39, 40, 41, 19, 42, 2, 43, 44, 45, 46, 47, 48, 49, 50, 51, 52, 53, 54, 55, 56, 57, 58, 59, 60, 61, 62, 63, 64, 65, 66, 67, 68, 69, 70, 71, 72, 73, 74, 75, 76, 77, 78, 79, 80, 81, 82, 83, 84, 85, 86, 87, 88, 89, 90, 91, 92, 93, 94, 95, 96, 97, 98, 99, 100, 101, 102, 103, 104, 105, 106, 107, 108, 109, 110, 111, 112, 113, 114, 115, 116, 117, 118, 119, 120, 121, 122, 123, 124, 125, 126, 127, 128, 129, 130, 131, 132, 133, 134, 135, 136, 137, 138, 139, 140, 141, 142, 143, 144, 145, 146, 147, 148, 149, 150, 151, 152, 153, 154, 155, 156, 157, 158, 159, 160, 161, 162, 163, 164, 165, 166, 167, 168, 169, 170, 171, 172, 173, 174, 175, 176, 177, 178, 179, 180, 181, 182, 183, 184, 185, 186, 187, 188, 189, 190, 191, 192, 193, 194, 195, 196, 197, 198, 199, 200, 201, 202, 203, 204, 205, 206, 207, 208, 210, 211, 212, 213, 214, 215, 216, 217, 218, 219, 220, 221, 222, 223, 224, 225, 226, 227, 228, 229, 230, 231, 232, 233, 234, 235, 236, 237, 238, 239, 240, 243, 244, 245, 246, 247, 248, 249, 250, 251, 252] (by decide +kernel) (by decide +kernel)
set_option maxRecDepth 20000 in
theorem gX10_readThrough_X10_take_u31X1 : GoodIn wsX10_readThrough (va_wsU RX10 31 RX1 "BellTower$Text" ⟨"BellTower$Text", "take", "(II)V"⟩ yX10_take wsX10_take) := goodIn_app (goodIn_of _ (by decide +kernel)) ggX10_readThrough_X10_take
set_option maxRecDepth 20000 in
theorem gX10_readThrough_X10_take_u31X3 : GoodIn wsX10_readThrough (va_wsU RX10 31 RX3 "BellTower$Text" ⟨"BellTower$Text", "take", "(II)V"⟩ yX10_take wsX10_take) := goodIn_app (goodIn_of _ (by decide +kernel)) ggX10_readThrough_X10_take
theorem dX10_readThrough_0 : decode cX10_readThrough 0 = .ok (.aload_n 0, 1) := by decide +kernel
theorem dX10_readThrough_1 : decode cX10_readThrough 1 = .ok (.iconst 0, 1) := by decide +kernel
theorem dX10_readThrough_2 : decode cX10_readThrough 2 = .ok (.putfield 9, 3) := by decide +kernel
theorem dX10_readThrough_5 : decode cX10_readThrough 5 = .ok (.aload_n 0, 1) := by decide +kernel
theorem dX10_readThrough_6 : decode cX10_readThrough 6 = .ok (.iconst 0, 1) := by decide +kernel
theorem dX10_readThrough_7 : decode cX10_readThrough 7 = .ok (.putfield 15, 3) := by decide +kernel
theorem dX10_readThrough_10 : decode cX10_readThrough 10 = .ok (.aload_n 0, 1) := by decide +kernel
theorem dX10_readThrough_11 : decode cX10_readThrough 11 = .ok (.iconst (-1), 1) := by decide +kernel
theorem dX10_readThrough_12 : decode cX10_readThrough 12 = .ok (.putfield 18, 3) := by decide +kernel
theorem dX10_readThrough_15 : decode cX10_readThrough 15 = .ok (.iconst 0, 1) := by decide +kernel
theorem dX10_readThrough_16 : decode cX10_readThrough 16 = .ok (.istore_n 2, 1) := by decide +kernel
theorem dX10_readThrough_17 : decode cX10_readThrough 17 = .ok (.iload_n 2, 1) := by decide +kernel
theorem dX10_readThrough_18 : decode cX10_readThrough 18 = .ok (.aload_n 1, 1) := by decide +kernel
theorem dX10_readThrough_19 : decode cX10_readThrough 19 = .ok (.invokevirtual 21, 3) := by decide +kernel
theorem dX10_readThrough_22 : decode cX10_readThrough 22 = .ok (.if_icmp .gt 26, 3) := by decide +kernel
theorem dX10_readThrough_25 : decode cX10_readThrough 25 = .ok (.aload_n 0, 1) := by decide +kernel
theorem dX10_readThrough_26 : decode cX10_readThrough 26 = .ok (.getfield 9, 3) := by decide +kernel
theorem dX10_readThrough_29 : decode cX10_readThrough 29 = .ok (.ifCond .ne 19, 3) := by decide +kernel
theorem dX10_readThrough_32 : decode cX10_readThrough 32 = .ok (.aload_n 0, 1) := by decide +kernel
theorem dX10_readThrough_33 : decode cX10_readThrough 33 = .ok (.aload_n 1, 1) := by decide +kernel
theorem dX10_readThrough_34 : decode cX10_readThrough 34 = .ok (.iload_n 2, 1) := by decide +kernel
theorem dX10_readThrough_35 : decode cX10_readThrough 35 = .ok (.invokevirtual 27, 3) := by decide +kernel
theorem dX10_readThrough_38 : decode cX10_readThrough 38 = .ok (.iload_n 2, 1) := by decide +kernel
theorem dX10_readThrough_39 : decode cX10_readThrough 39 = .ok (.invokevirtual 31, 3) := by decide +kernel
theorem dX10_readThrough_42 : decode cX10_readThrough 42 = .ok (.iinc 2 1, 3) := by decide +kernel
theorem dX10_readThrough_45 : decode cX10_readThrough 45 = .ok (.goto (-28), 3) := by decide +kernel
theorem dX10_readThrough_48 : decode cX10_readThrough 48 = .ok (.aload_n 0, 1) := by decide +kernel
theorem dX10_readThrough_49 : decode cX10_readThrough 49 = .ok (.getfield 9, 3) := by decide +kernel
theorem dX10_readThrough_52 : decode cX10_readThrough 52 = .ok (.ifCond .ne 7, 3) := by decide +kernel
theorem dX10_readThrough_55 : decode cX10_readThrough 55 = .ok (.iconst 1, 1) := by decide +kernel
theorem dX10_readThrough_56 : decode cX10_readThrough 56 = .ok (.goto 4, 3) := by decide +kernel
theorem dX10_readThrough_59 : decode cX10_readThrough 59 = .ok (.iconst 0, 1) := by decide +kernel
theorem dX10_readThrough_60 : decode cX10_readThrough 60 = .ok (.ireturn, 1) := by decide +kernel
set_option maxRecDepth 20000 in
theorem ggX10_take_X1_isDigit : GoodIn wsX10_take wsX1_isDigit := goodIn_r _ [8] (by decide +kernel) (by decide +kernel)
set_option maxRecDepth 20000 in
theorem gX10_take_X1_isDigit_u35X1 : GoodIn wsX10_take (va_wsU RX10 35 RX1 "BellTower$Text" ⟨"BellTower$Text", "isDigit", "(I)Z"⟩ yX1_isDigit wsX1_isDigit) := goodIn_app (goodIn_of _ (by decide +kernel)) ggX10_take_X1_isDigit
set_option maxRecDepth 20000 in
theorem ggX10_take_X3_isDigit : GoodIn wsX10_take wsX3_isDigit := goodIn_r _ [12] (by decide +kernel) (by decide +kernel)
set_option maxRecDepth 20000 in
theorem gX10_take_X3_isDigit_u35X3 : GoodIn wsX10_take (va_wsU RX10 35 RX3 "BellTower$Text" ⟨"BellTower$Text", "isDigit", "(I)Z"⟩ yX3_isDigit wsX3_isDigit) := goodIn_app (goodIn_of _ (by decide +kernel)) ggX10_take_X3_isDigit
set_option maxRecDepth 20000 in
theorem ggX10_take_X1_takeDigit : GoodIn wsX10_take wsX1_takeDigit := goodIn_r _ [17, 18, 19, 20, 21, 22, 23, 24, 25, 2, 26, 193, 194, 195, 196, 197, 198, 199, 200, 201, 202, 203, 204, 205, 206, 207, 208, 209, 210, 211, 212, 213, 214, 215, 216, 217, 218, 219, 220, 221, 222, 223] (by decide +kernel) (by decide +kernel)
set_option maxRecDepth 20000 in
theorem gX10_take_X1_takeDigit_u39X1 : GoodIn wsX10_take (va_wsU RX10 39 RX1 "BellTower$Text" ⟨"BellTower$Text", "takeDigit", "(IZI)V"⟩ yX1_takeDigit wsX1_takeDigit) := goodIn_app (goodIn_of _ (by decide +kernel)) ggX10_take_X1_takeDigit
set_option maxRecDepth 20000 in
theorem ggX10_take_X3_takeDigit : GoodIn wsX10_take wsX3_takeDigit := goodIn_r _ [29, 30, 31, 32, 33, 34, 35, 36, 37, 38, 39, 11, 40, 41, 42, 43, 23, 24, 25, 2, 26, 210, 211, 212, 213, 214, 215, 216, 217, 218, 219, 220, 221, 222, 223, 193, 194, 195, 196, 197, 198, 199, 200, 201, 202, 203, 204, 205, 206, 207, 208, 209] (by decide +kernel) (by decide +kernel)
set_option maxRecDepth 20000 in
theorem gX10_take_X3_takeDigit_u39X3 : GoodIn wsX10_take (va_wsU RX10 39 RX3 "BellTower$Text" ⟨"BellTower$Text", "takeDigit", "(IZI)V"⟩ yX3_takeDigit wsX3_takeDigit) := goodIn_app (goodIn_of _ (by decide +kernel)) ggX10_take_X3_takeDigit
set_option maxRecDepth 20000 in
theorem ggX10_take_X1_takeDigitsEnd : GoodIn wsX10_take wsX1_takeDigitsEnd := goodIn_r _ [48, 19, 20, 21, 22, 23, 24, 25, 2, 26, 193, 194, 195, 196, 197, 198, 199, 200, 201, 202, 203, 204, 205, 206, 207, 208, 209, 210, 211, 212, 213, 214, 215, 216, 217, 218, 219, 220, 221, 222, 223] (by decide +kernel) (by decide +kernel)
set_option maxRecDepth 20000 in
theorem gX10_take_X1_takeDigitsEnd_u43X1 : GoodIn wsX10_take (va_wsU RX10 43 RX1 "BellTower$Text" ⟨"BellTower$Text", "takeDigitsEnd", "(I)V"⟩ yX1_takeDigitsEnd wsX1_takeDigitsEnd) := goodIn_app (goodIn_of _ (by decide +kernel)) ggX10_take_X1_takeDigitsEnd
set_option maxRecDepth 20000 in
theorem ggX10_take_X3_takeDigitsEnd : GoodIn wsX10_take wsX3_takeDigitsEnd := goodIn_r _ [51, 33, 34, 35, 32, 31, 41, 42, 43, 23, 24, 25, 2, 26, 52, 53, 54, 55, 56, 57, 58, 11, 59, 30, 60, 61, 62, 63, 64, 65, 66, 67, 68, 69, 70, 71, 72, 73, 74, 75, 76, 77, 78, 79, 80, 210, 211, 212, 213, 214, 215, 216, 217, 218, 219, 220, 221, 222, 223, 193, 194, 195, 196, 197, 198, 199, 200, 201, 202, 203, 204, 205, 206, 207, 208, 209, 224, 225, 226, 227, 228, 229, 230, 231] (by decide +kernel) (by decide +kernel)
set_option maxRecDepth 20000 in
theorem gX10_take_X3_takeDigitsEnd_u43X3 : GoodIn wsX10_take (va_wsU RX10 43 RX3 "BellTower$Text" ⟨"BellTower$Text", "takeDigitsEnd", "(I)V"⟩ yX3_takeDigitsEnd wsX3_takeDigitsEnd) := goodIn_app (goodIn_of _ (by decide +kernel)) ggX10_take_X3_takeDigitsEnd
set_option maxRecDepth 20000 in
theorem ggX10_take_X1_takeSign : GoodIn wsX10_take wsX1_takeSign := goodIn_r _ [85, 86, 87, 88, 19, 89, 90, 7, 91, 92, 93, 94, 95, 96, 97, 98, 99, 100, 101, 102, 103, 104, 105, 106, 107, 108, 109, 110, 65, 111, 112, 20, 21, 22, 23, 24, 25, 2, 26, 113, 114, 115, 116, 117, 118, 119, 78, 79, 80, 120, 121, 122, 123, 124, 125, 126, 127, 193, 194, 195, 196, 197, 198, 199, 200, 201, 202, 203, 204, 205, 206, 207, 208, 209, 232, 233, 224, 225, 226, 227, 228, 229, 230, 231, 210, 211, 212, 213, 214, 215, 216, 217, 218, 219, 220, 221, 222, 223] (by decide +kernel) (by decide +kernel)
set_option maxRecDepth 20000 in
theorem gX10_take_X1_takeSign_u47X1 : GoodIn wsX10_take (va_wsU RX10 47 RX1 "BellTower$Text" ⟨"BellTower$Text", "takeSign", "(II)V"⟩ yX1_takeSign wsX1_takeSign) := goodIn_app (goodIn_of _ (by decide +kernel)) ggX10_take_X1_takeSign
set_option maxRecDepth 20000 in
theorem ggX10_take_X3_takeSign : GoodIn wsX10_take wsX3_takeSign := goodIn_r _ [130, 131, 132, 133, 11, 134, 30, 32, 31, 37, 38, 39, 40, 41, 42, 43, 23, 24, 25, 2, 26, 52, 53, 54, 55, 56, 57, 58, 59, 60, 61, 62, 63, 64, 65, 66, 67, 68, 69, 70, 71, 72, 73, 74, 75, 76, 77, 78, 79, 80, 135, 136, 137, 138, 139, 140, 141, 142, 143, 144, 145, 146, 147, 148, 149, 150, 151, 152, 153, 154, 155, 156, 157, 158, 159, 160, 161, 162, 163, 164, 165, 166, 167, 168, 169, 170, 171, 172, 173, 174, 112, 175, 176, 177, 178, 179, 180, 181, 182, 183, 184, 185, 186, 187, 188, 189, 190, 191, 192, 210, 211, 212, 213, 214, 215, 216, 217, 218, 219, 220, 221, 222, 223, 193, 194, 195, 196, 197, 198, 199, 200, 201, 202, 203, 204, 205, 206, 207, 208, 209, 224, 225, 226, 227, 228, 229, 230, 231] (by decide +kernel) (by decide +kernel)
set_option maxRecDepth 20000 in
theorem gX10_take_X3_takeSign_u47X3 : GoodIn wsX10_take (va_wsU RX10 47 RX3 "BellTower$Text" ⟨"BellTower$Text", "takeSign", "(II)V"⟩ yX3_takeSign wsX3_takeSign) := goodIn_app (goodIn_of _ (by decide +kernel)) ggX10_take_X3_takeSign
theorem dX10_take_0 : decode cX10_take 0 = .ok (.aload_n 0, 1) := by decide +kernel
theorem dX10_take_1 : decode cX10_take 1 = .ok (.iload_n 1, 1) := by decide +kernel
theorem dX10_take_2 : decode cX10_take 2 = .ok (.invokevirtual 35, 3) := by decide +kernel
theorem dX10_take_5 : decode cX10_take 5 = .ok (.ifCond .eq 44, 3) := by decide +kernel
theorem dX10_take_8 : decode cX10_take 8 = .ok (.aload_n 0, 1) := by decide +kernel
theorem dX10_take_9 : decode cX10_take 9 = .ok (.getfield 18, 3) := by decide +kernel
theorem dX10_take_12 : decode cX10_take 12 = .ok (.iconst (-1), 1) := by decide +kernel
theorem dX10_take_13 : decode cX10_take 13 = .ok (.if_icmp .ne 7, 3) := by decide +kernel
theorem dX10_take_16 : decode cX10_take 16 = .ok (.iconst 1, 1) := by decide +kernel
theorem dX10_take_17 : decode cX10_take 17 = .ok (.goto 4, 3) := by decide +kernel
theorem dX10_take_20 : decode cX10_take 20 = .ok (.iconst 0, 1) := by decide +kernel
theorem dX10_take_21 : decode cX10_take 21 = .ok (.istore_n 3, 1) := by decide +kernel
theorem dX10_take_22 : decode cX10_take 22 = .ok (.aload_n 0, 1) := by decide +kernel
theorem dX10_take_23 : decode cX10_take 23 = .ok (.iload_n 3, 1) := by decide +kernel
theorem dX10_take_24 : decode cX10_take 24 = .ok (.ifCond .eq 7, 3) := by decide +kernel
theorem dX10_take_27 : decode cX10_take 27 = .ok (.iload_n 2, 1) := by decide +kernel
theorem dX10_take_28 : decode cX10_take 28 = .ok (.goto 7, 3) := by decide +kernel
theorem dX10_take_31 : decode cX10_take 31 = .ok (.aload_n 0, 1) := by decide +kernel
theorem dX10_take_32 : decode cX10_take 32 = .ok (.getfield 18, 3) := by decide +kernel
theorem dX10_take_35 : decode cX10_take 35 = .ok (.putfield 18, 3) := by decide +kernel
theorem dX10_take_38 : decode cX10_take 38 = .ok (.aload_n 0, 1) := by decide +kernel
theorem dX10_take_39 : decode cX10_take 39 = .ok (.iload_n 1, 1) := by decide +kernel
theorem dX10_take_40 : decode cX10_take 40 = .ok (.bipush 48, 2) := by decide +kernel
theorem dX10_take_42 : decode cX10_take 42 = .ok (.isub, 1) := by decide +kernel
theorem dX10_take_43 : decode cX10_take 43 = .ok (.iload_n 3, 1) := by decide +kernel
theorem dX10_take_44 : decode cX10_take 44 = .ok (.iload_n 2, 1) := by decide +kernel
theorem dX10_take_45 : decode cX10_take 45 = .ok (.invokevirtual 39, 3) := by decide +kernel
theorem dX10_take_48 : decode cX10_take 48 = .ok (.return_, 1) := by decide +kernel
theorem dX10_take_49 : decode cX10_take 49 = .ok (.aload_n 0, 1) := by decide +kernel
theorem dX10_take_50 : decode cX10_take 50 = .ok (.getfield 18, 3) := by decide +kernel
theorem dX10_take_53 : decode cX10_take 53 = .ok (.iconst (-1), 1) := by decide +kernel
theorem dX10_take_54 : decode cX10_take 54 = .ok (.if_icmp .eq 16, 3) := by decide +kernel
theorem dX10_take_57 : decode cX10_take 57 = .ok (.aload_n 0, 1) := by decide +kernel
theorem dX10_take_58 : decode cX10_take 58 = .ok (.aload_n 0, 1) := by decide +kernel
theorem dX10_take_59 : decode cX10_take 59 = .ok (.getfield 18, 3) := by decide +kernel
theorem dX10_take_62 : decode cX10_take 62 = .ok (.invokevirtual 43, 3) := by decide +kernel
theorem dX10_take_65 : decode cX10_take 65 = .ok (.aload_n 0, 1) := by decide +kernel
theorem dX10_take_66 : decode cX10_take 66 = .ok (.iconst (-1), 1) := by decide +kernel
theorem dX10_take_67 : decode cX10_take 67 = .ok (.putfield 18, 3) := by decide +kernel
theorem dX10_take_70 : decode cX10_take 70 = .ok (.aload_n 0, 1) := by decide +kernel
theorem dX10_take_71 : decode cX10_take 71 = .ok (.getfield 9, 3) := by decide +kernel
theorem dX10_take_74 : decode cX10_take 74 = .ok (.ifCond .ne 9, 3) := by decide +kernel
theorem dX10_take_77 : decode cX10_take 77 = .ok (.aload_n 0, 1) := by decide +kernel
theorem dX10_take_78 : decode cX10_take 78 = .ok (.iload_n 1, 1) := by decide +kernel
theorem dX10_take_79 : decode cX10_take 79 = .ok (.iload_n 2, 1) := by decide +kernel
theorem dX10_take_80 : decode cX10_take 80 = .ok (.invokevirtual 47, 3) := by decide +kernel
theorem dX10_take_83 : decode cX10_take 83 = .ok (.return_, 1) := by decide +kernel
theorem dX10_refuse_0 : decode cX10_refuse 0 = .ok (.aload_n 0, 1) := by decide +kernel
theorem dX10_refuse_1 : decode cX10_refuse 1 = .ok (.iload_n 1, 1) := by decide +kernel
theorem dX10_refuse_2 : decode cX10_refuse 2 = .ok (.putfield 9, 3) := by decide +kernel
theorem dX10_refuse_5 : decode cX10_refuse 5 = .ok (.aload_n 0, 1) := by decide +kernel
theorem dX10_refuse_6 : decode cX10_refuse 6 = .ok (.iload_n 2, 1) := by decide +kernel
theorem dX10_refuse_7 : decode cX10_refuse 7 = .ok (.putfield 15, 3) := by decide +kernel
theorem dX10_refuse_10 : decode cX10_refuse 10 = .ok (.return_, 1) := by decide +kernel
theorem dX10_kind_0 : decode cX10_kind 0 = .ok (.aload_n 0, 1) := by decide +kernel
theorem dX10_kind_1 : decode cX10_kind 1 = .ok (.getfield 9, 3) := by decide +kernel
theorem dX10_kind_4 : decode cX10_kind 4 = .ok (.ireturn, 1) := by decide +kernel
theorem dX10_place_0 : decode cX10_place 0 = .ok (.aload_n 0, 1) := by decide +kernel
theorem dX10_place_1 : decode cX10_place 1 = .ok (.getfield 15, 3) := by decide +kernel
theorem dX10_place_4 : decode cX10_place 4 = .ok (.ireturn, 1) := by decide +kernel
set_option maxRecDepth 20000 in
theorem ggX11_init_X0_init : GoodIn wsX11_init wsX0_init := goodIn_r _ [36, 37, 2, 3, 38, 39, 40, 41, 42, 43, 44, 45, 46, 47, 48, 49, 50, 51, 52, 53, 54, 145, 146, 201, 202, 203, 204, 205, 206, 207, 208] (by decide +kernel) (by decide +kernel)
set_option maxRecDepth 20000 in
theorem gX11_init_X0_init : GoodIn wsX11_init (wsX0_init) := ggX11_init_X0_init
set_option maxRecDepth 20000 in
theorem ggX11_init_X8_init : GoodIn wsX11_init wsX8_init := goodIn_r _ [56, 57, 2, 3, 58, 46, 59, 60, 61, 62, 147, 148, 149, 150] (by decide +kernel) (by decide +kernel)
set_option maxRecDepth 20000 in
theorem gX11_init_X8_init_n21 : GoodIn wsX11_init (wsX8_init) := ggX11_init_X8_init
set_option maxRecDepth 20000 in
theorem ggX11_init_X9_init : GoodIn wsX11_init wsX9_init := goodIn_r _ [64, 65, 2, 3, 66, 67, 68, 151, 152] (by decide +kernel) (by decide +kernel)
set_option maxRecDepth 20000 in
theorem gX11_init_X9_init_n24 : GoodIn wsX11_init (wsX9_init) := ggX11_init_X9_init
set_option maxRecDepth 20000 in
theorem ggX11_init_X3_init : GoodIn wsX11_init wsX3_init := goodIn_r _ [70, 71, 40, 41, 72, 73, 74, 75, 76, 77, 78, 79, 80, 81, 82, 83, 84, 85, 86, 2, 3, 87, 88, 89, 43, 44, 45, 46, 47, 48, 49, 50, 51, 52, 53, 54, 201, 202, 203, 204, 205, 206, 207, 208, 153, 154, 155, 156, 157, 158, 159, 160, 161, 162, 163, 164, 165, 166, 167, 168, 169, 170, 171, 172, 173, 174, 175, 176, 177, 178, 179, 180, 181, 182, 183] (by decide +kernel) (by decide +kernel)
set_option maxRecDepth 20000 in
theorem gX11_init_X3_init_n39 : GoodIn wsX11_init (wsX3_init) := ggX11_init_X3_init
set_option maxRecDepth 20000 in
theorem ggX11_init_X1_init : GoodIn wsX11_init wsX1_init := goodIn_r _ [92, 46, 93, 94, 95, 96, 97, 98, 99, 100, 101, 102, 103, 104, 105, 106, 83, 84, 85, 86, 2, 3, 87, 88, 89, 167, 168, 169, 170, 171, 172, 173, 174, 175, 176, 177, 178, 179, 180, 181, 182, 183, 153, 154, 155, 156, 157, 158, 159, 160, 161, 162, 163, 164, 165, 166] (by decide +kernel) (by decide +kernel)
set_option maxRecDepth 20000 in
theorem gX11_init_X1_init : GoodIn wsX11_init (wsX1_init) := ggX11_init_X1_init
set_option maxRecDepth 20000 in
theorem ggX11_init_X5_init : GoodIn wsX11_init wsX5_init := goodIn_r _ [109, 110, 2, 3, 46, 111, 112, 113, 114, 115, 116, 117, 118, 119, 120, 121, 122, 123, 124, 125, 126, 184, 185, 186, 187, 188, 189, 190, 191, 192, 193, 194, 195] (by decide +kernel) (by decide +kernel)
set_option maxRecDepth 20000 in
theorem gX11_init_X5_init : GoodIn wsX11_init (wsX5_init) := ggX11_init_X5_init
set_option maxRecDepth 20000 in
theorem ggX11_init_X7_init : GoodIn wsX11_init wsX7_init := goodIn_r _ [129, 130, 2, 3, 46, 131, 132, 133, 134, 135, 196, 197, 198, 199, 200] (by decide +kernel) (by decide +kernel)
set_option maxRecDepth 20000 in
theorem gX11_init_X7_init : GoodIn wsX11_init (wsX7_init) := ggX11_init_X7_init
theorem dX11_init_0 : decode cX11_init 0 = .ok (.aload_n 0, 1) := by decide +kernel
theorem dX11_init_1 : decode cX11_init 1 = .ok (.invokespecial 1, 3) := by decide +kernel
theorem dX11_init_4 : decode cX11_init 4 = .ok (.aload_n 0, 1) := by decide +kernel
theorem dX11_init_5 : decode cX11_init 5 = .ok (.bipush 6, 2) := by decide +kernel
theorem dX11_init_7 : decode cX11_init 7 = .ok (.putfield 9, 3) := by decide +kernel
theorem dX11_init_10 : decode cX11_init 10 = .ok (.aload_n 0, 1) := by decide +kernel
theorem dX11_init_11 : decode cX11_init 11 = .ok (.iconst 0, 1) := by decide +kernel
theorem dX11_init_12 : decode cX11_init 12 = .ok (.putfield 13, 3) := by decide +kernel
theorem dX11_init_15 : decode cX11_init 15 = .ok (.new 16, 3) := by decide +kernel
theorem dX11_init_18 : decode cX11_init 18 = .ok (.dup, 1) := by decide +kernel
theorem dX11_init_19 : decode cX11_init 19 = .ok (.invokespecial 18, 3) := by decide +kernel
theorem dX11_init_22 : decode cX11_init 22 = .ok (.astore_n 1, 1) := by decide +kernel
theorem dX11_init_23 : decode cX11_init 23 = .ok (.new 19, 3) := by decide +kernel
theorem dX11_init_26 : decode cX11_init 26 = .ok (.dup, 1) := by decide +kernel
theorem dX11_init_27 : decode cX11_init 27 = .ok (.invokespecial 21, 3) := by decide +kernel
theorem dX11_init_30 : decode cX11_init 30 = .ok (.astore_n 2, 1) := by decide +kernel
theorem dX11_init_31 : decode cX11_init 31 = .ok (.aload_n 0, 1) := by decide +kernel
theorem dX11_init_32 : decode cX11_init 32 = .ok (.new 22, 3) := by decide +kernel
theorem dX11_init_35 : decode cX11_init 35 = .ok (.dup, 1) := by decide +kernel
theorem dX11_init_36 : decode cX11_init 36 = .ok (.invokespecial 24, 3) := by decide +kernel
theorem dX11_init_39 : decode cX11_init 39 = .ok (.putfield 25, 3) := by decide +kernel
theorem dX11_init_42 : decode cX11_init 42 = .ok (.aload_n 0, 1) := by decide +kernel
theorem dX11_init_43 : decode cX11_init 43 = .ok (.aload_n 1, 1) := by decide +kernel
theorem dX11_init_44 : decode cX11_init 44 = .ok (.putfield 29, 3) := by decide +kernel
theorem dX11_init_47 : decode cX11_init 47 = .ok (.aload_n 0, 1) := by decide +kernel
theorem dX11_init_48 : decode cX11_init 48 = .ok (.aload_n 2, 1) := by decide +kernel
theorem dX11_init_49 : decode cX11_init 49 = .ok (.putfield 33, 3) := by decide +kernel
theorem dX11_init_52 : decode cX11_init 52 = .ok (.aload_n 0, 1) := by decide +kernel
theorem dX11_init_53 : decode cX11_init 53 = .ok (.new 37, 3) := by decide +kernel
theorem dX11_init_56 : decode cX11_init 56 = .ok (.dup, 1) := by decide +kernel
theorem dX11_init_57 : decode cX11_init 57 = .ok (.invokespecial 39, 3) := by decide +kernel
theorem dX11_init_60 : decode cX11_init 60 = .ok (.putfield 40, 3) := by decide +kernel
theorem dX11_init_63 : decode cX11_init 63 = .ok (.aload_n 0, 1) := by decide +kernel
theorem dX11_init_64 : decode cX11_init 64 = .ok (.new 44, 3) := by decide +kernel
theorem dX11_init_67 : decode cX11_init 67 = .ok (.dup, 1) := by decide +kernel
theorem dX11_init_68 : decode cX11_init 68 = .ok (.aload_n 1, 1) := by decide +kernel
theorem dX11_init_69 : decode cX11_init 69 = .ok (.invokespecial 46, 3) := by decide +kernel
theorem dX11_init_72 : decode cX11_init 72 = .ok (.putfield 49, 3) := by decide +kernel
theorem dX11_init_75 : decode cX11_init 75 = .ok (.aload_n 0, 1) := by decide +kernel
theorem dX11_init_76 : decode cX11_init 76 = .ok (.new 53, 3) := by decide +kernel
theorem dX11_init_79 : decode cX11_init 79 = .ok (.dup, 1) := by decide +kernel
theorem dX11_init_80 : decode cX11_init 80 = .ok (.aload_n 1, 1) := by decide +kernel
theorem dX11_init_81 : decode cX11_init 81 = .ok (.aload_n 2, 1) := by decide +kernel
theorem dX11_init_82 : decode cX11_init 82 = .ok (.bipush 6, 2) := by decide +kernel
theorem dX11_init_84 : decode cX11_init 84 = .ok (.invokespecial 55, 3) := by decide +kernel
theorem dX11_init_87 : decode cX11_init 87 = .ok (.putfield 58, 3) := by decide +kernel
theorem dX11_init_90 : decode cX11_init 90 = .ok (.aload_n 0, 1) := by decide +kernel
theorem dX11_init_91 : decode cX11_init 91 = .ok (.new 62, 3) := by decide +kernel
theorem dX11_init_94 : decode cX11_init 94 = .ok (.dup, 1) := by decide +kernel
theorem dX11_init_95 : decode cX11_init 95 = .ok (.aload_n 2, 1) := by decide +kernel
theorem dX11_init_96 : decode cX11_init 96 = .ok (.invokespecial 64, 3) := by decide +kernel
theorem dX11_init_99 : decode cX11_init 99 = .ok (.putfield 67, 3) := by decide +kernel
theorem dX11_init_102 : decode cX11_init 102 = .ok (.return_, 1) := by decide +kernel
set_option maxRecDepth 20000 in
theorem ggX11_feed_X9_size : GoodIn wsX11_feed wsX9_size := goodIn_r _ [6, 7, 22, 23] (by decide +kernel) (by decide +kernel)
set_option maxRecDepth 20000 in
theorem gX11_feed_X9_size : GoodIn wsX11_feed (wsV RX11 71 RX9 yX9_size wsX9_size) := goodIn_app (goodIn_of _ (by decide +kernel)) ggX11_feed_X9_size
set_option maxRecDepth 20000 in
theorem ggX11_feed_X9_addNumber : GoodIn wsX11_feed wsX9_addNumber := goodIn_r _ [11, 7, 12, 22, 23] (by decide +kernel) (by decide +kernel)
set_option maxRecDepth 20000 in
theorem gX11_feed_X9_addNumber : GoodIn wsX11_feed (wsV RX11 75 RX9 yX9_addNumber wsX9_addNumber) := goodIn_app (goodIn_of _ (by decide +kernel)) ggX11_feed_X9_addNumber
theorem dX11_feed_0 : decode cX11_feed 0 = .ok (.aload_n 0, 1) := by decide +kernel
theorem dX11_feed_1 : decode cX11_feed 1 = .ok (.getfield 25, 3) := by decide +kernel
theorem dX11_feed_4 : decode cX11_feed 4 = .ok (.invokevirtual 71, 3) := by decide +kernel
theorem dX11_feed_7 : decode cX11_feed 7 = .ok (.bipush 20, 2) := by decide +kernel
theorem dX11_feed_9 : decode cX11_feed 9 = .ok (.iadd, 1) := by decide +kernel
theorem dX11_feed_10 : decode cX11_feed 10 = .ok (.sipush 500, 3) := by decide +kernel
theorem dX11_feed_13 : decode cX11_feed 13 = .ok (.if_icmp .le 5, 3) := by decide +kernel
theorem dX11_feed_16 : decode cX11_feed 16 = .ok (.iconst (-1), 1) := by decide +kernel
theorem dX11_feed_17 : decode cX11_feed 17 = .ok (.ireturn, 1) := by decide +kernel
theorem dX11_feed_18 : decode cX11_feed 18 = .ok (.aload_n 0, 1) := by decide +kernel
theorem dX11_feed_19 : decode cX11_feed 19 = .ok (.getfield 25, 3) := by decide +kernel
theorem dX11_feed_22 : decode cX11_feed 22 = .ok (.iload_n 1, 1) := by decide +kernel
theorem dX11_feed_23 : decode cX11_feed 23 = .ok (.invokevirtual 75, 3) := by decide +kernel
theorem dX11_feed_26 : decode cX11_feed 26 = .ok (.aload_n 0, 1) := by decide +kernel
theorem dX11_feed_27 : decode cX11_feed 27 = .ok (.getfield 25, 3) := by decide +kernel
theorem dX11_feed_30 : decode cX11_feed 30 = .ok (.iload_n 2, 1) := by decide +kernel
theorem dX11_feed_31 : decode cX11_feed 31 = .ok (.invokevirtual 75, 3) := by decide +kernel
theorem dX11_feed_34 : decode cX11_feed 34 = .ok (.aload_n 0, 1) := by decide +kernel
theorem dX11_feed_35 : decode cX11_feed 35 = .ok (.getfield 25, 3) := by decide +kernel
theorem dX11_feed_38 : decode cX11_feed 38 = .ok (.iload_n 3, 1) := by decide +kernel
theorem dX11_feed_39 : decode cX11_feed 39 = .ok (.invokevirtual 75, 3) := by decide +kernel
theorem dX11_feed_42 : decode cX11_feed 42 = .ok (.aload_n 0, 1) := by decide +kernel
theorem dX11_feed_43 : decode cX11_feed 43 = .ok (.getfield 25, 3) := by decide +kernel
theorem dX11_feed_46 : decode cX11_feed 46 = .ok (.iload 4, 2) := by decide +kernel
theorem dX11_feed_48 : decode cX11_feed 48 = .ok (.invokevirtual 75, 3) := by decide +kernel
theorem dX11_feed_51 : decode cX11_feed 51 = .ok (.aload_n 0, 1) := by decide +kernel
theorem dX11_feed_52 : decode cX11_feed 52 = .ok (.getfield 25, 3) := by decide +kernel
theorem dX11_feed_55 : decode cX11_feed 55 = .ok (.iload 5, 2) := by decide +kernel
theorem dX11_feed_57 : decode cX11_feed 57 = .ok (.invokevirtual 75, 3) := by decide +kernel
theorem dX11_feed_60 : decode cX11_feed 60 = .ok (.aload_n 0, 1) := by decide +kernel
theorem dX11_feed_61 : decode cX11_feed 61 = .ok (.getfield 25, 3) := by decide +kernel
theorem dX11_feed_64 : decode cX11_feed 64 = .ok (.invokevirtual 71, 3) := by decide +kernel
theorem dX11_feed_67 : decode cX11_feed 67 = .ok (.ireturn, 1) := by decide +kernel
set_option maxRecDepth 20000 in
theorem ggX11_end_X9_size : GoodIn wsX11_end wsX9_size := goodIn_r _ [6, 7, 21, 22] (by decide +kernel) (by decide +kernel)
set_option maxRecDepth 20000 in
theorem gX11_end_X9_size : GoodIn wsX11_end (wsV RX11 71 RX9 yX9_size wsX9_size) := goodIn_app (goodIn_of _ (by decide +kernel)) ggX11_end_X9_size
set_option maxRecDepth 20000 in
theorem ggX11_end_X9_cut : GoodIn wsX11_end wsX9_cut := goodIn_r _ [11, 7, 21, 22] (by decide +kernel) (by decide +kernel)
set_option maxRecDepth 20000 in
theorem gX11_end_X9_cut : GoodIn wsX11_end (wsV RX11 79 RX9 yX9_cut wsX9_cut) := goodIn_app (goodIn_of _ (by decide +kernel)) ggX11_end_X9_cut
theorem dX11_end_0 : decode cX11_end 0 = .ok (.iload_n 1, 1) := by decide +kernel
theorem dX11_end_1 : decode cX11_end 1 = .ok (.ifCond .lt 14, 3) := by decide +kernel
theorem dX11_end_4 : decode cX11_end 4 = .ok (.iload_n 1, 1) := by decide +kernel
theorem dX11_end_5 : decode cX11_end 5 = .ok (.aload_n 0, 1) := by decide +kernel
theorem dX11_end_6 : decode cX11_end 6 = .ok (.getfield 25, 3) := by decide +kernel
theorem dX11_end_9 : decode cX11_end 9 = .ok (.invokevirtual 71, 3) := by decide +kernel
theorem dX11_end_12 : decode cX11_end 12 = .ok (.if_icmp .le 5, 3) := by decide +kernel
theorem dX11_end_15 : decode cX11_end 15 = .ok (.iconst 0, 1) := by decide +kernel
theorem dX11_end_16 : decode cX11_end 16 = .ok (.ireturn, 1) := by decide +kernel
theorem dX11_end_17 : decode cX11_end 17 = .ok (.aload_n 0, 1) := by decide +kernel
theorem dX11_end_18 : decode cX11_end 18 = .ok (.getfield 25, 3) := by decide +kernel
theorem dX11_end_21 : decode cX11_end 21 = .ok (.iload_n 1, 1) := by decide +kernel
theorem dX11_end_22 : decode cX11_end 22 = .ok (.invokevirtual 79, 3) := by decide +kernel
theorem dX11_end_25 : decode cX11_end 25 = .ok (.iconst 1, 1) := by decide +kernel
theorem dX11_end_26 : decode cX11_end 26 = .ok (.ireturn, 1) := by decide +kernel
set_option maxRecDepth 20000 in
theorem ggX11_stage_X0_clear : GoodIn wsX11_stage wsX0_clear := goodIn_r _ [8, 9, 10, 11, 7, 12, 13, 14, 15, 16, 17, 18, 19, 20, 44, 45, 46, 47, 48, 49, 50, 51, 52, 53] (by decide +kernel) (by decide +kernel)
set_option maxRecDepth 20000 in
theorem gX11_stage_X0_clear : GoodIn wsX11_stage (wsV RX11 82 RX0 yX0_clear wsX0_clear) := goodIn_app (goodIn_of _ (by decide +kernel)) ggX11_stage_X0_clear
set_option maxRecDepth 20000 in
theorem ggX11_stage_X5_clear : GoodIn wsX11_stage wsX5_clear := goodIn_r _ [25, 26, 27, 28, 29, 30, 31, 32, 33, 34, 54, 55, 56, 57, 58, 59, 60, 61, 62, 63, 64, 65] (by decide +kernel) (by decide +kernel)
set_option maxRecDepth 20000 in
theorem gX11_stage_X5_clear : GoodIn wsX11_stage (wsV RX11 85 RX5 yX5_clear wsX5_clear) := goodIn_app (goodIn_of _ (by decide +kernel)) ggX11_stage_X5_clear
theorem dX11_stage_0 : decode cX11_stage 0 = .ok (.iload_n 1, 1) := by decide +kernel
theorem dX11_stage_1 : decode cX11_stage 1 = .ok (.iconst 4, 1) := by decide +kernel
theorem dX11_stage_2 : decode cX11_stage 2 = .ok (.if_icmp .lt 9, 3) := by decide +kernel
theorem dX11_stage_5 : decode cX11_stage 5 = .ok (.iload_n 1, 1) := by decide +kernel
theorem dX11_stage_6 : decode cX11_stage 6 = .ok (.bipush 8, 2) := by decide +kernel
theorem dX11_stage_8 : decode cX11_stage 8 = .ok (.if_icmp .le 5, 3) := by decide +kernel
theorem dX11_stage_11 : decode cX11_stage 11 = .ok (.iconst 0, 1) := by decide +kernel
theorem dX11_stage_12 : decode cX11_stage 12 = .ok (.ireturn, 1) := by decide +kernel
theorem dX11_stage_13 : decode cX11_stage 13 = .ok (.aload_n 0, 1) := by decide +kernel
theorem dX11_stage_14 : decode cX11_stage 14 = .ok (.iload_n 1, 1) := by decide +kernel
theorem dX11_stage_15 : decode cX11_stage 15 = .ok (.putfield 9, 3) := by decide +kernel
theorem dX11_stage_18 : decode cX11_stage 18 = .ok (.aload_n 0, 1) := by decide +kernel
theorem dX11_stage_19 : decode cX11_stage 19 = .ok (.getfield 29, 3) := by decide +kernel
theorem dX11_stage_22 : decode cX11_stage 22 = .ok (.invokevirtual 82, 3) := by decide +kernel
theorem dX11_stage_25 : decode cX11_stage 25 = .ok (.aload_n 0, 1) := by decide +kernel
theorem dX11_stage_26 : decode cX11_stage 26 = .ok (.getfield 58, 3) := by decide +kernel
theorem dX11_stage_29 : decode cX11_stage 29 = .ok (.iload_n 1, 1) := by decide +kernel
theorem dX11_stage_30 : decode cX11_stage 30 = .ok (.invokevirtual 85, 3) := by decide +kernel
theorem dX11_stage_33 : decode cX11_stage 33 = .ok (.iconst 1, 1) := by decide +kernel
theorem dX11_stage_34 : decode cX11_stage 34 = .ok (.ireturn, 1) := by decide +kernel
set_option maxRecDepth 20000 in
theorem ggX11_method_X3_begin : GoodIn wsX11_method wsX3_begin := goodIn_r _ [13, 14, 15, 16, 17, 18, 19, 12, 20, 21, 22, 23, 272, 273, 274, 275, 276, 277, 278, 279, 280, 281, 282, 283, 284, 285] (by decide +kernel) (by decide +kernel)
set_option maxRecDepth 20000 in
theorem gX11_method_X3_begin : GoodIn wsX11_method (wsV RX11 94 RX3 yX3_begin wsX3_begin) := goodIn_app (goodIn_of _ (by decide +kernel)) ggX11_method_X3_begin
set_option maxRecDepth 20000 in
theorem ggX11_method_X10_readThrough : GoodIn wsX11_method wsX10_readThrough := goodIn_r _ [29, 30, 31, 32, 33, 34, 35, 36, 37, 38, 39, 40, 41, 42, 43, 44, 45, 46, 47, 28, 48, 49, 50, 51, 52, 53, 54, 55, 56, 12, 57, 58, 59, 60, 61, 62, 63, 64, 65, 66, 67, 68, 69, 70, 71, 72, 15, 21, 14, 73, 74, 75, 76, 77, 78, 79, 80, 81, 82, 83, 84, 85, 86, 87, 88, 89, 90, 91, 92, 93, 94, 95, 96, 97, 98, 99, 100, 16, 101, 102, 103, 104, 105, 106, 107, 108, 109, 110, 111, 112, 113, 114, 115, 116, 117, 118, 119, 120, 121, 122, 123, 124, 125, 126, 127, 128, 129, 130, 131, 132, 133, 134, 135, 136, 137, 138, 139, 140, 141, 142, 143, 144, 145, 146, 147, 148, 149, 150, 151, 152, 153, 154, 155, 156, 157, 158, 159, 160, 161, 162, 163, 164, 165, 166, 167, 168, 169, 170, 171, 172, 173, 174, 175, 176, 177, 23, 178, 179, 180, 181, 182, 183, 184, 185, 186, 187, 188, 189, 22, 190, 191, 192, 193, 194, 195, 17, 18, 19, 20, 196, 197, 198, 199, 200, 201, 202, 203, 204, 205, 206, 207, 208, 209, 210, 211, 212, 213, 214, 215, 216, 217, 218, 219, 220, 221, 222, 223, 224, 225, 226, 286, 287, 288, 289, 290, 291, 292, 293, 294, 295, 296, 297, 298, 299, 300, 301, 302, 272, 273, 274, 275, 276, 277, 278, 279, 280, 281, 282, 283, 284, 285, 303, 304, 305, 306, 307, 308, 309, 310, 311, 312, 313, 314] (by decide +kernel) (by decide +kernel)
set_option maxRecDepth 20000 in
theorem gX11_method_X10_readThrough_u97X3 : GoodIn wsX11_method (va_wsU RX11 97 RX3 "BellTower$Text" ⟨"BellTower$MethodText", "readThrough", "(LBellTower$Tape;)Z"⟩ yX10_readThrough wsX10_readThrough) := goodIn_app (goodIn_of _ (by decide +kernel)) ggX11_method_X10_readThrough
set_option maxRecDepth 20000 in
theorem ggX11_method_X9_cut : GoodIn wsX11_method wsX9_cut := goodIn_r _ [230, 38, 303, 304] (by decide +kernel) (by decide +kernel)
set_option maxRecDepth 20000 in
theorem gX11_method_X9_cut : GoodIn wsX11_method (wsV RX11 79 RX9 yX9_cut wsX9_cut) := goodIn_app (goodIn_of _ (by decide +kernel)) ggX11_method_X9_cut
set_option maxRecDepth 20000 in
theorem ggX11_method_X10_kind : GoodIn wsX11_method wsX10_kind := goodIn_r _ [235, 30, 286, 287, 288, 289, 290, 291, 292, 293, 294, 295, 296, 297, 298, 299, 300, 301, 302, 272, 273, 274, 275, 276, 277, 278, 279, 280, 281, 282, 283, 284, 285] (by decide +kernel) (by decide +kernel)
set_option maxRecDepth 20000 in
theorem gX11_method_X10_kind_u101X3 : GoodIn wsX11_method (va_wsU RX11 101 RX3 "BellTower$Text" ⟨"BellTower$MethodText", "kind", "()I"⟩ yX10_kind wsX10_kind) := goodIn_app (goodIn_of _ (by decide +kernel)) ggX11_method_X10_kind
set_option maxRecDepth 20000 in
theorem ggX11_method_X10_place : GoodIn wsX11_method wsX10_place := goodIn_r _ [240, 31, 286, 287, 288, 289, 290, 291, 292, 293, 294, 295, 296, 297, 298, 299, 300, 301, 302, 272, 273, 274, 275, 276, 277, 278, 279, 280, 281, 282, 283, 284, 285] (by decide +kernel) (by decide +kernel)
set_option maxRecDepth 20000 in
theorem gX11_method_X10_place_u104X3 : GoodIn wsX11_method (va_wsU RX11 104 RX3 "BellTower$Text" ⟨"BellTower$MethodText", "place", "()I"⟩ yX10_place wsX10_place) := goodIn_app (goodIn_of _ (by decide +kernel)) ggX11_method_X10_place
set_option maxRecDepth 20000 in
theorem ggX11_method_X0_at : GoodIn wsX11_method wsX0_at := goodIn_r _ [144, 145, 146, 313, 314] (by decide +kernel) (by decide +kernel)
set_option maxRecDepth 20000 in
theorem gX11_method_X0_at : GoodIn wsX11_method (wsV RX11 107 RX0 yX0_at wsX0_at) := goodIn_app (goodIn_of _ (by decide +kernel)) ggX11_method_X0_at
set_option maxRecDepth 20000 in
theorem ggX11_method_X3_draft : GoodIn wsX11_method wsX3_draft := goodIn_r _ [245, 100, 272, 273, 274, 275, 276, 277, 278, 279, 280, 281, 282, 283, 284, 285] (by decide +kernel) (by decide +kernel)
set_option maxRecDepth 20000 in
theorem gX11_method_X3_draft : GoodIn wsX11_method (wsV RX11 111 RX3 yX3_draft wsX3_draft) := goodIn_app (goodIn_of _ (by decide +kernel)) ggX11_method_X3_draft
set_option maxRecDepth 20000 in
theorem ggX11_method_X2_copyFrom : GoodIn wsX11_method wsX2_copyFrom := goodIn_r _ [249, 151, 116, 106, 111, 208, 194, 118, 195, 117, 119, 250, 205, 206, 104, 207, 209, 210, 211, 212, 213, 94, 214, 215, 216, 217, 218, 219, 220, 221, 222, 223, 224, 225, 305, 306, 307, 308, 309, 310, 311, 312] (by decide +kernel) (by decide +kernel)
set_option maxRecDepth 20000 in
theorem gX11_method_X2_copyFrom : GoodIn wsX11_method (wsV RX11 115 RX2 yX2_copyFrom wsX2_copyFrom) := goodIn_app (goodIn_of _ (by decide +kernel)) ggX11_method_X2_copyFrom
set_option maxRecDepth 20000 in
theorem ggX11_method_X5_clear : GoodIn wsX11_method wsX5_clear := goodIn_r _ [255, 256, 257, 258, 259, 260, 261, 213, 94, 214, 315, 316, 317, 318, 319, 320, 321, 322, 323, 324, 325, 326] (by decide +kernel) (by decide +kernel)
set_option maxRecDepth 20000 in
theorem gX11_method_X5_clear : GoodIn wsX11_method (wsV RX11 85 RX5 yX5_clear wsX5_clear) := goodIn_app (goodIn_of _ (by decide +kernel)) ggX11_method_X5_clear
set_option maxRecDepth 20000 in
theorem ggX11_method_X2_size : GoodIn wsX11_method wsX2_size := goodIn_r _ [150, 151, 305, 306, 307, 308, 309, 310, 311, 312] (by decide +kernel) (by decide +kernel)
set_option maxRecDepth 20000 in
theorem gX11_method_X2_size : GoodIn wsX11_method (wsV RX11 121 RX2 yX2_size wsX2_size) := goodIn_app (goodIn_of _ (by decide +kernel)) ggX11_method_X2_size
theorem dX11_method_0 : decode cX11_method 0 = .ok (.iload_n 1, 1) := by decide +kernel
theorem dX11_method_1 : decode cX11_method 1 = .ok (.ifCond .lt 9, 3) := by decide +kernel
theorem dX11_method_4 : decode cX11_method 4 = .ok (.iload_n 1, 1) := by decide +kernel
theorem dX11_method_5 : decode cX11_method 5 = .ok (.bipush 6, 2) := by decide +kernel
theorem dX11_method_7 : decode cX11_method 7 = .ok (.if_icmp .lt 13, 3) := by decide +kernel
theorem dX11_method_10 : decode cX11_method 10 = .ok (.new 87, 3) := by decide +kernel
theorem dX11_method_13 : decode cX11_method 13 = .ok (.dup, 1) := by decide +kernel
theorem dX11_method_14 : decode cX11_method 14 = .ok (.ldc 89, 2) := by decide +kernel
theorem dX11_method_16 : decode cX11_method 16 = .ok (.invokespecial 91, 3) := by decide +kernel
theorem dX11_method_19 : decode cX11_method 19 = .ok (.athrow, 1) := by decide +kernel
theorem dX11_method_20 : decode cX11_method 20 = .ok (.aload_n 0, 1) := by decide +kernel
theorem dX11_method_21 : decode cX11_method 21 = .ok (.getfield 40, 3) := by decide +kernel
theorem dX11_method_24 : decode cX11_method 24 = .ok (.aload_n 0, 1) := by decide +kernel
theorem dX11_method_25 : decode cX11_method 25 = .ok (.getfield 9, 3) := by decide +kernel
theorem dX11_method_28 : decode cX11_method 28 = .ok (.invokevirtual 94, 3) := by decide +kernel
theorem dX11_method_31 : decode cX11_method 31 = .ok (.aload_n 0, 1) := by decide +kernel
theorem dX11_method_32 : decode cX11_method 32 = .ok (.getfield 40, 3) := by decide +kernel
theorem dX11_method_35 : decode cX11_method 35 = .ok (.aload_n 0, 1) := by decide +kernel
theorem dX11_method_36 : decode cX11_method 36 = .ok (.getfield 25, 3) := by decide +kernel
theorem dX11_method_39 : decode cX11_method 39 = .ok (.invokevirtual 97, 3) := by decide +kernel
theorem dX11_method_42 : decode cX11_method 42 = .ok (.istore_n 2, 1) := by decide +kernel
theorem dX11_method_43 : decode cX11_method 43 = .ok (.aload_n 0, 1) := by decide +kernel
theorem dX11_method_44 : decode cX11_method 44 = .ok (.getfield 25, 3) := by decide +kernel
theorem dX11_method_47 : decode cX11_method 47 = .ok (.iconst 0, 1) := by decide +kernel
theorem dX11_method_48 : decode cX11_method 48 = .ok (.invokevirtual 79, 3) := by decide +kernel
theorem dX11_method_51 : decode cX11_method 51 = .ok (.aload_n 0, 1) := by decide +kernel
theorem dX11_method_52 : decode cX11_method 52 = .ok (.aload_n 0, 1) := by decide +kernel
theorem dX11_method_53 : decode cX11_method 53 = .ok (.getfield 40, 3) := by decide +kernel
theorem dX11_method_56 : decode cX11_method 56 = .ok (.invokevirtual 101, 3) := by decide +kernel
theorem dX11_method_59 : decode cX11_method 59 = .ok (.putfield 13, 3) := by decide +kernel
theorem dX11_method_62 : decode cX11_method 62 = .ok (.iload_n 2, 1) := by decide +kernel
theorem dX11_method_63 : decode cX11_method 63 = .ok (.ifCond .ne 13, 3) := by decide +kernel
theorem dX11_method_66 : decode cX11_method 66 = .ok (.iconst (-1), 1) := by decide +kernel
theorem dX11_method_67 : decode cX11_method 67 = .ok (.aload_n 0, 1) := by decide +kernel
theorem dX11_method_68 : decode cX11_method 68 = .ok (.getfield 40, 3) := by decide +kernel
theorem dX11_method_71 : decode cX11_method 71 = .ok (.invokevirtual 104, 3) := by decide +kernel
theorem dX11_method_74 : decode cX11_method 74 = .ok (.isub, 1) := by decide +kernel
theorem dX11_method_75 : decode cX11_method 75 = .ok (.ireturn, 1) := by decide +kernel
theorem dX11_method_76 : decode cX11_method 76 = .ok (.aload_n 0, 1) := by decide +kernel
theorem dX11_method_77 : decode cX11_method 77 = .ok (.getfield 29, 3) := by decide +kernel
theorem dX11_method_80 : decode cX11_method 80 = .ok (.iload_n 1, 1) := by decide +kernel
theorem dX11_method_81 : decode cX11_method 81 = .ok (.invokevirtual 107, 3) := by decide +kernel
theorem dX11_method_84 : decode cX11_method 84 = .ok (.aload_n 0, 1) := by decide +kernel
theorem dX11_method_85 : decode cX11_method 85 = .ok (.getfield 40, 3) := by decide +kernel
theorem dX11_method_88 : decode cX11_method 88 = .ok (.invokevirtual 111, 3) := by decide +kernel
theorem dX11_method_91 : decode cX11_method 91 = .ok (.invokevirtual 115, 3) := by decide +kernel
theorem dX11_method_94 : decode cX11_method 94 = .ok (.aload_n 0, 1) := by decide +kernel
theorem dX11_method_95 : decode cX11_method 95 = .ok (.getfield 58, 3) := by decide +kernel
theorem dX11_method_98 : decode cX11_method 98 = .ok (.aload_n 0, 1) := by decide +kernel
theorem dX11_method_99 : decode cX11_method 99 = .ok (.getfield 9, 3) := by decide +kernel
theorem dX11_method_102 : decode cX11_method 102 = .ok (.invokevirtual 85, 3) := by decide +kernel
theorem dX11_method_105 : decode cX11_method 105 = .ok (.aload_n 0, 1) := by decide +kernel
theorem dX11_method_106 : decode cX11_method 106 = .ok (.getfield 29, 3) := by decide +kernel
theorem dX11_method_109 : decode cX11_method 109 = .ok (.iload_n 1, 1) := by decide +kernel
theorem dX11_method_110 : decode cX11_method 110 = .ok (.invokevirtual 107, 3) := by decide +kernel
theorem dX11_method_113 : decode cX11_method 113 = .ok (.invokevirtual 121, 3) := by decide +kernel
theorem dX11_method_116 : decode cX11_method 116 = .ok (.ireturn, 1) := by decide +kernel
set_option maxRecDepth 20000 in
theorem ggX11_compose_X1_begin : GoodIn wsX11_compose wsX1_begin := goodIn_r _ [10, 11, 12, 13, 14, 15, 322, 323, 324, 325, 326, 327, 328, 329, 330, 331, 332, 333, 334, 335, 336, 337, 338] (by decide +kernel) (by decide +kernel)
set_option maxRecDepth 20000 in
theorem gX11_compose_X1_begin : GoodIn wsX11_compose (wsV RX11 122 RX1 yX1_begin wsX1_begin) := goodIn_app (goodIn_of _ (by decide +kernel)) ggX11_compose_X1_begin
set_option maxRecDepth 20000 in
theorem ggX11_compose_X10_readThrough : GoodIn wsX11_compose wsX10_readThrough := goodIn_r _ [21, 22, 23, 24, 25, 26, 27, 28, 29, 30, 31, 32, 33, 34, 35, 36, 37, 38, 39, 20, 40, 41, 42, 43, 44, 9, 45, 46, 47, 48, 49, 50, 51, 52, 53, 54, 55, 15, 56, 57, 58, 59, 60, 61, 62, 63, 64, 65, 66, 67, 68, 69, 70, 71, 72, 73, 74, 75, 76, 77, 78, 79, 80, 81, 82, 83, 84, 85, 86, 87, 88, 89, 90, 91, 92, 93, 94, 95, 96, 97, 98, 99, 100, 101, 102, 103, 104, 105, 106, 107, 108, 109, 110, 111, 112, 113, 114, 115, 116, 117, 118, 119, 12, 13, 14, 120, 121, 122, 123, 124, 125, 126, 127, 128, 129, 130, 131, 132, 133, 134, 135, 136, 137, 138, 139, 140, 141, 142, 143, 144, 145, 146, 147, 148, 11, 149, 150, 151, 152, 153, 154, 155, 156, 157, 158, 159, 160, 161, 162, 163, 164, 165, 166, 167, 168, 169, 170, 171, 172, 173, 174, 175, 176, 177, 178, 179, 180, 181, 182, 183, 184, 185, 186, 187, 188, 189, 190, 191, 192, 193, 194, 195, 196, 197, 198, 199, 200, 201, 202, 203, 204, 205, 206, 207, 208, 209, 210, 211, 212, 213, 214, 215, 216, 217, 218, 219, 220, 221, 222, 223, 322, 323, 324, 325, 326, 327, 328, 329, 330, 331, 332, 333, 334, 335, 336, 337, 338, 339, 340, 341, 342, 343, 344, 345, 346, 347, 348, 349, 350, 351, 352, 353, 354, 355, 356, 357, 358, 359, 360, 361, 362, 363, 364] (by decide +kernel) (by decide +kernel)
set_option maxRecDepth 20000 in
theorem gX11_compose_X10_readThrough_u124X1 : GoodIn wsX11_compose (va_wsU RX11 124 RX1 "BellTower$Text" ⟨"BellTower$CompositionText", "readThrough", "(LBellTower$Tape;)Z"⟩ yX10_readThrough wsX10_readThrough) := goodIn_app (goodIn_of _ (by decide +kernel)) ggX11_compose_X10_readThrough
set_option maxRecDepth 20000 in
theorem ggX11_compose_X9_size : GoodIn wsX11_compose wsX9_size := goodIn_r _ [29, 30, 353, 354] (by decide +kernel) (by decide +kernel)
set_option maxRecDepth 20000 in
theorem gX11_compose_X9_size : GoodIn wsX11_compose (wsV RX11 71 RX9 yX9_size wsX9_size) := goodIn_app (goodIn_of _ (by decide +kernel)) ggX11_compose_X9_size
set_option maxRecDepth 20000 in
theorem ggX11_compose_X1_spread : GoodIn wsX11_compose wsX1_spread := goodIn_r _ [228, 229, 12, 13, 230, 11, 231, 232, 233, 9, 234, 148, 149, 187, 113, 188, 235, 236, 237, 238, 239, 240, 241, 112, 114, 242, 243, 244, 245, 120, 121, 122, 246, 247, 248, 249, 250, 56, 57, 58, 59, 20, 60, 22, 23, 251, 252, 253, 254, 255, 322, 323, 324, 325, 326, 327, 328, 329, 330, 331, 332, 333, 334, 335, 336, 337, 338, 339, 340, 341, 342, 343, 344, 345, 346, 347, 348, 349, 350, 351, 352] (by decide +kernel) (by decide +kernel)
set_option maxRecDepth 20000 in
theorem gX11_compose_X1_spread : GoodIn wsX11_compose (wsV RX11 125 RX1 yX1_spread wsX1_spread) := goodIn_app (goodIn_of _ (by decide +kernel)) ggX11_compose_X1_spread
set_option maxRecDepth 20000 in
theorem ggX11_compose_X9_cut : GoodIn wsX11_compose wsX9_cut := goodIn_r _ [259, 30, 353, 354] (by decide +kernel) (by decide +kernel)
set_option maxRecDepth 20000 in
theorem gX11_compose_X9_cut : GoodIn wsX11_compose (wsV RX11 79 RX9 yX9_cut wsX9_cut) := goodIn_app (goodIn_of _ (by decide +kernel)) ggX11_compose_X9_cut
set_option maxRecDepth 20000 in
theorem ggX11_compose_X10_kind : GoodIn wsX11_compose wsX10_kind := goodIn_r _ [255, 22, 322, 323, 324, 325, 326, 327, 328, 329, 330, 331, 332, 333, 334, 335, 336, 337, 338, 339, 340, 341, 342, 343, 344, 345, 346, 347, 348, 349, 350, 351, 352] (by decide +kernel) (by decide +kernel)
set_option maxRecDepth 20000 in
theorem gX11_compose_X10_kind_u129X1 : GoodIn wsX11_compose (va_wsU RX11 129 RX1 "BellTower$Text" ⟨"BellTower$CompositionText", "kind", "()I"⟩ yX10_kind wsX10_kind) := goodIn_app (goodIn_of _ (by decide +kernel)) ggX11_compose_X10_kind
set_option maxRecDepth 20000 in
theorem ggX11_compose_X10_place : GoodIn wsX11_compose wsX10_place := goodIn_r _ [265, 23, 322, 323, 324, 325, 326, 327, 328, 329, 330, 331, 332, 333, 334, 335, 336, 337, 338, 339, 340, 341, 342, 343, 344, 345, 346, 347, 348, 349, 350, 351, 352] (by decide +kernel) (by decide +kernel)
set_option maxRecDepth 20000 in
theorem gX11_compose_X10_place_u130X1 : GoodIn wsX11_compose (va_wsU RX11 130 RX1 "BellTower$Text" ⟨"BellTower$CompositionText", "place", "()I"⟩ yX10_place wsX10_place) := goodIn_app (goodIn_of _ (by decide +kernel)) ggX11_compose_X10_place
set_option maxRecDepth 20000 in
theorem ggX11_compose_X5_clear : GoodIn wsX11_compose wsX5_clear := goodIn_r _ [270, 271, 272, 273, 274, 275, 276, 210, 88, 211, 365, 366, 367, 368, 369, 370, 371, 372, 373, 374, 375, 376] (by decide +kernel) (by decide +kernel)
set_option maxRecDepth 20000 in
theorem gX11_compose_X5_clear : GoodIn wsX11_compose (wsV RX11 85 RX5 yX5_clear wsX5_clear) := goodIn_app (goodIn_of _ (by decide +kernel)) ggX11_compose_X5_clear
set_option maxRecDepth 20000 in
theorem ggX11_compose_X1_size : GoodIn wsX11_compose wsX1_size := goodIn_r _ [280, 229, 322, 323, 324, 325, 326, 327, 328, 329, 330, 331, 332, 333, 334, 335, 336, 337, 338] (by decide +kernel) (by decide +kernel)
set_option maxRecDepth 20000 in
theorem gX11_compose_X1_size : GoodIn wsX11_compose (wsV RX11 131 RX1 yX1_size wsX1_size) := goodIn_app (goodIn_of _ (by decide +kernel)) ggX11_compose_X1_size
