set_option maxRecDepth 20000 in
theorem ggX0_init_X2_init : GoodIn wsX0_init wsX2_init := goodIn_r _ [10, 11, 2, 3, 12, 13, 14, 15, 16, 17, 18, 19, 20, 23, 24, 25, 26, 27, 28, 29, 30] (by decide +kernel) (by decide +kernel)
set_option maxRecDepth 20000 in
theorem gX0_init_X2_init_n17 : GoodIn wsX0_init (wsX2_init) := ggX0_init_X2_init
theorem dX0_init_0 : decode cX0_init 0 = .ok (.aload_n 0, 1) := by decide +kernel
theorem dX0_init_1 : decode cX0_init 1 = .ok (.invokespecial 3, 3) := by decide +kernel
theorem dX0_init_4 : decode cX0_init 4 = .ok (.aload_n 0, 1) := by decide +kernel
theorem dX0_init_5 : decode cX0_init 5 = .ok (.bipush 6, 2) := by decide +kernel
theorem dX0_init_7 : decode cX0_init 7 = .ok (.anewarray 9, 3) := by decide +kernel
theorem dX0_init_10 : decode cX0_init 10 = .ok (.putfield 11, 3) := by decide +kernel
theorem dX0_init_13 : decode cX0_init 13 = .ok (.aload_n 0, 1) := by decide +kernel
theorem dX0_init_14 : decode cX0_init 14 = .ok (.new 9, 3) := by decide +kernel
theorem dX0_init_17 : decode cX0_init 17 = .ok (.dup, 1) := by decide +kernel
theorem dX0_init_18 : decode cX0_init 18 = .ok (.invokespecial 17, 3) := by decide +kernel
theorem dX0_init_21 : decode cX0_init 21 = .ok (.putfield 18, 3) := by decide +kernel
theorem dX0_init_24 : decode cX0_init 24 = .ok (.iconst 0, 1) := by decide +kernel
theorem dX0_init_25 : decode cX0_init 25 = .ok (.istore_n 1, 1) := by decide +kernel
theorem dX0_init_26 : decode cX0_init 26 = .ok (.iload_n 1, 1) := by decide +kernel
theorem dX0_init_27 : decode cX0_init 27 = .ok (.aload_n 0, 1) := by decide +kernel
theorem dX0_init_28 : decode cX0_init 28 = .ok (.getfield 11, 3) := by decide +kernel
theorem dX0_init_31 : decode cX0_init 31 = .ok (.arraylength, 1) := by decide +kernel
theorem dX0_init_32 : decode cX0_init 32 = .ok (.if_icmp .ge 22, 3) := by decide +kernel
theorem dX0_init_35 : decode cX0_init 35 = .ok (.aload_n 0, 1) := by decide +kernel
theorem dX0_init_36 : decode cX0_init 36 = .ok (.getfield 11, 3) := by decide +kernel
theorem dX0_init_39 : decode cX0_init 39 = .ok (.iload_n 1, 1) := by decide +kernel
theorem dX0_init_40 : decode cX0_init 40 = .ok (.new 9, 3) := by decide +kernel
theorem dX0_init_43 : decode cX0_init 43 = .ok (.dup, 1) := by decide +kernel
theorem dX0_init_44 : decode cX0_init 44 = .ok (.invokespecial 17, 3) := by decide +kernel
theorem dX0_init_47 : decode cX0_init 47 = .ok (.aastore, 1) := by decide +kernel
theorem dX0_init_48 : decode cX0_init 48 = .ok (.iinc 1 1, 3) := by decide +kernel
theorem dX0_init_51 : decode cX0_init 51 = .ok (.goto (-25), 3) := by decide +kernel
theorem dX0_init_54 : decode cX0_init 54 = .ok (.return_, 1) := by decide +kernel
theorem dX0_at_0 : decode cX0_at 0 = .ok (.iload_n 1, 1) := by decide +kernel
theorem dX0_at_1 : decode cX0_at 1 = .ok (.ifCond .lt 12, 3) := by decide +kernel
theorem dX0_at_4 : decode cX0_at 4 = .ok (.iload_n 1, 1) := by decide +kernel
theorem dX0_at_5 : decode cX0_at 5 = .ok (.aload_n 0, 1) := by decide +kernel
theorem dX0_at_6 : decode cX0_at 6 = .ok (.getfield 11, 3) := by decide +kernel
theorem dX0_at_9 : decode cX0_at 9 = .ok (.arraylength, 1) := by decide +kernel
theorem dX0_at_10 : decode cX0_at 10 = .ok (.if_icmp .lt 8, 3) := by decide +kernel
theorem dX0_at_13 : decode cX0_at 13 = .ok (.aload_n 0, 1) := by decide +kernel
theorem dX0_at_14 : decode cX0_at 14 = .ok (.getfield 18, 3) := by decide +kernel
theorem dX0_at_17 : decode cX0_at 17 = .ok (.areturn, 1) := by decide +kernel
theorem dX0_at_18 : decode cX0_at 18 = .ok (.aload_n 0, 1) := by decide +kernel
theorem dX0_at_19 : decode cX0_at 19 = .ok (.getfield 11, 3) := by decide +kernel
theorem dX0_at_22 : decode cX0_at 22 = .ok (.iload_n 1, 1) := by decide +kernel
theorem dX0_at_23 : decode cX0_at 23 = .ok (.aaload, 1) := by decide +kernel
theorem dX0_at_24 : decode cX0_at 24 = .ok (.astore_n 2, 1) := by decide +kernel
theorem dX0_at_25 : decode cX0_at 25 = .ok (.aload_n 2, 1) := by decide +kernel
theorem dX0_at_26 : decode cX0_at 26 = .ok (.ifnonnull 10, 3) := by decide +kernel
theorem dX0_at_29 : decode cX0_at 29 = .ok (.aload_n 0, 1) := by decide +kernel
theorem dX0_at_30 : decode cX0_at 30 = .ok (.getfield 18, 3) := by decide +kernel
theorem dX0_at_33 : decode cX0_at 33 = .ok (.goto 4, 3) := by decide +kernel
theorem dX0_at_36 : decode cX0_at 36 = .ok (.aload_n 2, 1) := by decide +kernel
theorem dX0_at_37 : decode cX0_at 37 = .ok (.areturn, 1) := by decide +kernel
set_option maxRecDepth 20000 in
theorem ggX0_has_X0_at : GoodIn wsX0_has wsX0_at := goodIn_r _ [5, 6, 7, 14, 15] (by decide +kernel) (by decide +kernel)
set_option maxRecDepth 20000 in
theorem gX0_has_X0_at : GoodIn wsX0_has (wsV RX0 22 RX0 yX0_at wsX0_at) := goodIn_app (goodIn_of _ (by decide +kernel)) ggX0_has_X0_at
set_option maxRecDepth 20000 in
theorem ggX0_has_X2_size : GoodIn wsX0_has wsX2_size := goodIn_r _ [12, 13, 16, 17, 18, 19, 20, 21, 22, 23] (by decide +kernel) (by decide +kernel)
set_option maxRecDepth 20000 in
theorem gX0_has_X2_size : GoodIn wsX0_has (wsV RX0 26 RX2 yX2_size wsX2_size) := goodIn_app (goodIn_of _ (by decide +kernel)) ggX0_has_X2_size
theorem dX0_has_0 : decode cX0_has 0 = .ok (.aload_n 0, 1) := by decide +kernel
theorem dX0_has_1 : decode cX0_has 1 = .ok (.iload_n 1, 1) := by decide +kernel
theorem dX0_has_2 : decode cX0_has 2 = .ok (.invokevirtual 22, 3) := by decide +kernel
theorem dX0_has_5 : decode cX0_has 5 = .ok (.invokevirtual 26, 3) := by decide +kernel
theorem dX0_has_8 : decode cX0_has 8 = .ok (.ifCond .le 7, 3) := by decide +kernel
theorem dX0_has_11 : decode cX0_has 11 = .ok (.iconst 1, 1) := by decide +kernel
theorem dX0_has_12 : decode cX0_has 12 = .ok (.goto 4, 3) := by decide +kernel
theorem dX0_has_15 : decode cX0_has 15 = .ok (.iconst 0, 1) := by decide +kernel
theorem dX0_has_16 : decode cX0_has 16 = .ok (.ireturn, 1) := by decide +kernel
set_option maxRecDepth 20000 in
theorem ggX0_size_X0_has : GoodIn wsX0_size wsX0_has := goodIn_r _ [5, 6, 7, 8, 4, 9, 10, 11, 12, 13, 14, 15, 16, 17, 21, 22, 23, 24, 25, 26, 27, 28, 29, 30] (by decide +kernel) (by decide +kernel)
set_option maxRecDepth 20000 in
theorem gX0_size_X0_has : GoodIn wsX0_size (wsV RX0 30 RX0 yX0_has wsX0_has) := goodIn_app (goodIn_of _ (by decide +kernel)) ggX0_size_X0_has
set_option maxRecDepth 20000 in
theorem ggX0_size_X11_oneIf : GoodIn wsX0_size wsX11_oneIf := goodIn_r _ [20] (by decide +kernel) (by decide +kernel)
set_option maxRecDepth 20000 in
theorem gX0_size_X11_oneIf_n34 : GoodIn wsX0_size (wsX11_oneIf) := ggX0_size_X11_oneIf
theorem dX0_size_0 : decode cX0_size 0 = .ok (.iconst 0, 1) := by decide +kernel
theorem dX0_size_1 : decode cX0_size 1 = .ok (.istore_n 1, 1) := by decide +kernel
theorem dX0_size_2 : decode cX0_size 2 = .ok (.iconst 0, 1) := by decide +kernel
theorem dX0_size_3 : decode cX0_size 3 = .ok (.istore_n 2, 1) := by decide +kernel
theorem dX0_size_4 : decode cX0_size 4 = .ok (.iload_n 2, 1) := by decide +kernel
theorem dX0_size_5 : decode cX0_size 5 = .ok (.bipush 6, 2) := by decide +kernel
theorem dX0_size_7 : decode cX0_size 7 = .ok (.if_icmp .ge 20, 3) := by decide +kernel
theorem dX0_size_10 : decode cX0_size 10 = .ok (.iload_n 1, 1) := by decide +kernel
theorem dX0_size_11 : decode cX0_size 11 = .ok (.aload_n 0, 1) := by decide +kernel
theorem dX0_size_12 : decode cX0_size 12 = .ok (.iload_n 2, 1) := by decide +kernel
theorem dX0_size_13 : decode cX0_size 13 = .ok (.invokevirtual 30, 3) := by decide +kernel
theorem dX0_size_16 : decode cX0_size 16 = .ok (.invokestatic 34, 3) := by decide +kernel
theorem dX0_size_19 : decode cX0_size 19 = .ok (.iadd, 1) := by decide +kernel
theorem dX0_size_20 : decode cX0_size 20 = .ok (.istore_n 1, 1) := by decide +kernel
theorem dX0_size_21 : decode cX0_size 21 = .ok (.iinc 2 1, 3) := by decide +kernel
theorem dX0_size_24 : decode cX0_size 24 = .ok (.goto (-20), 3) := by decide +kernel
theorem dX0_size_27 : decode cX0_size 27 = .ok (.iload_n 1, 1) := by decide +kernel
theorem dX0_size_28 : decode cX0_size 28 = .ok (.ireturn, 1) := by decide +kernel
set_option maxRecDepth 20000 in
theorem ggX0_clear_X0_at : GoodIn wsX0_clear wsX0_at := goodIn_r _ [5, 6, 7, 14, 15] (by decide +kernel) (by decide +kernel)
set_option maxRecDepth 20000 in
theorem gX0_clear_X0_at : GoodIn wsX0_clear (wsV RX0 22 RX0 yX0_at wsX0_at) := goodIn_app (goodIn_of _ (by decide +kernel)) ggX0_clear_X0_at
set_option maxRecDepth 20000 in
theorem ggX0_clear_X2_clear : GoodIn wsX0_clear wsX2_clear := goodIn_r _ [12, 13, 16, 17, 18, 19, 20, 21, 22, 23] (by decide +kernel) (by decide +kernel)
set_option maxRecDepth 20000 in
theorem gX0_clear_X2_clear : GoodIn wsX0_clear (wsV RX0 38 RX2 yX2_clear wsX2_clear) := goodIn_app (goodIn_of _ (by decide +kernel)) ggX0_clear_X2_clear
theorem dX0_clear_0 : decode cX0_clear 0 = .ok (.iconst 0, 1) := by decide +kernel
theorem dX0_clear_1 : decode cX0_clear 1 = .ok (.istore_n 1, 1) := by decide +kernel
theorem dX0_clear_2 : decode cX0_clear 2 = .ok (.iload_n 1, 1) := by decide +kernel
theorem dX0_clear_3 : decode cX0_clear 3 = .ok (.bipush 6, 2) := by decide +kernel
theorem dX0_clear_5 : decode cX0_clear 5 = .ok (.if_icmp .ge 17, 3) := by decide +kernel
theorem dX0_clear_8 : decode cX0_clear 8 = .ok (.aload_n 0, 1) := by decide +kernel
theorem dX0_clear_9 : decode cX0_clear 9 = .ok (.iload_n 1, 1) := by decide +kernel
theorem dX0_clear_10 : decode cX0_clear 10 = .ok (.invokevirtual 22, 3) := by decide +kernel
theorem dX0_clear_13 : decode cX0_clear 13 = .ok (.invokevirtual 38, 3) := by decide +kernel
theorem dX0_clear_16 : decode cX0_clear 16 = .ok (.iinc 1 1, 3) := by decide +kernel
theorem dX0_clear_19 : decode cX0_clear 19 = .ok (.goto (-17), 3) := by decide +kernel
theorem dX0_clear_22 : decode cX0_clear 22 = .ok (.return_, 1) := by decide +kernel
set_option maxRecDepth 20000 in
theorem ggX1_init_X10_init : GoodIn wsX1_init wsX10_init := goodIn_r _ [18, 19, 20, 21, 22, 23, 24, 25, 26, 27, 28, 29, 30, 31, 32, 33, 34, 35, 36, 37, 38, 39, 40, 41, 42, 43, 44, 45, 46, 47, 48, 49, 50, 51, 52, 53, 54, 55] (by decide +kernel) (by decide +kernel)
set_option maxRecDepth 20000 in
theorem gX1_init_X10_init_n3 : GoodIn wsX1_init (wsX10_init) := ggX1_init_X10_init
theorem dX1_init_0 : decode cX1_init 0 = .ok (.aload_n 0, 1) := by decide +kernel
theorem dX1_init_1 : decode cX1_init 1 = .ok (.invokespecial 3, 3) := by decide +kernel
theorem dX1_init_4 : decode cX1_init 4 = .ok (.aload_n 0, 1) := by decide +kernel
theorem dX1_init_5 : decode cX1_init 5 = .ok (.sipush 500, 3) := by decide +kernel
theorem dX1_init_8 : decode cX1_init 8 = .ok (.newarray .int, 2) := by decide +kernel
theorem dX1_init_10 : decode cX1_init 10 = .ok (.putfield 9, 3) := by decide +kernel
theorem dX1_init_13 : decode cX1_init 13 = .ok (.aload_n 0, 1) := by decide +kernel
theorem dX1_init_14 : decode cX1_init 14 = .ok (.sipush 500, 3) := by decide +kernel
theorem dX1_init_17 : decode cX1_init 17 = .ok (.newarray .int, 2) := by decide +kernel
theorem dX1_init_19 : decode cX1_init 19 = .ok (.putfield 15, 3) := by decide +kernel
theorem dX1_init_22 : decode cX1_init 22 = .ok (.aload_n 0, 1) := by decide +kernel
theorem dX1_init_23 : decode cX1_init 23 = .ok (.iconst 0, 1) := by decide +kernel
theorem dX1_init_24 : decode cX1_init 24 = .ok (.putfield 18, 3) := by decide +kernel
theorem dX1_init_27 : decode cX1_init 27 = .ok (.aload_n 0, 1) := by decide +kernel
theorem dX1_init_28 : decode cX1_init 28 = .ok (.iconst 0, 1) := by decide +kernel
theorem dX1_init_29 : decode cX1_init 29 = .ok (.putfield 22, 3) := by decide +kernel
theorem dX1_init_32 : decode cX1_init 32 = .ok (.aload_n 0, 1) := by decide +kernel
theorem dX1_init_33 : decode cX1_init 33 = .ok (.iconst 0, 1) := by decide +kernel
theorem dX1_init_34 : decode cX1_init 34 = .ok (.putfield 25, 3) := by decide +kernel
theorem dX1_init_37 : decode cX1_init 37 = .ok (.aload_n 0, 1) := by decide +kernel
theorem dX1_init_38 : decode cX1_init 38 = .ok (.iconst 1, 1) := by decide +kernel
theorem dX1_init_39 : decode cX1_init 39 = .ok (.putfield 28, 3) := by decide +kernel
theorem dX1_init_42 : decode cX1_init 42 = .ok (.aload_n 0, 1) := by decide +kernel
theorem dX1_init_43 : decode cX1_init 43 = .ok (.iconst (-1), 1) := by decide +kernel
theorem dX1_init_44 : decode cX1_init 44 = .ok (.putfield 32, 3) := by decide +kernel
theorem dX1_init_47 : decode cX1_init 47 = .ok (.aload_n 0, 1) := by decide +kernel
theorem dX1_init_48 : decode cX1_init 48 = .ok (.iconst 0, 1) := by decide +kernel
theorem dX1_init_49 : decode cX1_init 49 = .ok (.putfield 35, 3) := by decide +kernel
theorem dX1_init_52 : decode cX1_init 52 = .ok (.aload_n 0, 1) := by decide +kernel
theorem dX1_init_53 : decode cX1_init 53 = .ok (.iconst 5, 1) := by decide +kernel
theorem dX1_init_54 : decode cX1_init 54 = .ok (.newarray .int, 2) := by decide +kernel
theorem dX1_init_56 : decode cX1_init 56 = .ok (.putfield 38, 3) := by decide +kernel
theorem dX1_init_59 : decode cX1_init 59 = .ok (.aload_n 0, 1) := by decide +kernel
theorem dX1_init_60 : decode cX1_init 60 = .ok (.iconst 5, 1) := by decide +kernel
theorem dX1_init_61 : decode cX1_init 61 = .ok (.newarray .int, 2) := by decide +kernel
theorem dX1_init_63 : decode cX1_init 63 = .ok (.putfield 41, 3) := by decide +kernel
theorem dX1_init_66 : decode cX1_init 66 = .ok (.aload_n 0, 1) := by decide +kernel
theorem dX1_init_67 : decode cX1_init 67 = .ok (.iconst 5, 1) := by decide +kernel
theorem dX1_init_68 : decode cX1_init 68 = .ok (.newarray .int, 2) := by decide +kernel
theorem dX1_init_70 : decode cX1_init 70 = .ok (.putfield 44, 3) := by decide +kernel
theorem dX1_init_73 : decode cX1_init 73 = .ok (.aload_n 0, 1) := by decide +kernel
theorem dX1_init_74 : decode cX1_init 74 = .ok (.sipush 1000, 3) := by decide +kernel
theorem dX1_init_77 : decode cX1_init 77 = .ok (.newarray .int, 2) := by decide +kernel
theorem dX1_init_79 : decode cX1_init 79 = .ok (.putfield 47, 3) := by decide +kernel
theorem dX1_init_82 : decode cX1_init 82 = .ok (.aload_n 0, 1) := by decide +kernel
theorem dX1_init_83 : decode cX1_init 83 = .ok (.iconst 0, 1) := by decide +kernel
theorem dX1_init_84 : decode cX1_init 84 = .ok (.putfield 50, 3) := by decide +kernel
theorem dX1_init_87 : decode cX1_init 87 = .ok (.aload_n 0, 1) := by decide +kernel
theorem dX1_init_88 : decode cX1_init 88 = .ok (.aload_n 1, 1) := by decide +kernel
theorem dX1_init_89 : decode cX1_init 89 = .ok (.putfield 53, 3) := by decide +kernel
theorem dX1_init_92 : decode cX1_init 92 = .ok (.return_, 1) := by decide +kernel
theorem dX1_size_0 : decode cX1_size 0 = .ok (.aload_n 0, 1) := by decide +kernel
theorem dX1_size_1 : decode cX1_size 1 = .ok (.getfield 50, 3) := by decide +kernel
theorem dX1_size_4 : decode cX1_size 4 = .ok (.ireturn, 1) := by decide +kernel
set_option maxRecDepth 20000 in
theorem ggX1_letterOf_X11_cell : GoodIn wsX1_letterOf wsX11_cell := goodIn_r _ [4] (by decide +kernel) (by decide +kernel)
set_option maxRecDepth 20000 in
theorem gX1_letterOf_X11_cell_n57 : GoodIn wsX1_letterOf (wsX11_cell) := ggX1_letterOf_X11_cell
theorem dX1_letterOf_0 : decode cX1_letterOf 0 = .ok (.aload_n 0, 1) := by decide +kernel
theorem dX1_letterOf_1 : decode cX1_letterOf 1 = .ok (.getfield 47, 3) := by decide +kernel
theorem dX1_letterOf_4 : decode cX1_letterOf 4 = .ok (.iload_n 1, 1) := by decide +kernel
theorem dX1_letterOf_5 : decode cX1_letterOf 5 = .ok (.invokestatic 57, 3) := by decide +kernel
theorem dX1_letterOf_8 : decode cX1_letterOf 8 = .ok (.iconst 3, 1) := by decide +kernel
theorem dX1_letterOf_9 : decode cX1_letterOf 9 = .ok (.idiv, 1) := by decide +kernel
theorem dX1_letterOf_10 : decode cX1_letterOf 10 = .ok (.ireturn, 1) := by decide +kernel
set_option maxRecDepth 20000 in
theorem ggX1_callOf_X11_cell : GoodIn wsX1_callOf wsX11_cell := goodIn_r _ [4] (by decide +kernel) (by decide +kernel)
set_option maxRecDepth 20000 in
theorem gX1_callOf_X11_cell_n57 : GoodIn wsX1_callOf (wsX11_cell) := ggX1_callOf_X11_cell
theorem dX1_callOf_0 : decode cX1_callOf 0 = .ok (.aload_n 0, 1) := by decide +kernel
theorem dX1_callOf_1 : decode cX1_callOf 1 = .ok (.getfield 47, 3) := by decide +kernel
theorem dX1_callOf_4 : decode cX1_callOf 4 = .ok (.iload_n 1, 1) := by decide +kernel
theorem dX1_callOf_5 : decode cX1_callOf 5 = .ok (.invokestatic 57, 3) := by decide +kernel
theorem dX1_callOf_8 : decode cX1_callOf 8 = .ok (.iconst 3, 1) := by decide +kernel
theorem dX1_callOf_9 : decode cX1_callOf 9 = .ok (.irem, 1) := by decide +kernel
theorem dX1_callOf_10 : decode cX1_callOf 10 = .ok (.ireturn, 1) := by decide +kernel
theorem dX1_begin_0 : decode cX1_begin 0 = .ok (.aload_n 0, 1) := by decide +kernel
theorem dX1_begin_1 : decode cX1_begin 1 = .ok (.iconst 0, 1) := by decide +kernel
theorem dX1_begin_2 : decode cX1_begin 2 = .ok (.putfield 18, 3) := by decide +kernel
theorem dX1_begin_5 : decode cX1_begin 5 = .ok (.aload_n 0, 1) := by decide +kernel
theorem dX1_begin_6 : decode cX1_begin 6 = .ok (.iconst 0, 1) := by decide +kernel
theorem dX1_begin_7 : decode cX1_begin 7 = .ok (.putfield 22, 3) := by decide +kernel
theorem dX1_begin_10 : decode cX1_begin 10 = .ok (.aload_n 0, 1) := by decide +kernel
theorem dX1_begin_11 : decode cX1_begin 11 = .ok (.iconst 0, 1) := by decide +kernel
theorem dX1_begin_12 : decode cX1_begin 12 = .ok (.putfield 25, 3) := by decide +kernel
theorem dX1_begin_15 : decode cX1_begin 15 = .ok (.aload_n 0, 1) := by decide +kernel
theorem dX1_begin_16 : decode cX1_begin 16 = .ok (.iconst 1, 1) := by decide +kernel
theorem dX1_begin_17 : decode cX1_begin 17 = .ok (.putfield 28, 3) := by decide +kernel
theorem dX1_begin_20 : decode cX1_begin 20 = .ok (.aload_n 0, 1) := by decide +kernel
theorem dX1_begin_21 : decode cX1_begin 21 = .ok (.iconst (-1), 1) := by decide +kernel
theorem dX1_begin_22 : decode cX1_begin 22 = .ok (.putfield 32, 3) := by decide +kernel
theorem dX1_begin_25 : decode cX1_begin 25 = .ok (.return_, 1) := by decide +kernel
theorem dX1_isDigit_0 : decode cX1_isDigit 0 = .ok (.iload_n 1, 1) := by decide +kernel
theorem dX1_isDigit_1 : decode cX1_isDigit 1 = .ok (.bipush 48, 2) := by decide +kernel
theorem dX1_isDigit_3 : decode cX1_isDigit 3 = .ok (.if_icmp .lt 13, 3) := by decide +kernel
theorem dX1_isDigit_6 : decode cX1_isDigit 6 = .ok (.iload_n 1, 1) := by decide +kernel
theorem dX1_isDigit_7 : decode cX1_isDigit 7 = .ok (.bipush 57, 2) := by decide +kernel
theorem dX1_isDigit_9 : decode cX1_isDigit 9 = .ok (.if_icmp .gt 7, 3) := by decide +kernel
theorem dX1_isDigit_12 : decode cX1_isDigit 12 = .ok (.iconst 1, 1) := by decide +kernel
theorem dX1_isDigit_13 : decode cX1_isDigit 13 = .ok (.goto 4, 3) := by decide +kernel
theorem dX1_isDigit_16 : decode cX1_isDigit 16 = .ok (.iconst 0, 1) := by decide +kernel
theorem dX1_isDigit_17 : decode cX1_isDigit 17 = .ok (.ireturn, 1) := by decide +kernel
set_option maxRecDepth 20000 in
theorem ggX1_takeSign_X1_callFor : GoodIn wsX1_takeSign wsX1_callFor := goodIn_r _ [8] (by decide +kernel) (by decide +kernel)
set_option maxRecDepth 20000 in
theorem gX1_takeSign_X1_callFor : GoodIn wsX1_takeSign (va_wsS RX1 61 yX1_callFor wsX1_callFor) := goodIn_app (goodIn_of _ (by decide +kernel)) ggX1_takeSign_X1_callFor
set_option maxRecDepth 20000 in
theorem ggX1_takeSign_X1_takeUnit : GoodIn wsX1_takeSign wsX1_takeUnit := goodIn_r _ [12, 13, 3, 14, 15, 16, 17, 18, 19, 20, 21, 22, 23, 24, 25, 26, 27, 28, 29, 30, 31, 32, 33, 34, 35, 36, 37, 38, 39, 40, 41, 7, 42, 43, 44, 45, 4, 46, 47, 48, 57, 58, 59, 60, 61, 62, 63, 64, 65, 66, 67, 68, 69, 70, 71, 72, 73, 74, 75, 76, 77, 78, 79, 80, 81, 82, 83, 84, 85, 86, 87, 88, 89, 90, 91, 92, 93, 94, 95, 96, 97] (by decide +kernel) (by decide +kernel)
set_option maxRecDepth 20000 in
theorem gX1_takeSign_X1_takeUnit : GoodIn wsX1_takeSign (wsV RX1 65 RX1 yX1_takeUnit wsX1_takeUnit) := goodIn_app (goodIn_of _ (by decide +kernel)) ggX1_takeSign_X1_takeUnit
set_option maxRecDepth 20000 in
theorem ggX1_takeSign_X1_openGroup : GoodIn wsX1_takeSign wsX1_openGroup := goodIn_r _ [52, 2, 3, 31, 32, 33, 34, 35, 36, 37, 38, 39, 40, 41, 7, 42, 43, 44, 45, 4, 46, 47, 48, 57, 58, 59, 60, 61, 62, 63, 64, 65, 66, 67, 68, 69, 70, 71, 72, 73, 84, 85, 86, 87, 88, 89, 90, 91, 92, 93, 94, 95, 96, 97] (by decide +kernel) (by decide +kernel)
set_option maxRecDepth 20000 in
theorem gX1_takeSign_X1_openGroup : GoodIn wsX1_takeSign (wsV RX1 69 RX1 yX1_openGroup wsX1_openGroup) := goodIn_app (goodIn_of _ (by decide +kernel)) ggX1_takeSign_X1_openGroup
set_option maxRecDepth 20000 in
theorem ggX1_takeSign_X1_closeGroup : GoodIn wsX1_takeSign wsX1_closeGroup := goodIn_r _ [56, 2, 3, 4, 31, 32, 33, 34, 35, 36, 37, 38, 39, 40, 41, 7, 42, 43, 44, 45, 46, 47, 48, 57, 58, 59, 60, 61, 62, 63, 64, 65, 66, 67, 68, 69, 70, 71, 72, 73, 84, 85, 86, 87, 88, 89, 90, 91, 92, 93, 94, 95, 96, 97] (by decide +kernel) (by decide +kernel)
set_option maxRecDepth 20000 in
theorem gX1_takeSign_X1_closeGroup : GoodIn wsX1_takeSign (wsV RX1 73 RX1 yX1_closeGroup wsX1_closeGroup) := goodIn_app (goodIn_of _ (by decide +kernel)) ggX1_takeSign_X1_closeGroup
set_option maxRecDepth 20000 in
theorem ggX1_takeSign_X10_refuse : GoodIn wsX1_takeSign wsX10_refuse := goodIn_r _ [36, 37, 38, 57, 58, 59, 60, 61, 62, 63, 64, 65, 66, 67, 68, 69, 70, 71, 72, 73, 84, 85, 86, 87, 88, 89, 90, 91, 92, 93, 94, 95, 96, 97] (by decide +kernel) (by decide +kernel)
set_option maxRecDepth 20000 in
theorem gX1_takeSign_X10_refuse_u76X1 : GoodIn wsX1_takeSign (va_wsU RX1 76 RX1 "BellTower$Text" ⟨"BellTower$CompositionText", "refuse", "(II)V"⟩ yX10_refuse wsX10_refuse) := goodIn_app (goodIn_of _ (by decide +kernel)) ggX1_takeSign_X10_refuse
theorem dX1_takeSign_0 : decode cX1_takeSign 0 = .ok (.iload_n 1, 1) := by decide +kernel
theorem dX1_takeSign_1 : decode cX1_takeSign 1 = .ok (.bipush 32, 2) := by decide +kernel
theorem dX1_takeSign_3 : decode cX1_takeSign 3 = .ok (.if_icmp .eq 9, 3) := by decide +kernel
theorem dX1_takeSign_6 : decode cX1_takeSign 6 = .ok (.iload_n 1, 1) := by decide +kernel
theorem dX1_takeSign_7 : decode cX1_takeSign 7 = .ok (.bipush 10, 2) := by decide +kernel
theorem dX1_takeSign_9 : decode cX1_takeSign 9 = .ok (.if_icmp .ne 4, 3) := by decide +kernel
theorem dX1_takeSign_12 : decode cX1_takeSign 12 = .ok (.return_, 1) := by decide +kernel
theorem dX1_takeSign_13 : decode cX1_takeSign 13 = .ok (.iload_n 1, 1) := by decide +kernel
theorem dX1_takeSign_14 : decode cX1_takeSign 14 = .ok (.invokestatic 61, 3) := by decide +kernel
theorem dX1_takeSign_17 : decode cX1_takeSign 17 = .ok (.iconst (-1), 1) := by decide +kernel
theorem dX1_takeSign_18 : decode cX1_takeSign 18 = .ok (.if_icmp .eq 16, 3) := by decide +kernel
theorem dX1_takeSign_21 : decode cX1_takeSign 21 = .ok (.aload_n 0, 1) := by decide +kernel
theorem dX1_takeSign_22 : decode cX1_takeSign 22 = .ok (.iload_n 1, 1) := by decide +kernel
theorem dX1_takeSign_23 : decode cX1_takeSign 23 = .ok (.aload_n 0, 1) := by decide +kernel
theorem dX1_takeSign_24 : decode cX1_takeSign 24 = .ok (.getfield 22, 3) := by decide +kernel
theorem dX1_takeSign_27 : decode cX1_takeSign 27 = .ok (.iload_n 2, 1) := by decide +kernel
theorem dX1_takeSign_28 : decode cX1_takeSign 28 = .ok (.invokevirtual 65, 3) := by decide +kernel
theorem dX1_takeSign_31 : decode cX1_takeSign 31 = .ok (.goto 97, 3) := by decide +kernel
theorem dX1_takeSign_34 : decode cX1_takeSign 34 = .ok (.iload_n 1, 1) := by decide +kernel
theorem dX1_takeSign_35 : decode cX1_takeSign 35 = .ok (.bipush 65, 2) := by decide +kernel
theorem dX1_takeSign_37 : decode cX1_takeSign 37 = .ok (.if_icmp .lt 30, 3) := by decide +kernel
theorem dX1_takeSign_40 : decode cX1_takeSign 40 = .ok (.iload_n 1, 1) := by decide +kernel
theorem dX1_takeSign_41 : decode cX1_takeSign 41 = .ok (.bipush 70, 2) := by decide +kernel
theorem dX1_takeSign_43 : decode cX1_takeSign 43 = .ok (.if_icmp .gt 24, 3) := by decide +kernel
theorem dX1_takeSign_46 : decode cX1_takeSign 46 = .ok (.aload_n 0, 1) := by decide +kernel
theorem dX1_takeSign_47 : decode cX1_takeSign 47 = .ok (.iload_n 1, 1) := by decide +kernel
theorem dX1_takeSign_48 : decode cX1_takeSign 48 = .ok (.bipush 65, 2) := by decide +kernel
theorem dX1_takeSign_50 : decode cX1_takeSign 50 = .ok (.isub, 1) := by decide +kernel
theorem dX1_takeSign_51 : decode cX1_takeSign 51 = .ok (.putfield 22, 3) := by decide +kernel
theorem dX1_takeSign_54 : decode cX1_takeSign 54 = .ok (.aload_n 0, 1) := by decide +kernel
theorem dX1_takeSign_55 : decode cX1_takeSign 55 = .ok (.iload_n 1, 1) := by decide +kernel
theorem dX1_takeSign_56 : decode cX1_takeSign 56 = .ok (.aload_n 0, 1) := by decide +kernel
theorem dX1_takeSign_57 : decode cX1_takeSign 57 = .ok (.getfield 22, 3) := by decide +kernel
theorem dX1_takeSign_60 : decode cX1_takeSign 60 = .ok (.iload_n 2, 1) := by decide +kernel
theorem dX1_takeSign_61 : decode cX1_takeSign 61 = .ok (.invokevirtual 65, 3) := by decide +kernel
theorem dX1_takeSign_64 : decode cX1_takeSign 64 = .ok (.goto 64, 3) := by decide +kernel
theorem dX1_takeSign_67 : decode cX1_takeSign 67 = .ok (.iload_n 1, 1) := by decide +kernel
theorem dX1_takeSign_68 : decode cX1_takeSign 68 = .ok (.bipush 40, 2) := by decide +kernel
theorem dX1_takeSign_70 : decode cX1_takeSign 70 = .ok (.if_icmp .ne 11, 3) := by decide +kernel
theorem dX1_takeSign_73 : decode cX1_takeSign 73 = .ok (.aload_n 0, 1) := by decide +kernel
theorem dX1_takeSign_74 : decode cX1_takeSign 74 = .ok (.iload_n 2, 1) := by decide +kernel
theorem dX1_takeSign_75 : decode cX1_takeSign 75 = .ok (.invokevirtual 69, 3) := by decide +kernel
theorem dX1_takeSign_78 : decode cX1_takeSign 78 = .ok (.goto 50, 3) := by decide +kernel
theorem dX1_takeSign_81 : decode cX1_takeSign 81 = .ok (.iload_n 1, 1) := by decide +kernel
theorem dX1_takeSign_82 : decode cX1_takeSign 82 = .ok (.bipush 41, 2) := by decide +kernel
theorem dX1_takeSign_84 : decode cX1_takeSign 84 = .ok (.if_icmp .ne 11, 3) := by decide +kernel
theorem dX1_takeSign_87 : decode cX1_takeSign 87 = .ok (.aload_n 0, 1) := by decide +kernel
theorem dX1_takeSign_88 : decode cX1_takeSign 88 = .ok (.iload_n 2, 1) := by decide +kernel
theorem dX1_takeSign_89 : decode cX1_takeSign 89 = .ok (.invokevirtual 73, 3) := by decide +kernel
theorem dX1_takeSign_92 : decode cX1_takeSign 92 = .ok (.goto 36, 3) := by decide +kernel
theorem dX1_takeSign_95 : decode cX1_takeSign 95 = .ok (.iload_n 1, 1) := by decide +kernel
theorem dX1_takeSign_96 : decode cX1_takeSign 96 = .ok (.iconst (-1), 1) := by decide +kernel
theorem dX1_takeSign_97 : decode cX1_takeSign 97 = .ok (.if_icmp .ne 25, 3) := by decide +kernel
theorem dX1_takeSign_100 : decode cX1_takeSign 100 = .ok (.aload_n 0, 1) := by decide +kernel
theorem dX1_takeSign_101 : decode cX1_takeSign 101 = .ok (.getfield 25, 3) := by decide +kernel
theorem dX1_takeSign_104 : decode cX1_takeSign 104 = .ok (.ifCond .gt 18, 3) := by decide +kernel
theorem dX1_takeSign_107 : decode cX1_takeSign 107 = .ok (.aload_n 0, 1) := by decide +kernel
theorem dX1_takeSign_108 : decode cX1_takeSign 108 = .ok (.getfield 28, 3) := by decide +kernel
theorem dX1_takeSign_111 : decode cX1_takeSign 111 = .ok (.ifCond .ne 11, 3) := by decide +kernel
theorem dX1_takeSign_114 : decode cX1_takeSign 114 = .ok (.aload_n 0, 1) := by decide +kernel
theorem dX1_takeSign_115 : decode cX1_takeSign 115 = .ok (.getfield 32, 3) := by decide +kernel
theorem dX1_takeSign_118 : decode cX1_takeSign 118 = .ok (.iconst (-1), 1) := by decide +kernel
theorem dX1_takeSign_119 : decode cX1_takeSign 119 = .ok (.if_icmp .eq 9, 3) := by decide +kernel
theorem dX1_takeSign_122 : decode cX1_takeSign 122 = .ok (.aload_n 0, 1) := by decide +kernel
theorem dX1_takeSign_123 : decode cX1_takeSign 123 = .ok (.iconst 1, 1) := by decide +kernel
theorem dX1_takeSign_124 : decode cX1_takeSign 124 = .ok (.iload_n 2, 1) := by decide +kernel
theorem dX1_takeSign_125 : decode cX1_takeSign 125 = .ok (.invokevirtual 76, 3) := by decide +kernel
theorem dX1_takeSign_128 : decode cX1_takeSign 128 = .ok (.return_, 1) := by decide +kernel
set_option maxRecDepth 20000 in
theorem ggX1_takeDigit_X10_refuse : GoodIn wsX1_takeDigit wsX10_refuse := goodIn_r _ [8, 9, 10, 11, 12, 13, 14, 15, 16, 17, 18, 19, 20, 21, 22, 23, 24, 25, 26, 27, 28, 29, 30, 31, 32, 33, 34, 35, 36, 37, 38, 39, 40, 41] (by decide +kernel) (by decide +kernel)
set_option maxRecDepth 20000 in
theorem gX1_takeDigit_X10_refuse_u76X1 : GoodIn wsX1_takeDigit (va_wsU RX1 76 RX1 "BellTower$Text" ⟨"BellTower$CompositionText", "refuse", "(II)V"⟩ yX10_refuse wsX10_refuse) := goodIn_app (goodIn_of _ (by decide +kernel)) ggX1_takeDigit_X10_refuse
theorem dX1_takeDigit_0 : decode cX1_takeDigit 0 = .ok (.iload_n 2, 1) := by decide +kernel
theorem dX1_takeDigit_1 : decode cX1_takeDigit 1 = .ok (.ifCond .ne 42, 3) := by decide +kernel
theorem dX1_takeDigit_4 : decode cX1_takeDigit 4 = .ok (.aload_n 0, 1) := by decide +kernel
theorem dX1_takeDigit_5 : decode cX1_takeDigit 5 = .ok (.dup, 1) := by decide +kernel
theorem dX1_takeDigit_6 : decode cX1_takeDigit 6 = .ok (.getfield 35, 3) := by decide +kernel
theorem dX1_takeDigit_9 : decode cX1_takeDigit 9 = .ok (.iconst 1, 1) := by decide +kernel
theorem dX1_takeDigit_10 : decode cX1_takeDigit 10 = .ok (.iadd, 1) := by decide +kernel
theorem dX1_takeDigit_11 : decode cX1_takeDigit 11 = .ok (.putfield 35, 3) := by decide +kernel
theorem dX1_takeDigit_14 : decode cX1_takeDigit 14 = .ok (.aload_n 0, 1) := by decide +kernel
theorem dX1_takeDigit_15 : decode cX1_takeDigit 15 = .ok (.aload_n 0, 1) := by decide +kernel
theorem dX1_takeDigit_16 : decode cX1_takeDigit 16 = .ok (.getfield 35, 3) := by decide +kernel
theorem dX1_takeDigit_19 : decode cX1_takeDigit 19 = .ok (.iconst 2, 1) := by decide +kernel
theorem dX1_takeDigit_20 : decode cX1_takeDigit 20 = .ok (.if_icmp .le 8, 3) := by decide +kernel
theorem dX1_takeDigit_23 : decode cX1_takeDigit 23 = .ok (.bipush 100, 2) := by decide +kernel
theorem dX1_takeDigit_25 : decode cX1_takeDigit 25 = .ok (.goto 12, 3) := by decide +kernel
theorem dX1_takeDigit_28 : decode cX1_takeDigit 28 = .ok (.aload_n 0, 1) := by decide +kernel
theorem dX1_takeDigit_29 : decode cX1_takeDigit 29 = .ok (.getfield 32, 3) := by decide +kernel
theorem dX1_takeDigit_32 : decode cX1_takeDigit 32 = .ok (.bipush 10, 2) := by decide +kernel
theorem dX1_takeDigit_34 : decode cX1_takeDigit 34 = .ok (.imul, 1) := by decide +kernel
theorem dX1_takeDigit_35 : decode cX1_takeDigit 35 = .ok (.iload_n 1, 1) := by decide +kernel
theorem dX1_takeDigit_36 : decode cX1_takeDigit 36 = .ok (.iadd, 1) := by decide +kernel
theorem dX1_takeDigit_37 : decode cX1_takeDigit 37 = .ok (.putfield 32, 3) := by decide +kernel
theorem dX1_takeDigit_40 : decode cX1_takeDigit 40 = .ok (.goto 30, 3) := by decide +kernel
theorem dX1_takeDigit_43 : decode cX1_takeDigit 43 = .ok (.aload_n 0, 1) := by decide +kernel
theorem dX1_takeDigit_44 : decode cX1_takeDigit 44 = .ok (.getfield 32, 3) := by decide +kernel
theorem dX1_takeDigit_47 : decode cX1_takeDigit 47 = .ok (.iconst (-1), 1) := by decide +kernel
theorem dX1_takeDigit_48 : decode cX1_takeDigit 48 = .ok (.if_icmp .eq 12, 3) := by decide +kernel
theorem dX1_takeDigit_51 : decode cX1_takeDigit 51 = .ok (.aload_n 0, 1) := by decide +kernel
theorem dX1_takeDigit_52 : decode cX1_takeDigit 52 = .ok (.iconst 1, 1) := by decide +kernel
theorem dX1_takeDigit_53 : decode cX1_takeDigit 53 = .ok (.iload_n 3, 1) := by decide +kernel
theorem dX1_takeDigit_54 : decode cX1_takeDigit 54 = .ok (.invokevirtual 76, 3) := by decide +kernel
theorem dX1_takeDigit_57 : decode cX1_takeDigit 57 = .ok (.goto 13, 3) := by decide +kernel
theorem dX1_takeDigit_60 : decode cX1_takeDigit 60 = .ok (.aload_n 0, 1) := by decide +kernel
theorem dX1_takeDigit_61 : decode cX1_takeDigit 61 = .ok (.iconst 1, 1) := by decide +kernel
theorem dX1_takeDigit_62 : decode cX1_takeDigit 62 = .ok (.putfield 35, 3) := by decide +kernel
theorem dX1_takeDigit_65 : decode cX1_takeDigit 65 = .ok (.aload_n 0, 1) := by decide +kernel
theorem dX1_takeDigit_66 : decode cX1_takeDigit 66 = .ok (.iload_n 1, 1) := by decide +kernel
theorem dX1_takeDigit_67 : decode cX1_takeDigit 67 = .ok (.putfield 32, 3) := by decide +kernel
theorem dX1_takeDigit_70 : decode cX1_takeDigit 70 = .ok (.return_, 1) := by decide +kernel
set_option maxRecDepth 20000 in
theorem ggX1_takeDigitsEnd_X10_refuse : GoodIn wsX1_takeDigitsEnd wsX10_refuse := goodIn_r _ [7, 8, 9, 10, 11, 12, 13, 14, 15, 16, 17, 18, 19, 20, 21, 22, 23, 24, 25, 26, 27, 28, 29, 30, 31, 32, 33, 34, 35, 36, 37, 38, 39, 40] (by decide +kernel) (by decide +kernel)
set_option maxRecDepth 20000 in
theorem gX1_takeDigitsEnd_X10_refuse_u76X1 : GoodIn wsX1_takeDigitsEnd (va_wsU RX1 76 RX1 "BellTower$Text" ⟨"BellTower$CompositionText", "refuse", "(II)V"⟩ yX10_refuse wsX10_refuse) := goodIn_app (goodIn_of _ (by decide +kernel)) ggX1_takeDigitsEnd_X10_refuse
theorem dX1_takeDigitsEnd_0 : decode cX1_takeDigitsEnd 0 = .ok (.aload_n 0, 1) := by decide +kernel
theorem dX1_takeDigitsEnd_1 : decode cX1_takeDigitsEnd 1 = .ok (.getfield 32, 3) := by decide +kernel
theorem dX1_takeDigitsEnd_4 : decode cX1_takeDigitsEnd 4 = .ok (.iconst 2, 1) := by decide +kernel
theorem dX1_takeDigitsEnd_5 : decode cX1_takeDigitsEnd 5 = .ok (.if_icmp .lt 12, 3) := by decide +kernel
theorem dX1_takeDigitsEnd_8 : decode cX1_takeDigitsEnd 8 = .ok (.aload_n 0, 1) := by decide +kernel
theorem dX1_takeDigitsEnd_9 : decode cX1_takeDigitsEnd 9 = .ok (.getfield 32, 3) := by decide +kernel
theorem dX1_takeDigitsEnd_12 : decode cX1_takeDigitsEnd 12 = .ok (.bipush 99, 2) := by decide +kernel
theorem dX1_takeDigitsEnd_14 : decode cX1_takeDigitsEnd 14 = .ok (.if_icmp .le 9, 3) := by decide +kernel
theorem dX1_takeDigitsEnd_17 : decode cX1_takeDigitsEnd 17 = .ok (.aload_n 0, 1) := by decide +kernel
theorem dX1_takeDigitsEnd_18 : decode cX1_takeDigitsEnd 18 = .ok (.iconst 2, 1) := by decide +kernel
theorem dX1_takeDigitsEnd_19 : decode cX1_takeDigitsEnd 19 = .ok (.iload_n 1, 1) := by decide +kernel
theorem dX1_takeDigitsEnd_20 : decode cX1_takeDigitsEnd 20 = .ok (.invokevirtual 76, 3) := by decide +kernel
theorem dX1_takeDigitsEnd_23 : decode cX1_takeDigitsEnd 23 = .ok (.return_, 1) := by decide +kernel
theorem dX1_callFor_0 : decode cX1_callFor 0 = .ok (.iload_n 0, 1) := by decide +kernel
theorem dX1_callFor_1 : decode cX1_callFor 1 = .ok (.lookupswitch 41 #[(98, 37), (112, 35), (115, 39)], 35) := by decide +kernel
theorem dX1_callFor_36 : decode cX1_callFor 36 = .ok (.iconst 0, 1) := by decide +kernel
theorem dX1_callFor_37 : decode cX1_callFor 37 = .ok (.ireturn, 1) := by decide +kernel
theorem dX1_callFor_38 : decode cX1_callFor 38 = .ok (.iconst 1, 1) := by decide +kernel
theorem dX1_callFor_39 : decode cX1_callFor 39 = .ok (.ireturn, 1) := by decide +kernel
theorem dX1_callFor_40 : decode cX1_callFor 40 = .ok (.iconst 2, 1) := by decide +kernel
theorem dX1_callFor_41 : decode cX1_callFor 41 = .ok (.ireturn, 1) := by decide +kernel
theorem dX1_callFor_42 : decode cX1_callFor 42 = .ok (.iconst (-1), 1) := by decide +kernel
theorem dX1_callFor_43 : decode cX1_callFor 43 = .ok (.ireturn, 1) := by decide +kernel
set_option maxRecDepth 20000 in
theorem ggX1_takeUnit_X0_has : GoodIn wsX1_takeUnit wsX0_has := goodIn_r _ [7, 8, 9, 10, 6, 11, 12, 13, 14, 15, 16, 17, 18, 19, 57, 58, 59, 60, 61, 62, 63, 64, 65, 66] (by decide +kernel) (by decide +kernel)
set_option maxRecDepth 20000 in
theorem gX1_takeUnit_X0_has : GoodIn wsX1_takeUnit (wsV RX1 80 RX0 yX0_has wsX0_has) := goodIn_app (goodIn_of _ (by decide +kernel)) ggX1_takeUnit_X0_has
set_option maxRecDepth 20000 in
theorem ggX1_takeUnit_X10_refuse : GoodIn wsX1_takeUnit wsX10_refuse := goodIn_r _ [25, 26, 27, 40, 41, 42, 43, 44, 45, 46, 47, 48, 49, 50, 51, 52, 53, 54, 55, 56, 67, 68, 69, 70, 71, 72, 73, 74, 75, 76, 77, 78, 79, 80] (by decide +kernel) (by decide +kernel)
set_option maxRecDepth 20000 in
theorem gX1_takeUnit_X10_refuse_u76X1 : GoodIn wsX1_takeUnit (va_wsU RX1 76 RX1 "BellTower$Text" ⟨"BellTower$CompositionText", "refuse", "(II)V"⟩ yX10_refuse wsX10_refuse) := goodIn_app (goodIn_of _ (by decide +kernel)) ggX1_takeUnit_X10_refuse
set_option maxRecDepth 20000 in
theorem ggX1_takeUnit_X1_addItem : GoodIn wsX1_takeUnit wsX1_addItem := goodIn_r _ [32, 33, 34, 35, 36, 37, 38, 39, 40, 41, 42, 43, 44, 45, 46, 47, 48, 49, 50, 51, 52, 53, 54, 55, 56] (by decide +kernel) (by decide +kernel)
set_option maxRecDepth 20000 in
theorem gX1_takeUnit_X1_addItem : GoodIn wsX1_takeUnit (wsV RX1 86 RX1 yX1_addItem wsX1_addItem) := goodIn_app (goodIn_of _ (by decide +kernel)) ggX1_takeUnit_X1_addItem
theorem dX1_takeUnit_0 : decode cX1_takeUnit 0 = .ok (.aload_n 0, 1) := by decide +kernel
theorem dX1_takeUnit_1 : decode cX1_takeUnit 1 = .ok (.getfield 53, 3) := by decide +kernel
theorem dX1_takeUnit_4 : decode cX1_takeUnit 4 = .ok (.iload_n 2, 1) := by decide +kernel
theorem dX1_takeUnit_5 : decode cX1_takeUnit 5 = .ok (.invokevirtual 80, 3) := by decide +kernel
theorem dX1_takeUnit_8 : decode cX1_takeUnit 8 = .ok (.ifCond .ne 10, 3) := by decide +kernel
theorem dX1_takeUnit_11 : decode cX1_takeUnit 11 = .ok (.aload_n 0, 1) := by decide +kernel
theorem dX1_takeUnit_12 : decode cX1_takeUnit 12 = .ok (.iconst 3, 1) := by decide +kernel
theorem dX1_takeUnit_13 : decode cX1_takeUnit 13 = .ok (.iload_n 3, 1) := by decide +kernel
theorem dX1_takeUnit_14 : decode cX1_takeUnit 14 = .ok (.invokevirtual 76, 3) := by decide +kernel
theorem dX1_takeUnit_17 : decode cX1_takeUnit 17 = .ok (.return_, 1) := by decide +kernel
theorem dX1_takeUnit_18 : decode cX1_takeUnit 18 = .ok (.aload_n 0, 1) := by decide +kernel
theorem dX1_takeUnit_19 : decode cX1_takeUnit 19 = .ok (.iload_n 1, 1) := by decide +kernel
theorem dX1_takeUnit_20 : decode cX1_takeUnit 20 = .ok (.invokevirtual 86, 3) := by decide +kernel
theorem dX1_takeUnit_23 : decode cX1_takeUnit 23 = .ok (.aload_n 0, 1) := by decide +kernel
theorem dX1_takeUnit_24 : decode cX1_takeUnit 24 = .ok (.iconst 0, 1) := by decide +kernel
theorem dX1_takeUnit_25 : decode cX1_takeUnit 25 = .ok (.putfield 28, 3) := by decide +kernel
theorem dX1_takeUnit_28 : decode cX1_takeUnit 28 = .ok (.return_, 1) := by decide +kernel
set_option maxRecDepth 20000 in
theorem ggX1_openGroup_X10_refuse : GoodIn wsX1_openGroup wsX10_refuse := goodIn_r _ [8, 9, 10, 23, 24, 25, 26, 27, 28, 29, 30, 31, 32, 33, 34, 35, 36, 37, 38, 39, 40, 41, 42, 43, 44, 45, 46, 47, 48, 49, 50, 51, 52, 53] (by decide +kernel) (by decide +kernel)
set_option maxRecDepth 20000 in
theorem gX1_openGroup_X10_refuse_u76X1 : GoodIn wsX1_openGroup (va_wsU RX1 76 RX1 "BellTower$Text" ⟨"BellTower$CompositionText", "refuse", "(II)V"⟩ yX10_refuse wsX10_refuse) := goodIn_app (goodIn_of _ (by decide +kernel)) ggX1_openGroup_X10_refuse
set_option maxRecDepth 20000 in
theorem ggX1_openGroup_X1_addItem : GoodIn wsX1_openGroup wsX1_addItem := goodIn_r _ [15, 16, 17, 18, 19, 20, 21, 22, 23, 24, 25, 26, 27, 28, 29, 30, 31, 32, 33, 34, 35, 36, 37, 38, 39] (by decide +kernel) (by decide +kernel)
set_option maxRecDepth 20000 in
theorem gX1_openGroup_X1_addItem : GoodIn wsX1_openGroup (wsV RX1 86 RX1 yX1_addItem wsX1_addItem) := goodIn_app (goodIn_of _ (by decide +kernel)) ggX1_openGroup_X1_addItem
theorem dX1_openGroup_0 : decode cX1_openGroup 0 = .ok (.aload_n 0, 1) := by decide +kernel
theorem dX1_openGroup_1 : decode cX1_openGroup 1 = .ok (.getfield 25, 3) := by decide +kernel
theorem dX1_openGroup_4 : decode cX1_openGroup 4 = .ok (.iconst 5, 1) := by decide +kernel
theorem dX1_openGroup_5 : decode cX1_openGroup 5 = .ok (.if_icmp .lt 10, 3) := by decide +kernel
theorem dX1_openGroup_8 : decode cX1_openGroup 8 = .ok (.aload_n 0, 1) := by decide +kernel
theorem dX1_openGroup_9 : decode cX1_openGroup 9 = .ok (.iconst 4, 1) := by decide +kernel
theorem dX1_openGroup_10 : decode cX1_openGroup 10 = .ok (.iload_n 1, 1) := by decide +kernel
theorem dX1_openGroup_11 : decode cX1_openGroup 11 = .ok (.invokevirtual 76, 3) := by decide +kernel
theorem dX1_openGroup_14 : decode cX1_openGroup 14 = .ok (.return_, 1) := by decide +kernel
theorem dX1_openGroup_15 : decode cX1_openGroup 15 = .ok (.aload_n 0, 1) := by decide +kernel
theorem dX1_openGroup_16 : decode cX1_openGroup 16 = .ok (.dup, 1) := by decide +kernel
theorem dX1_openGroup_17 : decode cX1_openGroup 17 = .ok (.getfield 25, 3) := by decide +kernel
theorem dX1_openGroup_20 : decode cX1_openGroup 20 = .ok (.iconst 1, 1) := by decide +kernel
theorem dX1_openGroup_21 : decode cX1_openGroup 21 = .ok (.iadd, 1) := by decide +kernel
theorem dX1_openGroup_22 : decode cX1_openGroup 22 = .ok (.putfield 25, 3) := by decide +kernel
theorem dX1_openGroup_25 : decode cX1_openGroup 25 = .ok (.aload_n 0, 1) := by decide +kernel
theorem dX1_openGroup_26 : decode cX1_openGroup 26 = .ok (.bipush 40, 2) := by decide +kernel
theorem dX1_openGroup_28 : decode cX1_openGroup 28 = .ok (.invokevirtual 86, 3) := by decide +kernel
theorem dX1_openGroup_31 : decode cX1_openGroup 31 = .ok (.aload_n 0, 1) := by decide +kernel
theorem dX1_openGroup_32 : decode cX1_openGroup 32 = .ok (.iconst 1, 1) := by decide +kernel
theorem dX1_openGroup_33 : decode cX1_openGroup 33 = .ok (.putfield 28, 3) := by decide +kernel
theorem dX1_openGroup_36 : decode cX1_openGroup 36 = .ok (.return_, 1) := by decide +kernel
set_option maxRecDepth 20000 in
theorem ggX1_closeGroup_X10_refuse : GoodIn wsX1_closeGroup wsX10_refuse := goodIn_r _ [9, 10, 11, 23, 24, 25, 26, 27, 28, 29, 30, 31, 32, 33, 34, 35, 36, 37, 38, 39, 40, 41, 42, 43, 44, 45, 46, 47, 48, 49, 50, 51, 52, 53] (by decide +kernel) (by decide +kernel)
set_option maxRecDepth 20000 in
theorem gX1_closeGroup_X10_refuse_u76X1 : GoodIn wsX1_closeGroup (va_wsU RX1 76 RX1 "BellTower$Text" ⟨"BellTower$CompositionText", "refuse", "(II)V"⟩ yX10_refuse wsX10_refuse) := goodIn_app (goodIn_of _ (by decide +kernel)) ggX1_closeGroup_X10_refuse
set_option maxRecDepth 20000 in
theorem ggX1_closeGroup_X1_addItem : GoodIn wsX1_closeGroup wsX1_addItem := goodIn_r _ [16, 17, 18, 19, 3, 20, 21, 22, 23, 24, 25, 26, 27, 28, 29, 30, 31, 32, 33, 34, 35, 36, 37, 38, 39] (by decide +kernel) (by decide +kernel)
set_option maxRecDepth 20000 in
theorem gX1_closeGroup_X1_addItem : GoodIn wsX1_closeGroup (wsV RX1 86 RX1 yX1_addItem wsX1_addItem) := goodIn_app (goodIn_of _ (by decide +kernel)) ggX1_closeGroup_X1_addItem
theorem dX1_closeGroup_0 : decode cX1_closeGroup 0 = .ok (.aload_n 0, 1) := by decide +kernel
theorem dX1_closeGroup_1 : decode cX1_closeGroup 1 = .ok (.getfield 25, 3) := by decide +kernel
theorem dX1_closeGroup_4 : decode cX1_closeGroup 4 = .ok (.ifCond .eq 18, 3) := by decide +kernel
theorem dX1_closeGroup_7 : decode cX1_closeGroup 7 = .ok (.aload_n 0, 1) := by decide +kernel
theorem dX1_closeGroup_8 : decode cX1_closeGroup 8 = .ok (.getfield 28, 3) := by decide +kernel
theorem dX1_closeGroup_11 : decode cX1_closeGroup 11 = .ok (.ifCond .ne 11, 3) := by decide +kernel
theorem dX1_closeGroup_14 : decode cX1_closeGroup 14 = .ok (.aload_n 0, 1) := by decide +kernel
theorem dX1_closeGroup_15 : decode cX1_closeGroup 15 = .ok (.getfield 32, 3) := by decide +kernel
theorem dX1_closeGroup_18 : decode cX1_closeGroup 18 = .ok (.iconst (-1), 1) := by decide +kernel
theorem dX1_closeGroup_19 : decode cX1_closeGroup 19 = .ok (.if_icmp .eq 10, 3) := by decide +kernel
theorem dX1_closeGroup_22 : decode cX1_closeGroup 22 = .ok (.aload_n 0, 1) := by decide +kernel
theorem dX1_closeGroup_23 : decode cX1_closeGroup 23 = .ok (.iconst 1, 1) := by decide +kernel
theorem dX1_closeGroup_24 : decode cX1_closeGroup 24 = .ok (.iload_n 1, 1) := by decide +kernel
theorem dX1_closeGroup_25 : decode cX1_closeGroup 25 = .ok (.invokevirtual 76, 3) := by decide +kernel
theorem dX1_closeGroup_28 : decode cX1_closeGroup 28 = .ok (.return_, 1) := by decide +kernel
theorem dX1_closeGroup_29 : decode cX1_closeGroup 29 = .ok (.aload_n 0, 1) := by decide +kernel
theorem dX1_closeGroup_30 : decode cX1_closeGroup 30 = .ok (.dup, 1) := by decide +kernel
theorem dX1_closeGroup_31 : decode cX1_closeGroup 31 = .ok (.getfield 25, 3) := by decide +kernel
theorem dX1_closeGroup_34 : decode cX1_closeGroup 34 = .ok (.iconst 1, 1) := by decide +kernel
theorem dX1_closeGroup_35 : decode cX1_closeGroup 35 = .ok (.isub, 1) := by decide +kernel
theorem dX1_closeGroup_36 : decode cX1_closeGroup 36 = .ok (.putfield 25, 3) := by decide +kernel
theorem dX1_closeGroup_39 : decode cX1_closeGroup 39 = .ok (.aload_n 0, 1) := by decide +kernel
theorem dX1_closeGroup_40 : decode cX1_closeGroup 40 = .ok (.bipush 41, 2) := by decide +kernel
theorem dX1_closeGroup_42 : decode cX1_closeGroup 42 = .ok (.invokevirtual 86, 3) := by decide +kernel
theorem dX1_closeGroup_45 : decode cX1_closeGroup 45 = .ok (.return_, 1) := by decide +kernel
set_option maxRecDepth 20000 in
theorem ggX1_addItem_X11_setCell : GoodIn wsX1_addItem wsX11_setCell := goodIn_r _ [7] (by decide +kernel) (by decide +kernel)
set_option maxRecDepth 20000 in
theorem gX1_addItem_X11_setCell_n89 : GoodIn wsX1_addItem (wsX11_setCell) := ggX1_addItem_X11_setCell
theorem dX1_addItem_0 : decode cX1_addItem 0 = .ok (.aload_n 0, 1) := by decide +kernel
theorem dX1_addItem_1 : decode cX1_addItem 1 = .ok (.getfield 9, 3) := by decide +kernel
theorem dX1_addItem_4 : decode cX1_addItem 4 = .ok (.aload_n 0, 1) := by decide +kernel
theorem dX1_addItem_5 : decode cX1_addItem 5 = .ok (.getfield 18, 3) := by decide +kernel
theorem dX1_addItem_8 : decode cX1_addItem 8 = .ok (.iload_n 1, 1) := by decide +kernel
theorem dX1_addItem_9 : decode cX1_addItem 9 = .ok (.invokestatic 89, 3) := by decide +kernel
theorem dX1_addItem_12 : decode cX1_addItem 12 = .ok (.aload_n 0, 1) := by decide +kernel
theorem dX1_addItem_13 : decode cX1_addItem 13 = .ok (.getfield 15, 3) := by decide +kernel
theorem dX1_addItem_16 : decode cX1_addItem 16 = .ok (.aload_n 0, 1) := by decide +kernel
theorem dX1_addItem_17 : decode cX1_addItem 17 = .ok (.getfield 18, 3) := by decide +kernel
theorem dX1_addItem_20 : decode cX1_addItem 20 = .ok (.aload_n 0, 1) := by decide +kernel
theorem dX1_addItem_21 : decode cX1_addItem 21 = .ok (.getfield 32, 3) := by decide +kernel
theorem dX1_addItem_24 : decode cX1_addItem 24 = .ok (.iconst (-1), 1) := by decide +kernel
theorem dX1_addItem_25 : decode cX1_addItem 25 = .ok (.if_icmp .ne 7, 3) := by decide +kernel
theorem dX1_addItem_28 : decode cX1_addItem 28 = .ok (.iconst 1, 1) := by decide +kernel
theorem dX1_addItem_29 : decode cX1_addItem 29 = .ok (.goto 7, 3) := by decide +kernel
theorem dX1_addItem_32 : decode cX1_addItem 32 = .ok (.aload_n 0, 1) := by decide +kernel
theorem dX1_addItem_33 : decode cX1_addItem 33 = .ok (.getfield 32, 3) := by decide +kernel
theorem dX1_addItem_36 : decode cX1_addItem 36 = .ok (.invokestatic 89, 3) := by decide +kernel
theorem dX1_addItem_39 : decode cX1_addItem 39 = .ok (.aload_n 0, 1) := by decide +kernel
theorem dX1_addItem_40 : decode cX1_addItem 40 = .ok (.dup, 1) := by decide +kernel
theorem dX1_addItem_41 : decode cX1_addItem 41 = .ok (.getfield 18, 3) := by decide +kernel
theorem dX1_addItem_44 : decode cX1_addItem 44 = .ok (.iconst 1, 1) := by decide +kernel
theorem dX1_addItem_45 : decode cX1_addItem 45 = .ok (.iadd, 1) := by decide +kernel
theorem dX1_addItem_46 : decode cX1_addItem 46 = .ok (.putfield 18, 3) := by decide +kernel
theorem dX1_addItem_49 : decode cX1_addItem 49 = .ok (.aload_n 0, 1) := by decide +kernel
theorem dX1_addItem_50 : decode cX1_addItem 50 = .ok (.iconst (-1), 1) := by decide +kernel
theorem dX1_addItem_51 : decode cX1_addItem 51 = .ok (.putfield 32, 3) := by decide +kernel
theorem dX1_addItem_54 : decode cX1_addItem 54 = .ok (.return_, 1) := by decide +kernel
set_option maxRecDepth 20000 in
theorem ggX1_spread_X1_follow : GoodIn wsX1_spread wsX1_follow := goodIn_r _ [10, 11, 2, 12, 13, 14, 15, 16, 17, 18, 9, 19, 3, 20, 1, 21, 22, 23, 24, 25, 26, 27, 28, 29, 30, 31, 32, 33, 34, 35, 36, 50, 51, 52, 53, 54, 55, 56, 57, 58, 59, 60, 61, 62, 63, 64, 65, 66] (by decide +kernel) (by decide +kernel)
set_option maxRecDepth 20000 in
theorem gX1_spread_X1_follow : GoodIn wsX1_spread (wsV RX1 94 RX1 yX1_follow wsX1_follow) := goodIn_app (goodIn_of _ (by decide +kernel)) ggX1_spread_X1_follow
set_option maxRecDepth 20000 in
theorem ggX1_spread_X10_refuse : GoodIn wsX1_spread wsX10_refuse := goodIn_r _ [42, 43, 44, 50, 51, 52, 53, 54, 55, 56, 57, 58, 59, 60, 61, 62, 63, 64, 65, 66, 67, 68, 69, 70, 71, 72, 73, 74, 75, 76, 77, 78, 79, 80] (by decide +kernel) (by decide +kernel)
set_option maxRecDepth 20000 in
theorem gX1_spread_X10_refuse_u76X1 : GoodIn wsX1_spread (va_wsU RX1 76 RX1 "BellTower$Text" ⟨"BellTower$CompositionText", "refuse", "(II)V"⟩ yX10_refuse wsX10_refuse) := goodIn_app (goodIn_of _ (by decide +kernel)) ggX1_spread_X10_refuse
set_option maxRecDepth 20000 in
theorem ggX1_spread_X10_kind : GoodIn wsX1_spread wsX10_kind := goodIn_r _ [49, 43, 50, 51, 52, 53, 54, 55, 56, 57, 58, 59, 60, 61, 62, 63, 64, 65, 66, 67, 68, 69, 70, 71, 72, 73, 74, 75, 76, 77, 78, 79, 80] (by decide +kernel) (by decide +kernel)
set_option maxRecDepth 20000 in
theorem gX1_spread_X10_kind_u97X1 : GoodIn wsX1_spread (va_wsU RX1 97 RX1 "BellTower$Text" ⟨"BellTower$CompositionText", "kind", "()I"⟩ yX10_kind wsX10_kind) := goodIn_app (goodIn_of _ (by decide +kernel)) ggX1_spread_X10_kind
theorem dX1_spread_0 : decode cX1_spread 0 = .ok (.aload_n 0, 1) := by decide +kernel
theorem dX1_spread_1 : decode cX1_spread 1 = .ok (.iconst 0, 1) := by decide +kernel
theorem dX1_spread_2 : decode cX1_spread 2 = .ok (.putfield 50, 3) := by decide +kernel
theorem dX1_spread_5 : decode cX1_spread 5 = .ok (.aload_n 0, 1) := by decide +kernel
theorem dX1_spread_6 : decode cX1_spread 6 = .ok (.iconst 0, 1) := by decide +kernel
theorem dX1_spread_7 : decode cX1_spread 7 = .ok (.putfield 22, 3) := by decide +kernel
theorem dX1_spread_10 : decode cX1_spread 10 = .ok (.aload_n 0, 1) := by decide +kernel
theorem dX1_spread_11 : decode cX1_spread 11 = .ok (.iconst 0, 1) := by decide +kernel
theorem dX1_spread_12 : decode cX1_spread 12 = .ok (.putfield 25, 3) := by decide +kernel
theorem dX1_spread_15 : decode cX1_spread 15 = .ok (.iconst 0, 1) := by decide +kernel
theorem dX1_spread_16 : decode cX1_spread 16 = .ok (.istore_n 2, 1) := by decide +kernel
theorem dX1_spread_17 : decode cX1_spread 17 = .ok (.iconst 0, 1) := by decide +kernel
theorem dX1_spread_18 : decode cX1_spread 18 = .ok (.istore_n 3, 1) := by decide +kernel
theorem dX1_spread_19 : decode cX1_spread 19 = .ok (.iload_n 3, 1) := by decide +kernel
theorem dX1_spread_20 : decode cX1_spread 20 = .ok (.ldc 93, 2) := by decide +kernel
theorem dX1_spread_22 : decode cX1_spread 22 = .ok (.if_icmp .ge 33, 3) := by decide +kernel
theorem dX1_spread_25 : decode cX1_spread 25 = .ok (.iload_n 2, 1) := by decide +kernel
theorem dX1_spread_26 : decode cX1_spread 26 = .ok (.aload_n 0, 1) := by decide +kernel
theorem dX1_spread_27 : decode cX1_spread 27 = .ok (.getfield 18, 3) := by decide +kernel
theorem dX1_spread_30 : decode cX1_spread 30 = .ok (.if_icmp .ge 25, 3) := by decide +kernel
theorem dX1_spread_33 : decode cX1_spread 33 = .ok (.aload_n 0, 1) := by decide +kernel
theorem dX1_spread_34 : decode cX1_spread 34 = .ok (.getfield 50, 3) := by decide +kernel
theorem dX1_spread_37 : decode cX1_spread 37 = .ok (.sipush 1000, 3) := by decide +kernel
theorem dX1_spread_40 : decode cX1_spread 40 = .ok (.if_icmp .gt 15, 3) := by decide +kernel
theorem dX1_spread_43 : decode cX1_spread 43 = .ok (.aload_n 0, 1) := by decide +kernel
theorem dX1_spread_44 : decode cX1_spread 44 = .ok (.iload_n 2, 1) := by decide +kernel
theorem dX1_spread_45 : decode cX1_spread 45 = .ok (.invokevirtual 94, 3) := by decide +kernel
theorem dX1_spread_48 : decode cX1_spread 48 = .ok (.istore_n 2, 1) := by decide +kernel
theorem dX1_spread_49 : decode cX1_spread 49 = .ok (.iinc 3 1, 3) := by decide +kernel
theorem dX1_spread_52 : decode cX1_spread 52 = .ok (.goto (-33), 3) := by decide +kernel
theorem dX1_spread_55 : decode cX1_spread 55 = .ok (.aload_n 0, 1) := by decide +kernel
theorem dX1_spread_56 : decode cX1_spread 56 = .ok (.getfield 50, 3) := by decide +kernel
theorem dX1_spread_59 : decode cX1_spread 59 = .ok (.sipush 1000, 3) := by decide +kernel
theorem dX1_spread_62 : decode cX1_spread 62 = .ok (.if_icmp .le 9, 3) := by decide +kernel
theorem dX1_spread_65 : decode cX1_spread 65 = .ok (.aload_n 0, 1) := by decide +kernel
theorem dX1_spread_66 : decode cX1_spread 66 = .ok (.iconst 5, 1) := by decide +kernel
theorem dX1_spread_67 : decode cX1_spread 67 = .ok (.iload_n 1, 1) := by decide +kernel
theorem dX1_spread_68 : decode cX1_spread 68 = .ok (.invokevirtual 76, 3) := by decide +kernel
theorem dX1_spread_71 : decode cX1_spread 71 = .ok (.aload_n 0, 1) := by decide +kernel
theorem dX1_spread_72 : decode cX1_spread 72 = .ok (.invokevirtual 97, 3) := by decide +kernel
theorem dX1_spread_75 : decode cX1_spread 75 = .ok (.ifCond .ne 7, 3) := by decide +kernel
theorem dX1_spread_78 : decode cX1_spread 78 = .ok (.iconst 1, 1) := by decide +kernel
theorem dX1_spread_79 : decode cX1_spread 79 = .ok (.goto 4, 3) := by decide +kernel
theorem dX1_spread_82 : decode cX1_spread 82 = .ok (.iconst 0, 1) := by decide +kernel
theorem dX1_spread_83 : decode cX1_spread 83 = .ok (.ireturn, 1) := by decide +kernel
set_option maxRecDepth 20000 in
theorem ggX1_follow_X11_cell : GoodIn wsX1_follow wsX11_cell := goodIn_r _ [6] (by decide +kernel) (by decide +kernel)
set_option maxRecDepth 20000 in
theorem gX1_follow_X11_cell_n57 : GoodIn wsX1_follow (wsX11_cell) := ggX1_follow_X11_cell
set_option maxRecDepth 20000 in
theorem ggX1_follow_X1_leaveGroup : GoodIn wsX1_follow wsX1_leaveGroup := goodIn_r _ [11, 12, 13, 14, 15, 16, 4, 5, 6, 17, 18, 31, 32, 33, 34, 35, 36, 37, 38, 39, 40, 41, 42, 43, 44, 45, 46, 47] (by decide +kernel) (by decide +kernel)
set_option maxRecDepth 20000 in
theorem gX1_follow_X1_leaveGroup : GoodIn wsX1_follow (wsV RX1 101 RX1 yX1_leaveGroup wsX1_leaveGroup) := goodIn_app (goodIn_of _ (by decide +kernel)) ggX1_follow_X1_leaveGroup
set_option maxRecDepth 20000 in
theorem ggX1_follow_X1_enterGroup : GoodIn wsX1_follow wsX1_enterGroup := goodIn_r _ [22, 16, 12, 13, 3, 15, 14, 17, 5, 18, 4, 6, 31, 32, 33, 34, 35, 36, 37, 38, 39, 40, 41, 42, 43, 44, 45, 46, 47] (by decide +kernel) (by decide +kernel)
set_option maxRecDepth 20000 in
theorem gX1_follow_X1_enterGroup : GoodIn wsX1_follow (wsV RX1 104 RX1 yX1_enterGroup wsX1_enterGroup) := goodIn_app (goodIn_of _ (by decide +kernel)) ggX1_follow_X1_enterGroup
set_option maxRecDepth 20000 in
theorem ggX1_follow_X1_callFor : GoodIn wsX1_follow wsX1_callFor := goodIn_r _ [25] (by decide +kernel) (by decide +kernel)
set_option maxRecDepth 20000 in
theorem gX1_follow_X1_callFor : GoodIn wsX1_follow (va_wsS RX1 61 yX1_callFor wsX1_callFor) := goodIn_app (goodIn_of _ (by decide +kernel)) ggX1_follow_X1_callFor
set_option maxRecDepth 20000 in
theorem ggX1_follow_X1_addLeads : GoodIn wsX1_follow wsX1_addLeads := goodIn_r _ [29, 14, 30, 2, 17, 5, 18, 31, 32, 33, 34, 35, 36, 37, 38, 39, 40, 41, 42, 43, 44, 45, 46, 47] (by decide +kernel) (by decide +kernel)
set_option maxRecDepth 20000 in
theorem gX1_follow_X1_addLeads : GoodIn wsX1_follow (wsV RX1 107 RX1 yX1_addLeads wsX1_addLeads) := goodIn_app (goodIn_of _ (by decide +kernel)) ggX1_follow_X1_addLeads
theorem dX1_follow_0 : decode cX1_follow 0 = .ok (.aload_n 0, 1) := by decide +kernel
theorem dX1_follow_1 : decode cX1_follow 1 = .ok (.getfield 9, 3) := by decide +kernel
theorem dX1_follow_4 : decode cX1_follow 4 = .ok (.iload_n 1, 1) := by decide +kernel
theorem dX1_follow_5 : decode cX1_follow 5 = .ok (.invokestatic 57, 3) := by decide +kernel
theorem dX1_follow_8 : decode cX1_follow 8 = .ok (.istore_n 2, 1) := by decide +kernel
theorem dX1_follow_9 : decode cX1_follow 9 = .ok (.iload_n 2, 1) := by decide +kernel
theorem dX1_follow_10 : decode cX1_follow 10 = .ok (.bipush 41, 2) := by decide +kernel
theorem dX1_follow_12 : decode cX1_follow 12 = .ok (.if_icmp .ne 9, 3) := by decide +kernel
theorem dX1_follow_15 : decode cX1_follow 15 = .ok (.aload_n 0, 1) := by decide +kernel
theorem dX1_follow_16 : decode cX1_follow 16 = .ok (.iload_n 1, 1) := by decide +kernel
theorem dX1_follow_17 : decode cX1_follow 17 = .ok (.invokevirtual 101, 3) := by decide +kernel
theorem dX1_follow_20 : decode cX1_follow 20 = .ok (.ireturn, 1) := by decide +kernel
theorem dX1_follow_21 : decode cX1_follow 21 = .ok (.iload_n 2, 1) := by decide +kernel
theorem dX1_follow_22 : decode cX1_follow 22 = .ok (.bipush 40, 2) := by decide +kernel
theorem dX1_follow_24 : decode cX1_follow 24 = .ok (.if_icmp .ne 11, 3) := by decide +kernel
theorem dX1_follow_27 : decode cX1_follow 27 = .ok (.aload_n 0, 1) := by decide +kernel
theorem dX1_follow_28 : decode cX1_follow 28 = .ok (.iload_n 1, 1) := by decide +kernel
theorem dX1_follow_29 : decode cX1_follow 29 = .ok (.invokevirtual 104, 3) := by decide +kernel
theorem dX1_follow_32 : decode cX1_follow 32 = .ok (.goto 38, 3) := by decide +kernel
theorem dX1_follow_35 : decode cX1_follow 35 = .ok (.iload_n 2, 1) := by decide +kernel
theorem dX1_follow_36 : decode cX1_follow 36 = .ok (.invokestatic 61, 3) := by decide +kernel
theorem dX1_follow_39 : decode cX1_follow 39 = .ok (.iconst (-1), 1) := by decide +kernel
theorem dX1_follow_40 : decode cX1_follow 40 = .ok (.if_icmp .ne 14, 3) := by decide +kernel
theorem dX1_follow_43 : decode cX1_follow 43 = .ok (.aload_n 0, 1) := by decide +kernel
theorem dX1_follow_44 : decode cX1_follow 44 = .ok (.iload_n 2, 1) := by decide +kernel
theorem dX1_follow_45 : decode cX1_follow 45 = .ok (.bipush 65, 2) := by decide +kernel
theorem dX1_follow_47 : decode cX1_follow 47 = .ok (.isub, 1) := by decide +kernel
theorem dX1_follow_48 : decode cX1_follow 48 = .ok (.putfield 22, 3) := by decide +kernel
theorem dX1_follow_51 : decode cX1_follow 51 = .ok (.goto 19, 3) := by decide +kernel
theorem dX1_follow_54 : decode cX1_follow 54 = .ok (.aload_n 0, 1) := by decide +kernel
theorem dX1_follow_55 : decode cX1_follow 55 = .ok (.iload_n 2, 1) := by decide +kernel
theorem dX1_follow_56 : decode cX1_follow 56 = .ok (.invokestatic 61, 3) := by decide +kernel
theorem dX1_follow_59 : decode cX1_follow 59 = .ok (.aload_n 0, 1) := by decide +kernel
theorem dX1_follow_60 : decode cX1_follow 60 = .ok (.getfield 15, 3) := by decide +kernel
theorem dX1_follow_63 : decode cX1_follow 63 = .ok (.iload_n 1, 1) := by decide +kernel
theorem dX1_follow_64 : decode cX1_follow 64 = .ok (.invokestatic 57, 3) := by decide +kernel
theorem dX1_follow_67 : decode cX1_follow 67 = .ok (.invokevirtual 107, 3) := by decide +kernel
theorem dX1_follow_70 : decode cX1_follow 70 = .ok (.iload_n 1, 1) := by decide +kernel
theorem dX1_follow_71 : decode cX1_follow 71 = .ok (.iconst 1, 1) := by decide +kernel
theorem dX1_follow_72 : decode cX1_follow 72 = .ok (.iadd, 1) := by decide +kernel
theorem dX1_follow_73 : decode cX1_follow 73 = .ok (.ireturn, 1) := by decide +kernel
set_option maxRecDepth 20000 in
theorem ggX1_enterGroup_X11_setCell : GoodIn wsX1_enterGroup wsX11_setCell := goodIn_r _ [9] (by decide +kernel) (by decide +kernel)
set_option maxRecDepth 20000 in
theorem gX1_enterGroup_X11_setCell_n89 : GoodIn wsX1_enterGroup (wsX11_setCell) := ggX1_enterGroup_X11_setCell
set_option maxRecDepth 20000 in
theorem ggX1_enterGroup_X11_cell : GoodIn wsX1_enterGroup wsX11_cell := goodIn_r _ [11] (by decide +kernel) (by decide +kernel)
set_option maxRecDepth 20000 in
theorem gX1_enterGroup_X11_cell_n57 : GoodIn wsX1_enterGroup (wsX11_cell) := ggX1_enterGroup_X11_cell
theorem dX1_enterGroup_0 : decode cX1_enterGroup 0 = .ok (.aload_n 0, 1) := by decide +kernel
theorem dX1_enterGroup_1 : decode cX1_enterGroup 1 = .ok (.getfield 38, 3) := by decide +kernel
theorem dX1_enterGroup_4 : decode cX1_enterGroup 4 = .ok (.aload_n 0, 1) := by decide +kernel
theorem dX1_enterGroup_5 : decode cX1_enterGroup 5 = .ok (.getfield 25, 3) := by decide +kernel
theorem dX1_enterGroup_8 : decode cX1_enterGroup 8 = .ok (.iload_n 1, 1) := by decide +kernel
theorem dX1_enterGroup_9 : decode cX1_enterGroup 9 = .ok (.iconst 1, 1) := by decide +kernel
theorem dX1_enterGroup_10 : decode cX1_enterGroup 10 = .ok (.iadd, 1) := by decide +kernel
theorem dX1_enterGroup_11 : decode cX1_enterGroup 11 = .ok (.invokestatic 89, 3) := by decide +kernel
theorem dX1_enterGroup_14 : decode cX1_enterGroup 14 = .ok (.aload_n 0, 1) := by decide +kernel
theorem dX1_enterGroup_15 : decode cX1_enterGroup 15 = .ok (.getfield 41, 3) := by decide +kernel
theorem dX1_enterGroup_18 : decode cX1_enterGroup 18 = .ok (.aload_n 0, 1) := by decide +kernel
theorem dX1_enterGroup_19 : decode cX1_enterGroup 19 = .ok (.getfield 25, 3) := by decide +kernel
theorem dX1_enterGroup_22 : decode cX1_enterGroup 22 = .ok (.aload_n 0, 1) := by decide +kernel
theorem dX1_enterGroup_23 : decode cX1_enterGroup 23 = .ok (.getfield 15, 3) := by decide +kernel
theorem dX1_enterGroup_26 : decode cX1_enterGroup 26 = .ok (.iload_n 1, 1) := by decide +kernel
theorem dX1_enterGroup_27 : decode cX1_enterGroup 27 = .ok (.invokestatic 57, 3) := by decide +kernel
theorem dX1_enterGroup_30 : decode cX1_enterGroup 30 = .ok (.invokestatic 89, 3) := by decide +kernel
theorem dX1_enterGroup_33 : decode cX1_enterGroup 33 = .ok (.aload_n 0, 1) := by decide +kernel
theorem dX1_enterGroup_34 : decode cX1_enterGroup 34 = .ok (.getfield 44, 3) := by decide +kernel
theorem dX1_enterGroup_37 : decode cX1_enterGroup 37 = .ok (.aload_n 0, 1) := by decide +kernel
theorem dX1_enterGroup_38 : decode cX1_enterGroup 38 = .ok (.getfield 25, 3) := by decide +kernel
theorem dX1_enterGroup_41 : decode cX1_enterGroup 41 = .ok (.aload_n 0, 1) := by decide +kernel
theorem dX1_enterGroup_42 : decode cX1_enterGroup 42 = .ok (.getfield 50, 3) := by decide +kernel
theorem dX1_enterGroup_45 : decode cX1_enterGroup 45 = .ok (.invokestatic 89, 3) := by decide +kernel
theorem dX1_enterGroup_48 : decode cX1_enterGroup 48 = .ok (.aload_n 0, 1) := by decide +kernel
theorem dX1_enterGroup_49 : decode cX1_enterGroup 49 = .ok (.dup, 1) := by decide +kernel
theorem dX1_enterGroup_50 : decode cX1_enterGroup 50 = .ok (.getfield 25, 3) := by decide +kernel
theorem dX1_enterGroup_53 : decode cX1_enterGroup 53 = .ok (.iconst 1, 1) := by decide +kernel
theorem dX1_enterGroup_54 : decode cX1_enterGroup 54 = .ok (.iadd, 1) := by decide +kernel
theorem dX1_enterGroup_55 : decode cX1_enterGroup 55 = .ok (.putfield 25, 3) := by decide +kernel
theorem dX1_enterGroup_58 : decode cX1_enterGroup 58 = .ok (.return_, 1) := by decide +kernel
set_option maxRecDepth 20000 in
theorem ggX1_leaveGroup_X11_cell : GoodIn wsX1_leaveGroup wsX11_cell := goodIn_r _ [8] (by decide +kernel) (by decide +kernel)
set_option maxRecDepth 20000 in
theorem gX1_leaveGroup_X11_cell_n57 : GoodIn wsX1_leaveGroup (wsX11_cell) := ggX1_leaveGroup_X11_cell
set_option maxRecDepth 20000 in
theorem ggX1_leaveGroup_X11_setCell : GoodIn wsX1_leaveGroup wsX11_setCell := goodIn_r _ [10] (by decide +kernel) (by decide +kernel)
set_option maxRecDepth 20000 in
theorem gX1_leaveGroup_X11_setCell_n89 : GoodIn wsX1_leaveGroup (wsX11_setCell) := ggX1_leaveGroup_X11_setCell
theorem dX1_leaveGroup_0 : decode cX1_leaveGroup 0 = .ok (.aload_n 0, 1) := by decide +kernel
theorem dX1_leaveGroup_1 : decode cX1_leaveGroup 1 = .ok (.getfield 25, 3) := by decide +kernel
theorem dX1_leaveGroup_4 : decode cX1_leaveGroup 4 = .ok (.iconst 1, 1) := by decide +kernel
theorem dX1_leaveGroup_5 : decode cX1_leaveGroup 5 = .ok (.isub, 1) := by decide +kernel
theorem dX1_leaveGroup_6 : decode cX1_leaveGroup 6 = .ok (.istore_n 2, 1) := by decide +kernel
theorem dX1_leaveGroup_7 : decode cX1_leaveGroup 7 = .ok (.aload_n 0, 1) := by decide +kernel
theorem dX1_leaveGroup_8 : decode cX1_leaveGroup 8 = .ok (.getfield 41, 3) := by decide +kernel
theorem dX1_leaveGroup_11 : decode cX1_leaveGroup 11 = .ok (.iload_n 2, 1) := by decide +kernel
theorem dX1_leaveGroup_12 : decode cX1_leaveGroup 12 = .ok (.invokestatic 57, 3) := by decide +kernel
theorem dX1_leaveGroup_15 : decode cX1_leaveGroup 15 = .ok (.iconst 1, 1) := by decide +kernel
theorem dX1_leaveGroup_16 : decode cX1_leaveGroup 16 = .ok (.isub, 1) := by decide +kernel
theorem dX1_leaveGroup_17 : decode cX1_leaveGroup 17 = .ok (.istore_n 3, 1) := by decide +kernel
theorem dX1_leaveGroup_18 : decode cX1_leaveGroup 18 = .ok (.iload_n 3, 1) := by decide +kernel
theorem dX1_leaveGroup_19 : decode cX1_leaveGroup 19 = .ok (.ifCond .le 36, 3) := by decide +kernel
theorem dX1_leaveGroup_22 : decode cX1_leaveGroup 22 = .ok (.aload_n 0, 1) := by decide +kernel
theorem dX1_leaveGroup_23 : decode cX1_leaveGroup 23 = .ok (.getfield 50, 3) := by decide +kernel
theorem dX1_leaveGroup_26 : decode cX1_leaveGroup 26 = .ok (.aload_n 0, 1) := by decide +kernel
theorem dX1_leaveGroup_27 : decode cX1_leaveGroup 27 = .ok (.getfield 44, 3) := by decide +kernel
theorem dX1_leaveGroup_30 : decode cX1_leaveGroup 30 = .ok (.iload_n 2, 1) := by decide +kernel
theorem dX1_leaveGroup_31 : decode cX1_leaveGroup 31 = .ok (.invokestatic 57, 3) := by decide +kernel
theorem dX1_leaveGroup_34 : decode cX1_leaveGroup 34 = .ok (.if_icmp .le 21, 3) := by decide +kernel
theorem dX1_leaveGroup_37 : decode cX1_leaveGroup 37 = .ok (.aload_n 0, 1) := by decide +kernel
theorem dX1_leaveGroup_38 : decode cX1_leaveGroup 38 = .ok (.getfield 41, 3) := by decide +kernel
theorem dX1_leaveGroup_41 : decode cX1_leaveGroup 41 = .ok (.iload_n 2, 1) := by decide +kernel
theorem dX1_leaveGroup_42 : decode cX1_leaveGroup 42 = .ok (.iload_n 3, 1) := by decide +kernel
theorem dX1_leaveGroup_43 : decode cX1_leaveGroup 43 = .ok (.invokestatic 89, 3) := by decide +kernel
theorem dX1_leaveGroup_46 : decode cX1_leaveGroup 46 = .ok (.aload_n 0, 1) := by decide +kernel
theorem dX1_leaveGroup_47 : decode cX1_leaveGroup 47 = .ok (.getfield 38, 3) := by decide +kernel
theorem dX1_leaveGroup_50 : decode cX1_leaveGroup 50 = .ok (.iload_n 2, 1) := by decide +kernel
theorem dX1_leaveGroup_51 : decode cX1_leaveGroup 51 = .ok (.invokestatic 57, 3) := by decide +kernel
theorem dX1_leaveGroup_54 : decode cX1_leaveGroup 54 = .ok (.ireturn, 1) := by decide +kernel
theorem dX1_leaveGroup_55 : decode cX1_leaveGroup 55 = .ok (.aload_n 0, 1) := by decide +kernel
theorem dX1_leaveGroup_56 : decode cX1_leaveGroup 56 = .ok (.iload_n 2, 1) := by decide +kernel
theorem dX1_leaveGroup_57 : decode cX1_leaveGroup 57 = .ok (.putfield 25, 3) := by decide +kernel
theorem dX1_leaveGroup_60 : decode cX1_leaveGroup 60 = .ok (.iload_n 1, 1) := by decide +kernel
theorem dX1_leaveGroup_61 : decode cX1_leaveGroup 61 = .ok (.iconst 1, 1) := by decide +kernel
theorem dX1_leaveGroup_62 : decode cX1_leaveGroup 62 = .ok (.iadd, 1) := by decide +kernel
theorem dX1_leaveGroup_63 : decode cX1_leaveGroup 63 = .ok (.ireturn, 1) := by decide +kernel
set_option maxRecDepth 20000 in
theorem ggX1_addLeads_X11_setCell : GoodIn wsX1_addLeads wsX11_setCell := goodIn_r _ [6] (by decide +kernel) (by decide +kernel)
set_option maxRecDepth 20000 in
theorem gX1_addLeads_X11_setCell_n89 : GoodIn wsX1_addLeads (wsX11_setCell) := ggX1_addLeads_X11_setCell
theorem dX1_addLeads_0 : decode cX1_addLeads 0 = .ok (.iconst 0, 1) := by decide +kernel
theorem dX1_addLeads_1 : decode cX1_addLeads 1 = .ok (.istore_n 3, 1) := by decide +kernel
theorem dX1_addLeads_2 : decode cX1_addLeads 2 = .ok (.iload_n 3, 1) := by decide +kernel
theorem dX1_addLeads_3 : decode cX1_addLeads 3 = .ok (.iload_n 2, 1) := by decide +kernel
theorem dX1_addLeads_4 : decode cX1_addLeads 4 = .ok (.if_icmp .ge 48, 3) := by decide +kernel
theorem dX1_addLeads_7 : decode cX1_addLeads 7 = .ok (.aload_n 0, 1) := by decide +kernel
theorem dX1_addLeads_8 : decode cX1_addLeads 8 = .ok (.getfield 50, 3) := by decide +kernel
theorem dX1_addLeads_11 : decode cX1_addLeads 11 = .ok (.sipush 1000, 3) := by decide +kernel
theorem dX1_addLeads_14 : decode cX1_addLeads 14 = .ok (.if_icmp .gt 38, 3) := by decide +kernel
theorem dX1_addLeads_17 : decode cX1_addLeads 17 = .ok (.aload_n 0, 1) := by decide +kernel
theorem dX1_addLeads_18 : decode cX1_addLeads 18 = .ok (.getfield 47, 3) := by decide +kernel
theorem dX1_addLeads_21 : decode cX1_addLeads 21 = .ok (.aload_n 0, 1) := by decide +kernel
theorem dX1_addLeads_22 : decode cX1_addLeads 22 = .ok (.getfield 50, 3) := by decide +kernel
theorem dX1_addLeads_25 : decode cX1_addLeads 25 = .ok (.aload_n 0, 1) := by decide +kernel
theorem dX1_addLeads_26 : decode cX1_addLeads 26 = .ok (.getfield 22, 3) := by decide +kernel
theorem dX1_addLeads_29 : decode cX1_addLeads 29 = .ok (.iconst 3, 1) := by decide +kernel
theorem dX1_addLeads_30 : decode cX1_addLeads 30 = .ok (.imul, 1) := by decide +kernel
theorem dX1_addLeads_31 : decode cX1_addLeads 31 = .ok (.iload_n 1, 1) := by decide +kernel
theorem dX1_addLeads_32 : decode cX1_addLeads 32 = .ok (.iadd, 1) := by decide +kernel
theorem dX1_addLeads_33 : decode cX1_addLeads 33 = .ok (.invokestatic 89, 3) := by decide +kernel
theorem dX1_addLeads_36 : decode cX1_addLeads 36 = .ok (.aload_n 0, 1) := by decide +kernel
theorem dX1_addLeads_37 : decode cX1_addLeads 37 = .ok (.dup, 1) := by decide +kernel
theorem dX1_addLeads_38 : decode cX1_addLeads 38 = .ok (.getfield 50, 3) := by decide +kernel
theorem dX1_addLeads_41 : decode cX1_addLeads 41 = .ok (.iconst 1, 1) := by decide +kernel
theorem dX1_addLeads_42 : decode cX1_addLeads 42 = .ok (.iadd, 1) := by decide +kernel
theorem dX1_addLeads_43 : decode cX1_addLeads 43 = .ok (.putfield 50, 3) := by decide +kernel
theorem dX1_addLeads_46 : decode cX1_addLeads 46 = .ok (.iinc 3 1, 3) := by decide +kernel
theorem dX1_addLeads_49 : decode cX1_addLeads 49 = .ok (.goto (-47), 3) := by decide +kernel
theorem dX1_addLeads_52 : decode cX1_addLeads 52 = .ok (.return_, 1) := by decide +kernel
theorem dX2_init_0 : decode cX2_init 0 = .ok (.aload_n 0, 1) := by decide +kernel
theorem dX2_init_1 : decode cX2_init 1 = .ok (.invokespecial 3, 3) := by decide +kernel
theorem dX2_init_4 : decode cX2_init 4 = .ok (.aload_n 0, 1) := by decide +kernel
theorem dX2_init_5 : decode cX2_init 5 = .ok (.bipush 64, 2) := by decide +kernel
theorem dX2_init_7 : decode cX2_init 7 = .ok (.newarray .int, 2) := by decide +kernel
theorem dX2_init_9 : decode cX2_init 9 = .ok (.putfield 9, 3) := by decide +kernel
theorem dX2_init_12 : decode cX2_init 12 = .ok (.aload_n 0, 1) := by decide +kernel
theorem dX2_init_13 : decode cX2_init 13 = .ok (.iconst 0, 1) := by decide +kernel
theorem dX2_init_14 : decode cX2_init 14 = .ok (.putfield 15, 3) := by decide +kernel
theorem dX2_init_17 : decode cX2_init 17 = .ok (.aload_n 0, 1) := by decide +kernel
theorem dX2_init_18 : decode cX2_init 18 = .ok (.iconst 0, 1) := by decide +kernel
theorem dX2_init_19 : decode cX2_init 19 = .ok (.putfield 19, 3) := by decide +kernel
theorem dX2_init_22 : decode cX2_init 22 = .ok (.aload_n 0, 1) := by decide +kernel
theorem dX2_init_23 : decode cX2_init 23 = .ok (.iconst 0, 1) := by decide +kernel
theorem dX2_init_24 : decode cX2_init 24 = .ok (.putfield 22, 3) := by decide +kernel
theorem dX2_init_27 : decode cX2_init 27 = .ok (.aload_n 0, 1) := by decide +kernel
theorem dX2_init_28 : decode cX2_init 28 = .ok (.iconst 0, 1) := by decide +kernel
theorem dX2_init_29 : decode cX2_init 29 = .ok (.putfield 25, 3) := by decide +kernel
theorem dX2_init_32 : decode cX2_init 32 = .ok (.aload_n 0, 1) := by decide +kernel
theorem dX2_init_33 : decode cX2_init 33 = .ok (.iconst 0, 1) := by decide +kernel
theorem dX2_init_34 : decode cX2_init 34 = .ok (.putfield 28, 3) := by decide +kernel
theorem dX2_init_37 : decode cX2_init 37 = .ok (.aload_n 0, 1) := by decide +kernel
theorem dX2_init_38 : decode cX2_init 38 = .ok (.iconst 0, 1) := by decide +kernel
theorem dX2_init_39 : decode cX2_init 39 = .ok (.putfield 31, 3) := by decide +kernel
theorem dX2_init_42 : decode cX2_init 42 = .ok (.aload_n 0, 1) := by decide +kernel
theorem dX2_init_43 : decode cX2_init 43 = .ok (.iconst 0, 1) := by decide +kernel
theorem dX2_init_44 : decode cX2_init 44 = .ok (.putfield 34, 3) := by decide +kernel
theorem dX2_init_47 : decode cX2_init 47 = .ok (.return_, 1) := by decide +kernel
theorem dX2_clear_0 : decode cX2_clear 0 = .ok (.aload_n 0, 1) := by decide +kernel
theorem dX2_clear_1 : decode cX2_clear 1 = .ok (.iconst 0, 1) := by decide +kernel
theorem dX2_clear_2 : decode cX2_clear 2 = .ok (.putfield 15, 3) := by decide +kernel
theorem dX2_clear_5 : decode cX2_clear 5 = .ok (.return_, 1) := by decide +kernel
theorem dX2_size_0 : decode cX2_size 0 = .ok (.aload_n 0, 1) := by decide +kernel
theorem dX2_size_1 : decode cX2_size 1 = .ok (.getfield 15, 3) := by decide +kernel
theorem dX2_size_4 : decode cX2_size 4 = .ok (.ireturn, 1) := by decide +kernel
theorem dX2_bells_0 : decode cX2_bells 0 = .ok (.aload_n 0, 1) := by decide +kernel
theorem dX2_bells_1 : decode cX2_bells 1 = .ok (.getfield 19, 3) := by decide +kernel
theorem dX2_bells_4 : decode cX2_bells 4 = .ok (.ireturn, 1) := by decide +kernel
set_option maxRecDepth 20000 in
theorem ggX2_changeAt_X11_cell : GoodIn wsX2_changeAt wsX11_cell := goodIn_r _ [4] (by decide +kernel) (by decide +kernel)
set_option maxRecDepth 20000 in
theorem gX2_changeAt_X11_cell_n37 : GoodIn wsX2_changeAt (wsX11_cell) := ggX2_changeAt_X11_cell
theorem dX2_changeAt_0 : decode cX2_changeAt 0 = .ok (.aload_n 0, 1) := by decide +kernel
theorem dX2_changeAt_1 : decode cX2_changeAt 1 = .ok (.getfield 9, 3) := by decide +kernel
theorem dX2_changeAt_4 : decode cX2_changeAt 4 = .ok (.iload_n 1, 1) := by decide +kernel
theorem dX2_changeAt_5 : decode cX2_changeAt 5 = .ok (.invokestatic 37, 3) := by decide +kernel
theorem dX2_changeAt_8 : decode cX2_changeAt 8 = .ok (.ireturn, 1) := by decide +kernel
set_option maxRecDepth 20000 in
theorem ggX2_changeCalled_X11_cell : GoodIn wsX2_changeCalled wsX11_cell := goodIn_r _ [7] (by decide +kernel) (by decide +kernel)
set_option maxRecDepth 20000 in
theorem gX2_changeCalled_X11_cell_n37 : GoodIn wsX2_changeCalled (wsX11_cell) := ggX2_changeCalled_X11_cell
theorem dX2_changeCalled_0 : decode cX2_changeCalled 0 = .ok (.iload_n 1, 1) := by decide +kernel
theorem dX2_changeCalled_1 : decode cX2_changeCalled 1 = .ok (.aload_n 0, 1) := by decide +kernel
theorem dX2_changeCalled_2 : decode cX2_changeCalled 2 = .ok (.getfield 15, 3) := by decide +kernel
theorem dX2_changeCalled_5 : decode cX2_changeCalled 5 = .ok (.iconst 1, 1) := by decide +kernel
theorem dX2_changeCalled_6 : decode cX2_changeCalled 6 = .ok (.isub, 1) := by decide +kernel
theorem dX2_changeCalled_7 : decode cX2_changeCalled 7 = .ok (.if_icmp .ne 7, 3) := by decide +kernel
theorem dX2_changeCalled_10 : decode cX2_changeCalled 10 = .ok (.iload_n 2, 1) := by decide +kernel
theorem dX2_changeCalled_11 : decode cX2_changeCalled 11 = .ok (.ifCond .ne 12, 3) := by decide +kernel
theorem dX2_changeCalled_14 : decode cX2_changeCalled 14 = .ok (.aload_n 0, 1) := by decide +kernel
theorem dX2_changeCalled_15 : decode cX2_changeCalled 15 = .ok (.getfield 9, 3) := by decide +kernel
theorem dX2_changeCalled_18 : decode cX2_changeCalled 18 = .ok (.iload_n 1, 1) := by decide +kernel
theorem dX2_changeCalled_19 : decode cX2_changeCalled 19 = .ok (.invokestatic 37, 3) := by decide +kernel
theorem dX2_changeCalled_22 : decode cX2_changeCalled 22 = .ok (.ireturn, 1) := by decide +kernel
theorem dX2_changeCalled_23 : decode cX2_changeCalled 23 = .ok (.iload_n 2, 1) := by decide +kernel
theorem dX2_changeCalled_24 : decode cX2_changeCalled 24 = .ok (.iconst 1, 1) := by decide +kernel
theorem dX2_changeCalled_25 : decode cX2_changeCalled 25 = .ok (.if_icmp .ne 10, 3) := by decide +kernel
theorem dX2_changeCalled_28 : decode cX2_changeCalled 28 = .ok (.aload_n 0, 1) := by decide +kernel
theorem dX2_changeCalled_29 : decode cX2_changeCalled 29 = .ok (.getfield 22, 3) := by decide +kernel
theorem dX2_changeCalled_32 : decode cX2_changeCalled 32 = .ok (.goto 7, 3) := by decide +kernel
theorem dX2_changeCalled_35 : decode cX2_changeCalled 35 = .ok (.aload_n 0, 1) := by decide +kernel
theorem dX2_changeCalled_36 : decode cX2_changeCalled 36 = .ok (.getfield 25, 3) := by decide +kernel
theorem dX2_changeCalled_39 : decode cX2_changeCalled 39 = .ok (.ireturn, 1) := by decide +kernel
set_option maxRecDepth 20000 in
theorem ggX2_setChange_X11_setCell : GoodIn wsX2_setChange wsX11_setCell := goodIn_r _ [4] (by decide +kernel) (by decide +kernel)
set_option maxRecDepth 20000 in
theorem gX2_setChange_X11_setCell_n41 : GoodIn wsX2_setChange (wsX11_setCell) := ggX2_setChange_X11_setCell
theorem dX2_setChange_0 : decode cX2_setChange 0 = .ok (.aload_n 0, 1) := by decide +kernel
theorem dX2_setChange_1 : decode cX2_setChange 1 = .ok (.getfield 9, 3) := by decide +kernel
theorem dX2_setChange_4 : decode cX2_setChange 4 = .ok (.iload_n 1, 1) := by decide +kernel
theorem dX2_setChange_5 : decode cX2_setChange 5 = .ok (.iload_n 2, 1) := by decide +kernel
theorem dX2_setChange_6 : decode cX2_setChange 6 = .ok (.invokestatic 41, 3) := by decide +kernel
theorem dX2_setChange_9 : decode cX2_setChange 9 = .ok (.return_, 1) := by decide +kernel
theorem dX2_setBob_0 : decode cX2_setBob 0 = .ok (.aload_n 0, 1) := by decide +kernel
theorem dX2_setBob_1 : decode cX2_setBob 1 = .ok (.iload_n 1, 1) := by decide +kernel
theorem dX2_setBob_2 : decode cX2_setBob 2 = .ok (.putfield 22, 3) := by decide +kernel
theorem dX2_setBob_5 : decode cX2_setBob 5 = .ok (.return_, 1) := by decide +kernel
theorem dX2_setSingle_0 : decode cX2_setSingle 0 = .ok (.aload_n 0, 1) := by decide +kernel
theorem dX2_setSingle_1 : decode cX2_setSingle 1 = .ok (.iload_n 1, 1) := by decide +kernel
theorem dX2_setSingle_2 : decode cX2_setSingle 2 = .ok (.putfield 25, 3) := by decide +kernel
theorem dX2_setSingle_5 : decode cX2_setSingle 5 = .ok (.return_, 1) := by decide +kernel
set_option maxRecDepth 20000 in
theorem ggX2_complete_X6_rounds : GoodIn wsX2_complete wsX6_rounds := goodIn_r _ [11] (by decide +kernel) (by decide +kernel)
set_option maxRecDepth 20000 in
theorem gX2_complete_X6_rounds : GoodIn wsX2_complete (va_wsS RX2 45 yX6_rounds wsX6_rounds) := goodIn_app (goodIn_of _ (by decide +kernel)) ggX2_complete_X6_rounds
set_option maxRecDepth 20000 in
theorem ggX2_complete_X2_rowFrom : GoodIn wsX2_complete wsX2_rowFrom := goodIn_r _ [16, 1, 17, 18, 19, 20, 21, 22, 10, 23, 28, 29, 30, 31, 32, 33, 34, 35] (by decide +kernel) (by decide +kernel)
set_option maxRecDepth 20000 in
theorem gX2_complete_X2_rowFrom : GoodIn wsX2_complete (wsV RX2 51 RX2 yX2_rowFrom wsX2_rowFrom) := goodIn_app (goodIn_of _ (by decide +kernel)) ggX2_complete_X2_rowFrom
set_option maxRecDepth 20000 in
theorem ggX2_complete_X2_changeCalled : GoodIn wsX2_complete wsX2_changeCalled := goodIn_r _ [27, 1, 17, 4, 6, 18, 19, 20, 28, 29, 30, 31, 32, 33, 34, 35] (by decide +kernel) (by decide +kernel)
set_option maxRecDepth 20000 in
theorem gX2_complete_X2_changeCalled : GoodIn wsX2_complete (wsV RX2 55 RX2 yX2_changeCalled wsX2_changeCalled) := goodIn_app (goodIn_of _ (by decide +kernel)) ggX2_complete_X2_changeCalled
set_option maxRecDepth 20000 in
theorem ggX2_complete_X6_changed : GoodIn wsX2_complete wsX6_changed := goodIn_r _ [23] (by decide +kernel) (by decide +kernel)
set_option maxRecDepth 20000 in
theorem gX2_complete_X6_changed : GoodIn wsX2_complete (va_wsS RX2 58 yX6_changed wsX6_changed) := goodIn_app (goodIn_of _ (by decide +kernel)) ggX2_complete_X6_changed
theorem dX2_complete_0 : decode cX2_complete 0 = .ok (.aload_n 0, 1) := by decide +kernel
theorem dX2_complete_1 : decode cX2_complete 1 = .ok (.iload_n 1, 1) := by decide +kernel
theorem dX2_complete_2 : decode cX2_complete 2 = .ok (.putfield 15, 3) := by decide +kernel
theorem dX2_complete_5 : decode cX2_complete 5 = .ok (.aload_n 0, 1) := by decide +kernel
theorem dX2_complete_6 : decode cX2_complete 6 = .ok (.iload_n 2, 1) := by decide +kernel
theorem dX2_complete_7 : decode cX2_complete 7 = .ok (.putfield 19, 3) := by decide +kernel
theorem dX2_complete_10 : decode cX2_complete 10 = .ok (.aload_n 0, 1) := by decide +kernel
theorem dX2_complete_11 : decode cX2_complete 11 = .ok (.iload_n 2, 1) := by decide +kernel
theorem dX2_complete_12 : decode cX2_complete 12 = .ok (.invokestatic 45, 3) := by decide +kernel
theorem dX2_complete_15 : decode cX2_complete 15 = .ok (.iload_n 1, 1) := by decide +kernel
theorem dX2_complete_16 : decode cX2_complete 16 = .ok (.iconst 1, 1) := by decide +kernel
theorem dX2_complete_17 : decode cX2_complete 17 = .ok (.isub, 1) := by decide +kernel
theorem dX2_complete_18 : decode cX2_complete 18 = .ok (.invokevirtual 51, 3) := by decide +kernel
theorem dX2_complete_21 : decode cX2_complete 21 = .ok (.istore_n 3, 1) := by decide +kernel
theorem dX2_complete_22 : decode cX2_complete 22 = .ok (.aload_n 0, 1) := by decide +kernel
theorem dX2_complete_23 : decode cX2_complete 23 = .ok (.iload_n 3, 1) := by decide +kernel
theorem dX2_complete_24 : decode cX2_complete 24 = .ok (.aload_n 0, 1) := by decide +kernel
theorem dX2_complete_25 : decode cX2_complete 25 = .ok (.iload_n 1, 1) := by decide +kernel
theorem dX2_complete_26 : decode cX2_complete 26 = .ok (.iconst 1, 1) := by decide +kernel
theorem dX2_complete_27 : decode cX2_complete 27 = .ok (.isub, 1) := by decide +kernel
theorem dX2_complete_28 : decode cX2_complete 28 = .ok (.iconst 0, 1) := by decide +kernel
theorem dX2_complete_29 : decode cX2_complete 29 = .ok (.invokevirtual 55, 3) := by decide +kernel
theorem dX2_complete_32 : decode cX2_complete 32 = .ok (.invokestatic 58, 3) := by decide +kernel
theorem dX2_complete_35 : decode cX2_complete 35 = .ok (.putfield 28, 3) := by decide +kernel
theorem dX2_complete_38 : decode cX2_complete 38 = .ok (.aload_n 0, 1) := by decide +kernel
theorem dX2_complete_39 : decode cX2_complete 39 = .ok (.iload_n 3, 1) := by decide +kernel
theorem dX2_complete_40 : decode cX2_complete 40 = .ok (.aload_n 0, 1) := by decide +kernel
theorem dX2_complete_41 : decode cX2_complete 41 = .ok (.getfield 22, 3) := by decide +kernel
theorem dX2_complete_44 : decode cX2_complete 44 = .ok (.invokestatic 58, 3) := by decide +kernel
theorem dX2_complete_47 : decode cX2_complete 47 = .ok (.putfield 31, 3) := by decide +kernel
theorem dX2_complete_50 : decode cX2_complete 50 = .ok (.aload_n 0, 1) := by decide +kernel
theorem dX2_complete_51 : decode cX2_complete 51 = .ok (.iload_n 3, 1) := by decide +kernel
theorem dX2_complete_52 : decode cX2_complete 52 = .ok (.aload_n 0, 1) := by decide +kernel
theorem dX2_complete_53 : decode cX2_complete 53 = .ok (.getfield 25, 3) := by decide +kernel
theorem dX2_complete_56 : decode cX2_complete 56 = .ok (.invokestatic 58, 3) := by decide +kernel
theorem dX2_complete_59 : decode cX2_complete 59 = .ok (.putfield 34, 3) := by decide +kernel
theorem dX2_complete_62 : decode cX2_complete 62 = .ok (.return_, 1) := by decide +kernel
set_option maxRecDepth 20000 in
theorem ggX2_copyFrom_X11_cell : GoodIn wsX2_copyFrom wsX11_cell := goodIn_r _ [8] (by decide +kernel) (by decide +kernel)
set_option maxRecDepth 20000 in
theorem gX2_copyFrom_X11_cell_n37 : GoodIn wsX2_copyFrom (wsX11_cell) := ggX2_copyFrom_X11_cell
set_option maxRecDepth 20000 in
theorem ggX2_copyFrom_X11_setCell : GoodIn wsX2_copyFrom wsX11_setCell := goodIn_r _ [10] (by decide +kernel) (by decide +kernel)
set_option maxRecDepth 20000 in
theorem gX2_copyFrom_X11_setCell_n41 : GoodIn wsX2_copyFrom (wsX11_setCell) := ggX2_copyFrom_X11_setCell
set_option maxRecDepth 20000 in
theorem ggX2_copyFrom_X2_complete : GoodIn wsX2_copyFrom wsX2_complete := goodIn_r _ [15, 1, 5, 16, 3, 17, 4, 18, 19, 20, 21, 22, 23, 24, 25, 14, 26, 2, 6, 7, 8, 27, 28, 29, 30, 31, 32, 33, 34, 35, 36, 37, 38, 39, 40, 41] (by decide +kernel) (by decide +kernel)
set_option maxRecDepth 20000 in
theorem gX2_copyFrom_X2_complete : GoodIn wsX2_copyFrom (wsV RX2 61 RX2 yX2_complete wsX2_complete) := goodIn_app (goodIn_of _ (by decide +kernel)) ggX2_copyFrom_X2_complete
theorem dX2_copyFrom_0 : decode cX2_copyFrom 0 = .ok (.iconst 0, 1) := by decide +kernel
theorem dX2_copyFrom_1 : decode cX2_copyFrom 1 = .ok (.istore_n 2, 1) := by decide +kernel
theorem dX2_copyFrom_2 : decode cX2_copyFrom 2 = .ok (.iload_n 2, 1) := by decide +kernel
theorem dX2_copyFrom_3 : decode cX2_copyFrom 3 = .ok (.aload_n 1, 1) := by decide +kernel
theorem dX2_copyFrom_4 : decode cX2_copyFrom 4 = .ok (.getfield 15, 3) := by decide +kernel
theorem dX2_copyFrom_7 : decode cX2_copyFrom 7 = .ok (.if_icmp .ge 25, 3) := by decide +kernel
theorem dX2_copyFrom_10 : decode cX2_copyFrom 10 = .ok (.aload_n 0, 1) := by decide +kernel
theorem dX2_copyFrom_11 : decode cX2_copyFrom 11 = .ok (.getfield 9, 3) := by decide +kernel
theorem dX2_copyFrom_14 : decode cX2_copyFrom 14 = .ok (.iload_n 2, 1) := by decide +kernel
theorem dX2_copyFrom_15 : decode cX2_copyFrom 15 = .ok (.aload_n 1, 1) := by decide +kernel
theorem dX2_copyFrom_16 : decode cX2_copyFrom 16 = .ok (.getfield 9, 3) := by decide +kernel
theorem dX2_copyFrom_19 : decode cX2_copyFrom 19 = .ok (.iload_n 2, 1) := by decide +kernel
theorem dX2_copyFrom_20 : decode cX2_copyFrom 20 = .ok (.invokestatic 37, 3) := by decide +kernel
theorem dX2_copyFrom_23 : decode cX2_copyFrom 23 = .ok (.invokestatic 41, 3) := by decide +kernel
theorem dX2_copyFrom_26 : decode cX2_copyFrom 26 = .ok (.iinc 2 1, 3) := by decide +kernel
theorem dX2_copyFrom_29 : decode cX2_copyFrom 29 = .ok (.goto (-27), 3) := by decide +kernel
theorem dX2_copyFrom_32 : decode cX2_copyFrom 32 = .ok (.aload_n 0, 1) := by decide +kernel
theorem dX2_copyFrom_33 : decode cX2_copyFrom 33 = .ok (.aload_n 1, 1) := by decide +kernel
theorem dX2_copyFrom_34 : decode cX2_copyFrom 34 = .ok (.getfield 22, 3) := by decide +kernel
theorem dX2_copyFrom_37 : decode cX2_copyFrom 37 = .ok (.putfield 22, 3) := by decide +kernel
theorem dX2_copyFrom_40 : decode cX2_copyFrom 40 = .ok (.aload_n 0, 1) := by decide +kernel
theorem dX2_copyFrom_41 : decode cX2_copyFrom 41 = .ok (.aload_n 1, 1) := by decide +kernel
theorem dX2_copyFrom_42 : decode cX2_copyFrom 42 = .ok (.getfield 25, 3) := by decide +kernel
theorem dX2_copyFrom_45 : decode cX2_copyFrom 45 = .ok (.putfield 25, 3) := by decide +kernel
theorem dX2_copyFrom_48 : decode cX2_copyFrom 48 = .ok (.aload_n 0, 1) := by decide +kernel
theorem dX2_copyFrom_49 : decode cX2_copyFrom 49 = .ok (.aload_n 1, 1) := by decide +kernel
theorem dX2_copyFrom_50 : decode cX2_copyFrom 50 = .ok (.getfield 15, 3) := by decide +kernel
theorem dX2_copyFrom_53 : decode cX2_copyFrom 53 = .ok (.aload_n 1, 1) := by decide +kernel
theorem dX2_copyFrom_54 : decode cX2_copyFrom 54 = .ok (.getfield 19, 3) := by decide +kernel
theorem dX2_copyFrom_57 : decode cX2_copyFrom 57 = .ok (.invokevirtual 61, 3) := by decide +kernel
theorem dX2_copyFrom_60 : decode cX2_copyFrom 60 = .ok (.return_, 1) := by decide +kernel
set_option maxRecDepth 20000 in
theorem ggX2_rowFrom_X11_cell : GoodIn wsX2_rowFrom wsX11_cell := goodIn_r _ [5] (by decide +kernel) (by decide +kernel)
set_option maxRecDepth 20000 in
theorem gX2_rowFrom_X11_cell_n37 : GoodIn wsX2_rowFrom (wsX11_cell) := ggX2_rowFrom_X11_cell
set_option maxRecDepth 20000 in
theorem ggX2_rowFrom_X6_changed : GoodIn wsX2_rowFrom wsX6_changed := goodIn_r _ [9] (by decide +kernel) (by decide +kernel)
set_option maxRecDepth 20000 in
theorem gX2_rowFrom_X6_changed : GoodIn wsX2_rowFrom (va_wsS RX2 58 yX6_changed wsX6_changed) := goodIn_app (goodIn_of _ (by decide +kernel)) ggX2_rowFrom_X6_changed
theorem dX2_rowFrom_0 : decode cX2_rowFrom 0 = .ok (.iload_n 1, 1) := by decide +kernel
theorem dX2_rowFrom_1 : decode cX2_rowFrom 1 = .ok (.istore_n 3, 1) := by decide +kernel
theorem dX2_rowFrom_2 : decode cX2_rowFrom 2 = .ok (.iconst 0, 1) := by decide +kernel
theorem dX2_rowFrom_3 : decode cX2_rowFrom 3 = .ok (.istore 4, 2) := by decide +kernel
theorem dX2_rowFrom_5 : decode cX2_rowFrom 5 = .ok (.iload 4, 2) := by decide +kernel
theorem dX2_rowFrom_7 : decode cX2_rowFrom 7 = .ok (.iload_n 2, 1) := by decide +kernel
theorem dX2_rowFrom_8 : decode cX2_rowFrom 8 = .ok (.if_icmp .ge 32, 3) := by decide +kernel
theorem dX2_rowFrom_11 : decode cX2_rowFrom 11 = .ok (.iload 4, 2) := by decide +kernel
theorem dX2_rowFrom_13 : decode cX2_rowFrom 13 = .ok (.aload_n 0, 1) := by decide +kernel
theorem dX2_rowFrom_14 : decode cX2_rowFrom 14 = .ok (.getfield 15, 3) := by decide +kernel
theorem dX2_rowFrom_17 : decode cX2_rowFrom 17 = .ok (.if_icmp .ge 23, 3) := by decide +kernel
theorem dX2_rowFrom_20 : decode cX2_rowFrom 20 = .ok (.iload_n 3, 1) := by decide +kernel
theorem dX2_rowFrom_21 : decode cX2_rowFrom 21 = .ok (.aload_n 0, 1) := by decide +kernel
theorem dX2_rowFrom_22 : decode cX2_rowFrom 22 = .ok (.getfield 9, 3) := by decide +kernel
theorem dX2_rowFrom_25 : decode cX2_rowFrom 25 = .ok (.iload 4, 2) := by decide +kernel
theorem dX2_rowFrom_27 : decode cX2_rowFrom 27 = .ok (.invokestatic 37, 3) := by decide +kernel
theorem dX2_rowFrom_30 : decode cX2_rowFrom 30 = .ok (.invokestatic 58, 3) := by decide +kernel
theorem dX2_rowFrom_33 : decode cX2_rowFrom 33 = .ok (.istore_n 3, 1) := by decide +kernel
theorem dX2_rowFrom_34 : decode cX2_rowFrom 34 = .ok (.iinc 4 1, 3) := by decide +kernel
theorem dX2_rowFrom_37 : decode cX2_rowFrom 37 = .ok (.goto (-32), 3) := by decide +kernel
theorem dX2_rowFrom_40 : decode cX2_rowFrom 40 = .ok (.iload_n 3, 1) := by decide +kernel
theorem dX2_rowFrom_41 : decode cX2_rowFrom 41 = .ok (.ireturn, 1) := by decide +kernel
set_option maxRecDepth 20000 in
theorem ggX2_following_X6_fromHead : GoodIn wsX2_following wsX6_fromHead := goodIn_r _ [8, 9, 10, 7, 11] (by decide +kernel) (by decide +kernel)
set_option maxRecDepth 20000 in
theorem gX2_following_X6_fromHead : GoodIn wsX2_following (va_wsS RX2 65 yX6_fromHead wsX6_fromHead) := goodIn_app (goodIn_of _ (by decide +kernel)) ggX2_following_X6_fromHead
theorem dX2_following_0 : decode cX2_following 0 = .ok (.iload_n 2, 1) := by decide +kernel
theorem dX2_following_1 : decode cX2_following 1 = .ok (.ifCond .ne 16, 3) := by decide +kernel
theorem dX2_following_4 : decode cX2_following 4 = .ok (.iload_n 1, 1) := by decide +kernel
theorem dX2_following_5 : decode cX2_following 5 = .ok (.aload_n 0, 1) := by decide +kernel
theorem dX2_following_6 : decode cX2_following 6 = .ok (.getfield 28, 3) := by decide +kernel
theorem dX2_following_9 : decode cX2_following 9 = .ok (.aload_n 0, 1) := by decide +kernel
theorem dX2_following_10 : decode cX2_following 10 = .ok (.getfield 19, 3) := by decide +kernel
theorem dX2_following_13 : decode cX2_following 13 = .ok (.invokestatic 65, 3) := by decide +kernel
theorem dX2_following_16 : decode cX2_following 16 = .ok (.ireturn, 1) := by decide +kernel
theorem dX2_following_17 : decode cX2_following 17 = .ok (.iload_n 1, 1) := by decide +kernel
theorem dX2_following_18 : decode cX2_following 18 = .ok (.iload_n 2, 1) := by decide +kernel
theorem dX2_following_19 : decode cX2_following 19 = .ok (.iconst 1, 1) := by decide +kernel
theorem dX2_following_20 : decode cX2_following 20 = .ok (.if_icmp .ne 10, 3) := by decide +kernel
theorem dX2_following_23 : decode cX2_following 23 = .ok (.aload_n 0, 1) := by decide +kernel
theorem dX2_following_24 : decode cX2_following 24 = .ok (.getfield 31, 3) := by decide +kernel
theorem dX2_following_27 : decode cX2_following 27 = .ok (.goto 7, 3) := by decide +kernel
theorem dX2_following_30 : decode cX2_following 30 = .ok (.aload_n 0, 1) := by decide +kernel
theorem dX2_following_31 : decode cX2_following 31 = .ok (.getfield 34, 3) := by decide +kernel
theorem dX2_following_34 : decode cX2_following 34 = .ok (.aload_n 0, 1) := by decide +kernel
theorem dX2_following_35 : decode cX2_following 35 = .ok (.getfield 19, 3) := by decide +kernel
theorem dX2_following_38 : decode cX2_following 38 = .ok (.invokestatic 65, 3) := by decide +kernel
theorem dX2_following_41 : decode cX2_following 41 = .ok (.ireturn, 1) := by decide +kernel
set_option maxRecDepth 20000 in
theorem ggX2_courseLeads_X6_order : GoodIn wsX2_courseLeads wsX6_order := goodIn_r _ [6, 7, 8, 9, 5, 10, 11, 12, 13, 14, 15, 16] (by decide +kernel) (by decide +kernel)
set_option maxRecDepth 20000 in
theorem gX2_courseLeads_X6_order : GoodIn wsX2_courseLeads (va_wsS RX2 69 yX6_order wsX6_order) := goodIn_app (goodIn_of _ (by decide +kernel)) ggX2_courseLeads_X6_order
theorem dX2_courseLeads_0 : decode cX2_courseLeads 0 = .ok (.aload_n 0, 1) := by decide +kernel
theorem dX2_courseLeads_1 : decode cX2_courseLeads 1 = .ok (.getfield 28, 3) := by decide +kernel
theorem dX2_courseLeads_4 : decode cX2_courseLeads 4 = .ok (.aload_n 0, 1) := by decide +kernel
theorem dX2_courseLeads_5 : decode cX2_courseLeads 5 = .ok (.getfield 19, 3) := by decide +kernel
theorem dX2_courseLeads_8 : decode cX2_courseLeads 8 = .ok (.invokestatic 69, 3) := by decide +kernel
theorem dX2_courseLeads_11 : decode cX2_courseLeads 11 = .ok (.ireturn, 1) := by decide +kernel
set_option maxRecDepth 20000 in
theorem ggX2_courseRow_X2_courseLeads : GoodIn wsX2_courseRow wsX2_courseLeads := goodIn_r _ [7, 8, 1, 9, 10, 11, 12, 13, 14, 15, 16, 17, 18, 19, 20, 21, 22, 42, 43, 44, 45, 46, 47, 48, 49] (by decide +kernel) (by decide +kernel)
set_option maxRecDepth 20000 in
theorem gX2_courseRow_X2_courseLeads : GoodIn wsX2_courseRow (wsV RX2 72 RX2 yX2_courseLeads wsX2_courseLeads) := goodIn_app (goodIn_of _ (by decide +kernel)) ggX2_courseRow_X2_courseLeads
set_option maxRecDepth 20000 in
theorem ggX2_courseRow_X6_rounds : GoodIn wsX2_courseRow wsX6_rounds := goodIn_r _ [16] (by decide +kernel) (by decide +kernel)
set_option maxRecDepth 20000 in
theorem gX2_courseRow_X6_rounds : GoodIn wsX2_courseRow (va_wsS RX2 45 yX6_rounds wsX6_rounds) := goodIn_app (goodIn_of _ (by decide +kernel)) ggX2_courseRow_X6_rounds
set_option maxRecDepth 20000 in
theorem ggX2_courseRow_X2_following : GoodIn wsX2_courseRow wsX2_following := goodIn_r _ [27, 8, 1, 28, 29, 30, 18, 11, 19, 20, 21, 22, 42, 43, 44, 45, 46, 47, 48, 49] (by decide +kernel) (by decide +kernel)
set_option maxRecDepth 20000 in
theorem gX2_courseRow_X2_following : GoodIn wsX2_courseRow (wsV RX2 76 RX2 yX2_following wsX2_following) := goodIn_app (goodIn_of _ (by decide +kernel)) ggX2_courseRow_X2_following
set_option maxRecDepth 20000 in
theorem ggX2_courseRow_X2_rowFrom : GoodIn wsX2_courseRow wsX2_rowFrom := goodIn_r _ [34, 2, 35, 36, 37, 38, 39, 40, 11, 41, 42, 43, 44, 45, 46, 47, 48, 49] (by decide +kernel) (by decide +kernel)
set_option maxRecDepth 20000 in
theorem gX2_courseRow_X2_rowFrom : GoodIn wsX2_courseRow (wsV RX2 51 RX2 yX2_rowFrom wsX2_rowFrom) := goodIn_app (goodIn_of _ (by decide +kernel)) ggX2_courseRow_X2_rowFrom
theorem dX2_courseRow_0 : decode cX2_courseRow 0 = .ok (.aload_n 0, 1) := by decide +kernel
theorem dX2_courseRow_1 : decode cX2_courseRow 1 = .ok (.invokevirtual 72, 3) := by decide +kernel
theorem dX2_courseRow_4 : decode cX2_courseRow 4 = .ok (.istore_n 2, 1) := by decide +kernel
theorem dX2_courseRow_5 : decode cX2_courseRow 5 = .ok (.aload_n 0, 1) := by decide +kernel
theorem dX2_courseRow_6 : decode cX2_courseRow 6 = .ok (.getfield 19, 3) := by decide +kernel
theorem dX2_courseRow_9 : decode cX2_courseRow 9 = .ok (.invokestatic 45, 3) := by decide +kernel
theorem dX2_courseRow_12 : decode cX2_courseRow 12 = .ok (.istore_n 3, 1) := by decide +kernel
theorem dX2_courseRow_13 : decode cX2_courseRow 13 = .ok (.aload_n 0, 1) := by decide +kernel
theorem dX2_courseRow_14 : decode cX2_courseRow 14 = .ok (.getfield 15, 3) := by decide +kernel
theorem dX2_courseRow_17 : decode cX2_courseRow 17 = .ok (.iconst 1, 1) := by decide +kernel
theorem dX2_courseRow_18 : decode cX2_courseRow 18 = .ok (.if_icmp .lt 8, 3) := by decide +kernel
theorem dX2_courseRow_21 : decode cX2_courseRow 21 = .ok (.iload_n 2, 1) := by decide +kernel
theorem dX2_courseRow_22 : decode cX2_courseRow 22 = .ok (.iconst 1, 1) := by decide +kernel
theorem dX2_courseRow_23 : decode cX2_courseRow 23 = .ok (.if_icmp .ge 5, 3) := by decide +kernel
theorem dX2_courseRow_26 : decode cX2_courseRow 26 = .ok (.iload_n 3, 1) := by decide +kernel
theorem dX2_courseRow_27 : decode cX2_courseRow 27 = .ok (.ireturn, 1) := by decide +kernel
theorem dX2_courseRow_28 : decode cX2_courseRow 28 = .ok (.iload_n 1, 1) := by decide +kernel
theorem dX2_courseRow_29 : decode cX2_courseRow 29 = .ok (.aload_n 0, 1) := by decide +kernel
theorem dX2_courseRow_30 : decode cX2_courseRow 30 = .ok (.getfield 15, 3) := by decide +kernel
theorem dX2_courseRow_33 : decode cX2_courseRow 33 = .ok (.idiv, 1) := by decide +kernel
theorem dX2_courseRow_34 : decode cX2_courseRow 34 = .ok (.iload_n 2, 1) := by decide +kernel
theorem dX2_courseRow_35 : decode cX2_courseRow 35 = .ok (.irem, 1) := by decide +kernel
theorem dX2_courseRow_36 : decode cX2_courseRow 36 = .ok (.istore 4, 2) := by decide +kernel
theorem dX2_courseRow_38 : decode cX2_courseRow 38 = .ok (.iconst 0, 1) := by decide +kernel
theorem dX2_courseRow_39 : decode cX2_courseRow 39 = .ok (.istore 5, 2) := by decide +kernel
theorem dX2_courseRow_41 : decode cX2_courseRow 41 = .ok (.iload 5, 2) := by decide +kernel
theorem dX2_courseRow_43 : decode cX2_courseRow 43 = .ok (.iload 4, 2) := by decide +kernel
theorem dX2_courseRow_45 : decode cX2_courseRow 45 = .ok (.if_icmp .ge 16, 3) := by decide +kernel
theorem dX2_courseRow_48 : decode cX2_courseRow 48 = .ok (.aload_n 0, 1) := by decide +kernel
theorem dX2_courseRow_49 : decode cX2_courseRow 49 = .ok (.iload_n 3, 1) := by decide +kernel
theorem dX2_courseRow_50 : decode cX2_courseRow 50 = .ok (.iconst 0, 1) := by decide +kernel
theorem dX2_courseRow_51 : decode cX2_courseRow 51 = .ok (.invokevirtual 76, 3) := by decide +kernel
theorem dX2_courseRow_54 : decode cX2_courseRow 54 = .ok (.istore_n 3, 1) := by decide +kernel
theorem dX2_courseRow_55 : decode cX2_courseRow 55 = .ok (.iinc 5 1, 3) := by decide +kernel
theorem dX2_courseRow_58 : decode cX2_courseRow 58 = .ok (.goto (-17), 3) := by decide +kernel
theorem dX2_courseRow_61 : decode cX2_courseRow 61 = .ok (.aload_n 0, 1) := by decide +kernel
theorem dX2_courseRow_62 : decode cX2_courseRow 62 = .ok (.iload_n 3, 1) := by decide +kernel
theorem dX2_courseRow_63 : decode cX2_courseRow 63 = .ok (.iload_n 1, 1) := by decide +kernel
theorem dX2_courseRow_64 : decode cX2_courseRow 64 = .ok (.aload_n 0, 1) := by decide +kernel
theorem dX2_courseRow_65 : decode cX2_courseRow 65 = .ok (.getfield 15, 3) := by decide +kernel
theorem dX2_courseRow_68 : decode cX2_courseRow 68 = .ok (.irem, 1) := by decide +kernel
theorem dX2_courseRow_69 : decode cX2_courseRow 69 = .ok (.invokevirtual 51, 3) := by decide +kernel
theorem dX2_courseRow_72 : decode cX2_courseRow 72 = .ok (.ireturn, 1) := by decide +kernel
set_option maxRecDepth 20000 in
theorem ggX3_init_X10_init : GoodIn wsX3_init wsX10_init := goodIn_r _ [17, 18, 19, 20, 21, 22, 23, 58, 59, 60, 61, 62, 63, 64, 65, 66, 67, 68, 69, 70, 71, 72, 73, 74, 44, 45, 46, 47, 48, 49, 50, 51, 52, 53, 54, 55, 56, 57] (by decide +kernel) (by decide +kernel)
set_option maxRecDepth 20000 in
theorem gX3_init_X10_init_n3 : GoodIn wsX3_init (wsX10_init) := ggX3_init_X10_init
set_option maxRecDepth 20000 in
theorem ggX3_init_X2_init : GoodIn wsX3_init wsX2_init := goodIn_r _ [25, 26, 19, 20, 27, 28, 29, 30, 31, 32, 33, 34, 35, 36, 37, 38, 39, 40, 41, 42, 43] (by decide +kernel) (by decide +kernel)
set_option maxRecDepth 20000 in
theorem gX3_init_X2_init_n11 : GoodIn wsX3_init (wsX2_init) := ggX3_init_X2_init
theorem dX3_init_0 : decode cX3_init 0 = .ok (.aload_n 0, 1) := by decide +kernel
theorem dX3_init_1 : decode cX3_init 1 = .ok (.invokespecial 3, 3) := by decide +kernel
theorem dX3_init_4 : decode cX3_init 4 = .ok (.aload_n 0, 1) := by decide +kernel
theorem dX3_init_5 : decode cX3_init 5 = .ok (.new 9, 3) := by decide +kernel
theorem dX3_init_8 : decode cX3_init 8 = .ok (.dup, 1) := by decide +kernel
theorem dX3_init_9 : decode cX3_init 9 = .ok (.invokespecial 11, 3) := by decide +kernel
theorem dX3_init_12 : decode cX3_init 12 = .ok (.putfield 12, 3) := by decide +kernel
theorem dX3_init_15 : decode cX3_init 15 = .ok (.aload_n 0, 1) := by decide +kernel
theorem dX3_init_16 : decode cX3_init 16 = .ok (.iconst 0, 1) := by decide +kernel
theorem dX3_init_17 : decode cX3_init 17 = .ok (.putfield 18, 3) := by decide +kernel
theorem dX3_init_20 : decode cX3_init 20 = .ok (.aload_n 0, 1) := by decide +kernel
theorem dX3_init_21 : decode cX3_init 21 = .ok (.iconst 0, 1) := by decide +kernel
theorem dX3_init_22 : decode cX3_init 22 = .ok (.putfield 22, 3) := by decide +kernel
theorem dX3_init_25 : decode cX3_init 25 = .ok (.aload_n 0, 1) := by decide +kernel
theorem dX3_init_26 : decode cX3_init 26 = .ok (.iconst 0, 1) := by decide +kernel
theorem dX3_init_27 : decode cX3_init 27 = .ok (.putfield 25, 3) := by decide +kernel
theorem dX3_init_30 : decode cX3_init 30 = .ok (.aload_n 0, 1) := by decide +kernel
theorem dX3_init_31 : decode cX3_init 31 = .ok (.iconst 0, 1) := by decide +kernel
theorem dX3_init_32 : decode cX3_init 32 = .ok (.putfield 28, 3) := by decide +kernel
theorem dX3_init_35 : decode cX3_init 35 = .ok (.aload_n 0, 1) := by decide +kernel
theorem dX3_init_36 : decode cX3_init 36 = .ok (.iconst 0, 1) := by decide +kernel
theorem dX3_init_37 : decode cX3_init 37 = .ok (.putfield 31, 3) := by decide +kernel
theorem dX3_init_40 : decode cX3_init 40 = .ok (.aload_n 0, 1) := by decide +kernel
theorem dX3_init_41 : decode cX3_init 41 = .ok (.iconst 0, 1) := by decide +kernel
theorem dX3_init_42 : decode cX3_init 42 = .ok (.putfield 34, 3) := by decide +kernel
theorem dX3_init_45 : decode cX3_init 45 = .ok (.aload_n 0, 1) := by decide +kernel
theorem dX3_init_46 : decode cX3_init 46 = .ok (.iconst 0, 1) := by decide +kernel
theorem dX3_init_47 : decode cX3_init 47 = .ok (.putfield 38, 3) := by decide +kernel
theorem dX3_init_50 : decode cX3_init 50 = .ok (.aload_n 0, 1) := by decide +kernel
theorem dX3_init_51 : decode cX3_init 51 = .ok (.iconst 0, 1) := by decide +kernel
theorem dX3_init_52 : decode cX3_init 52 = .ok (.putfield 41, 3) := by decide +kernel
theorem dX3_init_55 : decode cX3_init 55 = .ok (.aload_n 0, 1) := by decide +kernel
theorem dX3_init_56 : decode cX3_init 56 = .ok (.iconst 0, 1) := by decide +kernel
theorem dX3_init_57 : decode cX3_init 57 = .ok (.putfield 44, 3) := by decide +kernel
theorem dX3_init_60 : decode cX3_init 60 = .ok (.aload_n 0, 1) := by decide +kernel
theorem dX3_init_61 : decode cX3_init 61 = .ok (.iconst 0, 1) := by decide +kernel
theorem dX3_init_62 : decode cX3_init 62 = .ok (.putfield 47, 3) := by decide +kernel
theorem dX3_init_65 : decode cX3_init 65 = .ok (.return_, 1) := by decide +kernel
theorem dX3_draft_0 : decode cX3_draft 0 = .ok (.aload_n 0, 1) := by decide +kernel
theorem dX3_draft_1 : decode cX3_draft 1 = .ok (.getfield 12, 3) := by decide +kernel
theorem dX3_draft_4 : decode cX3_draft 4 = .ok (.areturn, 1) := by decide +kernel
set_option maxRecDepth 20000 in
theorem ggX3_begin_X3_beginBlock : GoodIn wsX3_begin wsX3_beginBlock := goodIn_r _ [8, 9, 3, 10, 11, 12, 13, 14, 15, 16, 17, 18, 19, 20, 21, 22, 23, 24, 25] (by decide +kernel) (by decide +kernel)
set_option maxRecDepth 20000 in
theorem gX3_begin_X3_beginBlock : GoodIn wsX3_begin (wsV RX3 50 RX3 yX3_beginBlock wsX3_beginBlock) := goodIn_app (goodIn_of _ (by decide +kernel)) ggX3_begin_X3_beginBlock
theorem dX3_begin_0 : decode cX3_begin 0 = .ok (.aload_n 0, 1) := by decide +kernel
theorem dX3_begin_1 : decode cX3_begin 1 = .ok (.iload_n 1, 1) := by decide +kernel
theorem dX3_begin_2 : decode cX3_begin 2 = .ok (.putfield 18, 3) := by decide +kernel
theorem dX3_begin_5 : decode cX3_begin 5 = .ok (.aload_n 0, 1) := by decide +kernel
theorem dX3_begin_6 : decode cX3_begin 6 = .ok (.iconst 0, 1) := by decide +kernel
theorem dX3_begin_7 : decode cX3_begin 7 = .ok (.putfield 22, 3) := by decide +kernel
theorem dX3_begin_10 : decode cX3_begin 10 = .ok (.aload_n 0, 1) := by decide +kernel
theorem dX3_begin_11 : decode cX3_begin 11 = .ok (.iconst 0, 1) := by decide +kernel
theorem dX3_begin_12 : decode cX3_begin 12 = .ok (.putfield 28, 3) := by decide +kernel
theorem dX3_begin_15 : decode cX3_begin 15 = .ok (.aload_n 0, 1) := by decide +kernel
theorem dX3_begin_16 : decode cX3_begin 16 = .ok (.invokevirtual 50, 3) := by decide +kernel
theorem dX3_begin_19 : decode cX3_begin 19 = .ok (.return_, 1) := by decide +kernel
theorem dX3_beginBlock_0 : decode cX3_beginBlock 0 = .ok (.aload_n 0, 1) := by decide +kernel
theorem dX3_beginBlock_1 : decode cX3_beginBlock 1 = .ok (.iconst 0, 1) := by decide +kernel
theorem dX3_beginBlock_2 : decode cX3_beginBlock 2 = .ok (.putfield 25, 3) := by decide +kernel
theorem dX3_beginBlock_5 : decode cX3_beginBlock 5 = .ok (.aload_n 0, 1) := by decide +kernel
theorem dX3_beginBlock_6 : decode cX3_beginBlock 6 = .ok (.aload_n 0, 1) := by decide +kernel
theorem dX3_beginBlock_7 : decode cX3_beginBlock 7 = .ok (.getfield 28, 3) := by decide +kernel
theorem dX3_beginBlock_10 : decode cX3_beginBlock 10 = .ok (.putfield 31, 3) := by decide +kernel
theorem dX3_beginBlock_13 : decode cX3_beginBlock 13 = .ok (.aload_n 0, 1) := by decide +kernel
theorem dX3_beginBlock_14 : decode cX3_beginBlock 14 = .ok (.iconst 0, 1) := by decide +kernel
theorem dX3_beginBlock_15 : decode cX3_beginBlock 15 = .ok (.putfield 34, 3) := by decide +kernel
theorem dX3_beginBlock_18 : decode cX3_beginBlock 18 = .ok (.return_, 1) := by decide +kernel
theorem dX3_isDigit_0 : decode cX3_isDigit 0 = .ok (.iload_n 1, 1) := by decide +kernel
theorem dX3_isDigit_1 : decode cX3_isDigit 1 = .ok (.bipush 49, 2) := by decide +kernel
theorem dX3_isDigit_3 : decode cX3_isDigit 3 = .ok (.if_icmp .lt 13, 3) := by decide +kernel
theorem dX3_isDigit_6 : decode cX3_isDigit 6 = .ok (.iload_n 1, 1) := by decide +kernel
theorem dX3_isDigit_7 : decode cX3_isDigit 7 = .ok (.bipush 56, 2) := by decide +kernel
theorem dX3_isDigit_9 : decode cX3_isDigit 9 = .ok (.if_icmp .gt 7, 3) := by decide +kernel
theorem dX3_isDigit_12 : decode cX3_isDigit 12 = .ok (.iconst 1, 1) := by decide +kernel
theorem dX3_isDigit_13 : decode cX3_isDigit 13 = .ok (.goto 4, 3) := by decide +kernel
theorem dX3_isDigit_16 : decode cX3_isDigit 16 = .ok (.iconst 0, 1) := by decide +kernel
theorem dX3_isDigit_17 : decode cX3_isDigit 17 = .ok (.ireturn, 1) := by decide +kernel
set_option maxRecDepth 20000 in
theorem ggX3_takeSign_X3_takeCross : GoodIn wsX3_takeSign wsX3_takeCross := goodIn_r _ [5, 6, 7, 8, 9, 10, 11, 4, 12, 13, 14, 15, 16, 17, 18, 19, 20, 21, 22, 23, 24, 25, 26, 27, 28, 29, 30, 31, 32, 33, 34, 35, 36, 37, 38, 39, 40, 41, 42, 43, 44, 45, 46, 47, 48, 49, 109, 110, 111, 112, 113, 114, 115, 116, 117, 118, 119, 120, 121, 122, 123, 124, 125, 126, 127, 128, 129, 130, 131, 132, 133, 134, 135, 136, 137, 138, 139, 140, 141, 142, 143, 144, 145, 146, 147] (by decide +kernel) (by decide +kernel)
set_option maxRecDepth 20000 in
theorem gX3_takeSign_X3_takeCross : GoodIn wsX3_takeSign (wsV RX3 53 RX3 yX3_takeCross wsX3_takeCross) := goodIn_app (goodIn_of _ (by decide +kernel)) ggX3_takeSign_X3_takeCross
set_option maxRecDepth 20000 in
theorem ggX3_takeSign_X3_takeMark : GoodIn wsX3_takeSign wsX3_takeMark := goodIn_r _ [53, 8, 54, 13, 14, 15, 16, 17, 18, 19, 20, 109, 110, 111, 112, 113, 114, 115, 116, 117, 118, 119, 120, 121, 122, 123, 124, 125, 126, 127, 128, 129, 130, 131, 132, 133, 134, 135, 136, 137, 138, 139] (by decide +kernel) (by decide +kernel)
set_option maxRecDepth 20000 in
theorem gX3_takeSign_X3_takeMark : GoodIn wsX3_takeSign (wsV RX3 57 RX3 yX3_takeMark wsX3_takeMark) := goodIn_app (goodIn_of _ (by decide +kernel)) ggX3_takeSign_X3_takeMark
set_option maxRecDepth 20000 in
theorem ggX3_takeSign_X3_takeDot : GoodIn wsX3_takeSign wsX3_takeDot := goodIn_r _ [58, 6, 8, 9, 10, 11, 4, 12, 13, 14, 15, 16, 17, 18, 19, 20, 109, 110, 111, 112, 113, 114, 115, 116, 117, 118, 119, 120, 121, 122, 123, 124, 125, 126, 127, 128, 129, 130, 131, 132, 133, 134, 135, 136, 137, 138, 139] (by decide +kernel) (by decide +kernel)
set_option maxRecDepth 20000 in
theorem gX3_takeSign_X3_takeDot : GoodIn wsX3_takeSign (wsV RX3 61 RX3 yX3_takeDot wsX3_takeDot) := goodIn_app (goodIn_of _ (by decide +kernel)) ggX3_takeSign_X3_takeDot
set_option maxRecDepth 20000 in
theorem ggX3_takeSign_X3_takeComma : GoodIn wsX3_takeSign wsX3_takeComma := goodIn_r _ [62, 6, 9, 10, 11, 4, 12, 8, 13, 14, 15, 16, 17, 18, 19, 20, 63, 64, 65, 66, 54, 30, 67, 29, 68, 69, 70, 34, 71, 46, 72, 48, 73, 42, 43, 44, 45, 47, 49, 74, 75, 76, 77, 109, 110, 111, 112, 113, 114, 115, 116, 117, 118, 119, 120, 121, 122, 123, 124, 125, 126, 127, 128, 129, 130, 131, 132, 133, 134, 135, 136, 137, 138, 139, 140, 141, 142, 143, 144, 145, 146, 147] (by decide +kernel) (by decide +kernel)
set_option maxRecDepth 20000 in
theorem gX3_takeSign_X3_takeComma : GoodIn wsX3_takeSign (wsV RX3 64 RX3 yX3_takeComma wsX3_takeComma) := goodIn_app (goodIn_of _ (by decide +kernel)) ggX3_takeSign_X3_takeComma
set_option maxRecDepth 20000 in
theorem ggX3_takeSign_X3_takeSemicolon : GoodIn wsX3_takeSign wsX3_takeSemicolon := goodIn_r _ [81, 6, 8, 9, 10, 11, 4, 12, 13, 14, 15, 16, 17, 18, 19, 20, 63, 64, 65, 66, 54, 30, 67, 29, 68, 69, 70, 34, 71, 46, 72, 48, 73, 42, 43, 44, 45, 47, 49, 109, 110, 111, 112, 113, 114, 115, 116, 117, 118, 119, 120, 121, 122, 123, 124, 125, 126, 127, 128, 129, 130, 131, 132, 133, 134, 135, 136, 137, 138, 139, 140, 141, 142, 143, 144, 145, 146, 147] (by decide +kernel) (by decide +kernel)
set_option maxRecDepth 20000 in
theorem gX3_takeSign_X3_takeSemicolon : GoodIn wsX3_takeSign (wsV RX3 67 RX3 yX3_takeSemicolon wsX3_takeSemicolon) := goodIn_app (goodIn_of _ (by decide +kernel)) ggX3_takeSign_X3_takeSemicolon
set_option maxRecDepth 20000 in
theorem ggX3_takeSign_X3_takeEnd : GoodIn wsX3_takeSign wsX3_takeEnd := goodIn_r _ [85, 6, 29, 30, 7, 9, 10, 11, 4, 12, 8, 13, 14, 15, 16, 17, 18, 19, 20, 86, 87, 88, 34, 89, 90, 91, 92, 36, 93, 41, 94, 95, 96, 23, 97, 98, 99, 100, 101, 46, 72, 48, 73, 102, 103, 104, 105, 106, 107, 108, 109, 110, 111, 112, 113, 114, 115, 116, 117, 118, 119, 120, 121, 122, 123, 124, 125, 126, 127, 128, 129, 130, 131, 132, 133, 134, 135, 136, 137, 138, 139, 140, 141, 142, 143, 144, 145, 146, 147] (by decide +kernel) (by decide +kernel)
set_option maxRecDepth 20000 in
theorem gX3_takeSign_X3_takeEnd : GoodIn wsX3_takeSign (wsV RX3 70 RX3 yX3_takeEnd wsX3_takeEnd) := goodIn_app (goodIn_of _ (by decide +kernel)) ggX3_takeSign_X3_takeEnd
set_option maxRecDepth 20000 in
theorem ggX3_takeSign_X10_refuse : GoodIn wsX3_takeSign wsX10_refuse := goodIn_r _ [18, 19, 20, 123, 124, 125, 126, 127, 128, 129, 130, 131, 132, 133, 134, 135, 136, 137, 138, 139, 109, 110, 111, 112, 113, 114, 115, 116, 117, 118, 119, 120, 121, 122] (by decide +kernel) (by decide +kernel)
set_option maxRecDepth 20000 in
theorem gX3_takeSign_X10_refuse_u73X3 : GoodIn wsX3_takeSign (va_wsU RX3 73 RX3 "BellTower$Text" ⟨"BellTower$MethodText", "refuse", "(II)V"⟩ yX10_refuse wsX10_refuse) := goodIn_app (goodIn_of _ (by decide +kernel)) ggX3_takeSign_X10_refuse
theorem dX3_takeSign_0 : decode cX3_takeSign 0 = .ok (.iload_n 1, 1) := by decide +kernel
theorem dX3_takeSign_1 : decode cX3_takeSign 1 = .ok (.lookupswitch 153 #[(-1, 145), (10, 91), (32, 91), (38, 102), (43, 102), (44, 129), (45, 94), (46, 121), (59, 137), (120, 94)], 91) := by decide +kernel
theorem dX3_takeSign_92 : decode cX3_takeSign 92 = .ok (.goto 68, 3) := by decide +kernel
theorem dX3_takeSign_95 : decode cX3_takeSign 95 = .ok (.aload_n 0, 1) := by decide +kernel
theorem dX3_takeSign_96 : decode cX3_takeSign 96 = .ok (.iload_n 2, 1) := by decide +kernel
theorem dX3_takeSign_97 : decode cX3_takeSign 97 = .ok (.invokevirtual 53, 3) := by decide +kernel
theorem dX3_takeSign_100 : decode cX3_takeSign 100 = .ok (.goto 60, 3) := by decide +kernel
theorem dX3_takeSign_103 : decode cX3_takeSign 103 = .ok (.aload_n 0, 1) := by decide +kernel
theorem dX3_takeSign_104 : decode cX3_takeSign 104 = .ok (.iload_n 1, 1) := by decide +kernel
theorem dX3_takeSign_105 : decode cX3_takeSign 105 = .ok (.bipush 38, 2) := by decide +kernel
theorem dX3_takeSign_107 : decode cX3_takeSign 107 = .ok (.if_icmp .ne 7, 3) := by decide +kernel
theorem dX3_takeSign_110 : decode cX3_takeSign 110 = .ok (.iconst 1, 1) := by decide +kernel
theorem dX3_takeSign_111 : decode cX3_takeSign 111 = .ok (.goto 4, 3) := by decide +kernel
theorem dX3_takeSign_114 : decode cX3_takeSign 114 = .ok (.iconst 0, 1) := by decide +kernel
theorem dX3_takeSign_115 : decode cX3_takeSign 115 = .ok (.iload_n 2, 1) := by decide +kernel
theorem dX3_takeSign_116 : decode cX3_takeSign 116 = .ok (.invokevirtual 57, 3) := by decide +kernel
theorem dX3_takeSign_119 : decode cX3_takeSign 119 = .ok (.goto 41, 3) := by decide +kernel
theorem dX3_takeSign_122 : decode cX3_takeSign 122 = .ok (.aload_n 0, 1) := by decide +kernel
theorem dX3_takeSign_123 : decode cX3_takeSign 123 = .ok (.iload_n 2, 1) := by decide +kernel
theorem dX3_takeSign_124 : decode cX3_takeSign 124 = .ok (.invokevirtual 61, 3) := by decide +kernel
theorem dX3_takeSign_127 : decode cX3_takeSign 127 = .ok (.goto 33, 3) := by decide +kernel
theorem dX3_takeSign_130 : decode cX3_takeSign 130 = .ok (.aload_n 0, 1) := by decide +kernel
theorem dX3_takeSign_131 : decode cX3_takeSign 131 = .ok (.iload_n 2, 1) := by decide +kernel
theorem dX3_takeSign_132 : decode cX3_takeSign 132 = .ok (.invokevirtual 64, 3) := by decide +kernel
theorem dX3_takeSign_135 : decode cX3_takeSign 135 = .ok (.goto 25, 3) := by decide +kernel
theorem dX3_takeSign_138 : decode cX3_takeSign 138 = .ok (.aload_n 0, 1) := by decide +kernel
theorem dX3_takeSign_139 : decode cX3_takeSign 139 = .ok (.iload_n 2, 1) := by decide +kernel
theorem dX3_takeSign_140 : decode cX3_takeSign 140 = .ok (.invokevirtual 67, 3) := by decide +kernel
theorem dX3_takeSign_143 : decode cX3_takeSign 143 = .ok (.goto 17, 3) := by decide +kernel
theorem dX3_takeSign_146 : decode cX3_takeSign 146 = .ok (.aload_n 0, 1) := by decide +kernel
theorem dX3_takeSign_147 : decode cX3_takeSign 147 = .ok (.iload_n 2, 1) := by decide +kernel
theorem dX3_takeSign_148 : decode cX3_takeSign 148 = .ok (.invokevirtual 70, 3) := by decide +kernel
theorem dX3_takeSign_151 : decode cX3_takeSign 151 = .ok (.goto 9, 3) := by decide +kernel
theorem dX3_takeSign_154 : decode cX3_takeSign 154 = .ok (.aload_n 0, 1) := by decide +kernel
theorem dX3_takeSign_155 : decode cX3_takeSign 155 = .ok (.iconst 1, 1) := by decide +kernel
theorem dX3_takeSign_156 : decode cX3_takeSign 156 = .ok (.iload_n 2, 1) := by decide +kernel
theorem dX3_takeSign_157 : decode cX3_takeSign 157 = .ok (.invokevirtual 73, 3) := by decide +kernel
theorem dX3_takeSign_160 : decode cX3_takeSign 160 = .ok (.return_, 1) := by decide +kernel
theorem dX3_changeEnded_0 : decode cX3_changeEnded 0 = .ok (.aload_n 0, 1) := by decide +kernel
theorem dX3_changeEnded_1 : decode cX3_changeEnded 1 = .ok (.getfield 25, 3) := by decide +kernel
theorem dX3_changeEnded_4 : decode cX3_changeEnded 4 = .ok (.iconst 2, 1) := by decide +kernel
theorem dX3_changeEnded_5 : decode cX3_changeEnded 5 = .ok (.if_icmp .eq 11, 3) := by decide +kernel
theorem dX3_changeEnded_8 : decode cX3_changeEnded 8 = .ok (.aload_n 0, 1) := by decide +kernel
theorem dX3_changeEnded_9 : decode cX3_changeEnded 9 = .ok (.getfield 25, 3) := by decide +kernel
theorem dX3_changeEnded_12 : decode cX3_changeEnded 12 = .ok (.iconst 3, 1) := by decide +kernel
theorem dX3_changeEnded_13 : decode cX3_changeEnded 13 = .ok (.if_icmp .ne 7, 3) := by decide +kernel
theorem dX3_changeEnded_16 : decode cX3_changeEnded 16 = .ok (.iconst 1, 1) := by decide +kernel
theorem dX3_changeEnded_17 : decode cX3_changeEnded 17 = .ok (.goto 4, 3) := by decide +kernel
theorem dX3_changeEnded_20 : decode cX3_changeEnded 20 = .ok (.iconst 0, 1) := by decide +kernel
theorem dX3_changeEnded_21 : decode cX3_changeEnded 21 = .ok (.ireturn, 1) := by decide +kernel
set_option maxRecDepth 20000 in
theorem ggX3_takeDigit_X3_changeEnded : GoodIn wsX3_takeDigit wsX3_changeEnded := goodIn_r _ [12, 2, 21, 22, 23, 24, 25, 26, 27, 28, 29, 30, 31, 32, 33, 34] (by decide +kernel) (by decide +kernel)
set_option maxRecDepth 20000 in
theorem gX3_takeDigit_X3_changeEnded : GoodIn wsX3_takeDigit (wsV RX3 77 RX3 yX3_changeEnded wsX3_changeEnded) := goodIn_app (goodIn_of _ (by decide +kernel)) ggX3_takeDigit_X3_changeEnded
set_option maxRecDepth 20000 in
theorem ggX3_takeDigit_X10_refuse : GoodIn wsX3_takeDigit wsX10_refuse := goodIn_r _ [18, 19, 20, 35, 36, 37, 38, 39, 40, 41, 42, 43, 44, 45, 46, 47, 48, 49, 50, 51, 21, 22, 23, 24, 25, 26, 27, 28, 29, 30, 31, 32, 33, 34] (by decide +kernel) (by decide +kernel)
set_option maxRecDepth 20000 in
theorem gX3_takeDigit_X10_refuse_u73X3 : GoodIn wsX3_takeDigit (va_wsU RX3 73 RX3 "BellTower$Text" ⟨"BellTower$MethodText", "refuse", "(II)V"⟩ yX10_refuse wsX10_refuse) := goodIn_app (goodIn_of _ (by decide +kernel)) ggX3_takeDigit_X10_refuse
theorem dX3_takeDigit_0 : decode cX3_takeDigit 0 = .ok (.iload_n 2, 1) := by decide +kernel
theorem dX3_takeDigit_1 : decode cX3_takeDigit 1 = .ok (.ifCond .eq 74, 3) := by decide +kernel
theorem dX3_takeDigit_4 : decode cX3_takeDigit 4 = .ok (.aload_n 0, 1) := by decide +kernel
theorem dX3_takeDigit_5 : decode cX3_takeDigit 5 = .ok (.getfield 22, 3) := by decide +kernel
theorem dX3_takeDigit_8 : decode cX3_takeDigit 8 = .ok (.ifCond .ne 15, 3) := by decide +kernel
theorem dX3_takeDigit_11 : decode cX3_takeDigit 11 = .ok (.aload_n 0, 1) := by decide +kernel
theorem dX3_takeDigit_12 : decode cX3_takeDigit 12 = .ok (.getfield 25, 3) := by decide +kernel
theorem dX3_takeDigit_15 : decode cX3_takeDigit 15 = .ok (.iconst 2, 1) := by decide +kernel
theorem dX3_takeDigit_16 : decode cX3_takeDigit 16 = .ok (.if_icmp .ne 7, 3) := by decide +kernel
theorem dX3_takeDigit_19 : decode cX3_takeDigit 19 = .ok (.iconst 1, 1) := by decide +kernel
theorem dX3_takeDigit_20 : decode cX3_takeDigit 20 = .ok (.goto 4, 3) := by decide +kernel
theorem dX3_takeDigit_23 : decode cX3_takeDigit 23 = .ok (.iconst 0, 1) := by decide +kernel
theorem dX3_takeDigit_24 : decode cX3_takeDigit 24 = .ok (.istore 4, 2) := by decide +kernel
theorem dX3_takeDigit_26 : decode cX3_takeDigit 26 = .ok (.aload_n 0, 1) := by decide +kernel
theorem dX3_takeDigit_27 : decode cX3_takeDigit 27 = .ok (.invokevirtual 77, 3) := by decide +kernel
theorem dX3_takeDigit_30 : decode cX3_takeDigit 30 = .ok (.ifCond .eq 15, 3) := by decide +kernel
theorem dX3_takeDigit_33 : decode cX3_takeDigit 33 = .ok (.iload 4, 2) := by decide +kernel
theorem dX3_takeDigit_35 : decode cX3_takeDigit 35 = .ok (.ifCond .ne 10, 3) := by decide +kernel
theorem dX3_takeDigit_38 : decode cX3_takeDigit 38 = .ok (.aload_n 0, 1) := by decide +kernel
theorem dX3_takeDigit_39 : decode cX3_takeDigit 39 = .ok (.iconst 1, 1) := by decide +kernel
theorem dX3_takeDigit_40 : decode cX3_takeDigit 40 = .ok (.iload_n 3, 1) := by decide +kernel
theorem dX3_takeDigit_41 : decode cX3_takeDigit 41 = .ok (.invokevirtual 73, 3) := by decide +kernel
theorem dX3_takeDigit_44 : decode cX3_takeDigit 44 = .ok (.return_, 1) := by decide +kernel
theorem dX3_takeDigit_45 : decode cX3_takeDigit 45 = .ok (.aload_n 0, 1) := by decide +kernel
