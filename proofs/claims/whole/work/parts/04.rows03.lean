set_option maxRecDepth 20000 in
theorem ggX11_compose_X1_letterOf : GoodIn wsX11_compose wsX1_letterOf := goodIn_r _ [284, 250, 187, 113, 188, 322, 323, 324, 325, 326, 327, 328, 329, 330, 331, 332, 333, 334, 335, 336, 337, 338] (by decide +kernel) (by decide +kernel)
set_option maxRecDepth 20000 in
theorem gX11_compose_X1_letterOf : GoodIn wsX11_compose (wsV RX11 132 RX1 yX1_letterOf wsX1_letterOf) := goodIn_app (goodIn_of _ (by decide +kernel)) ggX11_compose_X1_letterOf
set_option maxRecDepth 20000 in
theorem ggX11_compose_X1_callOf : GoodIn wsX11_compose wsX1_callOf := goodIn_r _ [288, 250, 187, 113, 188, 322, 323, 324, 325, 326, 327, 328, 329, 330, 331, 332, 333, 334, 335, 336, 337, 338] (by decide +kernel) (by decide +kernel)
set_option maxRecDepth 20000 in
theorem gX11_compose_X1_callOf : GoodIn wsX11_compose (wsV RX11 136 RX1 yX1_callOf wsX1_callOf) := goodIn_app (goodIn_of _ (by decide +kernel)) ggX11_compose_X1_callOf
set_option maxRecDepth 20000 in
theorem ggX11_compose_X5_add : GoodIn wsX11_compose wsX5_add := goodIn_r _ [292, 272, 293, 294, 274, 295, 273, 296, 112, 113, 114, 297, 134, 135, 131, 136, 137, 138, 298, 140, 141, 99, 142, 143, 299, 300, 301, 302, 206, 205, 207, 208, 303, 304, 88, 305, 306, 307, 308, 365, 366, 367, 368, 369, 370, 371, 372, 373, 374, 375, 376, 363, 364, 355, 356, 357, 358, 359, 360, 361, 362] (by decide +kernel) (by decide +kernel)
set_option maxRecDepth 20000 in
theorem gX11_compose_X5_add : GoodIn wsX11_compose (wsV RX11 139 RX5 yX5_add wsX5_add) := goodIn_app (goodIn_of _ (by decide +kernel)) ggX11_compose_X5_add
set_option maxRecDepth 20000 in
theorem ggX11_compose_X5_size : GoodIn wsX11_compose wsX5_size := goodIn_r _ [312, 272, 365, 366, 367, 368, 369, 370, 371, 372, 373, 374, 375, 376] (by decide +kernel) (by decide +kernel)
set_option maxRecDepth 20000 in
theorem gX11_compose_X5_size : GoodIn wsX11_compose (wsV RX11 143 RX5 yX5_size wsX5_size) := goodIn_app (goodIn_of _ (by decide +kernel)) ggX11_compose_X5_size
theorem dX11_compose_0 : decode cX11_compose 0 = .ok (.aload_n 0, 1) := by decide +kernel
theorem dX11_compose_1 : decode cX11_compose 1 = .ok (.getfield 49, 3) := by decide +kernel
theorem dX11_compose_4 : decode cX11_compose 4 = .ok (.invokevirtual 122, 3) := by decide +kernel
theorem dX11_compose_7 : decode cX11_compose 7 = .ok (.aload_n 0, 1) := by decide +kernel
theorem dX11_compose_8 : decode cX11_compose 8 = .ok (.getfield 49, 3) := by decide +kernel
theorem dX11_compose_11 : decode cX11_compose 11 = .ok (.aload_n 0, 1) := by decide +kernel
theorem dX11_compose_12 : decode cX11_compose 12 = .ok (.getfield 25, 3) := by decide +kernel
theorem dX11_compose_15 : decode cX11_compose 15 = .ok (.invokevirtual 124, 3) := by decide +kernel
theorem dX11_compose_18 : decode cX11_compose 18 = .ok (.istore_n 1, 1) := by decide +kernel
theorem dX11_compose_19 : decode cX11_compose 19 = .ok (.iload_n 1, 1) := by decide +kernel
theorem dX11_compose_20 : decode cX11_compose 20 = .ok (.ifCond .eq 18, 3) := by decide +kernel
theorem dX11_compose_23 : decode cX11_compose 23 = .ok (.aload_n 0, 1) := by decide +kernel
theorem dX11_compose_24 : decode cX11_compose 24 = .ok (.getfield 49, 3) := by decide +kernel
theorem dX11_compose_27 : decode cX11_compose 27 = .ok (.aload_n 0, 1) := by decide +kernel
theorem dX11_compose_28 : decode cX11_compose 28 = .ok (.getfield 25, 3) := by decide +kernel
theorem dX11_compose_31 : decode cX11_compose 31 = .ok (.invokevirtual 71, 3) := by decide +kernel
theorem dX11_compose_34 : decode cX11_compose 34 = .ok (.invokevirtual 125, 3) := by decide +kernel
theorem dX11_compose_37 : decode cX11_compose 37 = .ok (.istore_n 1, 1) := by decide +kernel
theorem dX11_compose_38 : decode cX11_compose 38 = .ok (.aload_n 0, 1) := by decide +kernel
theorem dX11_compose_39 : decode cX11_compose 39 = .ok (.getfield 25, 3) := by decide +kernel
theorem dX11_compose_42 : decode cX11_compose 42 = .ok (.iconst 0, 1) := by decide +kernel
theorem dX11_compose_43 : decode cX11_compose 43 = .ok (.invokevirtual 79, 3) := by decide +kernel
theorem dX11_compose_46 : decode cX11_compose 46 = .ok (.aload_n 0, 1) := by decide +kernel
theorem dX11_compose_47 : decode cX11_compose 47 = .ok (.aload_n 0, 1) := by decide +kernel
theorem dX11_compose_48 : decode cX11_compose 48 = .ok (.getfield 49, 3) := by decide +kernel
theorem dX11_compose_51 : decode cX11_compose 51 = .ok (.invokevirtual 129, 3) := by decide +kernel
theorem dX11_compose_54 : decode cX11_compose 54 = .ok (.putfield 13, 3) := by decide +kernel
theorem dX11_compose_57 : decode cX11_compose 57 = .ok (.iload_n 1, 1) := by decide +kernel
theorem dX11_compose_58 : decode cX11_compose 58 = .ok (.ifCond .ne 13, 3) := by decide +kernel
theorem dX11_compose_61 : decode cX11_compose 61 = .ok (.iconst (-1), 1) := by decide +kernel
theorem dX11_compose_62 : decode cX11_compose 62 = .ok (.aload_n 0, 1) := by decide +kernel
theorem dX11_compose_63 : decode cX11_compose 63 = .ok (.getfield 49, 3) := by decide +kernel
theorem dX11_compose_66 : decode cX11_compose 66 = .ok (.invokevirtual 130, 3) := by decide +kernel
theorem dX11_compose_69 : decode cX11_compose 69 = .ok (.isub, 1) := by decide +kernel
theorem dX11_compose_70 : decode cX11_compose 70 = .ok (.ireturn, 1) := by decide +kernel
theorem dX11_compose_71 : decode cX11_compose 71 = .ok (.aload_n 0, 1) := by decide +kernel
theorem dX11_compose_72 : decode cX11_compose 72 = .ok (.getfield 58, 3) := by decide +kernel
theorem dX11_compose_75 : decode cX11_compose 75 = .ok (.aload_n 0, 1) := by decide +kernel
theorem dX11_compose_76 : decode cX11_compose 76 = .ok (.getfield 9, 3) := by decide +kernel
theorem dX11_compose_79 : decode cX11_compose 79 = .ok (.invokevirtual 85, 3) := by decide +kernel
theorem dX11_compose_82 : decode cX11_compose 82 = .ok (.iconst 0, 1) := by decide +kernel
theorem dX11_compose_83 : decode cX11_compose 83 = .ok (.istore_n 2, 1) := by decide +kernel
theorem dX11_compose_84 : decode cX11_compose 84 = .ok (.iload_n 2, 1) := by decide +kernel
theorem dX11_compose_85 : decode cX11_compose 85 = .ok (.aload_n 0, 1) := by decide +kernel
theorem dX11_compose_86 : decode cX11_compose 86 = .ok (.getfield 49, 3) := by decide +kernel
theorem dX11_compose_89 : decode cX11_compose 89 = .ok (.invokevirtual 131, 3) := by decide +kernel
theorem dX11_compose_92 : decode cX11_compose 92 = .ok (.if_icmp .ge 32, 3) := by decide +kernel
theorem dX11_compose_95 : decode cX11_compose 95 = .ok (.aload_n 0, 1) := by decide +kernel
theorem dX11_compose_96 : decode cX11_compose 96 = .ok (.getfield 58, 3) := by decide +kernel
theorem dX11_compose_99 : decode cX11_compose 99 = .ok (.aload_n 0, 1) := by decide +kernel
theorem dX11_compose_100 : decode cX11_compose 100 = .ok (.getfield 49, 3) := by decide +kernel
theorem dX11_compose_103 : decode cX11_compose 103 = .ok (.iload_n 2, 1) := by decide +kernel
theorem dX11_compose_104 : decode cX11_compose 104 = .ok (.invokevirtual 132, 3) := by decide +kernel
theorem dX11_compose_107 : decode cX11_compose 107 = .ok (.aload_n 0, 1) := by decide +kernel
theorem dX11_compose_108 : decode cX11_compose 108 = .ok (.getfield 49, 3) := by decide +kernel
theorem dX11_compose_111 : decode cX11_compose 111 = .ok (.iload_n 2, 1) := by decide +kernel
theorem dX11_compose_112 : decode cX11_compose 112 = .ok (.invokevirtual 136, 3) := by decide +kernel
theorem dX11_compose_115 : decode cX11_compose 115 = .ok (.invokevirtual 139, 3) := by decide +kernel
theorem dX11_compose_118 : decode cX11_compose 118 = .ok (.iinc 2 1, 3) := by decide +kernel
theorem dX11_compose_121 : decode cX11_compose 121 = .ok (.goto (-37), 3) := by decide +kernel
theorem dX11_compose_124 : decode cX11_compose 124 = .ok (.aload_n 0, 1) := by decide +kernel
theorem dX11_compose_125 : decode cX11_compose 125 = .ok (.getfield 58, 3) := by decide +kernel
theorem dX11_compose_128 : decode cX11_compose 128 = .ok (.invokevirtual 143, 3) := by decide +kernel
theorem dX11_compose_131 : decode cX11_compose 131 = .ok (.ireturn, 1) := by decide +kernel
theorem dX11_fault_0 : decode cX11_fault 0 = .ok (.aload_n 0, 1) := by decide +kernel
theorem dX11_fault_1 : decode cX11_fault 1 = .ok (.getfield 13, 3) := by decide +kernel
theorem dX11_fault_4 : decode cX11_fault 4 = .ok (.ireturn, 1) := by decide +kernel
set_option maxRecDepth 20000 in
theorem ggX11_lead_X11_toldMethod : GoodIn wsX11_lead wsX11_toldMethod := goodIn_ca (goodIn_r _ [8, 1, 2, 9, 10, 11, 12, 13, 14, 15, 16, 17, 18, 19, 20, 21, 22, 23, 24, 25, 26, 27, 49, 50, 51, 52, 53, 54, 55, 56, 57, 58, 59, 60, 61, 62, 63, 64, 65, 66, 67] (by decide +kernel) (by decide +kernel)) (goodIn_sub (fun _ h => List.mem_cons_of_mem _ (List.mem_append_right _ h)) (by decide +kernel))
set_option maxRecDepth 20000 in
theorem gX11_lead_X11_toldMethod : GoodIn wsX11_lead (wsV RX11 144 RX11 yX11_toldMethod wsX11_toldMethod) := goodIn_app (goodIn_of _ (by decide +kernel)) ggX11_lead_X11_toldMethod
set_option maxRecDepth 20000 in
theorem ggX11_lead_X2_size : GoodIn wsX11_lead wsX2_size := goodIn_r _ [25, 26, 60, 61, 62, 63, 64, 65, 66, 67] (by decide +kernel) (by decide +kernel)
set_option maxRecDepth 20000 in
theorem gX11_lead_X2_size : GoodIn wsX11_lead (wsV RX11 121 RX2 yX2_size wsX2_size) := goodIn_app (goodIn_of _ (by decide +kernel)) ggX11_lead_X2_size
set_option maxRecDepth 20000 in
theorem ggX11_lead_X6_rounds : GoodIn wsX11_lead wsX6_rounds := goodIn_r _ [32] (by decide +kernel) (by decide +kernel)
set_option maxRecDepth 20000 in
theorem gX11_lead_X6_rounds : GoodIn wsX11_lead (va_wsS RX11 152 yX6_rounds wsX6_rounds) := goodIn_app (goodIn_of _ (by decide +kernel)) ggX11_lead_X6_rounds
set_option maxRecDepth 20000 in
theorem ggX11_lead_X2_rowFrom : GoodIn wsX11_lead wsX2_rowFrom := goodIn_r _ [36, 26, 37, 38, 7, 39, 40, 41, 31, 42, 60, 61, 62, 63, 64, 65, 66, 67] (by decide +kernel) (by decide +kernel)
set_option maxRecDepth 20000 in
theorem gX11_lead_X2_rowFrom : GoodIn wsX11_lead (wsV RX11 157 RX2 yX2_rowFrom wsX2_rowFrom) := goodIn_app (goodIn_of _ (by decide +kernel)) ggX11_lead_X2_rowFrom
set_option maxRecDepth 20000 in
theorem ggX11_lead_X6_told : GoodIn wsX11_lead wsX6_told := goodIn_r _ [45, 46, 47, 31, 48] (by decide +kernel) (by decide +kernel)
set_option maxRecDepth 20000 in
theorem gX11_lead_X6_told : GoodIn wsX11_lead (va_wsS RX11 161 yX6_told wsX6_told) := goodIn_app (goodIn_of _ (by decide +kernel)) ggX11_lead_X6_told
theorem dX11_lead_0 : decode cX11_lead 0 = .ok (.aload_n 0, 1) := by decide +kernel
theorem dX11_lead_1 : decode cX11_lead 1 = .ok (.iload_n 1, 1) := by decide +kernel
theorem dX11_lead_2 : decode cX11_lead 2 = .ok (.invokevirtual 144, 3) := by decide +kernel
theorem dX11_lead_5 : decode cX11_lead 5 = .ok (.astore_n 3, 1) := by decide +kernel
theorem dX11_lead_6 : decode cX11_lead 6 = .ok (.iload_n 2, 1) := by decide +kernel
theorem dX11_lead_7 : decode cX11_lead 7 = .ok (.ifCond .lt 11, 3) := by decide +kernel
theorem dX11_lead_10 : decode cX11_lead 10 = .ok (.iload_n 2, 1) := by decide +kernel
theorem dX11_lead_11 : decode cX11_lead 11 = .ok (.aload_n 3, 1) := by decide +kernel
theorem dX11_lead_12 : decode cX11_lead 12 = .ok (.invokevirtual 121, 3) := by decide +kernel
theorem dX11_lead_15 : decode cX11_lead 15 = .ok (.if_icmp .le 13, 3) := by decide +kernel
theorem dX11_lead_18 : decode cX11_lead 18 = .ok (.new 147, 3) := by decide +kernel
theorem dX11_lead_21 : decode cX11_lead 21 = .ok (.dup, 1) := by decide +kernel
theorem dX11_lead_22 : decode cX11_lead 22 = .ok (.ldc 149, 2) := by decide +kernel
theorem dX11_lead_24 : decode cX11_lead 24 = .ok (.invokespecial 151, 3) := by decide +kernel
theorem dX11_lead_27 : decode cX11_lead 27 = .ok (.athrow, 1) := by decide +kernel
theorem dX11_lead_28 : decode cX11_lead 28 = .ok (.aload_n 3, 1) := by decide +kernel
theorem dX11_lead_29 : decode cX11_lead 29 = .ok (.aload_n 0, 1) := by decide +kernel
theorem dX11_lead_30 : decode cX11_lead 30 = .ok (.getfield 9, 3) := by decide +kernel
theorem dX11_lead_33 : decode cX11_lead 33 = .ok (.invokestatic 152, 3) := by decide +kernel
theorem dX11_lead_36 : decode cX11_lead 36 = .ok (.iload_n 2, 1) := by decide +kernel
theorem dX11_lead_37 : decode cX11_lead 37 = .ok (.invokevirtual 157, 3) := by decide +kernel
theorem dX11_lead_40 : decode cX11_lead 40 = .ok (.aload_n 0, 1) := by decide +kernel
theorem dX11_lead_41 : decode cX11_lead 41 = .ok (.getfield 9, 3) := by decide +kernel
theorem dX11_lead_44 : decode cX11_lead 44 = .ok (.invokestatic 161, 3) := by decide +kernel
theorem dX11_lead_47 : decode cX11_lead 47 = .ok (.ireturn, 1) := by decide +kernel
set_option maxRecDepth 20000 in
theorem ggX11_head_X11_toldMethod : GoodIn wsX11_head wsX11_toldMethod := goodIn_ca (goodIn_r _ [8, 1, 2, 9, 10, 11, 12, 13, 14, 15, 16, 17, 18, 19, 20, 21, 22, 23, 24, 25, 26, 27, 49, 50, 51, 52, 53, 54, 55, 56, 57, 58, 59, 60, 61, 62, 63, 64, 65, 66, 67] (by decide +kernel) (by decide +kernel)) (goodIn_sub (fun _ h => List.mem_cons_of_mem _ (List.mem_append_right _ h)) (by decide +kernel))
set_option maxRecDepth 20000 in
theorem gX11_head_X11_toldMethod : GoodIn wsX11_head (wsV RX11 144 RX11 yX11_toldMethod wsX11_toldMethod) := goodIn_app (goodIn_of _ (by decide +kernel)) ggX11_head_X11_toldMethod
set_option maxRecDepth 20000 in
theorem ggX11_head_X6_rounds : GoodIn wsX11_head wsX6_rounds := goodIn_r _ [31] (by decide +kernel) (by decide +kernel)
set_option maxRecDepth 20000 in
theorem gX11_head_X6_rounds : GoodIn wsX11_head (va_wsS RX11 152 yX6_rounds wsX6_rounds) := goodIn_app (goodIn_of _ (by decide +kernel)) ggX11_head_X6_rounds
set_option maxRecDepth 20000 in
theorem ggX11_head_X2_following : GoodIn wsX11_head wsX2_following := goodIn_r _ [35, 36, 37, 38, 39, 40, 41, 30, 42, 43, 44, 45, 60, 61, 62, 63, 64, 65, 66, 67] (by decide +kernel) (by decide +kernel)
set_option maxRecDepth 20000 in
theorem gX11_head_X2_following : GoodIn wsX11_head (wsV RX11 166 RX2 yX2_following wsX2_following) := goodIn_app (goodIn_of _ (by decide +kernel)) ggX11_head_X2_following
set_option maxRecDepth 20000 in
theorem ggX11_head_X6_told : GoodIn wsX11_head wsX6_told := goodIn_r _ [48, 43, 44, 30, 45] (by decide +kernel) (by decide +kernel)
set_option maxRecDepth 20000 in
theorem gX11_head_X6_told : GoodIn wsX11_head (va_wsS RX11 161 yX6_told wsX6_told) := goodIn_app (goodIn_of _ (by decide +kernel)) ggX11_head_X6_told
theorem dX11_head_0 : decode cX11_head 0 = .ok (.aload_n 0, 1) := by decide +kernel
theorem dX11_head_1 : decode cX11_head 1 = .ok (.iload_n 1, 1) := by decide +kernel
theorem dX11_head_2 : decode cX11_head 2 = .ok (.invokevirtual 144, 3) := by decide +kernel
theorem dX11_head_5 : decode cX11_head 5 = .ok (.astore_n 3, 1) := by decide +kernel
theorem dX11_head_6 : decode cX11_head 6 = .ok (.iload_n 2, 1) := by decide +kernel
theorem dX11_head_7 : decode cX11_head 7 = .ok (.ifCond .lt 8, 3) := by decide +kernel
theorem dX11_head_10 : decode cX11_head 10 = .ok (.iload_n 2, 1) := by decide +kernel
theorem dX11_head_11 : decode cX11_head 11 = .ok (.iconst 2, 1) := by decide +kernel
theorem dX11_head_12 : decode cX11_head 12 = .ok (.if_icmp .le 13, 3) := by decide +kernel
theorem dX11_head_15 : decode cX11_head 15 = .ok (.new 147, 3) := by decide +kernel
theorem dX11_head_18 : decode cX11_head 18 = .ok (.dup, 1) := by decide +kernel
theorem dX11_head_19 : decode cX11_head 19 = .ok (.ldc 164, 2) := by decide +kernel
theorem dX11_head_21 : decode cX11_head 21 = .ok (.invokespecial 151, 3) := by decide +kernel
theorem dX11_head_24 : decode cX11_head 24 = .ok (.athrow, 1) := by decide +kernel
theorem dX11_head_25 : decode cX11_head 25 = .ok (.aload_n 3, 1) := by decide +kernel
theorem dX11_head_26 : decode cX11_head 26 = .ok (.aload_n 0, 1) := by decide +kernel
theorem dX11_head_27 : decode cX11_head 27 = .ok (.getfield 9, 3) := by decide +kernel
theorem dX11_head_30 : decode cX11_head 30 = .ok (.invokestatic 152, 3) := by decide +kernel
theorem dX11_head_33 : decode cX11_head 33 = .ok (.iload_n 2, 1) := by decide +kernel
theorem dX11_head_34 : decode cX11_head 34 = .ok (.invokevirtual 166, 3) := by decide +kernel
theorem dX11_head_37 : decode cX11_head 37 = .ok (.aload_n 0, 1) := by decide +kernel
theorem dX11_head_38 : decode cX11_head 38 = .ok (.getfield 9, 3) := by decide +kernel
theorem dX11_head_41 : decode cX11_head 41 = .ok (.invokestatic 161, 3) := by decide +kernel
theorem dX11_head_44 : decode cX11_head 44 = .ok (.ireturn, 1) := by decide +kernel
set_option maxRecDepth 20000 in
theorem ggX11_course_X11_toldMethod : GoodIn wsX11_course wsX11_toldMethod := goodIn_ca (goodIn_r _ [5, 6, 7, 8, 9, 10, 11, 12, 13, 14, 15, 16, 17, 18, 19, 20, 21, 22, 23, 24, 25, 26, 47, 48, 49, 50, 51, 52, 53, 54, 55, 56, 57, 58, 59, 60, 61, 62, 63, 64, 65] (by decide +kernel) (by decide +kernel)) (goodIn_sub (fun _ h => List.mem_cons_of_mem _ (List.mem_append_right _ h)) (by decide +kernel))
set_option maxRecDepth 20000 in
theorem gX11_course_X11_toldMethod : GoodIn wsX11_course (wsV RX11 144 RX11 yX11_toldMethod wsX11_toldMethod) := goodIn_app (goodIn_of _ (by decide +kernel)) ggX11_course_X11_toldMethod
set_option maxRecDepth 20000 in
theorem ggX11_course_X2_courseLeads : GoodIn wsX11_course wsX2_courseLeads := goodIn_r _ [30, 31, 32, 33, 34, 35, 36, 37, 38, 39, 40, 41, 42, 43, 44, 45, 46, 58, 59, 60, 61, 62, 63, 64, 65] (by decide +kernel) (by decide +kernel)
set_option maxRecDepth 20000 in
theorem gX11_course_X2_courseLeads : GoodIn wsX11_course (wsV RX11 169 RX2 yX2_courseLeads wsX2_courseLeads) := goodIn_app (goodIn_of _ (by decide +kernel)) ggX11_course_X2_courseLeads
theorem dX11_course_0 : decode cX11_course 0 = .ok (.aload_n 0, 1) := by decide +kernel
theorem dX11_course_1 : decode cX11_course 1 = .ok (.iload_n 1, 1) := by decide +kernel
theorem dX11_course_2 : decode cX11_course 2 = .ok (.invokevirtual 144, 3) := by decide +kernel
theorem dX11_course_5 : decode cX11_course 5 = .ok (.invokevirtual 169, 3) := by decide +kernel
theorem dX11_course_8 : decode cX11_course 8 = .ok (.ireturn, 1) := by decide +kernel
set_option maxRecDepth 20000 in
theorem ggX11_line_X11_toldMethod : GoodIn wsX11_line wsX11_toldMethod := goodIn_ca (goodIn_r _ [8, 1, 2, 9, 10, 11, 12, 13, 14, 15, 16, 17, 18, 19, 20, 21, 22, 23, 24, 25, 26, 27, 73, 74, 75, 76, 77, 78, 79, 80, 81, 82, 83, 84, 85, 86, 87, 88, 89, 90, 91] (by decide +kernel) (by decide +kernel)) (goodIn_sub (fun _ h => List.mem_cons_of_mem _ (List.mem_append_right _ h)) (by decide +kernel))
set_option maxRecDepth 20000 in
theorem gX11_line_X11_toldMethod : GoodIn wsX11_line (wsV RX11 144 RX11 yX11_toldMethod wsX11_toldMethod) := goodIn_app (goodIn_of _ (by decide +kernel)) ggX11_line_X11_toldMethod
set_option maxRecDepth 20000 in
theorem ggX11_line_X2_courseRow : GoodIn wsX11_line wsX2_courseRow := goodIn_r _ [31, 32, 26, 33, 34, 35, 24, 36, 37, 38, 39, 40, 41, 42, 43, 44, 45, 46, 47, 48, 49, 50, 51, 52, 53, 54, 55, 56, 57, 58, 59, 60, 61, 62, 63, 64, 65, 7, 66, 67, 68, 69, 84, 85, 86, 87, 88, 89, 90, 91] (by decide +kernel) (by decide +kernel)
set_option maxRecDepth 20000 in
theorem gX11_line_X2_courseRow : GoodIn wsX11_line (wsV RX11 174 RX2 yX2_courseRow wsX2_courseRow) := goodIn_app (goodIn_of _ (by decide +kernel)) ggX11_line_X2_courseRow
set_option maxRecDepth 20000 in
theorem ggX11_line_X6_placeOf : GoodIn wsX11_line wsX6_placeOf := goodIn_r _ [72, 49, 50, 40, 51] (by decide +kernel) (by decide +kernel)
set_option maxRecDepth 20000 in
theorem gX11_line_X6_placeOf : GoodIn wsX11_line (va_wsS RX11 177 yX6_placeOf wsX6_placeOf) := goodIn_app (goodIn_of _ (by decide +kernel)) ggX11_line_X6_placeOf
theorem dX11_line_0 : decode cX11_line 0 = .ok (.aload_n 0, 1) := by decide +kernel
theorem dX11_line_1 : decode cX11_line 1 = .ok (.iload_n 1, 1) := by decide +kernel
theorem dX11_line_2 : decode cX11_line 2 = .ok (.invokevirtual 144, 3) := by decide +kernel
theorem dX11_line_5 : decode cX11_line 5 = .ok (.astore 4, 2) := by decide +kernel
theorem dX11_line_7 : decode cX11_line 7 = .ok (.iload_n 2, 1) := by decide +kernel
theorem dX11_line_8 : decode cX11_line 8 = .ok (.iconst 1, 1) := by decide +kernel
theorem dX11_line_9 : decode cX11_line 9 = .ok (.if_icmp .lt 15, 3) := by decide +kernel
theorem dX11_line_12 : decode cX11_line 12 = .ok (.iload_n 2, 1) := by decide +kernel
theorem dX11_line_13 : decode cX11_line 13 = .ok (.aload_n 0, 1) := by decide +kernel
theorem dX11_line_14 : decode cX11_line 14 = .ok (.getfield 9, 3) := by decide +kernel
theorem dX11_line_17 : decode cX11_line 17 = .ok (.if_icmp .gt 7, 3) := by decide +kernel
theorem dX11_line_20 : decode cX11_line 20 = .ok (.iload_n 3, 1) := by decide +kernel
theorem dX11_line_21 : decode cX11_line 21 = .ok (.ifCond .ge 13, 3) := by decide +kernel
theorem dX11_line_24 : decode cX11_line 24 = .ok (.new 147, 3) := by decide +kernel
theorem dX11_line_27 : decode cX11_line 27 = .ok (.dup, 1) := by decide +kernel
theorem dX11_line_28 : decode cX11_line 28 = .ok (.ldc 172, 2) := by decide +kernel
theorem dX11_line_30 : decode cX11_line 30 = .ok (.invokespecial 151, 3) := by decide +kernel
theorem dX11_line_33 : decode cX11_line 33 = .ok (.athrow, 1) := by decide +kernel
theorem dX11_line_34 : decode cX11_line 34 = .ok (.iconst 1, 1) := by decide +kernel
theorem dX11_line_35 : decode cX11_line 35 = .ok (.aload 4, 2) := by decide +kernel
theorem dX11_line_37 : decode cX11_line 37 = .ok (.iload_n 3, 1) := by decide +kernel
theorem dX11_line_38 : decode cX11_line 38 = .ok (.invokevirtual 174, 3) := by decide +kernel
theorem dX11_line_41 : decode cX11_line 41 = .ok (.iload_n 2, 1) := by decide +kernel
theorem dX11_line_42 : decode cX11_line 42 = .ok (.iconst 1, 1) := by decide +kernel
theorem dX11_line_43 : decode cX11_line 43 = .ok (.isub, 1) := by decide +kernel
theorem dX11_line_44 : decode cX11_line 44 = .ok (.aload_n 0, 1) := by decide +kernel
theorem dX11_line_45 : decode cX11_line 45 = .ok (.getfield 9, 3) := by decide +kernel
theorem dX11_line_48 : decode cX11_line 48 = .ok (.invokestatic 177, 3) := by decide +kernel
theorem dX11_line_51 : decode cX11_line 51 = .ok (.iadd, 1) := by decide +kernel
theorem dX11_line_52 : decode cX11_line 52 = .ok (.ireturn, 1) := by decide +kernel
set_option maxRecDepth 20000 in
theorem ggX11_falseHeads_X11_toldMethod : GoodIn wsX11_falseHeads wsX11_toldMethod := goodIn_ca (goodIn_r _ [5, 6, 7, 8, 9, 10, 11, 12, 13, 14, 15, 16, 17, 18, 19, 20, 21, 22, 23, 24, 25, 26, 83, 84, 85, 86, 87, 88, 89, 90, 91, 92, 93, 94, 95, 96, 97, 98, 99, 100, 101] (by decide +kernel) (by decide +kernel)) (goodIn_sub (fun _ h => List.mem_cons_of_mem _ (List.mem_append_right _ h)) (by decide +kernel))
set_option maxRecDepth 20000 in
theorem gX11_falseHeads_X11_toldMethod : GoodIn wsX11_falseHeads (wsV RX11 144 RX11 yX11_toldMethod wsX11_toldMethod) := goodIn_app (goodIn_of _ (by decide +kernel)) ggX11_falseHeads_X11_toldMethod
set_option maxRecDepth 20000 in
theorem ggX11_falseHeads_X11_noteFalseHeads : GoodIn wsX11_falseHeads wsX11_noteFalseHeads := goodIn_r _ [30, 31, 32, 33, 34, 35, 36, 37, 38, 39, 40, 41, 42, 43, 44, 45, 21, 22, 23, 24, 25, 46, 47, 48, 49, 50, 51, 52, 53, 54, 55, 56, 57, 58, 59, 60, 61, 62, 63, 64, 65, 66, 67, 68, 69, 70, 71, 4, 72, 73, 74, 75, 76, 77, 78, 79, 80, 81, 82, 83, 84, 85, 86, 87, 88, 89, 90, 91, 102, 103, 104, 105, 94, 95, 96, 97, 98, 99, 100, 101] (by decide +kernel) (by decide +kernel)
set_option maxRecDepth 20000 in
theorem gX11_falseHeads_X11_noteFalseHeads : GoodIn wsX11_falseHeads (wsV RX11 181 RX11 yX11_noteFalseHeads wsX11_noteFalseHeads) := goodIn_app (goodIn_of _ (by decide +kernel)) ggX11_falseHeads_X11_noteFalseHeads
theorem dX11_falseHeads_0 : decode cX11_falseHeads 0 = .ok (.aload_n 0, 1) := by decide +kernel
theorem dX11_falseHeads_1 : decode cX11_falseHeads 1 = .ok (.aload_n 0, 1) := by decide +kernel
theorem dX11_falseHeads_2 : decode cX11_falseHeads 2 = .ok (.iload_n 1, 1) := by decide +kernel
theorem dX11_falseHeads_3 : decode cX11_falseHeads 3 = .ok (.invokevirtual 144, 3) := by decide +kernel
theorem dX11_falseHeads_6 : decode cX11_falseHeads 6 = .ok (.aload_n 0, 1) := by decide +kernel
theorem dX11_falseHeads_7 : decode cX11_falseHeads 7 = .ok (.iload_n 2, 1) := by decide +kernel
theorem dX11_falseHeads_8 : decode cX11_falseHeads 8 = .ok (.invokevirtual 144, 3) := by decide +kernel
theorem dX11_falseHeads_11 : decode cX11_falseHeads 11 = .ok (.invokevirtual 181, 3) := by decide +kernel
theorem dX11_falseHeads_14 : decode cX11_falseHeads 14 = .ok (.ireturn, 1) := by decide +kernel
set_option maxRecDepth 20000 in
theorem ggX11_falseHead_X11_toldMethod : GoodIn wsX11_falseHead wsX11_toldMethod := goodIn_ca (goodIn_r _ [7, 8, 9, 10, 11, 12, 13, 14, 15, 16, 17, 18, 19, 20, 21, 22, 23, 24, 25, 26, 27, 28, 100, 101, 102, 103, 104, 105, 106, 107, 108, 109, 110, 111, 112, 113, 114, 115, 116, 117, 118] (by decide +kernel) (by decide +kernel)) (goodIn_sub (fun _ h => List.mem_cons_of_mem _ (List.mem_append_right _ h)) (by decide +kernel))
set_option maxRecDepth 20000 in
theorem gX11_falseHead_X11_toldMethod : GoodIn wsX11_falseHead (wsV RX11 144 RX11 yX11_toldMethod wsX11_toldMethod) := goodIn_app (goodIn_of _ (by decide +kernel)) ggX11_falseHead_X11_toldMethod
set_option maxRecDepth 20000 in
theorem ggX11_falseHead_X11_noteFalseHeads : GoodIn wsX11_falseHead wsX11_noteFalseHeads := goodIn_r _ [32, 1, 2, 33, 34, 35, 36, 37, 38, 39, 40, 41, 42, 43, 44, 45, 23, 24, 25, 26, 27, 46, 47, 48, 49, 50, 51, 52, 53, 54, 55, 56, 57, 58, 59, 60, 61, 62, 63, 64, 65, 66, 67, 68, 69, 70, 71, 6, 72, 73, 74, 75, 76, 77, 78, 79, 80, 81, 82, 100, 101, 102, 103, 104, 105, 106, 107, 108, 119, 120, 121, 122, 111, 112, 113, 114, 115, 116, 117, 118] (by decide +kernel) (by decide +kernel)
set_option maxRecDepth 20000 in
theorem gX11_falseHead_X11_noteFalseHeads : GoodIn wsX11_falseHead (wsV RX11 181 RX11 yX11_noteFalseHeads wsX11_noteFalseHeads) := goodIn_app (goodIn_of _ (by decide +kernel)) ggX11_falseHead_X11_noteFalseHeads
set_option maxRecDepth 20000 in
theorem ggX11_falseHead_X8_risingRow : GoodIn wsX11_falseHead wsX8_risingRow := goodIn_r _ [86, 38, 56, 40, 87, 88, 43, 89, 71, 6, 72, 90, 91, 92, 93, 94, 95, 96, 119, 120, 121, 122] (by decide +kernel) (by decide +kernel)
set_option maxRecDepth 20000 in
theorem gX11_falseHead_X8_risingRow : GoodIn wsX11_falseHead (wsV RX11 185 RX8 yX8_risingRow wsX8_risingRow) := goodIn_app (goodIn_of _ (by decide +kernel)) ggX11_falseHead_X8_risingRow
set_option maxRecDepth 20000 in
theorem ggX11_falseHead_X6_told : GoodIn wsX11_falseHead wsX6_told := goodIn_r _ [99, 49, 50, 43, 51] (by decide +kernel) (by decide +kernel)
set_option maxRecDepth 20000 in
theorem gX11_falseHead_X6_told : GoodIn wsX11_falseHead (va_wsS RX11 161 yX6_told wsX6_told) := goodIn_app (goodIn_of _ (by decide +kernel)) ggX11_falseHead_X6_told
theorem dX11_falseHead_0 : decode cX11_falseHead 0 = .ok (.aload_n 0, 1) := by decide +kernel
theorem dX11_falseHead_1 : decode cX11_falseHead 1 = .ok (.aload_n 0, 1) := by decide +kernel
theorem dX11_falseHead_2 : decode cX11_falseHead 2 = .ok (.iload_n 1, 1) := by decide +kernel
theorem dX11_falseHead_3 : decode cX11_falseHead 3 = .ok (.invokevirtual 144, 3) := by decide +kernel
theorem dX11_falseHead_6 : decode cX11_falseHead 6 = .ok (.aload_n 0, 1) := by decide +kernel
theorem dX11_falseHead_7 : decode cX11_falseHead 7 = .ok (.iload_n 2, 1) := by decide +kernel
theorem dX11_falseHead_8 : decode cX11_falseHead 8 = .ok (.invokevirtual 144, 3) := by decide +kernel
theorem dX11_falseHead_11 : decode cX11_falseHead 11 = .ok (.invokevirtual 181, 3) := by decide +kernel
theorem dX11_falseHead_14 : decode cX11_falseHead 14 = .ok (.pop, 1) := by decide +kernel
theorem dX11_falseHead_15 : decode cX11_falseHead 15 = .ok (.aload_n 0, 1) := by decide +kernel
theorem dX11_falseHead_16 : decode cX11_falseHead 16 = .ok (.getfield 33, 3) := by decide +kernel
theorem dX11_falseHead_19 : decode cX11_falseHead 19 = .ok (.iload_n 3, 1) := by decide +kernel
theorem dX11_falseHead_20 : decode cX11_falseHead 20 = .ok (.invokevirtual 185, 3) := by decide +kernel
theorem dX11_falseHead_23 : decode cX11_falseHead 23 = .ok (.istore 4, 2) := by decide +kernel
theorem dX11_falseHead_25 : decode cX11_falseHead 25 = .ok (.iload 4, 2) := by decide +kernel
theorem dX11_falseHead_27 : decode cX11_falseHead 27 = .ok (.iconst (-1), 1) := by decide +kernel
theorem dX11_falseHead_28 : decode cX11_falseHead 28 = .ok (.if_icmp .ne 7, 3) := by decide +kernel
theorem dX11_falseHead_31 : decode cX11_falseHead 31 = .ok (.iconst (-1), 1) := by decide +kernel
theorem dX11_falseHead_32 : decode cX11_falseHead 32 = .ok (.goto 12, 3) := by decide +kernel
theorem dX11_falseHead_35 : decode cX11_falseHead 35 = .ok (.iload 4, 2) := by decide +kernel
theorem dX11_falseHead_37 : decode cX11_falseHead 37 = .ok (.aload_n 0, 1) := by decide +kernel
theorem dX11_falseHead_38 : decode cX11_falseHead 38 = .ok (.getfield 9, 3) := by decide +kernel
theorem dX11_falseHead_41 : decode cX11_falseHead 41 = .ok (.invokestatic 161, 3) := by decide +kernel
theorem dX11_falseHead_44 : decode cX11_falseHead 44 = .ok (.ireturn, 1) := by decide +kernel
set_option maxRecDepth 20000 in
theorem ggX11_touch_X5_size : GoodIn wsX11_touch wsX5_size := goodIn_r _ [7, 8, 167, 168, 169, 170, 171, 172, 173, 174, 175, 176, 177, 178] (by decide +kernel) (by decide +kernel)
set_option maxRecDepth 20000 in
theorem gX11_touch_X5_size : GoodIn wsX11_touch (wsV RX11 143 RX5 yX5_size wsX5_size) := goodIn_app (goodIn_of _ (by decide +kernel)) ggX11_touch_X5_size
set_option maxRecDepth 20000 in
theorem ggX11_touch_X5_rows : GoodIn wsX11_touch wsX5_rows := goodIn_r _ [12, 13, 167, 168, 169, 170, 171, 172, 173, 174, 175, 176, 177, 178] (by decide +kernel) (by decide +kernel)
set_option maxRecDepth 20000 in
theorem gX11_touch_X5_rows : GoodIn wsX11_touch (wsV RX11 188 RX5 yX5_rows wsX5_rows) := goodIn_app (goodIn_of _ (by decide +kernel)) ggX11_touch_X5_rows
set_option maxRecDepth 20000 in
theorem ggX11_touch_X5_repeated : GoodIn wsX11_touch wsX5_repeated := goodIn_r _ [17, 18, 19, 20, 21, 6, 22, 23, 24, 25, 26, 27, 28, 29, 30, 8, 31, 32, 33, 34, 35, 36, 37, 38, 39, 40, 41, 42, 43, 44, 45, 46, 47, 48, 49, 50, 51, 52, 53, 54, 55, 56, 57, 58, 59, 60, 61, 62, 63, 64, 65, 66, 67, 68, 69, 70, 71, 72, 73, 74, 75, 76, 77, 78, 79, 80, 81, 82, 83, 84, 85, 86, 87, 88, 89, 90, 91, 92, 93, 94, 95, 96, 97, 98, 99, 100, 101, 102, 103, 104, 105, 106, 107, 108, 109, 110, 111, 112, 113, 114, 115, 116, 117, 118, 119, 120, 121, 122, 167, 168, 169, 170, 171, 172, 173, 174, 175, 176, 177, 178, 179, 180, 181, 182, 183, 184, 185, 186, 187, 188, 189, 190, 191, 192] (by decide +kernel) (by decide +kernel)
set_option maxRecDepth 20000 in
theorem gX11_touch_X5_repeated : GoodIn wsX11_touch (wsV RX11 191 RX5 yX5_repeated wsX5_repeated) := goodIn_app (goodIn_of _ (by decide +kernel)) ggX11_touch_X5_repeated
set_option maxRecDepth 20000 in
theorem ggX11_touch_X11_oneIf : GoodIn wsX11_touch wsX11_oneIf := goodIn_r _ [125] (by decide +kernel) (by decide +kernel)
set_option maxRecDepth 20000 in
theorem gX11_touch_X11_oneIf : GoodIn wsX11_touch (va_wsS RX11 194 yX11_oneIf wsX11_oneIf) := goodIn_app (goodIn_of _ (by decide +kernel)) ggX11_touch_X11_oneIf
set_option maxRecDepth 20000 in
theorem ggX11_touch_X5_repeatedFrom : GoodIn wsX11_touch wsX5_repeatedFrom := goodIn_r _ [129, 25, 19, 20, 21, 6, 22, 23, 18, 24, 26, 27, 28, 29, 30, 8, 31, 32, 33, 34, 35, 36, 37, 38, 39, 40, 41, 42, 43, 44, 45, 46, 47, 48, 49, 50, 51, 52, 53, 54, 55, 56, 57, 58, 59, 60, 61, 62, 63, 64, 65, 66, 67, 68, 69, 70, 71, 72, 73, 74, 75, 76, 77, 78, 79, 80, 81, 82, 83, 84, 85, 86, 87, 88, 89, 90, 91, 92, 93, 94, 95, 96, 97, 98, 99, 100, 101, 102, 103, 104, 105, 106, 107, 108, 109, 110, 111, 112, 113, 114, 115, 116, 117, 118, 119, 120, 121, 122, 167, 168, 169, 170, 171, 172, 173, 174, 175, 176, 177, 178, 179, 180, 181, 182, 183, 184, 185, 186, 187, 188, 189, 190, 191, 192] (by decide +kernel) (by decide +kernel)
set_option maxRecDepth 20000 in
theorem gX11_touch_X5_repeatedFrom : GoodIn wsX11_touch (wsV RX11 198 RX5 yX5_repeatedFrom wsX5_repeatedFrom) := goodIn_app (goodIn_of _ (by decide +kernel)) ggX11_touch_X5_repeatedFrom
set_option maxRecDepth 20000 in
theorem ggX11_touch_X5_ending : GoodIn wsX11_touch wsX5_ending := goodIn_r _ [133, 107, 167, 168, 169, 170, 171, 172, 173, 174, 175, 176, 177, 178] (by decide +kernel) (by decide +kernel)
set_option maxRecDepth 20000 in
theorem gX11_touch_X5_ending : GoodIn wsX11_touch (wsV RX11 201 RX5 yX5_ending wsX5_ending) := goodIn_app (goodIn_of _ (by decide +kernel)) ggX11_touch_X5_ending
set_option maxRecDepth 20000 in
theorem ggX11_touch_X6_told : GoodIn wsX11_touch wsX6_told := goodIn_r _ [136, 77, 78, 42, 79] (by decide +kernel) (by decide +kernel)
set_option maxRecDepth 20000 in
theorem gX11_touch_X6_told : GoodIn wsX11_touch (va_wsS RX11 161 yX6_told wsX6_told) := goodIn_app (goodIn_of _ (by decide +kernel)) ggX11_touch_X6_told
set_option maxRecDepth 20000 in
theorem ggX11_touch_X6_rounds : GoodIn wsX11_touch wsX6_rounds := goodIn_r _ [43] (by decide +kernel) (by decide +kernel)
set_option maxRecDepth 20000 in
theorem gX11_touch_X6_rounds : GoodIn wsX11_touch (va_wsS RX11 152 yX6_rounds wsX6_rounds) := goodIn_app (goodIn_of _ (by decide +kernel)) ggX11_touch_X6_rounds
set_option maxRecDepth 20000 in
theorem ggX11_touch_X5_order : GoodIn wsX11_touch wsX5_order := goodIn_r _ [141, 107, 30, 142, 143, 42, 144, 145, 146, 41, 43, 147, 148, 149, 77, 78, 79, 167, 168, 169, 170, 171, 172, 173, 174, 175, 176, 177, 178] (by decide +kernel) (by decide +kernel)
set_option maxRecDepth 20000 in
theorem gX11_touch_X5_order : GoodIn wsX11_touch (wsV RX11 204 RX5 yX5_order wsX5_order) := goodIn_app (goodIn_of _ (by decide +kernel)) ggX11_touch_X5_order
set_option maxRecDepth 20000 in
theorem ggX11_touch_X5_calls : GoodIn wsX11_touch wsX5_calls := goodIn_r _ [153, 8, 89, 90, 91, 6, 92, 48, 49, 50, 51, 124, 125, 167, 168, 169, 170, 171, 172, 173, 174, 175, 176, 177, 178] (by decide +kernel) (by decide +kernel)
set_option maxRecDepth 20000 in
theorem gX11_touch_X5_calls : GoodIn wsX11_touch (wsV RX11 207 RX5 yX5_calls wsX5_calls) := goodIn_app (goodIn_of _ (by decide +kernel)) ggX11_touch_X5_calls
set_option maxRecDepth 20000 in
theorem ggX11_touch_X5_methodChanges : GoodIn wsX11_touch wsX5_methodChanges := goodIn_r _ [157, 8, 44, 45, 46, 6, 47, 48, 49, 50, 51, 124, 125, 167, 168, 169, 170, 171, 172, 173, 174, 175, 176, 177, 178] (by decide +kernel) (by decide +kernel)
set_option maxRecDepth 20000 in
theorem gX11_touch_X5_methodChanges : GoodIn wsX11_touch (wsV RX11 210 RX5 yX5_methodChanges wsX5_methodChanges) := goodIn_app (goodIn_of _ (by decide +kernel)) ggX11_touch_X5_methodChanges
theorem dX11_touch_0 : decode cX11_touch 0 = .ok (.iload_n 1, 1) := by decide +kernel
theorem dX11_touch_1 : decode cX11_touch 1 = .ok (.tableswitch 186 0 10 #[59, 67, 75, 95, 103, 111, 126, 152, 160, 169, 178], 59) := by decide +kernel
theorem dX11_touch_60 : decode cX11_touch 60 = .ok (.aload_n 0, 1) := by decide +kernel
theorem dX11_touch_61 : decode cX11_touch 61 = .ok (.getfield 58, 3) := by decide +kernel
theorem dX11_touch_64 : decode cX11_touch 64 = .ok (.invokevirtual 143, 3) := by decide +kernel
theorem dX11_touch_67 : decode cX11_touch 67 = .ok (.ireturn, 1) := by decide +kernel
theorem dX11_touch_68 : decode cX11_touch 68 = .ok (.aload_n 0, 1) := by decide +kernel
theorem dX11_touch_69 : decode cX11_touch 69 = .ok (.getfield 58, 3) := by decide +kernel
theorem dX11_touch_72 : decode cX11_touch 72 = .ok (.invokevirtual 188, 3) := by decide +kernel
theorem dX11_touch_75 : decode cX11_touch 75 = .ok (.ireturn, 1) := by decide +kernel
theorem dX11_touch_76 : decode cX11_touch 76 = .ok (.aload_n 0, 1) := by decide +kernel
theorem dX11_touch_77 : decode cX11_touch 77 = .ok (.getfield 58, 3) := by decide +kernel
theorem dX11_touch_80 : decode cX11_touch 80 = .ok (.invokevirtual 191, 3) := by decide +kernel
theorem dX11_touch_83 : decode cX11_touch 83 = .ok (.iconst (-1), 1) := by decide +kernel
theorem dX11_touch_84 : decode cX11_touch 84 = .ok (.if_icmp .ne 7, 3) := by decide +kernel
theorem dX11_touch_87 : decode cX11_touch 87 = .ok (.iconst 1, 1) := by decide +kernel
theorem dX11_touch_88 : decode cX11_touch 88 = .ok (.goto 4, 3) := by decide +kernel
theorem dX11_touch_91 : decode cX11_touch 91 = .ok (.iconst 0, 1) := by decide +kernel
theorem dX11_touch_92 : decode cX11_touch 92 = .ok (.invokestatic 194, 3) := by decide +kernel
theorem dX11_touch_95 : decode cX11_touch 95 = .ok (.ireturn, 1) := by decide +kernel
theorem dX11_touch_96 : decode cX11_touch 96 = .ok (.aload_n 0, 1) := by decide +kernel
theorem dX11_touch_97 : decode cX11_touch 97 = .ok (.getfield 58, 3) := by decide +kernel
theorem dX11_touch_100 : decode cX11_touch 100 = .ok (.invokevirtual 191, 3) := by decide +kernel
theorem dX11_touch_103 : decode cX11_touch 103 = .ok (.ireturn, 1) := by decide +kernel
theorem dX11_touch_104 : decode cX11_touch 104 = .ok (.aload_n 0, 1) := by decide +kernel
theorem dX11_touch_105 : decode cX11_touch 105 = .ok (.getfield 58, 3) := by decide +kernel
theorem dX11_touch_108 : decode cX11_touch 108 = .ok (.invokevirtual 198, 3) := by decide +kernel
theorem dX11_touch_111 : decode cX11_touch 111 = .ok (.ireturn, 1) := by decide +kernel
theorem dX11_touch_112 : decode cX11_touch 112 = .ok (.aload_n 0, 1) := by decide +kernel
theorem dX11_touch_113 : decode cX11_touch 113 = .ok (.getfield 58, 3) := by decide +kernel
theorem dX11_touch_116 : decode cX11_touch 116 = .ok (.invokevirtual 201, 3) := by decide +kernel
theorem dX11_touch_119 : decode cX11_touch 119 = .ok (.aload_n 0, 1) := by decide +kernel
theorem dX11_touch_120 : decode cX11_touch 120 = .ok (.getfield 9, 3) := by decide +kernel
theorem dX11_touch_123 : decode cX11_touch 123 = .ok (.invokestatic 161, 3) := by decide +kernel
theorem dX11_touch_126 : decode cX11_touch 126 = .ok (.ireturn, 1) := by decide +kernel
theorem dX11_touch_127 : decode cX11_touch 127 = .ok (.aload_n 0, 1) := by decide +kernel
theorem dX11_touch_128 : decode cX11_touch 128 = .ok (.getfield 58, 3) := by decide +kernel
theorem dX11_touch_131 : decode cX11_touch 131 = .ok (.invokevirtual 201, 3) := by decide +kernel
theorem dX11_touch_134 : decode cX11_touch 134 = .ok (.aload_n 0, 1) := by decide +kernel
theorem dX11_touch_135 : decode cX11_touch 135 = .ok (.getfield 9, 3) := by decide +kernel
theorem dX11_touch_138 : decode cX11_touch 138 = .ok (.invokestatic 152, 3) := by decide +kernel
theorem dX11_touch_141 : decode cX11_touch 141 = .ok (.if_icmp .ne 7, 3) := by decide +kernel
theorem dX11_touch_144 : decode cX11_touch 144 = .ok (.iconst 1, 1) := by decide +kernel
theorem dX11_touch_145 : decode cX11_touch 145 = .ok (.goto 4, 3) := by decide +kernel
theorem dX11_touch_148 : decode cX11_touch 148 = .ok (.iconst 0, 1) := by decide +kernel
theorem dX11_touch_149 : decode cX11_touch 149 = .ok (.invokestatic 194, 3) := by decide +kernel
theorem dX11_touch_152 : decode cX11_touch 152 = .ok (.ireturn, 1) := by decide +kernel
theorem dX11_touch_153 : decode cX11_touch 153 = .ok (.aload_n 0, 1) := by decide +kernel
theorem dX11_touch_154 : decode cX11_touch 154 = .ok (.getfield 58, 3) := by decide +kernel
theorem dX11_touch_157 : decode cX11_touch 157 = .ok (.invokevirtual 204, 3) := by decide +kernel
theorem dX11_touch_160 : decode cX11_touch 160 = .ok (.ireturn, 1) := by decide +kernel
theorem dX11_touch_161 : decode cX11_touch 161 = .ok (.aload_n 0, 1) := by decide +kernel
theorem dX11_touch_162 : decode cX11_touch 162 = .ok (.getfield 58, 3) := by decide +kernel
theorem dX11_touch_165 : decode cX11_touch 165 = .ok (.iconst 1, 1) := by decide +kernel
theorem dX11_touch_166 : decode cX11_touch 166 = .ok (.invokevirtual 207, 3) := by decide +kernel
theorem dX11_touch_169 : decode cX11_touch 169 = .ok (.ireturn, 1) := by decide +kernel
theorem dX11_touch_170 : decode cX11_touch 170 = .ok (.aload_n 0, 1) := by decide +kernel
theorem dX11_touch_171 : decode cX11_touch 171 = .ok (.getfield 58, 3) := by decide +kernel
theorem dX11_touch_174 : decode cX11_touch 174 = .ok (.iconst 2, 1) := by decide +kernel
theorem dX11_touch_175 : decode cX11_touch 175 = .ok (.invokevirtual 207, 3) := by decide +kernel
theorem dX11_touch_178 : decode cX11_touch 178 = .ok (.ireturn, 1) := by decide +kernel
theorem dX11_touch_179 : decode cX11_touch 179 = .ok (.aload_n 0, 1) := by decide +kernel
theorem dX11_touch_180 : decode cX11_touch 180 = .ok (.getfield 58, 3) := by decide +kernel
theorem dX11_touch_183 : decode cX11_touch 183 = .ok (.invokevirtual 210, 3) := by decide +kernel
theorem dX11_touch_186 : decode cX11_touch 186 = .ok (.ireturn, 1) := by decide +kernel
theorem dX11_touch_187 : decode cX11_touch 187 = .ok (.iconst (-1), 1) := by decide +kernel
theorem dX11_touch_188 : decode cX11_touch 188 = .ok (.ireturn, 1) := by decide +kernel
set_option maxRecDepth 20000 in
theorem ggX11_called_X5_size : GoodIn wsX11_called wsX5_size := goodIn_r _ [9, 10, 49, 50, 51, 52, 53, 54, 55, 56, 57, 58, 59, 60] (by decide +kernel) (by decide +kernel)
set_option maxRecDepth 20000 in
theorem gX11_called_X5_size : GoodIn wsX11_called (wsV RX11 143 RX5 yX5_size wsX5_size) := goodIn_app (goodIn_of _ (by decide +kernel)) ggX11_called_X5_size
set_option maxRecDepth 20000 in
theorem ggX11_called_X5_headOf : GoodIn wsX11_called wsX5_headOf := goodIn_r _ [14, 15, 16, 17, 18, 49, 50, 51, 52, 53, 54, 55, 56, 57, 58, 59, 60] (by decide +kernel) (by decide +kernel)
set_option maxRecDepth 20000 in
theorem gX11_called_X5_headOf : GoodIn wsX11_called (wsV RX11 215 RX5 yX5_headOf wsX5_headOf) := goodIn_app (goodIn_of _ (by decide +kernel)) ggX11_called_X5_headOf
set_option maxRecDepth 20000 in
theorem ggX11_called_X6_told : GoodIn wsX11_called wsX6_told := goodIn_r _ [22, 23, 24, 21, 25] (by decide +kernel) (by decide +kernel)
set_option maxRecDepth 20000 in
theorem gX11_called_X6_told : GoodIn wsX11_called (va_wsS RX11 161 yX6_told wsX6_told) := goodIn_app (goodIn_of _ (by decide +kernel)) ggX11_called_X6_told
set_option maxRecDepth 20000 in
theorem ggX11_called_X5_letterOf : GoodIn wsX11_called wsX5_letterOf := goodIn_r _ [29, 30, 16, 17, 18, 49, 50, 51, 52, 53, 54, 55, 56, 57, 58, 59, 60] (by decide +kernel) (by decide +kernel)
set_option maxRecDepth 20000 in
theorem gX11_called_X5_letterOf : GoodIn wsX11_called (wsV RX11 218 RX5 yX5_letterOf wsX5_letterOf) := goodIn_app (goodIn_of _ (by decide +kernel)) ggX11_called_X5_letterOf
set_option maxRecDepth 20000 in
theorem ggX11_called_X5_callOf : GoodIn wsX11_called wsX5_callOf := goodIn_r _ [34, 30, 16, 17, 18, 49, 50, 51, 52, 53, 54, 55, 56, 57, 58, 59, 60] (by decide +kernel) (by decide +kernel)
set_option maxRecDepth 20000 in
theorem gX11_called_X5_callOf : GoodIn wsX11_called (wsV RX11 219 RX5 yX5_callOf wsX5_callOf) := goodIn_app (goodIn_of _ (by decide +kernel)) ggX11_called_X5_callOf
set_option maxRecDepth 20000 in
theorem ggX11_called_X5_firstOf : GoodIn wsX11_called wsX5_firstOf := goodIn_r _ [38, 39, 16, 17, 18, 49, 50, 51, 52, 53, 54, 55, 56, 57, 58, 59, 60] (by decide +kernel) (by decide +kernel)
set_option maxRecDepth 20000 in
theorem gX11_called_X5_firstOf : GoodIn wsX11_called (wsV RX11 220 RX5 yX5_firstOf wsX5_firstOf) := goodIn_app (goodIn_of _ (by decide +kernel)) ggX11_called_X5_firstOf
theorem dX11_called_0 : decode cX11_called 0 = .ok (.iload_n 1, 1) := by decide +kernel
theorem dX11_called_1 : decode cX11_called 1 = .ok (.ifCond .lt 14, 3) := by decide +kernel
theorem dX11_called_4 : decode cX11_called 4 = .ok (.iload_n 1, 1) := by decide +kernel
theorem dX11_called_5 : decode cX11_called 5 = .ok (.aload_n 0, 1) := by decide +kernel
theorem dX11_called_6 : decode cX11_called 6 = .ok (.getfield 58, 3) := by decide +kernel
theorem dX11_called_9 : decode cX11_called 9 = .ok (.invokevirtual 143, 3) := by decide +kernel
theorem dX11_called_12 : decode cX11_called 12 = .ok (.if_icmp .lt 13, 3) := by decide +kernel
theorem dX11_called_15 : decode cX11_called 15 = .ok (.new 147, 3) := by decide +kernel
theorem dX11_called_18 : decode cX11_called 18 = .ok (.dup, 1) := by decide +kernel
theorem dX11_called_19 : decode cX11_called 19 = .ok (.ldc 213, 2) := by decide +kernel
theorem dX11_called_21 : decode cX11_called 21 = .ok (.invokespecial 151, 3) := by decide +kernel
theorem dX11_called_24 : decode cX11_called 24 = .ok (.athrow, 1) := by decide +kernel
theorem dX11_called_25 : decode cX11_called 25 = .ok (.iload_n 2, 1) := by decide +kernel
theorem dX11_called_26 : decode cX11_called 26 = .ok (.tableswitch 73 0 3 #[30, 46, 55, 64], 30) := by decide +kernel
theorem dX11_called_56 : decode cX11_called 56 = .ok (.aload_n 0, 1) := by decide +kernel
theorem dX11_called_57 : decode cX11_called 57 = .ok (.getfield 58, 3) := by decide +kernel
theorem dX11_called_60 : decode cX11_called 60 = .ok (.iload_n 1, 1) := by decide +kernel
theorem dX11_called_61 : decode cX11_called 61 = .ok (.invokevirtual 215, 3) := by decide +kernel
theorem dX11_called_64 : decode cX11_called 64 = .ok (.aload_n 0, 1) := by decide +kernel
theorem dX11_called_65 : decode cX11_called 65 = .ok (.getfield 9, 3) := by decide +kernel
theorem dX11_called_68 : decode cX11_called 68 = .ok (.invokestatic 161, 3) := by decide +kernel
theorem dX11_called_71 : decode cX11_called 71 = .ok (.ireturn, 1) := by decide +kernel
theorem dX11_called_72 : decode cX11_called 72 = .ok (.aload_n 0, 1) := by decide +kernel
theorem dX11_called_73 : decode cX11_called 73 = .ok (.getfield 58, 3) := by decide +kernel
theorem dX11_called_76 : decode cX11_called 76 = .ok (.iload_n 1, 1) := by decide +kernel
theorem dX11_called_77 : decode cX11_called 77 = .ok (.invokevirtual 218, 3) := by decide +kernel
theorem dX11_called_80 : decode cX11_called 80 = .ok (.ireturn, 1) := by decide +kernel
theorem dX11_called_81 : decode cX11_called 81 = .ok (.aload_n 0, 1) := by decide +kernel
theorem dX11_called_82 : decode cX11_called 82 = .ok (.getfield 58, 3) := by decide +kernel
theorem dX11_called_85 : decode cX11_called 85 = .ok (.iload_n 1, 1) := by decide +kernel
theorem dX11_called_86 : decode cX11_called 86 = .ok (.invokevirtual 219, 3) := by decide +kernel
theorem dX11_called_89 : decode cX11_called 89 = .ok (.ireturn, 1) := by decide +kernel
theorem dX11_called_90 : decode cX11_called 90 = .ok (.aload_n 0, 1) := by decide +kernel
theorem dX11_called_91 : decode cX11_called 91 = .ok (.getfield 58, 3) := by decide +kernel
theorem dX11_called_94 : decode cX11_called 94 = .ok (.iload_n 1, 1) := by decide +kernel
theorem dX11_called_95 : decode cX11_called 95 = .ok (.invokevirtual 220, 3) := by decide +kernel
theorem dX11_called_98 : decode cX11_called 98 = .ok (.ireturn, 1) := by decide +kernel
theorem dX11_called_99 : decode cX11_called 99 = .ok (.new 147, 3) := by decide +kernel
theorem dX11_called_102 : decode cX11_called 102 = .ok (.dup, 1) := by decide +kernel
theorem dX11_called_103 : decode cX11_called 103 = .ok (.ldc 223, 2) := by decide +kernel
theorem dX11_called_105 : decode cX11_called 105 = .ok (.invokespecial 151, 3) := by decide +kernel
theorem dX11_called_108 : decode cX11_called 108 = .ok (.athrow, 1) := by decide +kernel
set_option maxRecDepth 20000 in
theorem ggX11_row_X5_rows : GoodIn wsX11_row wsX5_rows := goodIn_r _ [9, 10, 69, 70, 71, 72, 73, 74, 75, 76, 77, 78, 79, 80] (by decide +kernel) (by decide +kernel)
set_option maxRecDepth 20000 in
theorem gX11_row_X5_rows : GoodIn wsX11_row (wsV RX11 188 RX5 yX5_rows wsX5_rows) := goodIn_app (goodIn_of _ (by decide +kernel)) ggX11_row_X5_rows
set_option maxRecDepth 20000 in
theorem ggX11_row_X5_rowNumbered : GoodIn wsX11_row wsX5_rowNumbered := goodIn_r _ [14, 15, 16, 17, 18, 19, 20, 8, 21, 22, 23, 24, 25, 26, 27, 28, 29, 30, 31, 32, 33, 34, 35, 36, 37, 38, 39, 40, 41, 42, 43, 44, 45, 46, 47, 48, 49, 50, 51, 52, 53, 69, 70, 71, 72, 73, 74, 75, 76, 77, 78, 79, 80, 81, 82, 83, 84, 85, 86, 87, 88, 89, 90] (by decide +kernel) (by decide +kernel)
set_option maxRecDepth 20000 in
theorem gX11_row_X5_rowNumbered : GoodIn wsX11_row (wsV RX11 227 RX5 yX5_rowNumbered wsX5_rowNumbered) := goodIn_app (goodIn_of _ (by decide +kernel)) ggX11_row_X5_rowNumbered
set_option maxRecDepth 20000 in
theorem ggX11_row_X6_told : GoodIn wsX11_row wsX6_told := goodIn_r _ [56, 57, 58, 52, 59] (by decide +kernel) (by decide +kernel)
set_option maxRecDepth 20000 in
theorem gX11_row_X6_told : GoodIn wsX11_row (va_wsS RX11 161 yX6_told wsX6_told) := goodIn_app (goodIn_of _ (by decide +kernel)) ggX11_row_X6_told
theorem dX11_row_0 : decode cX11_row 0 = .ok (.iload_n 1, 1) := by decide +kernel
theorem dX11_row_1 : decode cX11_row 1 = .ok (.ifCond .lt 14, 3) := by decide +kernel
theorem dX11_row_4 : decode cX11_row 4 = .ok (.iload_n 1, 1) := by decide +kernel
theorem dX11_row_5 : decode cX11_row 5 = .ok (.aload_n 0, 1) := by decide +kernel
theorem dX11_row_6 : decode cX11_row 6 = .ok (.getfield 58, 3) := by decide +kernel
theorem dX11_row_9 : decode cX11_row 9 = .ok (.invokevirtual 188, 3) := by decide +kernel
theorem dX11_row_12 : decode cX11_row 12 = .ok (.if_icmp .lt 13, 3) := by decide +kernel
theorem dX11_row_15 : decode cX11_row 15 = .ok (.new 147, 3) := by decide +kernel
theorem dX11_row_18 : decode cX11_row 18 = .ok (.dup, 1) := by decide +kernel
theorem dX11_row_19 : decode cX11_row 19 = .ok (.ldc 225, 2) := by decide +kernel
theorem dX11_row_21 : decode cX11_row 21 = .ok (.invokespecial 151, 3) := by decide +kernel
theorem dX11_row_24 : decode cX11_row 24 = .ok (.athrow, 1) := by decide +kernel
theorem dX11_row_25 : decode cX11_row 25 = .ok (.aload_n 0, 1) := by decide +kernel
theorem dX11_row_26 : decode cX11_row 26 = .ok (.getfield 58, 3) := by decide +kernel
theorem dX11_row_29 : decode cX11_row 29 = .ok (.iload_n 1, 1) := by decide +kernel
theorem dX11_row_30 : decode cX11_row 30 = .ok (.invokevirtual 227, 3) := by decide +kernel
theorem dX11_row_33 : decode cX11_row 33 = .ok (.aload_n 0, 1) := by decide +kernel
theorem dX11_row_34 : decode cX11_row 34 = .ok (.getfield 9, 3) := by decide +kernel
theorem dX11_row_37 : decode cX11_row 37 = .ok (.invokestatic 161, 3) := by decide +kernel
theorem dX11_row_40 : decode cX11_row 40 = .ok (.ireturn, 1) := by decide +kernel
set_option maxRecDepth 20000 in
theorem ggX11_music_X4_init : GoodIn wsX11_music wsX4_init := goodIn_r _ [8, 9, 10, 11, 12, 13, 88, 89] (by decide +kernel) (by decide +kernel)
set_option maxRecDepth 20000 in
theorem gX11_music_X4_init_n232 : GoodIn wsX11_music (wsX4_init) := ggX11_music_X4_init
set_option maxRecDepth 20000 in
theorem ggX11_music_X4_read : GoodIn wsX11_music wsX4_read := goodIn_r _ [17, 18, 19, 20, 21, 22, 23, 24, 25, 26, 27, 28, 29, 30, 3, 31, 32, 33, 34, 35, 12, 13, 99, 100, 88, 89] (by decide +kernel) (by decide +kernel)
set_option maxRecDepth 20000 in
theorem gX11_music_X4_read : GoodIn wsX11_music (wsV RX11 233 RX4 yX4_read wsX4_read) := goodIn_app (goodIn_of _ (by decide +kernel)) ggX11_music_X4_read
set_option maxRecDepth 20000 in
theorem ggX11_music_X9_cut : GoodIn wsX11_music wsX9_cut := goodIn_r _ [39, 23, 99, 100] (by decide +kernel) (by decide +kernel)
set_option maxRecDepth 20000 in
theorem gX11_music_X9_cut : GoodIn wsX11_music (wsV RX11 79 RX9 yX9_cut wsX9_cut) := goodIn_app (goodIn_of _ (by decide +kernel)) ggX11_music_X9_cut
set_option maxRecDepth 20000 in
theorem ggX11_music_X5_fitting : GoodIn wsX11_music wsX5_fitting := goodIn_r _ [44, 45, 46, 47, 48, 49, 43, 50, 51, 52, 53, 54, 55, 56, 57, 58, 59, 60, 61, 62, 63, 64, 65, 66, 67, 68, 69, 70, 71, 72, 73, 74, 75, 3, 76, 12, 13, 77, 78, 79, 80, 81, 82, 83, 84, 85, 86, 87, 101, 102, 103, 104, 105, 106, 107, 108, 109, 110, 111, 112, 113, 114, 115, 116, 117, 118, 119, 120, 121, 122, 88, 89] (by decide +kernel) (by decide +kernel)
set_option maxRecDepth 20000 in
theorem gX11_music_X5_fitting : GoodIn wsX11_music (wsV RX11 237 RX5 yX5_fitting wsX5_fitting) := goodIn_app (goodIn_of _ (by decide +kernel)) ggX11_music_X5_fitting
theorem dX11_music_0 : decode cX11_music 0 = .ok (.new 230, 3) := by decide +kernel
theorem dX11_music_3 : decode cX11_music 3 = .ok (.dup, 1) := by decide +kernel
theorem dX11_music_4 : decode cX11_music 4 = .ok (.invokespecial 232, 3) := by decide +kernel
theorem dX11_music_7 : decode cX11_music 7 = .ok (.astore_n 1, 1) := by decide +kernel
theorem dX11_music_8 : decode cX11_music 8 = .ok (.aload_n 1, 1) := by decide +kernel
theorem dX11_music_9 : decode cX11_music 9 = .ok (.aload_n 0, 1) := by decide +kernel
theorem dX11_music_10 : decode cX11_music 10 = .ok (.getfield 25, 3) := by decide +kernel
theorem dX11_music_13 : decode cX11_music 13 = .ok (.aload_n 0, 1) := by decide +kernel
theorem dX11_music_14 : decode cX11_music 14 = .ok (.getfield 9, 3) := by decide +kernel
theorem dX11_music_17 : decode cX11_music 17 = .ok (.invokevirtual 233, 3) := by decide +kernel
theorem dX11_music_20 : decode cX11_music 20 = .ok (.istore_n 2, 1) := by decide +kernel
theorem dX11_music_21 : decode cX11_music 21 = .ok (.aload_n 0, 1) := by decide +kernel
theorem dX11_music_22 : decode cX11_music 22 = .ok (.getfield 25, 3) := by decide +kernel
theorem dX11_music_25 : decode cX11_music 25 = .ok (.iconst 0, 1) := by decide +kernel
theorem dX11_music_26 : decode cX11_music 26 = .ok (.invokevirtual 79, 3) := by decide +kernel
theorem dX11_music_29 : decode cX11_music 29 = .ok (.iload_n 2, 1) := by decide +kernel
theorem dX11_music_30 : decode cX11_music 30 = .ok (.ifCond .eq 14, 3) := by decide +kernel
theorem dX11_music_33 : decode cX11_music 33 = .ok (.aload_n 0, 1) := by decide +kernel
theorem dX11_music_34 : decode cX11_music 34 = .ok (.getfield 58, 3) := by decide +kernel
theorem dX11_music_37 : decode cX11_music 37 = .ok (.aload_n 1, 1) := by decide +kernel
theorem dX11_music_38 : decode cX11_music 38 = .ok (.invokevirtual 237, 3) := by decide +kernel
theorem dX11_music_41 : decode cX11_music 41 = .ok (.goto 4, 3) := by decide +kernel
theorem dX11_music_44 : decode cX11_music 44 = .ok (.iconst (-1), 1) := by decide +kernel
theorem dX11_music_45 : decode cX11_music 45 = .ok (.ireturn, 1) := by decide +kernel
set_option maxRecDepth 20000 in
theorem ggX11_whole_X5_order : GoodIn wsX11_whole wsX5_order := goodIn_r _ [6, 7, 8, 9, 10, 11, 12, 13, 14, 15, 16, 17, 18, 19, 20, 21, 22, 111, 112, 113, 114, 115, 116, 117, 118, 119, 120, 121, 122] (by decide +kernel) (by decide +kernel)
set_option maxRecDepth 20000 in
theorem gX11_whole_X5_order : GoodIn wsX11_whole (wsV RX11 204 RX5 yX5_order wsX5_order) := goodIn_app (goodIn_of _ (by decide +kernel)) ggX11_whole_X5_order
set_option maxRecDepth 20000 in
theorem ggX11_whole_X5_size : GoodIn wsX11_whole wsX5_size := goodIn_r _ [26, 27, 111, 112, 113, 114, 115, 116, 117, 118, 119, 120, 121, 122] (by decide +kernel) (by decide +kernel)
set_option maxRecDepth 20000 in
theorem gX11_whole_X5_size : GoodIn wsX11_whole (wsV RX11 143 RX5 yX5_size wsX5_size) := goodIn_app (goodIn_of _ (by decide +kernel)) ggX11_whole_X5_size
set_option maxRecDepth 20000 in
theorem ggX11_whole_X5_firstRepeat : GoodIn wsX11_whole wsX5_firstRepeat := goodIn_r _ [31, 32, 8, 27, 33, 34, 35, 36, 37, 38, 39, 40, 41, 42, 15, 11, 16, 43, 44, 45, 5, 46, 47, 48, 49, 50, 51, 52, 53, 54, 55, 56, 57, 58, 59, 60, 61, 62, 63, 64, 65, 66, 67, 68, 69, 70, 71, 72, 73, 74, 75, 20, 21, 22, 76, 77, 78, 79, 80, 81, 82, 83, 84, 85, 86, 87, 88, 89, 90, 91, 92, 93, 94, 95, 96, 97, 98, 111, 112, 113, 114, 115, 116, 117, 118, 119, 120, 121, 122, 123, 124, 125, 126, 127, 128, 129, 130, 131, 132, 133, 134, 135, 136] (by decide +kernel) (by decide +kernel)
set_option maxRecDepth 20000 in
theorem gX11_whole_X5_firstRepeat : GoodIn wsX11_whole (wsV RX11 241 RX5 yX5_firstRepeat wsX5_firstRepeat) := goodIn_app (goodIn_of _ (by decide +kernel)) ggX11_whole_X5_firstRepeat
set_option maxRecDepth 20000 in
theorem ggX11_whole_X11_oneIf : GoodIn wsX11_whole wsX11_oneIf := goodIn_r _ [101] (by decide +kernel) (by decide +kernel)
set_option maxRecDepth 20000 in
theorem gX11_whole_X11_oneIf : GoodIn wsX11_whole (va_wsS RX11 194 yX11_oneIf wsX11_oneIf) := goodIn_app (goodIn_of _ (by decide +kernel)) ggX11_whole_X11_oneIf
theorem dX11_whole_0 : decode cX11_whole 0 = .ok (.aload_n 0, 1) := by decide +kernel
theorem dX11_whole_1 : decode cX11_whole 1 = .ok (.getfield 58, 3) := by decide +kernel
theorem dX11_whole_4 : decode cX11_whole 4 = .ok (.invokevirtual 204, 3) := by decide +kernel
theorem dX11_whole_7 : decode cX11_whole 7 = .ok (.istore_n 1, 1) := by decide +kernel
theorem dX11_whole_8 : decode cX11_whole 8 = .ok (.iload_n 1, 1) := by decide +kernel
theorem dX11_whole_9 : decode cX11_whole 9 = .ok (.aload_n 0, 1) := by decide +kernel
theorem dX11_whole_10 : decode cX11_whole 10 = .ok (.getfield 58, 3) := by decide +kernel
theorem dX11_whole_13 : decode cX11_whole 13 = .ok (.invokevirtual 143, 3) := by decide +kernel
theorem dX11_whole_16 : decode cX11_whole 16 = .ok (.imul, 1) := by decide +kernel
theorem dX11_whole_17 : decode cX11_whole 17 = .ok (.sipush 1000, 3) := by decide +kernel
theorem dX11_whole_20 : decode cX11_whole 20 = .ok (.if_icmp .le 5, 3) := by decide +kernel
theorem dX11_whole_23 : decode cX11_whole 23 = .ok (.iconst (-1), 1) := by decide +kernel
theorem dX11_whole_24 : decode cX11_whole 24 = .ok (.ireturn, 1) := by decide +kernel
theorem dX11_whole_25 : decode cX11_whole 25 = .ok (.aload_n 0, 1) := by decide +kernel
theorem dX11_whole_26 : decode cX11_whole 26 = .ok (.getfield 58, 3) := by decide +kernel
theorem dX11_whole_29 : decode cX11_whole 29 = .ok (.iload_n 1, 1) := by decide +kernel
theorem dX11_whole_30 : decode cX11_whole 30 = .ok (.invokevirtual 241, 3) := by decide +kernel
theorem dX11_whole_33 : decode cX11_whole 33 = .ok (.iconst (-1), 1) := by decide +kernel
theorem dX11_whole_34 : decode cX11_whole 34 = .ok (.if_icmp .ne 7, 3) := by decide +kernel
theorem dX11_whole_37 : decode cX11_whole 37 = .ok (.iconst 1, 1) := by decide +kernel
theorem dX11_whole_38 : decode cX11_whole 38 = .ok (.goto 4, 3) := by decide +kernel
theorem dX11_whole_41 : decode cX11_whole 41 = .ok (.iconst 0, 1) := by decide +kernel
theorem dX11_whole_42 : decode cX11_whole 42 = .ok (.invokestatic 194, 3) := by decide +kernel
theorem dX11_whole_45 : decode cX11_whole 45 = .ok (.ireturn, 1) := by decide +kernel
set_option maxRecDepth 20000 in
theorem ggX11_find_X11_toldMethod : GoodIn wsX11_find wsX11_toldMethod := goodIn_ca (goodIn_r _ [10, 11, 12, 13, 14, 15, 16, 17, 18, 19, 20, 21, 22, 23, 24, 25, 26, 27, 28, 29, 30, 31, 151, 152, 153, 154, 155, 156, 157, 158, 159, 160, 161, 162, 163, 164, 165, 166, 167, 168, 169] (by decide +kernel) (by decide +kernel)) (goodIn_sub (fun _ h => List.mem_cons_of_mem _ (List.mem_append_right _ h)) (by decide +kernel))
set_option maxRecDepth 20000 in
theorem gX11_find_X11_toldMethod : GoodIn wsX11_find (wsV RX11 144 RX11 yX11_toldMethod wsX11_toldMethod) := goodIn_app (goodIn_of _ (by decide +kernel)) ggX11_find_X11_toldMethod
set_option maxRecDepth 20000 in
theorem ggX11_find_X7_seek : GoodIn wsX11_find wsX7_seek := goodIn_r _ [36, 37, 38, 39, 40, 41, 42, 43, 44, 28, 45, 46, 47, 48, 49, 50, 51, 52, 53, 54, 55, 56, 57, 58, 59, 60, 61, 35, 62, 63, 26, 27, 29, 30, 64, 65, 66, 67, 68, 69, 70, 71, 72, 73, 74, 75, 76, 77, 78, 79, 80, 81, 82, 83, 84, 85, 86, 9, 87, 88, 89, 90, 91, 92, 93, 94, 95, 96, 97, 98, 99, 100, 101, 102, 103, 104, 105, 106, 107, 108, 109, 110, 111, 112, 113, 114, 115, 116, 117, 118, 119, 120, 121, 122, 123, 124, 125, 126, 127, 170, 171, 172, 173, 174, 162, 163, 164, 165, 166, 167, 168, 169, 175, 176, 177, 178] (by decide +kernel) (by decide +kernel)
set_option maxRecDepth 20000 in
theorem gX11_find_X7_seek : GoodIn wsX11_find (wsV RX11 249 RX7 yX7_seek wsX7_seek) := goodIn_app (goodIn_of _ (by decide +kernel)) ggX11_find_X7_seek
set_option maxRecDepth 20000 in
theorem ggX11_find_X5_clear : GoodIn wsX11_find wsX5_clear := goodIn_r _ [132, 133, 134, 135, 136, 137, 138, 56, 57, 58, 179, 180, 181, 182, 183, 184, 185, 186, 187, 188, 189, 190] (by decide +kernel) (by decide +kernel)
set_option maxRecDepth 20000 in
theorem gX11_find_X5_clear : GoodIn wsX11_find (wsV RX11 85 RX5 yX5_clear wsX5_clear) := goodIn_app (goodIn_of _ (by decide +kernel)) ggX11_find_X5_clear
set_option maxRecDepth 20000 in
theorem ggX11_find_X7_callOf : GoodIn wsX11_find wsX7_callOf := goodIn_r _ [127, 41, 86, 9, 87, 170, 171, 172, 173, 174] (by decide +kernel) (by decide +kernel)
set_option maxRecDepth 20000 in
theorem gX11_find_X7_callOf : GoodIn wsX11_find (wsV RX11 253 RX7 yX7_callOf wsX7_callOf) := goodIn_app (goodIn_of _ (by decide +kernel)) ggX11_find_X7_callOf
set_option maxRecDepth 20000 in
theorem ggX11_find_X5_add : GoodIn wsX11_find wsX5_add := goodIn_r _ [143, 134, 144, 145, 136, 146, 135, 147, 88, 9, 89, 148, 20, 21, 17, 22, 23, 24, 149, 26, 27, 28, 29, 30, 150, 111, 112, 113, 114, 46, 115, 116, 117, 118, 57, 119, 76, 77, 78, 179, 180, 181, 182, 183, 184, 185, 186, 187, 188, 189, 190, 160, 161, 162, 163, 164, 165, 166, 167, 168, 169] (by decide +kernel) (by decide +kernel)
set_option maxRecDepth 20000 in
theorem gX11_find_X5_add : GoodIn wsX11_find (wsV RX11 139 RX5 yX5_add wsX5_add) := goodIn_app (goodIn_of _ (by decide +kernel)) ggX11_find_X5_add
theorem dX11_find_0 : decode cX11_find 0 = .ok (.iload_n 2, 1) := by decide +kernel
theorem dX11_find_1 : decode cX11_find 1 = .ok (.iconst 1, 1) := by decide +kernel
theorem dX11_find_2 : decode cX11_find 2 = .ok (.if_icmp .lt 22, 3) := by decide +kernel
theorem dX11_find_5 : decode cX11_find 5 = .ok (.iload_n 2, 1) := by decide +kernel
theorem dX11_find_6 : decode cX11_find 6 = .ok (.sipush 200, 3) := by decide +kernel
theorem dX11_find_9 : decode cX11_find 9 = .ok (.if_icmp .gt 15, 3) := by decide +kernel
theorem dX11_find_12 : decode cX11_find 12 = .ok (.iload_n 3, 1) := by decide +kernel
theorem dX11_find_13 : decode cX11_find 13 = .ok (.iconst 1, 1) := by decide +kernel
theorem dX11_find_14 : decode cX11_find 14 = .ok (.if_icmp .lt 10, 3) := by decide +kernel
theorem dX11_find_17 : decode cX11_find 17 = .ok (.iload_n 3, 1) := by decide +kernel
theorem dX11_find_18 : decode cX11_find 18 = .ok (.sipush 3000, 3) := by decide +kernel
theorem dX11_find_21 : decode cX11_find 21 = .ok (.if_icmp .le 13, 3) := by decide +kernel
theorem dX11_find_24 : decode cX11_find 24 = .ok (.new 244, 3) := by decide +kernel
theorem dX11_find_27 : decode cX11_find 27 = .ok (.dup, 1) := by decide +kernel
theorem dX11_find_28 : decode cX11_find 28 = .ok (.ldc 246, 2) := by decide +kernel
theorem dX11_find_30 : decode cX11_find 30 = .ok (.invokespecial 248, 3) := by decide +kernel
theorem dX11_find_33 : decode cX11_find 33 = .ok (.athrow, 1) := by decide +kernel
theorem dX11_find_34 : decode cX11_find 34 = .ok (.aload_n 0, 1) := by decide +kernel
theorem dX11_find_35 : decode cX11_find 35 = .ok (.getfield 67, 3) := by decide +kernel
theorem dX11_find_38 : decode cX11_find 38 = .ok (.aload_n 0, 1) := by decide +kernel
theorem dX11_find_39 : decode cX11_find 39 = .ok (.iload_n 1, 1) := by decide +kernel
theorem dX11_find_40 : decode cX11_find 40 = .ok (.invokevirtual 144, 3) := by decide +kernel
theorem dX11_find_43 : decode cX11_find 43 = .ok (.iload_n 2, 1) := by decide +kernel
theorem dX11_find_44 : decode cX11_find 44 = .ok (.iload_n 3, 1) := by decide +kernel
theorem dX11_find_45 : decode cX11_find 45 = .ok (.invokevirtual 249, 3) := by decide +kernel
theorem dX11_find_48 : decode cX11_find 48 = .ok (.istore 4, 2) := by decide +kernel
theorem dX11_find_50 : decode cX11_find 50 = .ok (.iload 4, 2) := by decide +kernel
theorem dX11_find_52 : decode cX11_find 52 = .ok (.ifCond .ne 46, 3) := by decide +kernel
theorem dX11_find_55 : decode cX11_find 55 = .ok (.aload_n 0, 1) := by decide +kernel
theorem dX11_find_56 : decode cX11_find 56 = .ok (.getfield 58, 3) := by decide +kernel
theorem dX11_find_59 : decode cX11_find 59 = .ok (.aload_n 0, 1) := by decide +kernel
theorem dX11_find_60 : decode cX11_find 60 = .ok (.getfield 9, 3) := by decide +kernel
theorem dX11_find_63 : decode cX11_find 63 = .ok (.invokevirtual 85, 3) := by decide +kernel
theorem dX11_find_66 : decode cX11_find 66 = .ok (.iconst 0, 1) := by decide +kernel
theorem dX11_find_67 : decode cX11_find 67 = .ok (.istore 5, 2) := by decide +kernel
theorem dX11_find_69 : decode cX11_find 69 = .ok (.iload 5, 2) := by decide +kernel
theorem dX11_find_71 : decode cX11_find 71 = .ok (.iload_n 2, 1) := by decide +kernel
theorem dX11_find_72 : decode cX11_find 72 = .ok (.if_icmp .ge 26, 3) := by decide +kernel
theorem dX11_find_75 : decode cX11_find 75 = .ok (.aload_n 0, 1) := by decide +kernel
theorem dX11_find_76 : decode cX11_find 76 = .ok (.getfield 58, 3) := by decide +kernel
theorem dX11_find_79 : decode cX11_find 79 = .ok (.iload_n 1, 1) := by decide +kernel
theorem dX11_find_80 : decode cX11_find 80 = .ok (.aload_n 0, 1) := by decide +kernel
theorem dX11_find_81 : decode cX11_find 81 = .ok (.getfield 67, 3) := by decide +kernel
theorem dX11_find_84 : decode cX11_find 84 = .ok (.iload 5, 2) := by decide +kernel
theorem dX11_find_86 : decode cX11_find 86 = .ok (.invokevirtual 253, 3) := by decide +kernel
theorem dX11_find_89 : decode cX11_find 89 = .ok (.invokevirtual 139, 3) := by decide +kernel
theorem dX11_find_92 : decode cX11_find 92 = .ok (.iinc 5 1, 3) := by decide +kernel
theorem dX11_find_95 : decode cX11_find 95 = .ok (.goto (-26), 3) := by decide +kernel
theorem dX11_find_98 : decode cX11_find 98 = .ok (.iload 4, 2) := by decide +kernel
theorem dX11_find_100 : decode cX11_find 100 = .ok (.ireturn, 1) := by decide +kernel
set_option maxRecDepth 20000 in
theorem ggX11_count_X0_size : GoodIn wsX11_count wsX0_size := goodIn_r _ [9, 10, 11, 12, 8, 13, 14, 15, 16, 17, 18, 19, 20, 21, 22, 23, 24, 25, 26, 27, 28, 50, 51, 52, 53, 54, 55, 56, 57, 58, 59] (by decide +kernel) (by decide +kernel)
set_option maxRecDepth 20000 in
theorem gX11_count_X0_size : GoodIn wsX11_count (wsV RX11 254 RX0 yX0_size wsX0_size) := goodIn_app (goodIn_of _ (by decide +kernel)) ggX11_count_X0_size
set_option maxRecDepth 20000 in
theorem ggX11_count_X9_size : GoodIn wsX11_count wsX9_size := goodIn_r _ [33, 34, 60, 61] (by decide +kernel) (by decide +kernel)
set_option maxRecDepth 20000 in
theorem gX11_count_X9_size : GoodIn wsX11_count (wsV RX11 71 RX9 yX9_size wsX9_size) := goodIn_app (goodIn_of _ (by decide +kernel)) ggX11_count_X9_size
set_option maxRecDepth 20000 in
theorem ggX11_count_X7_looked : GoodIn wsX11_count wsX7_looked := goodIn_r _ [39, 40, 62, 63, 64, 65, 66] (by decide +kernel) (by decide +kernel)
set_option maxRecDepth 20000 in
theorem gX11_count_X7_looked : GoodIn wsX11_count (wsV RX11 255 RX7 yX7_looked wsX7_looked) := goodIn_app (goodIn_of _ (by decide +kernel)) ggX11_count_X7_looked
theorem dX11_count_0 : decode cX11_count 0 = .ok (.iload_n 1, 1) := by decide +kernel
theorem dX11_count_1 : decode cX11_count 1 = .ok (.tableswitch 60 0 3 #[31, 36, 44, 52], 31) := by decide +kernel
theorem dX11_count_32 : decode cX11_count 32 = .ok (.aload_n 0, 1) := by decide +kernel
theorem dX11_count_33 : decode cX11_count 33 = .ok (.getfield 9, 3) := by decide +kernel
theorem dX11_count_36 : decode cX11_count 36 = .ok (.ireturn, 1) := by decide +kernel
theorem dX11_count_37 : decode cX11_count 37 = .ok (.aload_n 0, 1) := by decide +kernel
theorem dX11_count_38 : decode cX11_count 38 = .ok (.getfield 29, 3) := by decide +kernel
theorem dX11_count_41 : decode cX11_count 41 = .ok (.invokevirtual 254, 3) := by decide +kernel
theorem dX11_count_44 : decode cX11_count 44 = .ok (.ireturn, 1) := by decide +kernel
theorem dX11_count_45 : decode cX11_count 45 = .ok (.aload_n 0, 1) := by decide +kernel
theorem dX11_count_46 : decode cX11_count 46 = .ok (.getfield 25, 3) := by decide +kernel
theorem dX11_count_49 : decode cX11_count 49 = .ok (.invokevirtual 71, 3) := by decide +kernel
theorem dX11_count_52 : decode cX11_count 52 = .ok (.ireturn, 1) := by decide +kernel
theorem dX11_count_53 : decode cX11_count 53 = .ok (.aload_n 0, 1) := by decide +kernel
theorem dX11_count_54 : decode cX11_count 54 = .ok (.getfield 67, 3) := by decide +kernel
theorem dX11_count_57 : decode cX11_count 57 = .ok (.invokevirtual 255, 3) := by decide +kernel
theorem dX11_count_60 : decode cX11_count 60 = .ok (.ireturn, 1) := by decide +kernel
theorem dX11_count_61 : decode cX11_count 61 = .ok (.iconst (-1), 1) := by decide +kernel
theorem dX11_count_62 : decode cX11_count 62 = .ok (.ireturn, 1) := by decide +kernel
set_option maxRecDepth 20000 in
theorem ggX11_toldMethod_X0_has : GoodIn wsX11_toldMethod wsX0_has := goodIn_r _ [8, 9, 10, 11, 7, 12, 13, 14, 15, 16, 17, 18, 19, 20, 31, 32, 33, 34, 35, 36, 37, 38, 39, 40] (by decide +kernel) (by decide +kernel)
set_option maxRecDepth 20000 in
theorem gX11_toldMethod_X0_has : GoodIn wsX11_toldMethod (wsV RX11 258 RX0 yX0_has wsX0_has) := goodIn_app (goodIn_of _ (by decide +kernel)) ggX11_toldMethod_X0_has
set_option maxRecDepth 20000 in
theorem ggX11_toldMethod_X0_at : GoodIn wsX11_toldMethod wsX0_at := goodIn_r _ [12, 13, 14, 31, 32] (by decide +kernel) (by decide +kernel)
set_option maxRecDepth 20000 in
theorem gX11_toldMethod_X0_at : GoodIn wsX11_toldMethod (wsV RX11 107 RX0 yX0_at wsX0_at) := goodIn_app (goodIn_of _ (by decide +kernel)) ggX11_toldMethod_X0_at
theorem dX11_toldMethod_0 : decode cX11_toldMethod 0 = .ok (.aload_n 0, 1) := by decide +kernel
theorem dX11_toldMethod_1 : decode cX11_toldMethod 1 = .ok (.getfield 29, 3) := by decide +kernel
theorem dX11_toldMethod_4 : decode cX11_toldMethod 4 = .ok (.iload_n 1, 1) := by decide +kernel
theorem dX11_toldMethod_5 : decode cX11_toldMethod 5 = .ok (.invokevirtual 258, 3) := by decide +kernel
theorem dX11_toldMethod_8 : decode cX11_toldMethod 8 = .ok (.ifCond .ne 14, 3) := by decide +kernel
theorem dX11_toldMethod_11 : decode cX11_toldMethod 11 = .ok (.new 147, 3) := by decide +kernel
theorem dX11_toldMethod_14 : decode cX11_toldMethod 14 = .ok (.dup, 1) := by decide +kernel
theorem dX11_toldMethod_15 : decode cX11_toldMethod 15 = .ok (.ldc_w 261, 3) := by decide +kernel
theorem dX11_toldMethod_18 : decode cX11_toldMethod 18 = .ok (.invokespecial 151, 3) := by decide +kernel
theorem dX11_toldMethod_21 : decode cX11_toldMethod 21 = .ok (.athrow, 1) := by decide +kernel
theorem dX11_toldMethod_22 : decode cX11_toldMethod 22 = .ok (.aload_n 0, 1) := by decide +kernel
theorem dX11_toldMethod_23 : decode cX11_toldMethod 23 = .ok (.getfield 29, 3) := by decide +kernel
theorem dX11_toldMethod_26 : decode cX11_toldMethod 26 = .ok (.iload_n 1, 1) := by decide +kernel
theorem dX11_toldMethod_27 : decode cX11_toldMethod 27 = .ok (.invokevirtual 107, 3) := by decide +kernel
theorem dX11_toldMethod_30 : decode cX11_toldMethod 30 = .ok (.areturn, 1) := by decide +kernel
set_option maxRecDepth 20000 in
theorem ggX11_noteFalseHeads_X8_begin : GoodIn wsX11_noteFalseHeads wsX8_begin := goodIn_r _ [7, 8, 9, 10, 68, 69, 70, 71] (by decide +kernel) (by decide +kernel)
set_option maxRecDepth 20000 in
theorem gX11_noteFalseHeads_X8_begin : GoodIn wsX11_noteFalseHeads (wsV RX11 263 RX8 yX8_begin wsX8_begin) := goodIn_app (goodIn_of _ (by decide +kernel)) ggX11_noteFalseHeads_X8_begin
set_option maxRecDepth 20000 in
theorem ggX11_noteFalseHeads_X6_rounds : GoodIn wsX11_noteFalseHeads wsX6_rounds := goodIn_r _ [14] (by decide +kernel) (by decide +kernel)
set_option maxRecDepth 20000 in
theorem gX11_noteFalseHeads_X6_rounds : GoodIn wsX11_noteFalseHeads (va_wsS RX11 152 yX6_rounds wsX6_rounds) := goodIn_app (goodIn_of _ (by decide +kernel)) ggX11_noteFalseHeads_X6_rounds
set_option maxRecDepth 20000 in
theorem ggX11_noteFalseHeads_X2_size : GoodIn wsX11_noteFalseHeads wsX2_size := goodIn_r _ [19, 20, 72, 73, 74, 75, 76, 77, 78, 79] (by decide +kernel) (by decide +kernel)
set_option maxRecDepth 20000 in
theorem gX11_noteFalseHeads_X2_size : GoodIn wsX11_noteFalseHeads (wsV RX11 121 RX2 yX2_size wsX2_size) := goodIn_app (goodIn_of _ (by decide +kernel)) ggX11_noteFalseHeads_X2_size
set_option maxRecDepth 20000 in
theorem ggX11_noteFalseHeads_X6_headBringing : GoodIn wsX11_noteFalseHeads wsX6_headBringing := goodIn_r _ [23, 24, 25, 13, 26] (by decide +kernel) (by decide +kernel)
set_option maxRecDepth 20000 in
theorem gX11_noteFalseHeads_X6_headBringing : GoodIn wsX11_noteFalseHeads (va_wsS RX11 264 yX6_headBringing wsX6_headBringing) := goodIn_app (goodIn_of _ (by decide +kernel)) ggX11_noteFalseHeads_X6_headBringing
set_option maxRecDepth 20000 in
theorem ggX11_noteFalseHeads_X8_note : GoodIn wsX11_noteFalseHeads wsX8_note := goodIn_r _ [30, 8, 31, 10, 9, 32, 33, 34, 35, 36, 37, 13, 38, 24, 25, 26, 39, 40, 41, 42, 43, 44, 45, 46, 47, 48, 49, 50, 68, 69, 70, 71] (by decide +kernel) (by decide +kernel)
set_option maxRecDepth 20000 in
theorem gX11_noteFalseHeads_X8_note : GoodIn wsX11_noteFalseHeads (wsV RX11 267 RX8 yX8_note wsX8_note) := goodIn_app (goodIn_of _ (by decide +kernel)) ggX11_noteFalseHeads_X8_note
set_option maxRecDepth 20000 in
theorem ggX11_noteFalseHeads_X2_changeAt : GoodIn wsX11_noteFalseHeads wsX2_changeAt := goodIn_r _ [54, 55, 46, 47, 48, 72, 73, 74, 75, 76, 77, 78, 79] (by decide +kernel) (by decide +kernel)
set_option maxRecDepth 20000 in
theorem gX11_noteFalseHeads_X2_changeAt : GoodIn wsX11_noteFalseHeads (wsV RX11 270 RX2 yX2_changeAt wsX2_changeAt) := goodIn_app (goodIn_of _ (by decide +kernel)) ggX11_noteFalseHeads_X2_changeAt
set_option maxRecDepth 20000 in
theorem ggX11_noteFalseHeads_X6_changed : GoodIn wsX11_noteFalseHeads wsX6_changed := goodIn_r _ [58] (by decide +kernel) (by decide +kernel)
set_option maxRecDepth 20000 in
theorem gX11_noteFalseHeads_X6_changed : GoodIn wsX11_noteFalseHeads (va_wsS RX11 273 yX6_changed wsX6_changed) := goodIn_app (goodIn_of _ (by decide +kernel)) ggX11_noteFalseHeads_X6_changed
theorem dX11_noteFalseHeads_0 : decode cX11_noteFalseHeads 0 = .ok (.aload_n 0, 1) := by decide +kernel
theorem dX11_noteFalseHeads_1 : decode cX11_noteFalseHeads 1 = .ok (.getfield 33, 3) := by decide +kernel
theorem dX11_noteFalseHeads_4 : decode cX11_noteFalseHeads 4 = .ok (.aload_n 0, 1) := by decide +kernel
theorem dX11_noteFalseHeads_5 : decode cX11_noteFalseHeads 5 = .ok (.getfield 9, 3) := by decide +kernel
theorem dX11_noteFalseHeads_8 : decode cX11_noteFalseHeads 8 = .ok (.invokevirtual 263, 3) := by decide +kernel
theorem dX11_noteFalseHeads_11 : decode cX11_noteFalseHeads 11 = .ok (.iconst 0, 1) := by decide +kernel
theorem dX11_noteFalseHeads_12 : decode cX11_noteFalseHeads 12 = .ok (.istore_n 3, 1) := by decide +kernel
theorem dX11_noteFalseHeads_13 : decode cX11_noteFalseHeads 13 = .ok (.aload_n 0, 1) := by decide +kernel
theorem dX11_noteFalseHeads_14 : decode cX11_noteFalseHeads 14 = .ok (.getfield 9, 3) := by decide +kernel
theorem dX11_noteFalseHeads_17 : decode cX11_noteFalseHeads 17 = .ok (.invokestatic 152, 3) := by decide +kernel
theorem dX11_noteFalseHeads_20 : decode cX11_noteFalseHeads 20 = .ok (.istore 4, 2) := by decide +kernel
theorem dX11_noteFalseHeads_22 : decode cX11_noteFalseHeads 22 = .ok (.iconst 0, 1) := by decide +kernel
theorem dX11_noteFalseHeads_23 : decode cX11_noteFalseHeads 23 = .ok (.istore 5, 2) := by decide +kernel
theorem dX11_noteFalseHeads_25 : decode cX11_noteFalseHeads 25 = .ok (.iload 5, 2) := by decide +kernel
theorem dX11_noteFalseHeads_27 : decode cX11_noteFalseHeads 27 = .ok (.aload_n 1, 1) := by decide +kernel
theorem dX11_noteFalseHeads_28 : decode cX11_noteFalseHeads 28 = .ok (.invokevirtual 121, 3) := by decide +kernel
theorem dX11_noteFalseHeads_31 : decode cX11_noteFalseHeads 31 = .ok (.if_icmp .ge 88, 3) := by decide +kernel
theorem dX11_noteFalseHeads_34 : decode cX11_noteFalseHeads 34 = .ok (.aload_n 0, 1) := by decide +kernel
theorem dX11_noteFalseHeads_35 : decode cX11_noteFalseHeads 35 = .ok (.getfield 9, 3) := by decide +kernel
theorem dX11_noteFalseHeads_38 : decode cX11_noteFalseHeads 38 = .ok (.invokestatic 152, 3) := by decide +kernel
theorem dX11_noteFalseHeads_41 : decode cX11_noteFalseHeads 41 = .ok (.istore 6, 2) := by decide +kernel
theorem dX11_noteFalseHeads_43 : decode cX11_noteFalseHeads 43 = .ok (.iconst 0, 1) := by decide +kernel
theorem dX11_noteFalseHeads_44 : decode cX11_noteFalseHeads 44 = .ok (.istore 7, 2) := by decide +kernel
theorem dX11_noteFalseHeads_46 : decode cX11_noteFalseHeads 46 = .ok (.iload 7, 2) := by decide +kernel
theorem dX11_noteFalseHeads_48 : decode cX11_noteFalseHeads 48 = .ok (.aload_n 2, 1) := by decide +kernel
theorem dX11_noteFalseHeads_49 : decode cX11_noteFalseHeads 49 = .ok (.invokevirtual 121, 3) := by decide +kernel
theorem dX11_noteFalseHeads_52 : decode cX11_noteFalseHeads 52 = .ok (.if_icmp .ge 48, 3) := by decide +kernel
theorem dX11_noteFalseHeads_55 : decode cX11_noteFalseHeads 55 = .ok (.aload_n 0, 1) := by decide +kernel
theorem dX11_noteFalseHeads_56 : decode cX11_noteFalseHeads 56 = .ok (.getfield 33, 3) := by decide +kernel
theorem dX11_noteFalseHeads_59 : decode cX11_noteFalseHeads 59 = .ok (.iload 4, 2) := by decide +kernel
theorem dX11_noteFalseHeads_61 : decode cX11_noteFalseHeads 61 = .ok (.iload 6, 2) := by decide +kernel
theorem dX11_noteFalseHeads_63 : decode cX11_noteFalseHeads 63 = .ok (.aload_n 0, 1) := by decide +kernel
theorem dX11_noteFalseHeads_64 : decode cX11_noteFalseHeads 64 = .ok (.getfield 9, 3) := by decide +kernel
theorem dX11_noteFalseHeads_67 : decode cX11_noteFalseHeads 67 = .ok (.invokestatic 264, 3) := by decide +kernel
theorem dX11_noteFalseHeads_70 : decode cX11_noteFalseHeads 70 = .ok (.iconst 0, 1) := by decide +kernel
theorem dX11_noteFalseHeads_71 : decode cX11_noteFalseHeads 71 = .ok (.invokevirtual 267, 3) := by decide +kernel
theorem dX11_noteFalseHeads_74 : decode cX11_noteFalseHeads 74 = .ok (.iconst (-1), 1) := by decide +kernel
theorem dX11_noteFalseHeads_75 : decode cX11_noteFalseHeads 75 = .ok (.if_icmp .ne 6, 3) := by decide +kernel
theorem dX11_noteFalseHeads_78 : decode cX11_noteFalseHeads 78 = .ok (.iinc 3 1, 3) := by decide +kernel
theorem dX11_noteFalseHeads_81 : decode cX11_noteFalseHeads 81 = .ok (.iload 6, 2) := by decide +kernel
theorem dX11_noteFalseHeads_83 : decode cX11_noteFalseHeads 83 = .ok (.aload_n 2, 1) := by decide +kernel
theorem dX11_noteFalseHeads_84 : decode cX11_noteFalseHeads 84 = .ok (.iload 7, 2) := by decide +kernel
theorem dX11_noteFalseHeads_86 : decode cX11_noteFalseHeads 86 = .ok (.invokevirtual 270, 3) := by decide +kernel
theorem dX11_noteFalseHeads_89 : decode cX11_noteFalseHeads 89 = .ok (.invokestatic 273, 3) := by decide +kernel
theorem dX11_noteFalseHeads_92 : decode cX11_noteFalseHeads 92 = .ok (.istore 6, 2) := by decide +kernel
theorem dX11_noteFalseHeads_94 : decode cX11_noteFalseHeads 94 = .ok (.iinc 7 1, 3) := by decide +kernel
theorem dX11_noteFalseHeads_97 : decode cX11_noteFalseHeads 97 = .ok (.goto (-51), 3) := by decide +kernel
theorem dX11_noteFalseHeads_100 : decode cX11_noteFalseHeads 100 = .ok (.iload 4, 2) := by decide +kernel
theorem dX11_noteFalseHeads_102 : decode cX11_noteFalseHeads 102 = .ok (.aload_n 1, 1) := by decide +kernel
theorem dX11_noteFalseHeads_103 : decode cX11_noteFalseHeads 103 = .ok (.iload 5, 2) := by decide +kernel
theorem dX11_noteFalseHeads_105 : decode cX11_noteFalseHeads 105 = .ok (.invokevirtual 270, 3) := by decide +kernel
theorem dX11_noteFalseHeads_108 : decode cX11_noteFalseHeads 108 = .ok (.invokestatic 273, 3) := by decide +kernel
theorem dX11_noteFalseHeads_111 : decode cX11_noteFalseHeads 111 = .ok (.istore 4, 2) := by decide +kernel
theorem dX11_noteFalseHeads_113 : decode cX11_noteFalseHeads 113 = .ok (.iinc 5 1, 3) := by decide +kernel
theorem dX11_noteFalseHeads_116 : decode cX11_noteFalseHeads 116 = .ok (.goto (-91), 3) := by decide +kernel
theorem dX11_noteFalseHeads_119 : decode cX11_noteFalseHeads 119 = .ok (.iload_n 3, 1) := by decide +kernel
theorem dX11_noteFalseHeads_120 : decode cX11_noteFalseHeads 120 = .ok (.ireturn, 1) := by decide +kernel
theorem dX11_oneIf_0 : decode cX11_oneIf 0 = .ok (.iload_n 0, 1) := by decide +kernel
theorem dX11_oneIf_1 : decode cX11_oneIf 1 = .ok (.ifCond .eq 7, 3) := by decide +kernel
theorem dX11_oneIf_4 : decode cX11_oneIf 4 = .ok (.iconst 1, 1) := by decide +kernel
theorem dX11_oneIf_5 : decode cX11_oneIf 5 = .ok (.goto 4, 3) := by decide +kernel
theorem dX11_oneIf_8 : decode cX11_oneIf 8 = .ok (.iconst 0, 1) := by decide +kernel
theorem dX11_oneIf_9 : decode cX11_oneIf 9 = .ok (.ireturn, 1) := by decide +kernel
theorem dX11_cell_0 : decode cX11_cell 0 = .ok (.iload_n 1, 1) := by decide +kernel
theorem dX11_cell_1 : decode cX11_cell 1 = .ok (.ifCond .lt 15, 3) := by decide +kernel
theorem dX11_cell_4 : decode cX11_cell 4 = .ok (.iload_n 1, 1) := by decide +kernel
theorem dX11_cell_5 : decode cX11_cell 5 = .ok (.aload_n 0, 1) := by decide +kernel
theorem dX11_cell_6 : decode cX11_cell 6 = .ok (.arraylength, 1) := by decide +kernel
theorem dX11_cell_7 : decode cX11_cell 7 = .ok (.if_icmp .ge 9, 3) := by decide +kernel
theorem dX11_cell_10 : decode cX11_cell 10 = .ok (.aload_n 0, 1) := by decide +kernel
theorem dX11_cell_11 : decode cX11_cell 11 = .ok (.iload_n 1, 1) := by decide +kernel
theorem dX11_cell_12 : decode cX11_cell 12 = .ok (.iaload, 1) := by decide +kernel
theorem dX11_cell_13 : decode cX11_cell 13 = .ok (.goto 4, 3) := by decide +kernel
theorem dX11_cell_16 : decode cX11_cell 16 = .ok (.iconst 0, 1) := by decide +kernel
theorem dX11_cell_17 : decode cX11_cell 17 = .ok (.ireturn, 1) := by decide +kernel
theorem dX11_setCell_0 : decode cX11_setCell 0 = .ok (.iload_n 1, 1) := by decide +kernel
theorem dX11_setCell_1 : decode cX11_setCell 1 = .ok (.ifCond .lt 13, 3) := by decide +kernel
theorem dX11_setCell_4 : decode cX11_setCell 4 = .ok (.iload_n 1, 1) := by decide +kernel
theorem dX11_setCell_5 : decode cX11_setCell 5 = .ok (.aload_n 0, 1) := by decide +kernel
theorem dX11_setCell_6 : decode cX11_setCell 6 = .ok (.arraylength, 1) := by decide +kernel
theorem dX11_setCell_7 : decode cX11_setCell 7 = .ok (.if_icmp .ge 7, 3) := by decide +kernel
theorem dX11_setCell_10 : decode cX11_setCell 10 = .ok (.aload_n 0, 1) := by decide +kernel
theorem dX11_setCell_11 : decode cX11_setCell 11 = .ok (.iload_n 1, 1) := by decide +kernel
theorem dX11_setCell_12 : decode cX11_setCell 12 = .ok (.iload_n 2, 1) := by decide +kernel
theorem dX11_setCell_13 : decode cX11_setCell 13 = .ok (.iastore, 1) := by decide +kernel
theorem dX11_setCell_14 : decode cX11_setCell 14 = .ok (.return_, 1) := by decide +kernel
theorem dX12_init_0 : decode cX12_init 0 = .ok (.aload_n 0, 1) := by decide +kernel
theorem dX12_init_1 : decode cX12_init 1 = .ok (.invokespecial 1, 3) := by decide +kernel
theorem dX12_init_4 : decode cX12_init 4 = .ok (.aload_n 0, 1) := by decide +kernel
theorem dX12_init_5 : decode cX12_init 5 = .ok (.bipush 6, 2) := by decide +kernel
theorem dX12_init_7 : decode cX12_init 7 = .ok (.putfield 7, 3) := by decide +kernel
theorem dX12_init_10 : decode cX12_init 10 = .ok (.aload_n 0, 1) := by decide +kernel
theorem dX12_init_11 : decode cX12_init 11 = .ok (.bipush 6, 2) := by decide +kernel
theorem dX12_init_13 : decode cX12_init 13 = .ok (.newarray .int, 2) := by decide +kernel
theorem dX12_init_15 : decode cX12_init 15 = .ok (.putfield 13, 3) := by decide +kernel
theorem dX12_init_18 : decode cX12_init 18 = .ok (.aload_n 0, 1) := by decide +kernel
theorem dX12_init_19 : decode cX12_init 19 = .ok (.sipush 396, 3) := by decide +kernel
theorem dX12_init_22 : decode cX12_init 22 = .ok (.newarray .int, 2) := by decide +kernel
theorem dX12_init_24 : decode cX12_init 24 = .ok (.putfield 17, 3) := by decide +kernel
theorem dX12_init_27 : decode cX12_init 27 = .ok (.aload_n 0, 1) := by decide +kernel
theorem dX12_init_28 : decode cX12_init 28 = .ok (.sipush 1000, 3) := by decide +kernel
theorem dX12_init_31 : decode cX12_init 31 = .ok (.newarray .int, 2) := by decide +kernel
theorem dX12_init_33 : decode cX12_init 33 = .ok (.putfield 20, 3) := by decide +kernel
theorem dX12_init_36 : decode cX12_init 36 = .ok (.aload_n 0, 1) := by decide +kernel
theorem dX12_init_37 : decode cX12_init 37 = .ok (.sipush 1000, 3) := by decide +kernel
theorem dX12_init_40 : decode cX12_init 40 = .ok (.newarray .int, 2) := by decide +kernel
theorem dX12_init_42 : decode cX12_init 42 = .ok (.putfield 23, 3) := by decide +kernel
theorem dX12_init_45 : decode cX12_init 45 = .ok (.aload_n 0, 1) := by decide +kernel
theorem dX12_init_46 : decode cX12_init 46 = .ok (.sipush 500, 3) := by decide +kernel
theorem dX12_init_49 : decode cX12_init 49 = .ok (.newarray .byte, 2) := by decide +kernel
theorem dX12_init_51 : decode cX12_init 51 = .ok (.putfield 26, 3) := by decide +kernel
theorem dX12_init_54 : decode cX12_init 54 = .ok (.aload_n 0, 1) := by decide +kernel
theorem dX12_init_55 : decode cX12_init 55 = .ok (.bipush 66, 2) := by decide +kernel
theorem dX12_init_57 : decode cX12_init 57 = .ok (.newarray .int, 2) := by decide +kernel
theorem dX12_init_59 : decode cX12_init 59 = .ok (.putfield 30, 3) := by decide +kernel
theorem dX12_init_62 : decode cX12_init 62 = .ok (.aload_n 0, 1) := by decide +kernel
theorem dX12_init_63 : decode cX12_init 63 = .ok (.sipush 500, 3) := by decide +kernel
theorem dX12_init_66 : decode cX12_init 66 = .ok (.newarray .int, 2) := by decide +kernel
theorem dX12_init_68 : decode cX12_init 68 = .ok (.putfield 33, 3) := by decide +kernel
theorem dX12_init_71 : decode cX12_init 71 = .ok (.aload_n 0, 1) := by decide +kernel
theorem dX12_init_72 : decode cX12_init 72 = .ok (.sipush 500, 3) := by decide +kernel
theorem dX12_init_75 : decode cX12_init 75 = .ok (.newarray .int, 2) := by decide +kernel
theorem dX12_init_77 : decode cX12_init 77 = .ok (.putfield 36, 3) := by decide +kernel
theorem dX12_init_80 : decode cX12_init 80 = .ok (.aload_n 0, 1) := by decide +kernel
theorem dX12_init_81 : decode cX12_init 81 = .ok (.sipush 500, 3) := by decide +kernel
theorem dX12_init_84 : decode cX12_init 84 = .ok (.newarray .int, 2) := by decide +kernel
theorem dX12_init_86 : decode cX12_init 86 = .ok (.putfield 39, 3) := by decide +kernel
theorem dX12_init_89 : decode cX12_init 89 = .ok (.aload_n 0, 1) := by decide +kernel
theorem dX12_init_90 : decode cX12_init 90 = .ok (.sipush 500, 3) := by decide +kernel
theorem dX12_init_93 : decode cX12_init 93 = .ok (.newarray .int, 2) := by decide +kernel
theorem dX12_init_95 : decode cX12_init 95 = .ok (.putfield 42, 3) := by decide +kernel
theorem dX12_init_98 : decode cX12_init 98 = .ok (.aload_n 0, 1) := by decide +kernel
theorem dX12_init_99 : decode cX12_init 99 = .ok (.bipush 8, 2) := by decide +kernel
theorem dX12_init_101 : decode cX12_init 101 = .ok (.newarray .int, 2) := by decide +kernel
theorem dX12_init_103 : decode cX12_init 103 = .ok (.putfield 45, 3) := by decide +kernel
theorem dX12_init_106 : decode cX12_init 106 = .ok (.aload_n 0, 1) := by decide +kernel
theorem dX12_init_107 : decode cX12_init 107 = .ok (.sipush 500, 3) := by decide +kernel
theorem dX12_init_110 : decode cX12_init 110 = .ok (.newarray .long, 2) := by decide +kernel
theorem dX12_init_112 : decode cX12_init 112 = .ok (.putfield 48, 3) := by decide +kernel
theorem dX12_init_115 : decode cX12_init 115 = .ok (.aload_n 0, 1) := by decide +kernel
theorem dX12_init_116 : decode cX12_init 116 = .ok (.sipush 500, 3) := by decide +kernel
theorem dX12_init_119 : decode cX12_init 119 = .ok (.newarray .int, 2) := by decide +kernel
theorem dX12_init_121 : decode cX12_init 121 = .ok (.putfield 52, 3) := by decide +kernel
theorem dX12_init_124 : decode cX12_init 124 = .ok (.aload_n 0, 1) := by decide +kernel
theorem dX12_init_125 : decode cX12_init 125 = .ok (.bipush 8, 2) := by decide +kernel
theorem dX12_init_127 : decode cX12_init 127 = .ok (.newarray .int, 2) := by decide +kernel
theorem dX12_init_129 : decode cX12_init 129 = .ok (.putfield 55, 3) := by decide +kernel
theorem dX12_init_132 : decode cX12_init 132 = .ok (.aload_n 0, 1) := by decide +kernel
theorem dX12_init_133 : decode cX12_init 133 = .ok (.bipush 8, 2) := by decide +kernel
theorem dX12_init_135 : decode cX12_init 135 = .ok (.newarray .int, 2) := by decide +kernel
theorem dX12_init_137 : decode cX12_init 137 = .ok (.putfield 58, 3) := by decide +kernel
theorem dX12_init_140 : decode cX12_init 140 = .ok (.aload_n 0, 1) := by decide +kernel
theorem dX12_init_141 : decode cX12_init 141 = .ok (.sipush 4096, 3) := by decide +kernel
theorem dX12_init_144 : decode cX12_init 144 = .ok (.newarray .int, 2) := by decide +kernel
theorem dX12_init_146 : decode cX12_init 146 = .ok (.putfield 61, 3) := by decide +kernel
theorem dX12_init_149 : decode cX12_init 149 = .ok (.aload_n 0, 1) := by decide +kernel
theorem dX12_init_150 : decode cX12_init 150 = .ok (.ldc 64, 2) := by decide +kernel
theorem dX12_init_152 : decode cX12_init 152 = .ok (.newarray .int, 2) := by decide +kernel
theorem dX12_init_154 : decode cX12_init 154 = .ok (.putfield 65, 3) := by decide +kernel
theorem dX12_init_157 : decode cX12_init 157 = .ok (.aload_n 0, 1) := by decide +kernel
theorem dX12_init_158 : decode cX12_init 158 = .ok (.bipush 9, 2) := by decide +kernel
theorem dX12_init_160 : decode cX12_init 160 = .ok (.newarray .boolean, 2) := by decide +kernel
theorem dX12_init_162 : decode cX12_init 162 = .ok (.putfield 68, 3) := by decide +kernel
theorem dX12_init_165 : decode cX12_init 165 = .ok (.aload_n 0, 1) := by decide +kernel
theorem dX12_init_166 : decode cX12_init 166 = .ok (.sipush 1608, 3) := by decide +kernel
theorem dX12_init_169 : decode cX12_init 169 = .ok (.newarray .int, 2) := by decide +kernel
theorem dX12_init_171 : decode cX12_init 171 = .ok (.putfield 72, 3) := by decide +kernel
theorem dX12_init_174 : decode cX12_init 174 = .ok (.aload_n 0, 1) := by decide +kernel
theorem dX12_init_175 : decode cX12_init 175 = .ok (.sipush 201, 3) := by decide +kernel
theorem dX12_init_178 : decode cX12_init 178 = .ok (.newarray .int, 2) := by decide +kernel
theorem dX12_init_180 : decode cX12_init 180 = .ok (.putfield 75, 3) := by decide +kernel
theorem dX12_init_183 : decode cX12_init 183 = .ok (.aload_n 0, 1) := by decide +kernel
theorem dX12_init_184 : decode cX12_init 184 = .ok (.ldc 64, 2) := by decide +kernel
theorem dX12_init_186 : decode cX12_init 186 = .ok (.newarray .boolean, 2) := by decide +kernel
theorem dX12_init_188 : decode cX12_init 188 = .ok (.putfield 78, 3) := by decide +kernel
theorem dX12_init_191 : decode cX12_init 191 = .ok (.return_, 1) := by decide +kernel
theorem dX12_thrown_0 : decode cX12_thrown 0 = .ok (.aload_n 0, 1) := by decide +kernel
theorem dX12_thrown_1 : decode cX12_thrown 1 = .ok (.getfield 81, 3) := by decide +kernel
theorem dX12_thrown_4 : decode cX12_thrown 4 = .ok (.ireturn, 1) := by decide +kernel
theorem dX12_throwsIf_0 : decode cX12_throwsIf 0 = .ok (.aload_n 0, 1) := by decide +kernel
theorem dX12_throwsIf_1 : decode cX12_throwsIf 1 = .ok (.iload_n 1, 1) := by decide +kernel
theorem dX12_throwsIf_2 : decode cX12_throwsIf 2 = .ok (.ifCond .eq 7, 3) := by decide +kernel
theorem dX12_throwsIf_5 : decode cX12_throwsIf 5 = .ok (.iload_n 2, 1) := by decide +kernel
theorem dX12_throwsIf_6 : decode cX12_throwsIf 6 = .ok (.goto 4, 3) := by decide +kernel
theorem dX12_throwsIf_9 : decode cX12_throwsIf 9 = .ok (.iconst 0, 1) := by decide +kernel
theorem dX12_throwsIf_10 : decode cX12_throwsIf 10 = .ok (.putfield 81, 3) := by decide +kernel
theorem dX12_throwsIf_13 : decode cX12_throwsIf 13 = .ok (.iload_n 1, 1) := by decide +kernel
theorem dX12_throwsIf_14 : decode cX12_throwsIf 14 = .ok (.ireturn, 1) := by decide +kernel
set_option maxRecDepth 20000 in
theorem ggX12_feed_X12_four : GoodIn wsX12_feed wsX12_four := goodIn_r _ [7, 8, 2, 9, 10, 11, 12, 13, 14, 15, 16, 17, 18, 19, 20, 21, 22, 23, 24, 25, 26, 27, 28, 29, 30, 31, 32, 33, 34, 35, 36, 37, 38, 39, 40, 41, 42, 43, 44, 45, 46] (by decide +kernel) (by decide +kernel)
set_option maxRecDepth 20000 in
theorem gX12_feed_X12_four : GoodIn wsX12_feed (wsV RX12 87 RX12 yX12_four wsX12_four) := goodIn_app (goodIn_of _ (by decide +kernel)) ggX12_feed_X12_four
theorem dX12_feed_0 : decode cX12_feed 0 = .ok (.aload_n 0, 1) := by decide +kernel
theorem dX12_feed_1 : decode cX12_feed 1 = .ok (.iconst 0, 1) := by decide +kernel
theorem dX12_feed_2 : decode cX12_feed 2 = .ok (.putfield 81, 3) := by decide +kernel
theorem dX12_feed_5 : decode cX12_feed 5 = .ok (.aload_n 0, 1) := by decide +kernel
theorem dX12_feed_6 : decode cX12_feed 6 = .ok (.getfield 84, 3) := by decide +kernel
theorem dX12_feed_9 : decode cX12_feed 9 = .ok (.bipush 20, 2) := by decide +kernel
theorem dX12_feed_11 : decode cX12_feed 11 = .ok (.iadd, 1) := by decide +kernel
theorem dX12_feed_12 : decode cX12_feed 12 = .ok (.sipush 500, 3) := by decide +kernel
theorem dX12_feed_15 : decode cX12_feed 15 = .ok (.if_icmp .le 5, 3) := by decide +kernel
theorem dX12_feed_18 : decode cX12_feed 18 = .ok (.iconst (-1), 1) := by decide +kernel
theorem dX12_feed_19 : decode cX12_feed 19 = .ok (.ireturn, 1) := by decide +kernel
theorem dX12_feed_20 : decode cX12_feed 20 = .ok (.aload_n 0, 1) := by decide +kernel
theorem dX12_feed_21 : decode cX12_feed 21 = .ok (.iload_n 1, 1) := by decide +kernel
theorem dX12_feed_22 : decode cX12_feed 22 = .ok (.invokevirtual 87, 3) := by decide +kernel
theorem dX12_feed_25 : decode cX12_feed 25 = .ok (.aload_n 0, 1) := by decide +kernel
theorem dX12_feed_26 : decode cX12_feed 26 = .ok (.iload_n 2, 1) := by decide +kernel
theorem dX12_feed_27 : decode cX12_feed 27 = .ok (.invokevirtual 87, 3) := by decide +kernel
theorem dX12_feed_30 : decode cX12_feed 30 = .ok (.aload_n 0, 1) := by decide +kernel
theorem dX12_feed_31 : decode cX12_feed 31 = .ok (.iload_n 3, 1) := by decide +kernel
theorem dX12_feed_32 : decode cX12_feed 32 = .ok (.invokevirtual 87, 3) := by decide +kernel
theorem dX12_feed_35 : decode cX12_feed 35 = .ok (.aload_n 0, 1) := by decide +kernel
theorem dX12_feed_36 : decode cX12_feed 36 = .ok (.iload 4, 2) := by decide +kernel
theorem dX12_feed_38 : decode cX12_feed 38 = .ok (.invokevirtual 87, 3) := by decide +kernel
theorem dX12_feed_41 : decode cX12_feed 41 = .ok (.aload_n 0, 1) := by decide +kernel
theorem dX12_feed_42 : decode cX12_feed 42 = .ok (.iload 5, 2) := by decide +kernel
theorem dX12_feed_44 : decode cX12_feed 44 = .ok (.invokevirtual 87, 3) := by decide +kernel
theorem dX12_feed_47 : decode cX12_feed 47 = .ok (.aload_n 0, 1) := by decide +kernel
theorem dX12_feed_48 : decode cX12_feed 48 = .ok (.getfield 84, 3) := by decide +kernel
theorem dX12_feed_51 : decode cX12_feed 51 = .ok (.ireturn, 1) := by decide +kernel
theorem dX12_four_0 : decode cX12_four 0 = .ok (.bipush 24, 2) := by decide +kernel
theorem dX12_four_2 : decode cX12_four 2 = .ok (.istore_n 2, 1) := by decide +kernel
theorem dX12_four_3 : decode cX12_four 3 = .ok (.iload_n 2, 1) := by decide +kernel
theorem dX12_four_4 : decode cX12_four 4 = .ok (.ifCond .lt 32, 3) := by decide +kernel
theorem dX12_four_7 : decode cX12_four 7 = .ok (.aload_n 0, 1) := by decide +kernel
theorem dX12_four_8 : decode cX12_four 8 = .ok (.getfield 26, 3) := by decide +kernel
theorem dX12_four_11 : decode cX12_four 11 = .ok (.aload_n 0, 1) := by decide +kernel
theorem dX12_four_12 : decode cX12_four 12 = .ok (.getfield 84, 3) := by decide +kernel
theorem dX12_four_15 : decode cX12_four 15 = .ok (.iload_n 1, 1) := by decide +kernel
theorem dX12_four_16 : decode cX12_four 16 = .ok (.iload_n 2, 1) := by decide +kernel
theorem dX12_four_17 : decode cX12_four 17 = .ok (.ishr, 1) := by decide +kernel
theorem dX12_four_18 : decode cX12_four 18 = .ok (.i2b, 1) := by decide +kernel
theorem dX12_four_19 : decode cX12_four 19 = .ok (.bastore, 1) := by decide +kernel
theorem dX12_four_20 : decode cX12_four 20 = .ok (.aload_n 0, 1) := by decide +kernel
theorem dX12_four_21 : decode cX12_four 21 = .ok (.dup, 1) := by decide +kernel
theorem dX12_four_22 : decode cX12_four 22 = .ok (.getfield 84, 3) := by decide +kernel
theorem dX12_four_25 : decode cX12_four 25 = .ok (.iconst 1, 1) := by decide +kernel
theorem dX12_four_26 : decode cX12_four 26 = .ok (.iadd, 1) := by decide +kernel
theorem dX12_four_27 : decode cX12_four 27 = .ok (.putfield 84, 3) := by decide +kernel
theorem dX12_four_30 : decode cX12_four 30 = .ok (.iinc 2 (-8), 3) := by decide +kernel
theorem dX12_four_33 : decode cX12_four 33 = .ok (.goto (-30), 3) := by decide +kernel
theorem dX12_four_36 : decode cX12_four 36 = .ok (.return_, 1) := by decide +kernel
theorem dX12_end_0 : decode cX12_end 0 = .ok (.aload_n 0, 1) := by decide +kernel
theorem dX12_end_1 : decode cX12_end 1 = .ok (.iconst 0, 1) := by decide +kernel
theorem dX12_end_2 : decode cX12_end 2 = .ok (.putfield 81, 3) := by decide +kernel
theorem dX12_end_5 : decode cX12_end 5 = .ok (.iload_n 1, 1) := by decide +kernel
theorem dX12_end_6 : decode cX12_end 6 = .ok (.ifCond .lt 11, 3) := by decide +kernel
theorem dX12_end_9 : decode cX12_end 9 = .ok (.iload_n 1, 1) := by decide +kernel
theorem dX12_end_10 : decode cX12_end 10 = .ok (.aload_n 0, 1) := by decide +kernel
theorem dX12_end_11 : decode cX12_end 11 = .ok (.getfield 84, 3) := by decide +kernel
theorem dX12_end_14 : decode cX12_end 14 = .ok (.if_icmp .le 5, 3) := by decide +kernel
theorem dX12_end_17 : decode cX12_end 17 = .ok (.iconst 0, 1) := by decide +kernel
theorem dX12_end_18 : decode cX12_end 18 = .ok (.ireturn, 1) := by decide +kernel
theorem dX12_end_19 : decode cX12_end 19 = .ok (.aload_n 0, 1) := by decide +kernel
theorem dX12_end_20 : decode cX12_end 20 = .ok (.iload_n 1, 1) := by decide +kernel
theorem dX12_end_21 : decode cX12_end 21 = .ok (.putfield 84, 3) := by decide +kernel
theorem dX12_end_24 : decode cX12_end 24 = .ok (.iconst 1, 1) := by decide +kernel
theorem dX12_end_25 : decode cX12_end 25 = .ok (.ireturn, 1) := by decide +kernel
theorem dX12_open_0 : decode cX12_open 0 = .ok (.aload_n 0, 1) := by decide +kernel
theorem dX12_open_1 : decode cX12_open 1 = .ok (.aload_n 0, 1) := by decide +kernel
theorem dX12_open_2 : decode cX12_open 2 = .ok (.getfield 84, 3) := by decide +kernel
theorem dX12_open_5 : decode cX12_open 5 = .ok (.putfield 91, 3) := by decide +kernel
theorem dX12_open_8 : decode cX12_open 8 = .ok (.aload_n 0, 1) := by decide +kernel
theorem dX12_open_9 : decode cX12_open 9 = .ok (.iconst 0, 1) := by decide +kernel
theorem dX12_open_10 : decode cX12_open 10 = .ok (.putfield 84, 3) := by decide +kernel
theorem dX12_open_13 : decode cX12_open 13 = .ok (.aload_n 0, 1) := by decide +kernel
theorem dX12_open_14 : decode cX12_open 14 = .ok (.iconst 0, 1) := by decide +kernel
theorem dX12_open_15 : decode cX12_open 15 = .ok (.putfield 94, 3) := by decide +kernel
theorem dX12_open_18 : decode cX12_open 18 = .ok (.aload_n 0, 1) := by decide +kernel
theorem dX12_open_19 : decode cX12_open 19 = .ok (.iconst 0, 1) := by decide +kernel
theorem dX12_open_20 : decode cX12_open 20 = .ok (.putfield 97, 3) := by decide +kernel
theorem dX12_open_23 : decode cX12_open 23 = .ok (.return_, 1) := by decide +kernel
theorem dX12_peek_0 : decode cX12_peek 0 = .ok (.aload_n 0, 1) := by decide +kernel
theorem dX12_peek_1 : decode cX12_peek 1 = .ok (.getfield 94, 3) := by decide +kernel
theorem dX12_peek_4 : decode cX12_peek 4 = .ok (.aload_n 0, 1) := by decide +kernel
theorem dX12_peek_5 : decode cX12_peek 5 = .ok (.getfield 91, 3) := by decide +kernel
theorem dX12_peek_8 : decode cX12_peek 8 = .ok (.if_icmp .ge 19, 3) := by decide +kernel
theorem dX12_peek_11 : decode cX12_peek 11 = .ok (.aload_n 0, 1) := by decide +kernel
theorem dX12_peek_12 : decode cX12_peek 12 = .ok (.getfield 26, 3) := by decide +kernel
theorem dX12_peek_15 : decode cX12_peek 15 = .ok (.aload_n 0, 1) := by decide +kernel
theorem dX12_peek_16 : decode cX12_peek 16 = .ok (.getfield 94, 3) := by decide +kernel
theorem dX12_peek_19 : decode cX12_peek 19 = .ok (.baload, 1) := by decide +kernel
theorem dX12_peek_20 : decode cX12_peek 20 = .ok (.sipush 255, 3) := by decide +kernel
theorem dX12_peek_23 : decode cX12_peek 23 = .ok (.iand, 1) := by decide +kernel
theorem dX12_peek_24 : decode cX12_peek 24 = .ok (.goto 4, 3) := by decide +kernel
theorem dX12_peek_27 : decode cX12_peek 27 = .ok (.iconst (-1), 1) := by decide +kernel
theorem dX12_peek_28 : decode cX12_peek 28 = .ok (.ireturn, 1) := by decide +kernel
set_option maxRecDepth 20000 in
theorem ggX12_blanks_X12_peek : GoodIn wsX12_blanks wsX12_peek := goodIn_r _ [6, 1, 7, 8, 9, 10, 11, 12, 13, 14, 15, 16, 17, 18, 19, 20, 21, 22, 23, 24, 25, 26, 27, 28, 29, 30, 31, 32, 33, 34, 35, 36, 37, 38, 39, 40, 41, 42, 43, 44, 45, 46] (by decide +kernel) (by decide +kernel)
set_option maxRecDepth 20000 in
theorem gX12_blanks_X12_peek : GoodIn wsX12_blanks (wsV RX12 100 RX12 yX12_peek wsX12_peek) := goodIn_app (goodIn_of _ (by decide +kernel)) ggX12_blanks_X12_peek
theorem dX12_blanks_0 : decode cX12_blanks 0 = .ok (.aload_n 0, 1) := by decide +kernel
theorem dX12_blanks_1 : decode cX12_blanks 1 = .ok (.invokevirtual 100, 3) := by decide +kernel
theorem dX12_blanks_4 : decode cX12_blanks 4 = .ok (.bipush 32, 2) := by decide +kernel
theorem dX12_blanks_6 : decode cX12_blanks 6 = .ok (.if_icmp .eq 12, 3) := by decide +kernel
theorem dX12_blanks_9 : decode cX12_blanks 9 = .ok (.aload_n 0, 1) := by decide +kernel
theorem dX12_blanks_10 : decode cX12_blanks 10 = .ok (.invokevirtual 100, 3) := by decide +kernel
theorem dX12_blanks_13 : decode cX12_blanks 13 = .ok (.bipush 10, 2) := by decide +kernel
theorem dX12_blanks_15 : decode cX12_blanks 15 = .ok (.if_icmp .ne 16, 3) := by decide +kernel
theorem dX12_blanks_18 : decode cX12_blanks 18 = .ok (.aload_n 0, 1) := by decide +kernel
theorem dX12_blanks_19 : decode cX12_blanks 19 = .ok (.dup, 1) := by decide +kernel
theorem dX12_blanks_20 : decode cX12_blanks 20 = .ok (.getfield 94, 3) := by decide +kernel
theorem dX12_blanks_23 : decode cX12_blanks 23 = .ok (.iconst 1, 1) := by decide +kernel
theorem dX12_blanks_24 : decode cX12_blanks 24 = .ok (.iadd, 1) := by decide +kernel
theorem dX12_blanks_25 : decode cX12_blanks 25 = .ok (.putfield 94, 3) := by decide +kernel
theorem dX12_blanks_28 : decode cX12_blanks 28 = .ok (.goto (-28), 3) := by decide +kernel
theorem dX12_blanks_31 : decode cX12_blanks 31 = .ok (.return_, 1) := by decide +kernel
theorem dX12_isDigit_0 : decode cX12_isDigit 0 = .ok (.iload_n 0, 1) := by decide +kernel
theorem dX12_isDigit_1 : decode cX12_isDigit 1 = .ok (.bipush 48, 2) := by decide +kernel
theorem dX12_isDigit_3 : decode cX12_isDigit 3 = .ok (.if_icmp .lt 13, 3) := by decide +kernel
theorem dX12_isDigit_6 : decode cX12_isDigit 6 = .ok (.iload_n 0, 1) := by decide +kernel
theorem dX12_isDigit_7 : decode cX12_isDigit 7 = .ok (.bipush 57, 2) := by decide +kernel
theorem dX12_isDigit_9 : decode cX12_isDigit 9 = .ok (.if_icmp .gt 7, 3) := by decide +kernel
theorem dX12_isDigit_12 : decode cX12_isDigit 12 = .ok (.iconst 1, 1) := by decide +kernel
theorem dX12_isDigit_13 : decode cX12_isDigit 13 = .ok (.goto 4, 3) := by decide +kernel
theorem dX12_isDigit_16 : decode cX12_isDigit 16 = .ok (.iconst 0, 1) := by decide +kernel
theorem dX12_isDigit_17 : decode cX12_isDigit 17 = .ok (.ireturn, 1) := by decide +kernel
theorem dX12_isBell_0 : decode cX12_isBell 0 = .ok (.iload_n 0, 1) := by decide +kernel
theorem dX12_isBell_1 : decode cX12_isBell 1 = .ok (.bipush 49, 2) := by decide +kernel
theorem dX12_isBell_3 : decode cX12_isBell 3 = .ok (.if_icmp .lt 13, 3) := by decide +kernel
theorem dX12_isBell_6 : decode cX12_isBell 6 = .ok (.iload_n 0, 1) := by decide +kernel
theorem dX12_isBell_7 : decode cX12_isBell 7 = .ok (.bipush 56, 2) := by decide +kernel
theorem dX12_isBell_9 : decode cX12_isBell 9 = .ok (.if_icmp .gt 7, 3) := by decide +kernel
theorem dX12_isBell_12 : decode cX12_isBell 12 = .ok (.iconst 1, 1) := by decide +kernel
theorem dX12_isBell_13 : decode cX12_isBell 13 = .ok (.goto 4, 3) := by decide +kernel
theorem dX12_isBell_16 : decode cX12_isBell 16 = .ok (.iconst 0, 1) := by decide +kernel
theorem dX12_isBell_17 : decode cX12_isBell 17 = .ok (.ireturn, 1) := by decide +kernel
theorem dX12_wrong_0 : decode cX12_wrong 0 = .ok (.aload_n 0, 1) := by decide +kernel
theorem dX12_wrong_1 : decode cX12_wrong 1 = .ok (.iload_n 1, 1) := by decide +kernel
theorem dX12_wrong_2 : decode cX12_wrong 2 = .ok (.putfield 97, 3) := by decide +kernel
theorem dX12_wrong_5 : decode cX12_wrong 5 = .ok (.aload_n 0, 1) := by decide +kernel
theorem dX12_wrong_6 : decode cX12_wrong 6 = .ok (.iload_n 2, 1) := by decide +kernel
theorem dX12_wrong_7 : decode cX12_wrong 7 = .ok (.putfield 104, 3) := by decide +kernel
theorem dX12_wrong_10 : decode cX12_wrong 10 = .ok (.iconst 0, 1) := by decide +kernel
theorem dX12_wrong_11 : decode cX12_wrong 11 = .ok (.ireturn, 1) := by decide +kernel
theorem dX12_stage_0 : decode cX12_stage 0 = .ok (.aload_n 0, 1) := by decide +kernel
theorem dX12_stage_1 : decode cX12_stage 1 = .ok (.iconst 0, 1) := by decide +kernel
theorem dX12_stage_2 : decode cX12_stage 2 = .ok (.putfield 81, 3) := by decide +kernel
theorem dX12_stage_5 : decode cX12_stage 5 = .ok (.iload_n 1, 1) := by decide +kernel
theorem dX12_stage_6 : decode cX12_stage 6 = .ok (.iconst 4, 1) := by decide +kernel
theorem dX12_stage_7 : decode cX12_stage 7 = .ok (.if_icmp .lt 9, 3) := by decide +kernel
theorem dX12_stage_10 : decode cX12_stage 10 = .ok (.iload_n 1, 1) := by decide +kernel
theorem dX12_stage_11 : decode cX12_stage 11 = .ok (.bipush 8, 2) := by decide +kernel
theorem dX12_stage_13 : decode cX12_stage 13 = .ok (.if_icmp .le 5, 3) := by decide +kernel
theorem dX12_stage_16 : decode cX12_stage 16 = .ok (.iconst 0, 1) := by decide +kernel
theorem dX12_stage_17 : decode cX12_stage 17 = .ok (.ireturn, 1) := by decide +kernel
theorem dX12_stage_18 : decode cX12_stage 18 = .ok (.aload_n 0, 1) := by decide +kernel
theorem dX12_stage_19 : decode cX12_stage 19 = .ok (.iload_n 1, 1) := by decide +kernel
theorem dX12_stage_20 : decode cX12_stage 20 = .ok (.putfield 7, 3) := by decide +kernel
theorem dX12_stage_23 : decode cX12_stage 23 = .ok (.iconst 0, 1) := by decide +kernel
theorem dX12_stage_24 : decode cX12_stage 24 = .ok (.istore_n 2, 1) := by decide +kernel
theorem dX12_stage_25 : decode cX12_stage 25 = .ok (.iload_n 2, 1) := by decide +kernel
theorem dX12_stage_26 : decode cX12_stage 26 = .ok (.bipush 6, 2) := by decide +kernel
theorem dX12_stage_28 : decode cX12_stage 28 = .ok (.if_icmp .ge 16, 3) := by decide +kernel
theorem dX12_stage_31 : decode cX12_stage 31 = .ok (.aload_n 0, 1) := by decide +kernel
theorem dX12_stage_32 : decode cX12_stage 32 = .ok (.getfield 13, 3) := by decide +kernel
theorem dX12_stage_35 : decode cX12_stage 35 = .ok (.iload_n 2, 1) := by decide +kernel
theorem dX12_stage_36 : decode cX12_stage 36 = .ok (.iconst 0, 1) := by decide +kernel
theorem dX12_stage_37 : decode cX12_stage 37 = .ok (.iastore, 1) := by decide +kernel
theorem dX12_stage_38 : decode cX12_stage 38 = .ok (.iinc 2 1, 3) := by decide +kernel
theorem dX12_stage_41 : decode cX12_stage 41 = .ok (.goto (-16), 3) := by decide +kernel
theorem dX12_stage_44 : decode cX12_stage 44 = .ok (.aload_n 0, 1) := by decide +kernel
theorem dX12_stage_45 : decode cX12_stage 45 = .ok (.iconst 0, 1) := by decide +kernel
theorem dX12_stage_46 : decode cX12_stage 46 = .ok (.putfield 107, 3) := by decide +kernel
theorem dX12_stage_49 : decode cX12_stage 49 = .ok (.iconst 1, 1) := by decide +kernel
theorem dX12_stage_50 : decode cX12_stage 50 = .ok (.ireturn, 1) := by decide +kernel
set_option maxRecDepth 20000 in
theorem ggX12_readChange_X12_peek : GoodIn wsX12_readChange wsX12_peek := goodIn_r _ [8, 1, 9, 10, 20, 21, 22, 23, 24, 25, 26, 27, 28, 29, 30, 31, 32, 33, 34, 35, 36, 37, 38, 39, 40, 41, 42, 43, 44, 45, 46, 47, 48, 49, 50, 51, 52, 53, 54, 55, 56, 57] (by decide +kernel) (by decide +kernel)
set_option maxRecDepth 20000 in
theorem gX12_readChange_X12_peek : GoodIn wsX12_readChange (wsV RX12 100 RX12 yX12_peek wsX12_peek) := goodIn_app (goodIn_of _ (by decide +kernel)) ggX12_readChange_X12_peek
set_option maxRecDepth 20000 in
theorem ggX12_readChange_X12_wrong : GoodIn wsX12_readChange wsX12_wrong := goodIn_r _ [14, 15, 16, 20, 21, 22, 23, 24, 25, 26, 27, 28, 29, 30, 31, 32, 33, 34, 35, 36, 37, 38, 39, 40, 41, 42, 43, 44, 45, 46, 47, 48, 49, 50, 51, 52, 53, 54, 55, 56, 57] (by decide +kernel) (by decide +kernel)
set_option maxRecDepth 20000 in
theorem gX12_readChange_X12_wrong : GoodIn wsX12_readChange (wsV RX12 110 RX12 yX12_wrong wsX12_wrong) := goodIn_app (goodIn_of _ (by decide +kernel)) ggX12_readChange_X12_wrong
set_option maxRecDepth 20000 in
theorem ggX12_readChange_X12_isBell : GoodIn wsX12_readChange wsX12_isBell := goodIn_r _ [19] (by decide +kernel) (by decide +kernel)
set_option maxRecDepth 20000 in
theorem gX12_readChange_X12_isBell : GoodIn wsX12_readChange (va_wsS RX12 117 yX12_isBell wsX12_isBell) := goodIn_app (goodIn_of _ (by decide +kernel)) ggX12_readChange_X12_isBell
theorem dX12_readChange_0 : decode cX12_readChange 0 = .ok (.aload_n 0, 1) := by decide +kernel
theorem dX12_readChange_1 : decode cX12_readChange 1 = .ok (.invokevirtual 100, 3) := by decide +kernel
theorem dX12_readChange_4 : decode cX12_readChange 4 = .ok (.istore_n 1, 1) := by decide +kernel
theorem dX12_readChange_5 : decode cX12_readChange 5 = .ok (.aload_n 0, 1) := by decide +kernel
theorem dX12_readChange_6 : decode cX12_readChange 6 = .ok (.getfield 94, 3) := by decide +kernel
theorem dX12_readChange_9 : decode cX12_readChange 9 = .ok (.istore_n 2, 1) := by decide +kernel
theorem dX12_readChange_10 : decode cX12_readChange 10 = .ok (.iload_n 1, 1) := by decide +kernel
theorem dX12_readChange_11 : decode cX12_readChange 11 = .ok (.bipush 120, 2) := by decide +kernel
theorem dX12_readChange_13 : decode cX12_readChange 13 = .ok (.if_icmp .eq 9, 3) := by decide +kernel
theorem dX12_readChange_16 : decode cX12_readChange 16 = .ok (.iload_n 1, 1) := by decide +kernel
theorem dX12_readChange_17 : decode cX12_readChange 17 = .ok (.bipush 45, 2) := by decide +kernel
theorem dX12_readChange_19 : decode cX12_readChange 19 = .ok (.if_icmp .ne 40, 3) := by decide +kernel
theorem dX12_readChange_22 : decode cX12_readChange 22 = .ok (.aload_n 0, 1) := by decide +kernel
theorem dX12_readChange_23 : decode cX12_readChange 23 = .ok (.getfield 7, 3) := by decide +kernel
theorem dX12_readChange_26 : decode cX12_readChange 26 = .ok (.iconst 2, 1) := by decide +kernel
theorem dX12_readChange_27 : decode cX12_readChange 27 = .ok (.irem, 1) := by decide +kernel
theorem dX12_readChange_28 : decode cX12_readChange 28 = .ok (.iconst 1, 1) := by decide +kernel
theorem dX12_readChange_29 : decode cX12_readChange 29 = .ok (.if_icmp .ne 13, 3) := by decide +kernel
theorem dX12_readChange_32 : decode cX12_readChange 32 = .ok (.aload_n 0, 1) := by decide +kernel
theorem dX12_readChange_33 : decode cX12_readChange 33 = .ok (.iconst 2, 1) := by decide +kernel
theorem dX12_readChange_34 : decode cX12_readChange 34 = .ok (.aload_n 0, 1) := by decide +kernel
theorem dX12_readChange_35 : decode cX12_readChange 35 = .ok (.getfield 94, 3) := by decide +kernel
theorem dX12_readChange_38 : decode cX12_readChange 38 = .ok (.invokevirtual 110, 3) := by decide +kernel
theorem dX12_readChange_41 : decode cX12_readChange 41 = .ok (.ireturn, 1) := by decide +kernel
theorem dX12_readChange_42 : decode cX12_readChange 42 = .ok (.aload_n 0, 1) := by decide +kernel
theorem dX12_readChange_43 : decode cX12_readChange 43 = .ok (.iconst 0, 1) := by decide +kernel
theorem dX12_readChange_44 : decode cX12_readChange 44 = .ok (.putfield 114, 3) := by decide +kernel
theorem dX12_readChange_47 : decode cX12_readChange 47 = .ok (.aload_n 0, 1) := by decide +kernel
theorem dX12_readChange_48 : decode cX12_readChange 48 = .ok (.dup, 1) := by decide +kernel
theorem dX12_readChange_49 : decode cX12_readChange 49 = .ok (.getfield 94, 3) := by decide +kernel
theorem dX12_readChange_52 : decode cX12_readChange 52 = .ok (.iconst 1, 1) := by decide +kernel
theorem dX12_readChange_53 : decode cX12_readChange 53 = .ok (.iadd, 1) := by decide +kernel
theorem dX12_readChange_54 : decode cX12_readChange 54 = .ok (.putfield 94, 3) := by decide +kernel
theorem dX12_readChange_57 : decode cX12_readChange 57 = .ok (.iconst 1, 1) := by decide +kernel
theorem dX12_readChange_58 : decode cX12_readChange 58 = .ok (.ireturn, 1) := by decide +kernel
theorem dX12_readChange_59 : decode cX12_readChange 59 = .ok (.iload_n 1, 1) := by decide +kernel
theorem dX12_readChange_60 : decode cX12_readChange 60 = .ok (.invokestatic 117, 3) := by decide +kernel
theorem dX12_readChange_63 : decode cX12_readChange 63 = .ok (.ifCond .ne 13, 3) := by decide +kernel
theorem dX12_readChange_66 : decode cX12_readChange 66 = .ok (.aload_n 0, 1) := by decide +kernel
theorem dX12_readChange_67 : decode cX12_readChange 67 = .ok (.iconst 1, 1) := by decide +kernel
theorem dX12_readChange_68 : decode cX12_readChange 68 = .ok (.aload_n 0, 1) := by decide +kernel
theorem dX12_readChange_69 : decode cX12_readChange 69 = .ok (.getfield 94, 3) := by decide +kernel
theorem dX12_readChange_72 : decode cX12_readChange 72 = .ok (.invokevirtual 110, 3) := by decide +kernel
theorem dX12_readChange_75 : decode cX12_readChange 75 = .ok (.ireturn, 1) := by decide +kernel
theorem dX12_readChange_76 : decode cX12_readChange 76 = .ok (.aload_n 0, 1) := by decide +kernel
theorem dX12_readChange_77 : decode cX12_readChange 77 = .ok (.iconst 0, 1) := by decide +kernel
theorem dX12_readChange_78 : decode cX12_readChange 78 = .ok (.putfield 114, 3) := by decide +kernel
theorem dX12_readChange_81 : decode cX12_readChange 81 = .ok (.iconst 0, 1) := by decide +kernel
theorem dX12_readChange_82 : decode cX12_readChange 82 = .ok (.istore_n 3, 1) := by decide +kernel
theorem dX12_readChange_83 : decode cX12_readChange 83 = .ok (.iconst 1, 1) := by decide +kernel
theorem dX12_readChange_84 : decode cX12_readChange 84 = .ok (.istore 4, 2) := by decide +kernel
theorem dX12_readChange_86 : decode cX12_readChange 86 = .ok (.aload_n 0, 1) := by decide +kernel
theorem dX12_readChange_87 : decode cX12_readChange 87 = .ok (.invokevirtual 100, 3) := by decide +kernel
theorem dX12_readChange_90 : decode cX12_readChange 90 = .ok (.invokestatic 117, 3) := by decide +kernel
theorem dX12_readChange_93 : decode cX12_readChange 93 = .ok (.ifCond .eq 115, 3) := by decide +kernel
theorem dX12_readChange_96 : decode cX12_readChange 96 = .ok (.aload_n 0, 1) := by decide +kernel
theorem dX12_readChange_97 : decode cX12_readChange 97 = .ok (.invokevirtual 100, 3) := by decide +kernel
theorem dX12_readChange_100 : decode cX12_readChange 100 = .ok (.bipush 48, 2) := by decide +kernel
theorem dX12_readChange_102 : decode cX12_readChange 102 = .ok (.isub, 1) := by decide +kernel
theorem dX12_readChange_103 : decode cX12_readChange 103 = .ok (.istore 5, 2) := by decide +kernel
theorem dX12_readChange_105 : decode cX12_readChange 105 = .ok (.iload 4, 2) := by decide +kernel
theorem dX12_readChange_107 : decode cX12_readChange 107 = .ok (.ifCond .eq 36, 3) := by decide +kernel
theorem dX12_readChange_110 : decode cX12_readChange 110 = .ok (.iload 5, 2) := by decide +kernel
theorem dX12_readChange_112 : decode cX12_readChange 112 = .ok (.iload_n 3, 1) := by decide +kernel
theorem dX12_readChange_113 : decode cX12_readChange 113 = .ok (.if_icmp .le 30, 3) := by decide +kernel
theorem dX12_readChange_116 : decode cX12_readChange 116 = .ok (.iload 5, 2) := by decide +kernel
theorem dX12_readChange_118 : decode cX12_readChange 118 = .ok (.aload_n 0, 1) := by decide +kernel
theorem dX12_readChange_119 : decode cX12_readChange 119 = .ok (.getfield 7, 3) := by decide +kernel
theorem dX12_readChange_122 : decode cX12_readChange 122 = .ok (.if_icmp .gt 21, 3) := by decide +kernel
theorem dX12_readChange_125 : decode cX12_readChange 125 = .ok (.iload_n 3, 1) := by decide +kernel
theorem dX12_readChange_126 : decode cX12_readChange 126 = .ok (.ifCond .eq 13, 3) := by decide +kernel
theorem dX12_readChange_129 : decode cX12_readChange 129 = .ok (.iload 5, 2) := by decide +kernel
theorem dX12_readChange_131 : decode cX12_readChange 131 = .ok (.iload_n 3, 1) := by decide +kernel
theorem dX12_readChange_132 : decode cX12_readChange 132 = .ok (.isub, 1) := by decide +kernel
theorem dX12_readChange_133 : decode cX12_readChange 133 = .ok (.iconst 2, 1) := by decide +kernel
theorem dX12_readChange_134 : decode cX12_readChange 134 = .ok (.irem, 1) := by decide +kernel
theorem dX12_readChange_135 : decode cX12_readChange 135 = .ok (.iconst 1, 1) := by decide +kernel
theorem dX12_readChange_136 : decode cX12_readChange 136 = .ok (.if_icmp .ne 7, 3) := by decide +kernel
theorem dX12_readChange_139 : decode cX12_readChange 139 = .ok (.iconst 1, 1) := by decide +kernel
theorem dX12_readChange_140 : decode cX12_readChange 140 = .ok (.goto 4, 3) := by decide +kernel
theorem dX12_readChange_143 : decode cX12_readChange 143 = .ok (.iconst 0, 1) := by decide +kernel
theorem dX12_readChange_144 : decode cX12_readChange 144 = .ok (.istore 4, 2) := by decide +kernel
theorem dX12_readChange_146 : decode cX12_readChange 146 = .ok (.iload 4, 2) := by decide +kernel
theorem dX12_readChange_148 : decode cX12_readChange 148 = .ok (.ifCond .eq 24, 3) := by decide +kernel
theorem dX12_readChange_151 : decode cX12_readChange 151 = .ok (.iload_n 3, 1) := by decide +kernel
theorem dX12_readChange_152 : decode cX12_readChange 152 = .ok (.ifCond .ne 20, 3) := by decide +kernel
theorem dX12_readChange_155 : decode cX12_readChange 155 = .ok (.iload 5, 2) := by decide +kernel
theorem dX12_readChange_157 : decode cX12_readChange 157 = .ok (.iconst 2, 1) := by decide +kernel
theorem dX12_readChange_158 : decode cX12_readChange 158 = .ok (.irem, 1) := by decide +kernel
theorem dX12_readChange_159 : decode cX12_readChange 159 = .ok (.ifCond .ne 13, 3) := by decide +kernel
theorem dX12_readChange_162 : decode cX12_readChange 162 = .ok (.aload_n 0, 1) := by decide +kernel
theorem dX12_readChange_163 : decode cX12_readChange 163 = .ok (.dup, 1) := by decide +kernel
theorem dX12_readChange_164 : decode cX12_readChange 164 = .ok (.getfield 114, 3) := by decide +kernel
theorem dX12_readChange_167 : decode cX12_readChange 167 = .ok (.iconst 1, 1) := by decide +kernel
theorem dX12_readChange_168 : decode cX12_readChange 168 = .ok (.ior, 1) := by decide +kernel
theorem dX12_readChange_169 : decode cX12_readChange 169 = .ok (.putfield 114, 3) := by decide +kernel
theorem dX12_readChange_172 : decode cX12_readChange 172 = .ok (.iload 4, 2) := by decide +kernel
theorem dX12_readChange_174 : decode cX12_readChange 174 = .ok (.ifCond .eq 18, 3) := by decide +kernel
theorem dX12_readChange_177 : decode cX12_readChange 177 = .ok (.aload_n 0, 1) := by decide +kernel
theorem dX12_readChange_178 : decode cX12_readChange 178 = .ok (.dup, 1) := by decide +kernel
theorem dX12_readChange_179 : decode cX12_readChange 179 = .ok (.getfield 114, 3) := by decide +kernel
theorem dX12_readChange_182 : decode cX12_readChange 182 = .ok (.iconst 1, 1) := by decide +kernel
theorem dX12_readChange_183 : decode cX12_readChange 183 = .ok (.iload 5, 2) := by decide +kernel
theorem dX12_readChange_185 : decode cX12_readChange 185 = .ok (.iconst 1, 1) := by decide +kernel
theorem dX12_readChange_186 : decode cX12_readChange 186 = .ok (.isub, 1) := by decide +kernel
theorem dX12_readChange_187 : decode cX12_readChange 187 = .ok (.ishl, 1) := by decide +kernel
theorem dX12_readChange_188 : decode cX12_readChange 188 = .ok (.ior, 1) := by decide +kernel
theorem dX12_readChange_189 : decode cX12_readChange 189 = .ok (.putfield 114, 3) := by decide +kernel
theorem dX12_readChange_192 : decode cX12_readChange 192 = .ok (.iload 5, 2) := by decide +kernel
theorem dX12_readChange_194 : decode cX12_readChange 194 = .ok (.istore_n 3, 1) := by decide +kernel
theorem dX12_readChange_195 : decode cX12_readChange 195 = .ok (.aload_n 0, 1) := by decide +kernel
theorem dX12_readChange_196 : decode cX12_readChange 196 = .ok (.dup, 1) := by decide +kernel
theorem dX12_readChange_197 : decode cX12_readChange 197 = .ok (.getfield 94, 3) := by decide +kernel
theorem dX12_readChange_200 : decode cX12_readChange 200 = .ok (.iconst 1, 1) := by decide +kernel
theorem dX12_readChange_201 : decode cX12_readChange 201 = .ok (.iadd, 1) := by decide +kernel
theorem dX12_readChange_202 : decode cX12_readChange 202 = .ok (.putfield 94, 3) := by decide +kernel
theorem dX12_readChange_205 : decode cX12_readChange 205 = .ok (.goto (-119), 3) := by decide +kernel
theorem dX12_readChange_208 : decode cX12_readChange 208 = .ok (.iload 4, 2) := by decide +kernel
theorem dX12_readChange_210 : decode cX12_readChange 210 = .ok (.ifCond .ne 10, 3) := by decide +kernel
theorem dX12_readChange_213 : decode cX12_readChange 213 = .ok (.aload_n 0, 1) := by decide +kernel
theorem dX12_readChange_214 : decode cX12_readChange 214 = .ok (.iconst 2, 1) := by decide +kernel
theorem dX12_readChange_215 : decode cX12_readChange 215 = .ok (.iload_n 2, 1) := by decide +kernel
theorem dX12_readChange_216 : decode cX12_readChange 216 = .ok (.invokevirtual 110, 3) := by decide +kernel
theorem dX12_readChange_219 : decode cX12_readChange 219 = .ok (.ireturn, 1) := by decide +kernel
theorem dX12_readChange_220 : decode cX12_readChange 220 = .ok (.aload_n 0, 1) := by decide +kernel
theorem dX12_readChange_221 : decode cX12_readChange 221 = .ok (.getfield 7, 3) := by decide +kernel
theorem dX12_readChange_224 : decode cX12_readChange 224 = .ok (.iload_n 3, 1) := by decide +kernel
theorem dX12_readChange_225 : decode cX12_readChange 225 = .ok (.isub, 1) := by decide +kernel
theorem dX12_readChange_226 : decode cX12_readChange 226 = .ok (.iconst 2, 1) := by decide +kernel
theorem dX12_readChange_227 : decode cX12_readChange 227 = .ok (.irem, 1) := by decide +kernel
theorem dX12_readChange_228 : decode cX12_readChange 228 = .ok (.iconst 1, 1) := by decide +kernel
theorem dX12_readChange_229 : decode cX12_readChange 229 = .ok (.if_icmp .ne 20, 3) := by decide +kernel
theorem dX12_readChange_232 : decode cX12_readChange 232 = .ok (.aload_n 0, 1) := by decide +kernel
theorem dX12_readChange_233 : decode cX12_readChange 233 = .ok (.dup, 1) := by decide +kernel
theorem dX12_readChange_234 : decode cX12_readChange 234 = .ok (.getfield 114, 3) := by decide +kernel
theorem dX12_readChange_237 : decode cX12_readChange 237 = .ok (.iconst 1, 1) := by decide +kernel
theorem dX12_readChange_238 : decode cX12_readChange 238 = .ok (.aload_n 0, 1) := by decide +kernel
theorem dX12_readChange_239 : decode cX12_readChange 239 = .ok (.getfield 7, 3) := by decide +kernel
theorem dX12_readChange_242 : decode cX12_readChange 242 = .ok (.iconst 1, 1) := by decide +kernel
theorem dX12_readChange_243 : decode cX12_readChange 243 = .ok (.isub, 1) := by decide +kernel
theorem dX12_readChange_244 : decode cX12_readChange 244 = .ok (.ishl, 1) := by decide +kernel
theorem dX12_readChange_245 : decode cX12_readChange 245 = .ok (.ior, 1) := by decide +kernel
theorem dX12_readChange_246 : decode cX12_readChange 246 = .ok (.putfield 114, 3) := by decide +kernel
theorem dX12_readChange_249 : decode cX12_readChange 249 = .ok (.iconst 1, 1) := by decide +kernel
theorem dX12_readChange_250 : decode cX12_readChange 250 = .ok (.ireturn, 1) := by decide +kernel
set_option maxRecDepth 20000 in
theorem ggX12_readLead_X12_blanks : GoodIn wsX12_readLead wsX12_blanks := goodIn_r _ [10, 1, 11, 12, 13, 9, 14, 15, 16, 31, 32, 33, 34, 35, 36, 37, 38, 39, 40, 41, 42, 43, 44, 45, 46, 47, 48, 49, 50, 51, 52, 53, 54, 55, 56, 57, 58, 59, 60, 61, 62, 63, 64, 65, 66, 67, 68] (by decide +kernel) (by decide +kernel)
set_option maxRecDepth 20000 in
theorem gX12_readLead_X12_blanks : GoodIn wsX12_readLead (wsV RX12 121 RX12 yX12_blanks wsX12_blanks) := goodIn_app (goodIn_of _ (by decide +kernel)) ggX12_readLead_X12_blanks
set_option maxRecDepth 20000 in
theorem ggX12_readLead_X12_peek : GoodIn wsX12_readLead wsX12_peek := goodIn_r _ [14, 1, 15, 16, 31, 32, 33, 34, 35, 36, 37, 38, 39, 40, 41, 42, 43, 44, 45, 46, 47, 48, 49, 50, 51, 52, 53, 54, 55, 56, 57, 58, 59, 60, 61, 62, 63, 64, 65, 66, 67, 68] (by decide +kernel) (by decide +kernel)
