set_option maxRecDepth 20000 in
theorem ggX12_line_X12_rounds : GoodIn wsX12_line wsX12_rounds := goodIn_r _ [22, 1, 39, 40, 41, 42, 43, 44, 45, 46, 47, 48, 49, 50, 51, 52, 53, 54, 55, 56, 57, 58, 59, 60, 61, 62, 63, 64, 65, 66, 67, 68, 69, 70, 71, 72, 73, 74, 75, 76] (by decide +kernel) (by decide +kernel)
set_option maxRecDepth 20000 in
theorem gX12_line_X12_rounds : GoodIn wsX12_line (wsV RX12 175 RX12 yX12_rounds wsX12_rounds) := goodIn_app (goodIn_of _ (by decide +kernel)) ggX12_line_X12_rounds
set_option maxRecDepth 20000 in
theorem ggX12_line_X12_ring : GoodIn wsX12_line wsX12_ring := goodIn_r _ [30, 1, 39, 40, 41, 42, 43, 44, 45, 46, 47, 48, 49, 50, 51, 52, 53, 54, 55, 56, 57, 58, 59, 60, 61, 62, 63, 64, 65, 66, 67, 68, 69, 70, 71, 72, 73, 74, 75, 76] (by decide +kernel) (by decide +kernel)
set_option maxRecDepth 20000 in
theorem gX12_line_X12_ring : GoodIn wsX12_line (wsV RX12 167 RX12 yX12_ring wsX12_ring) := goodIn_app (goodIn_of _ (by decide +kernel)) ggX12_line_X12_ring
theorem dX12_line_0 : decode cX12_line 0 = .ok (.aload_n 0, 1) := by decide +kernel
theorem dX12_line_1 : decode cX12_line 1 = .ok (.aload_n 0, 1) := by decide +kernel
theorem dX12_line_2 : decode cX12_line 2 = .ok (.iload_n 1, 1) := by decide +kernel
theorem dX12_line_3 : decode cX12_line 3 = .ok (.invokevirtual 150, 3) := by decide +kernel
theorem dX12_line_6 : decode cX12_line 6 = .ok (.ifCond .eq 20, 3) := by decide +kernel
theorem dX12_line_9 : decode cX12_line 9 = .ok (.iload_n 2, 1) := by decide +kernel
theorem dX12_line_10 : decode cX12_line 10 = .ok (.iconst 1, 1) := by decide +kernel
theorem dX12_line_11 : decode cX12_line 11 = .ok (.if_icmp .lt 15, 3) := by decide +kernel
theorem dX12_line_14 : decode cX12_line 14 = .ok (.iload_n 2, 1) := by decide +kernel
theorem dX12_line_15 : decode cX12_line 15 = .ok (.aload_n 0, 1) := by decide +kernel
theorem dX12_line_16 : decode cX12_line 16 = .ok (.getfield 7, 3) := by decide +kernel
theorem dX12_line_19 : decode cX12_line 19 = .ok (.if_icmp .gt 7, 3) := by decide +kernel
theorem dX12_line_22 : decode cX12_line 22 = .ok (.iload_n 3, 1) := by decide +kernel
theorem dX12_line_23 : decode cX12_line 23 = .ok (.ifCond .ge 7, 3) := by decide +kernel
theorem dX12_line_26 : decode cX12_line 26 = .ok (.iconst 1, 1) := by decide +kernel
theorem dX12_line_27 : decode cX12_line 27 = .ok (.goto 4, 3) := by decide +kernel
theorem dX12_line_30 : decode cX12_line 30 = .ok (.iconst 0, 1) := by decide +kernel
theorem dX12_line_31 : decode cX12_line 31 = .ok (.iconst 1, 1) := by decide +kernel
theorem dX12_line_32 : decode cX12_line 32 = .ok (.invokevirtual 134, 3) := by decide +kernel
theorem dX12_line_35 : decode cX12_line 35 = .ok (.ifCond .eq 5, 3) := by decide +kernel
theorem dX12_line_38 : decode cX12_line 38 = .ok (.iconst 0, 1) := by decide +kernel
theorem dX12_line_39 : decode cX12_line 39 = .ok (.ireturn, 1) := by decide +kernel
theorem dX12_line_40 : decode cX12_line 40 = .ok (.iload_n 3, 1) := by decide +kernel
theorem dX12_line_41 : decode cX12_line 41 = .ok (.aload_n 0, 1) := by decide +kernel
theorem dX12_line_42 : decode cX12_line 42 = .ok (.iload_n 1, 1) := by decide +kernel
theorem dX12_line_43 : decode cX12_line 43 = .ok (.invokevirtual 191, 3) := by decide +kernel
theorem dX12_line_46 : decode cX12_line 46 = .ok (.aload_n 0, 1) := by decide +kernel
theorem dX12_line_47 : decode cX12_line 47 = .ok (.getfield 13, 3) := by decide +kernel
theorem dX12_line_50 : decode cX12_line 50 = .ok (.iload_n 1, 1) := by decide +kernel
theorem dX12_line_51 : decode cX12_line 51 = .ok (.iaload, 1) := by decide +kernel
theorem dX12_line_52 : decode cX12_line 52 = .ok (.imul, 1) := by decide +kernel
theorem dX12_line_53 : decode cX12_line 53 = .ok (.irem, 1) := by decide +kernel
theorem dX12_line_54 : decode cX12_line 54 = .ok (.istore 4, 2) := by decide +kernel
theorem dX12_line_56 : decode cX12_line 56 = .ok (.aload_n 0, 1) := by decide +kernel
theorem dX12_line_57 : decode cX12_line 57 = .ok (.aload_n 0, 1) := by decide +kernel
theorem dX12_line_58 : decode cX12_line 58 = .ok (.getfield 55, 3) := by decide +kernel
theorem dX12_line_61 : decode cX12_line 61 = .ok (.invokevirtual 175, 3) := by decide +kernel
theorem dX12_line_64 : decode cX12_line 64 = .ok (.iconst 0, 1) := by decide +kernel
theorem dX12_line_65 : decode cX12_line 65 = .ok (.istore 5, 2) := by decide +kernel
theorem dX12_line_67 : decode cX12_line 67 = .ok (.iload 5, 2) := by decide +kernel
theorem dX12_line_69 : decode cX12_line 69 = .ok (.iload 4, 2) := by decide +kernel
theorem dX12_line_71 : decode cX12_line 71 = .ok (.if_icmp .ge 36, 3) := by decide +kernel
theorem dX12_line_74 : decode cX12_line 74 = .ok (.aload_n 0, 1) := by decide +kernel
theorem dX12_line_75 : decode cX12_line 75 = .ok (.aload_n 0, 1) := by decide +kernel
theorem dX12_line_76 : decode cX12_line 76 = .ok (.getfield 55, 3) := by decide +kernel
theorem dX12_line_79 : decode cX12_line 79 = .ok (.aload_n 0, 1) := by decide +kernel
theorem dX12_line_80 : decode cX12_line 80 = .ok (.getfield 17, 3) := by decide +kernel
theorem dX12_line_83 : decode cX12_line 83 = .ok (.bipush 66, 2) := by decide +kernel
theorem dX12_line_85 : decode cX12_line 85 = .ok (.iload_n 1, 1) := by decide +kernel
theorem dX12_line_86 : decode cX12_line 86 = .ok (.imul, 1) := by decide +kernel
theorem dX12_line_87 : decode cX12_line 87 = .ok (.iload 5, 2) := by decide +kernel
theorem dX12_line_89 : decode cX12_line 89 = .ok (.aload_n 0, 1) := by decide +kernel
theorem dX12_line_90 : decode cX12_line 90 = .ok (.getfield 13, 3) := by decide +kernel
theorem dX12_line_93 : decode cX12_line 93 = .ok (.iload_n 1, 1) := by decide +kernel
theorem dX12_line_94 : decode cX12_line 94 = .ok (.iaload, 1) := by decide +kernel
theorem dX12_line_95 : decode cX12_line 95 = .ok (.irem, 1) := by decide +kernel
theorem dX12_line_96 : decode cX12_line 96 = .ok (.iadd, 1) := by decide +kernel
theorem dX12_line_97 : decode cX12_line 97 = .ok (.iaload, 1) := by decide +kernel
theorem dX12_line_98 : decode cX12_line 98 = .ok (.invokevirtual 167, 3) := by decide +kernel
theorem dX12_line_101 : decode cX12_line 101 = .ok (.iinc 5 1, 3) := by decide +kernel
theorem dX12_line_104 : decode cX12_line 104 = .ok (.goto (-37), 3) := by decide +kernel
theorem dX12_line_107 : decode cX12_line 107 = .ok (.iconst 0, 1) := by decide +kernel
theorem dX12_line_108 : decode cX12_line 108 = .ok (.istore 5, 2) := by decide +kernel
theorem dX12_line_110 : decode cX12_line 110 = .ok (.iload 5, 2) := by decide +kernel
theorem dX12_line_112 : decode cX12_line 112 = .ok (.aload_n 0, 1) := by decide +kernel
theorem dX12_line_113 : decode cX12_line 113 = .ok (.getfield 7, 3) := by decide +kernel
theorem dX12_line_116 : decode cX12_line 116 = .ok (.if_icmp .ge 25, 3) := by decide +kernel
theorem dX12_line_119 : decode cX12_line 119 = .ok (.aload_n 0, 1) := by decide +kernel
theorem dX12_line_120 : decode cX12_line 120 = .ok (.getfield 55, 3) := by decide +kernel
theorem dX12_line_123 : decode cX12_line 123 = .ok (.iload 5, 2) := by decide +kernel
theorem dX12_line_125 : decode cX12_line 125 = .ok (.iaload, 1) := by decide +kernel
theorem dX12_line_126 : decode cX12_line 126 = .ok (.iload_n 2, 1) := by decide +kernel
theorem dX12_line_127 : decode cX12_line 127 = .ok (.if_icmp .ne 8, 3) := by decide +kernel
theorem dX12_line_130 : decode cX12_line 130 = .ok (.iload 5, 2) := by decide +kernel
theorem dX12_line_132 : decode cX12_line 132 = .ok (.iconst 1, 1) := by decide +kernel
theorem dX12_line_133 : decode cX12_line 133 = .ok (.iadd, 1) := by decide +kernel
theorem dX12_line_134 : decode cX12_line 134 = .ok (.ireturn, 1) := by decide +kernel
theorem dX12_line_135 : decode cX12_line 135 = .ok (.iinc 5 1, 3) := by decide +kernel
theorem dX12_line_138 : decode cX12_line 138 = .ok (.goto (-28), 3) := by decide +kernel
theorem dX12_line_141 : decode cX12_line 141 = .ok (.iconst (-1), 1) := by decide +kernel
theorem dX12_line_142 : decode cX12_line 142 = .ok (.ireturn, 1) := by decide +kernel
set_option maxRecDepth 20000 in
theorem ggX12_findHeads_X12_rounds : GoodIn wsX12_findHeads wsX12_rounds := goodIn_r _ [10, 11, 20, 21, 22, 23, 24, 25, 26, 27, 28, 29, 30, 31, 32, 33, 34, 35, 36, 37, 38, 39, 40, 41, 42, 43, 44, 45, 46, 47, 48, 49, 50, 51, 52, 53, 54, 55, 56, 57] (by decide +kernel) (by decide +kernel)
set_option maxRecDepth 20000 in
theorem gX12_findHeads_X12_rounds : GoodIn wsX12_findHeads (wsV RX12 175 RX12 yX12_rounds wsX12_rounds) := goodIn_app (goodIn_of _ (by decide +kernel)) ggX12_findHeads_X12_rounds
set_option maxRecDepth 20000 in
theorem ggX12_findHeads_X12_ring : GoodIn wsX12_findHeads wsX12_ring := goodIn_r _ [15, 11, 20, 21, 22, 23, 24, 25, 26, 27, 28, 29, 30, 31, 32, 33, 34, 35, 36, 37, 38, 39, 40, 41, 42, 43, 44, 45, 46, 47, 48, 49, 50, 51, 52, 53, 54, 55, 56, 57] (by decide +kernel) (by decide +kernel)
set_option maxRecDepth 20000 in
theorem gX12_findHeads_X12_ring : GoodIn wsX12_findHeads (wsV RX12 167 RX12 yX12_ring wsX12_ring) := goodIn_app (goodIn_of _ (by decide +kernel)) ggX12_findHeads_X12_ring
set_option maxRecDepth 20000 in
theorem ggX12_findHeads_X12_number : GoodIn wsX12_findHeads wsX12_number := goodIn_r _ [19, 11, 20, 21, 22, 23, 24, 25, 26, 27, 28, 29, 30, 31, 32, 33, 34, 35, 36, 37, 38, 39, 40, 41, 42, 43, 44, 45, 46, 47, 48, 49, 50, 51, 52, 53, 54, 55, 56, 57] (by decide +kernel) (by decide +kernel)
set_option maxRecDepth 20000 in
theorem gX12_findHeads_X12_number : GoodIn wsX12_findHeads (wsV RX12 179 RX12 yX12_number wsX12_number) := goodIn_app (goodIn_of _ (by decide +kernel)) ggX12_findHeads_X12_number
theorem dX12_findHeads_0 : decode cX12_findHeads 0 = .ok (.aload_n 0, 1) := by decide +kernel
theorem dX12_findHeads_1 : decode cX12_findHeads 1 = .ok (.iconst 0, 1) := by decide +kernel
theorem dX12_findHeads_2 : decode cX12_findHeads 2 = .ok (.putfield 195, 3) := by decide +kernel
theorem dX12_findHeads_5 : decode cX12_findHeads 5 = .ok (.iconst 0, 1) := by decide +kernel
theorem dX12_findHeads_6 : decode cX12_findHeads 6 = .ok (.istore_n 3, 1) := by decide +kernel
theorem dX12_findHeads_7 : decode cX12_findHeads 7 = .ok (.iload_n 3, 1) := by decide +kernel
theorem dX12_findHeads_8 : decode cX12_findHeads 8 = .ok (.aload_n 0, 1) := by decide +kernel
theorem dX12_findHeads_9 : decode cX12_findHeads 9 = .ok (.getfield 13, 3) := by decide +kernel
theorem dX12_findHeads_12 : decode cX12_findHeads 12 = .ok (.iload_n 1, 1) := by decide +kernel
theorem dX12_findHeads_13 : decode cX12_findHeads 13 = .ok (.iaload, 1) := by decide +kernel
theorem dX12_findHeads_14 : decode cX12_findHeads 14 = .ok (.if_icmp .ge 226, 3) := by decide +kernel
theorem dX12_findHeads_17 : decode cX12_findHeads 17 = .ok (.iconst 0, 1) := by decide +kernel
theorem dX12_findHeads_18 : decode cX12_findHeads 18 = .ok (.istore 4, 2) := by decide +kernel
theorem dX12_findHeads_20 : decode cX12_findHeads 20 = .ok (.iload 4, 2) := by decide +kernel
theorem dX12_findHeads_22 : decode cX12_findHeads 22 = .ok (.aload_n 0, 1) := by decide +kernel
theorem dX12_findHeads_23 : decode cX12_findHeads 23 = .ok (.getfield 13, 3) := by decide +kernel
theorem dX12_findHeads_26 : decode cX12_findHeads 26 = .ok (.iload_n 2, 1) := by decide +kernel
theorem dX12_findHeads_27 : decode cX12_findHeads 27 = .ok (.iaload, 1) := by decide +kernel
theorem dX12_findHeads_28 : decode cX12_findHeads 28 = .ok (.if_icmp .ge 206, 3) := by decide +kernel
theorem dX12_findHeads_31 : decode cX12_findHeads 31 = .ok (.aload_n 0, 1) := by decide +kernel
theorem dX12_findHeads_32 : decode cX12_findHeads 32 = .ok (.aload_n 0, 1) := by decide +kernel
theorem dX12_findHeads_33 : decode cX12_findHeads 33 = .ok (.getfield 55, 3) := by decide +kernel
theorem dX12_findHeads_36 : decode cX12_findHeads 36 = .ok (.invokevirtual 175, 3) := by decide +kernel
theorem dX12_findHeads_39 : decode cX12_findHeads 39 = .ok (.iconst 0, 1) := by decide +kernel
theorem dX12_findHeads_40 : decode cX12_findHeads 40 = .ok (.istore 5, 2) := by decide +kernel
theorem dX12_findHeads_42 : decode cX12_findHeads 42 = .ok (.iload 5, 2) := by decide +kernel
theorem dX12_findHeads_44 : decode cX12_findHeads 44 = .ok (.iload_n 3, 1) := by decide +kernel
theorem dX12_findHeads_45 : decode cX12_findHeads 45 = .ok (.if_icmp .ge 29, 3) := by decide +kernel
theorem dX12_findHeads_48 : decode cX12_findHeads 48 = .ok (.aload_n 0, 1) := by decide +kernel
theorem dX12_findHeads_49 : decode cX12_findHeads 49 = .ok (.aload_n 0, 1) := by decide +kernel
theorem dX12_findHeads_50 : decode cX12_findHeads 50 = .ok (.getfield 55, 3) := by decide +kernel
theorem dX12_findHeads_53 : decode cX12_findHeads 53 = .ok (.aload_n 0, 1) := by decide +kernel
theorem dX12_findHeads_54 : decode cX12_findHeads 54 = .ok (.getfield 17, 3) := by decide +kernel
theorem dX12_findHeads_57 : decode cX12_findHeads 57 = .ok (.bipush 66, 2) := by decide +kernel
theorem dX12_findHeads_59 : decode cX12_findHeads 59 = .ok (.iload_n 1, 1) := by decide +kernel
theorem dX12_findHeads_60 : decode cX12_findHeads 60 = .ok (.imul, 1) := by decide +kernel
theorem dX12_findHeads_61 : decode cX12_findHeads 61 = .ok (.iload 5, 2) := by decide +kernel
theorem dX12_findHeads_63 : decode cX12_findHeads 63 = .ok (.iadd, 1) := by decide +kernel
theorem dX12_findHeads_64 : decode cX12_findHeads 64 = .ok (.iaload, 1) := by decide +kernel
theorem dX12_findHeads_65 : decode cX12_findHeads 65 = .ok (.invokevirtual 167, 3) := by decide +kernel
theorem dX12_findHeads_68 : decode cX12_findHeads 68 = .ok (.iinc 5 1, 3) := by decide +kernel
theorem dX12_findHeads_71 : decode cX12_findHeads 71 = .ok (.goto (-29), 3) := by decide +kernel
theorem dX12_findHeads_74 : decode cX12_findHeads 74 = .ok (.iload 4, 2) := by decide +kernel
theorem dX12_findHeads_76 : decode cX12_findHeads 76 = .ok (.iconst 1, 1) := by decide +kernel
theorem dX12_findHeads_77 : decode cX12_findHeads 77 = .ok (.isub, 1) := by decide +kernel
theorem dX12_findHeads_78 : decode cX12_findHeads 78 = .ok (.istore 5, 2) := by decide +kernel
theorem dX12_findHeads_80 : decode cX12_findHeads 80 = .ok (.iload 5, 2) := by decide +kernel
theorem dX12_findHeads_82 : decode cX12_findHeads 82 = .ok (.ifCond .lt 29, 3) := by decide +kernel
theorem dX12_findHeads_85 : decode cX12_findHeads 85 = .ok (.aload_n 0, 1) := by decide +kernel
theorem dX12_findHeads_86 : decode cX12_findHeads 86 = .ok (.aload_n 0, 1) := by decide +kernel
theorem dX12_findHeads_87 : decode cX12_findHeads 87 = .ok (.getfield 55, 3) := by decide +kernel
theorem dX12_findHeads_90 : decode cX12_findHeads 90 = .ok (.aload_n 0, 1) := by decide +kernel
theorem dX12_findHeads_91 : decode cX12_findHeads 91 = .ok (.getfield 17, 3) := by decide +kernel
theorem dX12_findHeads_94 : decode cX12_findHeads 94 = .ok (.bipush 66, 2) := by decide +kernel
theorem dX12_findHeads_96 : decode cX12_findHeads 96 = .ok (.iload_n 2, 1) := by decide +kernel
theorem dX12_findHeads_97 : decode cX12_findHeads 97 = .ok (.imul, 1) := by decide +kernel
theorem dX12_findHeads_98 : decode cX12_findHeads 98 = .ok (.iload 5, 2) := by decide +kernel
theorem dX12_findHeads_100 : decode cX12_findHeads 100 = .ok (.iadd, 1) := by decide +kernel
theorem dX12_findHeads_101 : decode cX12_findHeads 101 = .ok (.iaload, 1) := by decide +kernel
theorem dX12_findHeads_102 : decode cX12_findHeads 102 = .ok (.invokevirtual 167, 3) := by decide +kernel
theorem dX12_findHeads_105 : decode cX12_findHeads 105 = .ok (.iinc 5 (-1), 3) := by decide +kernel
theorem dX12_findHeads_108 : decode cX12_findHeads 108 = .ok (.goto (-28), 3) := by decide +kernel
theorem dX12_findHeads_111 : decode cX12_findHeads 111 = .ok (.aload_n 0, 1) := by decide +kernel
theorem dX12_findHeads_112 : decode cX12_findHeads 112 = .ok (.aload_n 0, 1) := by decide +kernel
theorem dX12_findHeads_113 : decode cX12_findHeads 113 = .ok (.getfield 55, 3) := by decide +kernel
theorem dX12_findHeads_116 : decode cX12_findHeads 116 = .ok (.invokevirtual 179, 3) := by decide +kernel
theorem dX12_findHeads_119 : decode cX12_findHeads 119 = .ok (.istore 5, 2) := by decide +kernel
theorem dX12_findHeads_121 : decode cX12_findHeads 121 = .ok (.aload_n 0, 1) := by decide +kernel
theorem dX12_findHeads_122 : decode cX12_findHeads 122 = .ok (.getfield 195, 3) := by decide +kernel
theorem dX12_findHeads_125 : decode cX12_findHeads 125 = .ok (.istore 6, 2) := by decide +kernel
theorem dX12_findHeads_127 : decode cX12_findHeads 127 = .ok (.iload 6, 2) := by decide +kernel
theorem dX12_findHeads_129 : decode cX12_findHeads 129 = .ok (.ifCond .le 23, 3) := by decide +kernel
theorem dX12_findHeads_132 : decode cX12_findHeads 132 = .ok (.aload_n 0, 1) := by decide +kernel
theorem dX12_findHeads_133 : decode cX12_findHeads 133 = .ok (.getfield 61, 3) := by decide +kernel
theorem dX12_findHeads_136 : decode cX12_findHeads 136 = .ok (.iload 6, 2) := by decide +kernel
theorem dX12_findHeads_138 : decode cX12_findHeads 138 = .ok (.iconst 1, 1) := by decide +kernel
theorem dX12_findHeads_139 : decode cX12_findHeads 139 = .ok (.isub, 1) := by decide +kernel
theorem dX12_findHeads_140 : decode cX12_findHeads 140 = .ok (.iaload, 1) := by decide +kernel
theorem dX12_findHeads_141 : decode cX12_findHeads 141 = .ok (.iload 5, 2) := by decide +kernel
theorem dX12_findHeads_143 : decode cX12_findHeads 143 = .ok (.if_icmp .le 9, 3) := by decide +kernel
theorem dX12_findHeads_146 : decode cX12_findHeads 146 = .ok (.iinc 6 (-1), 3) := by decide +kernel
theorem dX12_findHeads_149 : decode cX12_findHeads 149 = .ok (.goto (-22), 3) := by decide +kernel
theorem dX12_findHeads_152 : decode cX12_findHeads 152 = .ok (.iload 6, 2) := by decide +kernel
theorem dX12_findHeads_154 : decode cX12_findHeads 154 = .ok (.ifCond .le 20, 3) := by decide +kernel
theorem dX12_findHeads_157 : decode cX12_findHeads 157 = .ok (.aload_n 0, 1) := by decide +kernel
theorem dX12_findHeads_158 : decode cX12_findHeads 158 = .ok (.getfield 61, 3) := by decide +kernel
theorem dX12_findHeads_161 : decode cX12_findHeads 161 = .ok (.iload 6, 2) := by decide +kernel
theorem dX12_findHeads_163 : decode cX12_findHeads 163 = .ok (.iconst 1, 1) := by decide +kernel
theorem dX12_findHeads_164 : decode cX12_findHeads 164 = .ok (.isub, 1) := by decide +kernel
theorem dX12_findHeads_165 : decode cX12_findHeads 165 = .ok (.iaload, 1) := by decide +kernel
theorem dX12_findHeads_166 : decode cX12_findHeads 166 = .ok (.iload 5, 2) := by decide +kernel
theorem dX12_findHeads_168 : decode cX12_findHeads 168 = .ok (.if_icmp .ne 6, 3) := by decide +kernel
theorem dX12_findHeads_171 : decode cX12_findHeads 171 = .ok (.goto 57, 3) := by decide +kernel
theorem dX12_findHeads_174 : decode cX12_findHeads 174 = .ok (.aload_n 0, 1) := by decide +kernel
theorem dX12_findHeads_175 : decode cX12_findHeads 175 = .ok (.getfield 195, 3) := by decide +kernel
theorem dX12_findHeads_178 : decode cX12_findHeads 178 = .ok (.istore 7, 2) := by decide +kernel
theorem dX12_findHeads_180 : decode cX12_findHeads 180 = .ok (.iload 7, 2) := by decide +kernel
theorem dX12_findHeads_182 : decode cX12_findHeads 182 = .ok (.iload 6, 2) := by decide +kernel
theorem dX12_findHeads_184 : decode cX12_findHeads 184 = .ok (.if_icmp .le 25, 3) := by decide +kernel
theorem dX12_findHeads_187 : decode cX12_findHeads 187 = .ok (.aload_n 0, 1) := by decide +kernel
theorem dX12_findHeads_188 : decode cX12_findHeads 188 = .ok (.getfield 61, 3) := by decide +kernel
theorem dX12_findHeads_191 : decode cX12_findHeads 191 = .ok (.iload 7, 2) := by decide +kernel
theorem dX12_findHeads_193 : decode cX12_findHeads 193 = .ok (.aload_n 0, 1) := by decide +kernel
theorem dX12_findHeads_194 : decode cX12_findHeads 194 = .ok (.getfield 61, 3) := by decide +kernel
theorem dX12_findHeads_197 : decode cX12_findHeads 197 = .ok (.iload 7, 2) := by decide +kernel
theorem dX12_findHeads_199 : decode cX12_findHeads 199 = .ok (.iconst 1, 1) := by decide +kernel
theorem dX12_findHeads_200 : decode cX12_findHeads 200 = .ok (.isub, 1) := by decide +kernel
theorem dX12_findHeads_201 : decode cX12_findHeads 201 = .ok (.iaload, 1) := by decide +kernel
theorem dX12_findHeads_202 : decode cX12_findHeads 202 = .ok (.iastore, 1) := by decide +kernel
theorem dX12_findHeads_203 : decode cX12_findHeads 203 = .ok (.iinc 7 (-1), 3) := by decide +kernel
theorem dX12_findHeads_206 : decode cX12_findHeads 206 = .ok (.goto (-26), 3) := by decide +kernel
theorem dX12_findHeads_209 : decode cX12_findHeads 209 = .ok (.aload_n 0, 1) := by decide +kernel
theorem dX12_findHeads_210 : decode cX12_findHeads 210 = .ok (.getfield 61, 3) := by decide +kernel
theorem dX12_findHeads_213 : decode cX12_findHeads 213 = .ok (.iload 6, 2) := by decide +kernel
theorem dX12_findHeads_215 : decode cX12_findHeads 215 = .ok (.iload 5, 2) := by decide +kernel
theorem dX12_findHeads_217 : decode cX12_findHeads 217 = .ok (.iastore, 1) := by decide +kernel
theorem dX12_findHeads_218 : decode cX12_findHeads 218 = .ok (.aload_n 0, 1) := by decide +kernel
theorem dX12_findHeads_219 : decode cX12_findHeads 219 = .ok (.dup, 1) := by decide +kernel
theorem dX12_findHeads_220 : decode cX12_findHeads 220 = .ok (.getfield 195, 3) := by decide +kernel
theorem dX12_findHeads_223 : decode cX12_findHeads 223 = .ok (.iconst 1, 1) := by decide +kernel
theorem dX12_findHeads_224 : decode cX12_findHeads 224 = .ok (.iadd, 1) := by decide +kernel
theorem dX12_findHeads_225 : decode cX12_findHeads 225 = .ok (.putfield 195, 3) := by decide +kernel
theorem dX12_findHeads_228 : decode cX12_findHeads 228 = .ok (.iinc 4 1, 3) := by decide +kernel
theorem dX12_findHeads_231 : decode cX12_findHeads 231 = .ok (.goto (-211), 3) := by decide +kernel
theorem dX12_findHeads_234 : decode cX12_findHeads 234 = .ok (.iinc 3 1, 3) := by decide +kernel
theorem dX12_findHeads_237 : decode cX12_findHeads 237 = .ok (.goto (-230), 3) := by decide +kernel
theorem dX12_findHeads_240 : decode cX12_findHeads 240 = .ok (.return_, 1) := by decide +kernel
set_option maxRecDepth 20000 in
theorem ggX12_falseHeads_X12_isTold : GoodIn wsX12_falseHeads wsX12_isTold := goodIn_r _ [6, 7, 33, 34, 35, 36, 37, 38, 39, 40, 41, 42, 43, 44, 45, 46, 47, 48, 49, 50, 51, 52, 53, 54, 55, 56, 57, 58, 59, 60, 61, 62, 63, 64, 65, 66, 67, 68, 69, 70] (by decide +kernel) (by decide +kernel)
set_option maxRecDepth 20000 in
theorem gX12_falseHeads_X12_isTold : GoodIn wsX12_falseHeads (wsV RX12 150 RX12 yX12_isTold wsX12_isTold) := goodIn_app (goodIn_of _ (by decide +kernel)) ggX12_falseHeads_X12_isTold
set_option maxRecDepth 20000 in
theorem ggX12_falseHeads_X12_throwsIf : GoodIn wsX12_falseHeads wsX12_throwsIf := goodIn_r _ [11, 12, 33, 34, 35, 36, 37, 38, 39, 40, 41, 42, 43, 44, 45, 46, 47, 48, 49, 50, 51, 52, 53, 54, 55, 56, 57, 58, 59, 60, 61, 62, 63, 64, 65, 66, 67, 68, 69, 70] (by decide +kernel) (by decide +kernel)
set_option maxRecDepth 20000 in
theorem gX12_falseHeads_X12_throwsIf : GoodIn wsX12_falseHeads (wsV RX12 134 RX12 yX12_throwsIf wsX12_throwsIf) := goodIn_app (goodIn_of _ (by decide +kernel)) ggX12_falseHeads_X12_throwsIf
set_option maxRecDepth 20000 in
theorem ggX12_falseHeads_X12_findHeads : GoodIn wsX12_falseHeads wsX12_findHeads := goodIn_r _ [16, 1, 7, 17, 18, 19, 20, 21, 22, 5, 23, 24, 25, 26, 27, 28, 29, 30, 31, 32, 33, 34, 35, 36, 37, 38, 39, 40, 41, 42, 43, 44, 45, 46, 47, 48, 49, 50, 51, 52, 53, 54, 55, 56, 57, 58, 59, 60, 61, 62, 63, 64, 65, 66, 67, 68, 69, 70] (by decide +kernel) (by decide +kernel)
set_option maxRecDepth 20000 in
theorem gX12_falseHeads_X12_findHeads : GoodIn wsX12_falseHeads (wsV RX12 198 RX12 yX12_findHeads wsX12_findHeads) := goodIn_app (goodIn_of _ (by decide +kernel)) ggX12_falseHeads_X12_findHeads
theorem dX12_falseHeads_0 : decode cX12_falseHeads 0 = .ok (.aload_n 0, 1) := by decide +kernel
theorem dX12_falseHeads_1 : decode cX12_falseHeads 1 = .ok (.aload_n 0, 1) := by decide +kernel
theorem dX12_falseHeads_2 : decode cX12_falseHeads 2 = .ok (.iload_n 1, 1) := by decide +kernel
theorem dX12_falseHeads_3 : decode cX12_falseHeads 3 = .ok (.invokevirtual 150, 3) := by decide +kernel
theorem dX12_falseHeads_6 : decode cX12_falseHeads 6 = .ok (.ifCond .eq 11, 3) := by decide +kernel
theorem dX12_falseHeads_9 : decode cX12_falseHeads 9 = .ok (.aload_n 0, 1) := by decide +kernel
theorem dX12_falseHeads_10 : decode cX12_falseHeads 10 = .ok (.iload_n 2, 1) := by decide +kernel
theorem dX12_falseHeads_11 : decode cX12_falseHeads 11 = .ok (.invokevirtual 150, 3) := by decide +kernel
theorem dX12_falseHeads_14 : decode cX12_falseHeads 14 = .ok (.ifCond .ne 7, 3) := by decide +kernel
theorem dX12_falseHeads_17 : decode cX12_falseHeads 17 = .ok (.iconst 1, 1) := by decide +kernel
theorem dX12_falseHeads_18 : decode cX12_falseHeads 18 = .ok (.goto 4, 3) := by decide +kernel
theorem dX12_falseHeads_21 : decode cX12_falseHeads 21 = .ok (.iconst 0, 1) := by decide +kernel
theorem dX12_falseHeads_22 : decode cX12_falseHeads 22 = .ok (.iconst 1, 1) := by decide +kernel
theorem dX12_falseHeads_23 : decode cX12_falseHeads 23 = .ok (.invokevirtual 134, 3) := by decide +kernel
theorem dX12_falseHeads_26 : decode cX12_falseHeads 26 = .ok (.ifCond .eq 5, 3) := by decide +kernel
theorem dX12_falseHeads_29 : decode cX12_falseHeads 29 = .ok (.iconst 0, 1) := by decide +kernel
theorem dX12_falseHeads_30 : decode cX12_falseHeads 30 = .ok (.ireturn, 1) := by decide +kernel
theorem dX12_falseHeads_31 : decode cX12_falseHeads 31 = .ok (.aload_n 0, 1) := by decide +kernel
theorem dX12_falseHeads_32 : decode cX12_falseHeads 32 = .ok (.iload_n 1, 1) := by decide +kernel
theorem dX12_falseHeads_33 : decode cX12_falseHeads 33 = .ok (.iload_n 2, 1) := by decide +kernel
theorem dX12_falseHeads_34 : decode cX12_falseHeads 34 = .ok (.invokevirtual 198, 3) := by decide +kernel
theorem dX12_falseHeads_37 : decode cX12_falseHeads 37 = .ok (.aload_n 0, 1) := by decide +kernel
theorem dX12_falseHeads_38 : decode cX12_falseHeads 38 = .ok (.getfield 195, 3) := by decide +kernel
theorem dX12_falseHeads_41 : decode cX12_falseHeads 41 = .ok (.ireturn, 1) := by decide +kernel
set_option maxRecDepth 20000 in
theorem ggX12_falseHead_X12_isTold : GoodIn wsX12_falseHead wsX12_isTold := goodIn_r _ [7, 8, 33, 34, 35, 36, 37, 38, 39, 40, 41, 42, 43, 44, 45, 46, 47, 48, 49, 50, 51, 52, 53, 54, 55, 56, 57, 58, 59, 60, 61, 62, 63, 64, 65, 66, 67, 68, 69, 70] (by decide +kernel) (by decide +kernel)
set_option maxRecDepth 20000 in
theorem gX12_falseHead_X12_isTold : GoodIn wsX12_falseHead (wsV RX12 150 RX12 yX12_isTold wsX12_isTold) := goodIn_app (goodIn_of _ (by decide +kernel)) ggX12_falseHead_X12_isTold
set_option maxRecDepth 20000 in
theorem ggX12_falseHead_X12_throwsIf : GoodIn wsX12_falseHead wsX12_throwsIf := goodIn_r _ [12, 13, 33, 34, 35, 36, 37, 38, 39, 40, 41, 42, 43, 44, 45, 46, 47, 48, 49, 50, 51, 52, 53, 54, 55, 56, 57, 58, 59, 60, 61, 62, 63, 64, 65, 66, 67, 68, 69, 70] (by decide +kernel) (by decide +kernel)
set_option maxRecDepth 20000 in
theorem gX12_falseHead_X12_throwsIf : GoodIn wsX12_falseHead (wsV RX12 134 RX12 yX12_throwsIf wsX12_throwsIf) := goodIn_app (goodIn_of _ (by decide +kernel)) ggX12_falseHead_X12_throwsIf
set_option maxRecDepth 20000 in
theorem ggX12_falseHead_X12_findHeads : GoodIn wsX12_falseHead wsX12_findHeads := goodIn_r _ [17, 1, 8, 18, 19, 2, 20, 21, 22, 6, 23, 24, 25, 26, 27, 28, 29, 30, 31, 32, 33, 34, 35, 36, 37, 38, 39, 40, 41, 42, 43, 44, 45, 46, 47, 48, 49, 50, 51, 52, 53, 54, 55, 56, 57, 58, 59, 60, 61, 62, 63, 64, 65, 66, 67, 68, 69, 70] (by decide +kernel) (by decide +kernel)
set_option maxRecDepth 20000 in
theorem gX12_falseHead_X12_findHeads : GoodIn wsX12_falseHead (wsV RX12 198 RX12 yX12_findHeads wsX12_findHeads) := goodIn_app (goodIn_of _ (by decide +kernel)) ggX12_falseHead_X12_findHeads
theorem dX12_falseHead_0 : decode cX12_falseHead 0 = .ok (.aload_n 0, 1) := by decide +kernel
theorem dX12_falseHead_1 : decode cX12_falseHead 1 = .ok (.aload_n 0, 1) := by decide +kernel
theorem dX12_falseHead_2 : decode cX12_falseHead 2 = .ok (.iload_n 1, 1) := by decide +kernel
theorem dX12_falseHead_3 : decode cX12_falseHead 3 = .ok (.invokevirtual 150, 3) := by decide +kernel
theorem dX12_falseHead_6 : decode cX12_falseHead 6 = .ok (.ifCond .eq 11, 3) := by decide +kernel
theorem dX12_falseHead_9 : decode cX12_falseHead 9 = .ok (.aload_n 0, 1) := by decide +kernel
theorem dX12_falseHead_10 : decode cX12_falseHead 10 = .ok (.iload_n 2, 1) := by decide +kernel
theorem dX12_falseHead_11 : decode cX12_falseHead 11 = .ok (.invokevirtual 150, 3) := by decide +kernel
theorem dX12_falseHead_14 : decode cX12_falseHead 14 = .ok (.ifCond .ne 7, 3) := by decide +kernel
theorem dX12_falseHead_17 : decode cX12_falseHead 17 = .ok (.iconst 1, 1) := by decide +kernel
theorem dX12_falseHead_18 : decode cX12_falseHead 18 = .ok (.goto 4, 3) := by decide +kernel
theorem dX12_falseHead_21 : decode cX12_falseHead 21 = .ok (.iconst 0, 1) := by decide +kernel
theorem dX12_falseHead_22 : decode cX12_falseHead 22 = .ok (.iconst 1, 1) := by decide +kernel
theorem dX12_falseHead_23 : decode cX12_falseHead 23 = .ok (.invokevirtual 134, 3) := by decide +kernel
theorem dX12_falseHead_26 : decode cX12_falseHead 26 = .ok (.ifCond .eq 5, 3) := by decide +kernel
theorem dX12_falseHead_29 : decode cX12_falseHead 29 = .ok (.iconst 0, 1) := by decide +kernel
theorem dX12_falseHead_30 : decode cX12_falseHead 30 = .ok (.ireturn, 1) := by decide +kernel
theorem dX12_falseHead_31 : decode cX12_falseHead 31 = .ok (.aload_n 0, 1) := by decide +kernel
theorem dX12_falseHead_32 : decode cX12_falseHead 32 = .ok (.iload_n 1, 1) := by decide +kernel
theorem dX12_falseHead_33 : decode cX12_falseHead 33 = .ok (.iload_n 2, 1) := by decide +kernel
theorem dX12_falseHead_34 : decode cX12_falseHead 34 = .ok (.invokevirtual 198, 3) := by decide +kernel
theorem dX12_falseHead_37 : decode cX12_falseHead 37 = .ok (.iload_n 3, 1) := by decide +kernel
theorem dX12_falseHead_38 : decode cX12_falseHead 38 = .ok (.ifCond .lt 11, 3) := by decide +kernel
theorem dX12_falseHead_41 : decode cX12_falseHead 41 = .ok (.iload_n 3, 1) := by decide +kernel
theorem dX12_falseHead_42 : decode cX12_falseHead 42 = .ok (.aload_n 0, 1) := by decide +kernel
theorem dX12_falseHead_43 : decode cX12_falseHead 43 = .ok (.getfield 195, 3) := by decide +kernel
theorem dX12_falseHead_46 : decode cX12_falseHead 46 = .ok (.if_icmp .lt 7, 3) := by decide +kernel
theorem dX12_falseHead_49 : decode cX12_falseHead 49 = .ok (.iconst (-1), 1) := by decide +kernel
theorem dX12_falseHead_50 : decode cX12_falseHead 50 = .ok (.goto 9, 3) := by decide +kernel
theorem dX12_falseHead_53 : decode cX12_falseHead 53 = .ok (.aload_n 0, 1) := by decide +kernel
theorem dX12_falseHead_54 : decode cX12_falseHead 54 = .ok (.getfield 61, 3) := by decide +kernel
theorem dX12_falseHead_57 : decode cX12_falseHead 57 = .ok (.iload_n 3, 1) := by decide +kernel
theorem dX12_falseHead_58 : decode cX12_falseHead 58 = .ok (.iaload, 1) := by decide +kernel
theorem dX12_falseHead_59 : decode cX12_falseHead 59 = .ok (.ireturn, 1) := by decide +kernel
set_option maxRecDepth 20000 in
theorem ggX12_ringAll_X12_rounds : GoodIn wsX12_ringAll wsX12_rounds := goodIn_r _ [16, 17, 30, 31, 32, 33, 34, 35, 36, 37, 38, 39, 40, 41, 42, 43, 44, 45, 46, 47, 48, 49, 50, 51, 52, 53, 54, 55, 56, 57, 58, 59, 60, 61, 62, 63, 64, 65, 66, 67] (by decide +kernel) (by decide +kernel)
set_option maxRecDepth 20000 in
theorem gX12_ringAll_X12_rounds : GoodIn wsX12_ringAll (wsV RX12 175 RX12 yX12_rounds wsX12_rounds) := goodIn_app (goodIn_of _ (by decide +kernel)) ggX12_ringAll_X12_rounds
set_option maxRecDepth 20000 in
theorem ggX12_ringAll_X12_rank : GoodIn wsX12_ringAll wsX12_rank := goodIn_r _ [21, 17, 30, 31, 32, 33, 34, 35, 36, 37, 38, 39, 40, 41, 42, 43, 44, 45, 46, 47, 48, 49, 50, 51, 52, 53, 54, 55, 56, 57, 58, 59, 60, 61, 62, 63, 64, 65, 66, 67] (by decide +kernel) (by decide +kernel)
set_option maxRecDepth 20000 in
theorem gX12_ringAll_X12_rank : GoodIn wsX12_ringAll (wsV RX12 211 RX12 yX12_rank wsX12_rank) := goodIn_app (goodIn_of _ (by decide +kernel)) ggX12_ringAll_X12_rank
set_option maxRecDepth 20000 in
theorem ggX12_ringAll_X12_last : GoodIn wsX12_ringAll wsX12_last := goodIn_r _ [25, 10, 9, 30, 31, 32, 33, 34, 35, 36, 37, 38, 39, 40, 41, 42, 43, 44, 45, 46, 47, 48, 49, 50, 51, 52, 53, 54, 55, 56, 57, 58, 59, 60, 61, 62, 63, 64, 65, 66, 67] (by decide +kernel) (by decide +kernel)
set_option maxRecDepth 20000 in
theorem gX12_ringAll_X12_last : GoodIn wsX12_ringAll (wsV RX12 171 RX12 yX12_last wsX12_last) := goodIn_app (goodIn_of _ (by decide +kernel)) ggX12_ringAll_X12_last
set_option maxRecDepth 20000 in
theorem ggX12_ringAll_X12_ring : GoodIn wsX12_ringAll wsX12_ring := goodIn_r _ [29, 17, 30, 31, 32, 33, 34, 35, 36, 37, 38, 39, 40, 41, 42, 43, 44, 45, 46, 47, 48, 49, 50, 51, 52, 53, 54, 55, 56, 57, 58, 59, 60, 61, 62, 63, 64, 65, 66, 67] (by decide +kernel) (by decide +kernel)
set_option maxRecDepth 20000 in
theorem gX12_ringAll_X12_ring : GoodIn wsX12_ringAll (wsV RX12 167 RX12 yX12_ring wsX12_ring) := goodIn_app (goodIn_of _ (by decide +kernel)) ggX12_ringAll_X12_ring
theorem dX12_ringAll_0 : decode cX12_ringAll 0 = .ok (.iconst 0, 1) := by decide +kernel
theorem dX12_ringAll_1 : decode cX12_ringAll 1 = .ok (.istore_n 3, 1) := by decide +kernel
theorem dX12_ringAll_2 : decode cX12_ringAll 2 = .ok (.iload_n 3, 1) := by decide +kernel
theorem dX12_ringAll_3 : decode cX12_ringAll 3 = .ok (.ldc 64, 2) := by decide +kernel
theorem dX12_ringAll_5 : decode cX12_ringAll 5 = .ok (.if_icmp .ge 16, 3) := by decide +kernel
theorem dX12_ringAll_8 : decode cX12_ringAll 8 = .ok (.aload_n 0, 1) := by decide +kernel
theorem dX12_ringAll_9 : decode cX12_ringAll 9 = .ok (.getfield 65, 3) := by decide +kernel
theorem dX12_ringAll_12 : decode cX12_ringAll 12 = .ok (.iload_n 3, 1) := by decide +kernel
theorem dX12_ringAll_13 : decode cX12_ringAll 13 = .ok (.iconst (-1), 1) := by decide +kernel
theorem dX12_ringAll_14 : decode cX12_ringAll 14 = .ok (.iastore, 1) := by decide +kernel
theorem dX12_ringAll_15 : decode cX12_ringAll 15 = .ok (.iinc 3 1, 3) := by decide +kernel
theorem dX12_ringAll_18 : decode cX12_ringAll 18 = .ok (.goto (-16), 3) := by decide +kernel
theorem dX12_ringAll_21 : decode cX12_ringAll 21 = .ok (.aload_n 0, 1) := by decide +kernel
theorem dX12_ringAll_22 : decode cX12_ringAll 22 = .ok (.aload_n 0, 1) := by decide +kernel
theorem dX12_ringAll_23 : decode cX12_ringAll 23 = .ok (.getfield 55, 3) := by decide +kernel
theorem dX12_ringAll_26 : decode cX12_ringAll 26 = .ok (.invokevirtual 175, 3) := by decide +kernel
theorem dX12_ringAll_29 : decode cX12_ringAll 29 = .ok (.aload_n 0, 1) := by decide +kernel
theorem dX12_ringAll_30 : decode cX12_ringAll 30 = .ok (.iconst 0, 1) := by decide +kernel
theorem dX12_ringAll_31 : decode cX12_ringAll 31 = .ok (.putfield 202, 3) := by decide +kernel
theorem dX12_ringAll_34 : decode cX12_ringAll 34 = .ok (.aload_n 0, 1) := by decide +kernel
theorem dX12_ringAll_35 : decode cX12_ringAll 35 = .ok (.iconst (-1), 1) := by decide +kernel
theorem dX12_ringAll_36 : decode cX12_ringAll 36 = .ok (.putfield 205, 3) := by decide +kernel
theorem dX12_ringAll_39 : decode cX12_ringAll 39 = .ok (.aload_n 0, 1) := by decide +kernel
theorem dX12_ringAll_40 : decode cX12_ringAll 40 = .ok (.iconst (-1), 1) := by decide +kernel
theorem dX12_ringAll_41 : decode cX12_ringAll 41 = .ok (.putfield 208, 3) := by decide +kernel
theorem dX12_ringAll_44 : decode cX12_ringAll 44 = .ok (.iconst 0, 1) := by decide +kernel
theorem dX12_ringAll_45 : decode cX12_ringAll 45 = .ok (.istore_n 3, 1) := by decide +kernel
theorem dX12_ringAll_46 : decode cX12_ringAll 46 = .ok (.iload_n 3, 1) := by decide +kernel
theorem dX12_ringAll_47 : decode cX12_ringAll 47 = .ok (.iload_n 1, 1) := by decide +kernel
theorem dX12_ringAll_48 : decode cX12_ringAll 48 = .ok (.if_icmp .ge 194, 3) := by decide +kernel
theorem dX12_ringAll_51 : decode cX12_ringAll 51 = .ok (.iconst 0, 1) := by decide +kernel
theorem dX12_ringAll_52 : decode cX12_ringAll 52 = .ok (.istore 4, 2) := by decide +kernel
theorem dX12_ringAll_54 : decode cX12_ringAll 54 = .ok (.iload 4, 2) := by decide +kernel
theorem dX12_ringAll_56 : decode cX12_ringAll 56 = .ok (.aload_n 0, 1) := by decide +kernel
theorem dX12_ringAll_57 : decode cX12_ringAll 57 = .ok (.getfield 107, 3) := by decide +kernel
theorem dX12_ringAll_60 : decode cX12_ringAll 60 = .ok (.if_icmp .ge 176, 3) := by decide +kernel
theorem dX12_ringAll_63 : decode cX12_ringAll 63 = .ok (.aload_n 0, 1) := by decide +kernel
theorem dX12_ringAll_64 : decode cX12_ringAll 64 = .ok (.getfield 20, 3) := by decide +kernel
theorem dX12_ringAll_67 : decode cX12_ringAll 67 = .ok (.iload 4, 2) := by decide +kernel
theorem dX12_ringAll_69 : decode cX12_ringAll 69 = .ok (.iaload, 1) := by decide +kernel
theorem dX12_ringAll_70 : decode cX12_ringAll 70 = .ok (.istore 5, 2) := by decide +kernel
theorem dX12_ringAll_72 : decode cX12_ringAll 72 = .ok (.iconst 0, 1) := by decide +kernel
theorem dX12_ringAll_73 : decode cX12_ringAll 73 = .ok (.istore 6, 2) := by decide +kernel
theorem dX12_ringAll_75 : decode cX12_ringAll 75 = .ok (.iload 6, 2) := by decide +kernel
theorem dX12_ringAll_77 : decode cX12_ringAll 77 = .ok (.aload_n 0, 1) := by decide +kernel
theorem dX12_ringAll_78 : decode cX12_ringAll 78 = .ok (.getfield 13, 3) := by decide +kernel
theorem dX12_ringAll_81 : decode cX12_ringAll 81 = .ok (.iload 5, 2) := by decide +kernel
theorem dX12_ringAll_83 : decode cX12_ringAll 83 = .ok (.iaload, 1) := by decide +kernel
theorem dX12_ringAll_84 : decode cX12_ringAll 84 = .ok (.if_icmp .ge 146, 3) := by decide +kernel
theorem dX12_ringAll_87 : decode cX12_ringAll 87 = .ok (.aload_n 0, 1) := by decide +kernel
theorem dX12_ringAll_88 : decode cX12_ringAll 88 = .ok (.aload_n 0, 1) := by decide +kernel
theorem dX12_ringAll_89 : decode cX12_ringAll 89 = .ok (.getfield 55, 3) := by decide +kernel
theorem dX12_ringAll_92 : decode cX12_ringAll 92 = .ok (.invokevirtual 211, 3) := by decide +kernel
theorem dX12_ringAll_95 : decode cX12_ringAll 95 = .ok (.istore 7, 2) := by decide +kernel
theorem dX12_ringAll_97 : decode cX12_ringAll 97 = .ok (.aload_n 0, 1) := by decide +kernel
theorem dX12_ringAll_98 : decode cX12_ringAll 98 = .ok (.getfield 205, 3) := by decide +kernel
theorem dX12_ringAll_101 : decode cX12_ringAll 101 = .ok (.ifCond .ge 32, 3) := by decide +kernel
theorem dX12_ringAll_104 : decode cX12_ringAll 104 = .ok (.aload_n 0, 1) := by decide +kernel
theorem dX12_ringAll_105 : decode cX12_ringAll 105 = .ok (.getfield 65, 3) := by decide +kernel
theorem dX12_ringAll_108 : decode cX12_ringAll 108 = .ok (.iload 7, 2) := by decide +kernel
theorem dX12_ringAll_110 : decode cX12_ringAll 110 = .ok (.iaload, 1) := by decide +kernel
theorem dX12_ringAll_111 : decode cX12_ringAll 111 = .ok (.ifCond .lt 22, 3) := by decide +kernel
theorem dX12_ringAll_114 : decode cX12_ringAll 114 = .ok (.aload_n 0, 1) := by decide +kernel
theorem dX12_ringAll_115 : decode cX12_ringAll 115 = .ok (.aload_n 0, 1) := by decide +kernel
theorem dX12_ringAll_116 : decode cX12_ringAll 116 = .ok (.getfield 202, 3) := by decide +kernel
theorem dX12_ringAll_119 : decode cX12_ringAll 119 = .ok (.putfield 205, 3) := by decide +kernel
theorem dX12_ringAll_122 : decode cX12_ringAll 122 = .ok (.aload_n 0, 1) := by decide +kernel
theorem dX12_ringAll_123 : decode cX12_ringAll 123 = .ok (.aload_n 0, 1) := by decide +kernel
theorem dX12_ringAll_124 : decode cX12_ringAll 124 = .ok (.getfield 65, 3) := by decide +kernel
theorem dX12_ringAll_127 : decode cX12_ringAll 127 = .ok (.iload 7, 2) := by decide +kernel
theorem dX12_ringAll_129 : decode cX12_ringAll 129 = .ok (.iaload, 1) := by decide +kernel
theorem dX12_ringAll_130 : decode cX12_ringAll 130 = .ok (.putfield 208, 3) := by decide +kernel
theorem dX12_ringAll_133 : decode cX12_ringAll 133 = .ok (.aload_n 0, 1) := by decide +kernel
theorem dX12_ringAll_134 : decode cX12_ringAll 134 = .ok (.getfield 65, 3) := by decide +kernel
theorem dX12_ringAll_137 : decode cX12_ringAll 137 = .ok (.iload 7, 2) := by decide +kernel
theorem dX12_ringAll_139 : decode cX12_ringAll 139 = .ok (.iaload, 1) := by decide +kernel
theorem dX12_ringAll_140 : decode cX12_ringAll 140 = .ok (.ifCond .ge 14, 3) := by decide +kernel
theorem dX12_ringAll_143 : decode cX12_ringAll 143 = .ok (.aload_n 0, 1) := by decide +kernel
theorem dX12_ringAll_144 : decode cX12_ringAll 144 = .ok (.getfield 65, 3) := by decide +kernel
theorem dX12_ringAll_147 : decode cX12_ringAll 147 = .ok (.iload 7, 2) := by decide +kernel
theorem dX12_ringAll_149 : decode cX12_ringAll 149 = .ok (.aload_n 0, 1) := by decide +kernel
theorem dX12_ringAll_150 : decode cX12_ringAll 150 = .ok (.getfield 202, 3) := by decide +kernel
theorem dX12_ringAll_153 : decode cX12_ringAll 153 = .ok (.iastore, 1) := by decide +kernel
theorem dX12_ringAll_154 : decode cX12_ringAll 154 = .ok (.aload_n 0, 1) := by decide +kernel
theorem dX12_ringAll_155 : decode cX12_ringAll 155 = .ok (.getfield 202, 3) := by decide +kernel
theorem dX12_ringAll_158 : decode cX12_ringAll 158 = .ok (.iload_n 2, 1) := by decide +kernel
theorem dX12_ringAll_159 : decode cX12_ringAll 159 = .ok (.if_icmp .ne 4, 3) := by decide +kernel
theorem dX12_ringAll_162 : decode cX12_ringAll 162 = .ok (.return_, 1) := by decide +kernel
theorem dX12_ringAll_163 : decode cX12_ringAll 163 = .ok (.aload_n 0, 1) := by decide +kernel
theorem dX12_ringAll_164 : decode cX12_ringAll 164 = .ok (.dup, 1) := by decide +kernel
theorem dX12_ringAll_165 : decode cX12_ringAll 165 = .ok (.getfield 202, 3) := by decide +kernel
theorem dX12_ringAll_168 : decode cX12_ringAll 168 = .ok (.iconst 1, 1) := by decide +kernel
theorem dX12_ringAll_169 : decode cX12_ringAll 169 = .ok (.iadd, 1) := by decide +kernel
theorem dX12_ringAll_170 : decode cX12_ringAll 170 = .ok (.putfield 202, 3) := by decide +kernel
theorem dX12_ringAll_173 : decode cX12_ringAll 173 = .ok (.aload_n 0, 1) := by decide +kernel
theorem dX12_ringAll_174 : decode cX12_ringAll 174 = .ok (.aload_n 0, 1) := by decide +kernel
theorem dX12_ringAll_175 : decode cX12_ringAll 175 = .ok (.getfield 55, 3) := by decide +kernel
theorem dX12_ringAll_178 : decode cX12_ringAll 178 = .ok (.iload 6, 2) := by decide +kernel
theorem dX12_ringAll_180 : decode cX12_ringAll 180 = .ok (.iconst 1, 1) := by decide +kernel
theorem dX12_ringAll_181 : decode cX12_ringAll 181 = .ok (.iadd, 1) := by decide +kernel
theorem dX12_ringAll_182 : decode cX12_ringAll 182 = .ok (.aload_n 0, 1) := by decide +kernel
theorem dX12_ringAll_183 : decode cX12_ringAll 183 = .ok (.getfield 13, 3) := by decide +kernel
theorem dX12_ringAll_186 : decode cX12_ringAll 186 = .ok (.iload 5, 2) := by decide +kernel
theorem dX12_ringAll_188 : decode cX12_ringAll 188 = .ok (.iaload, 1) := by decide +kernel
theorem dX12_ringAll_189 : decode cX12_ringAll 189 = .ok (.if_icmp .ge 19, 3) := by decide +kernel
theorem dX12_ringAll_192 : decode cX12_ringAll 192 = .ok (.aload_n 0, 1) := by decide +kernel
theorem dX12_ringAll_193 : decode cX12_ringAll 193 = .ok (.getfield 17, 3) := by decide +kernel
theorem dX12_ringAll_196 : decode cX12_ringAll 196 = .ok (.bipush 66, 2) := by decide +kernel
theorem dX12_ringAll_198 : decode cX12_ringAll 198 = .ok (.iload 5, 2) := by decide +kernel
theorem dX12_ringAll_200 : decode cX12_ringAll 200 = .ok (.imul, 1) := by decide +kernel
theorem dX12_ringAll_201 : decode cX12_ringAll 201 = .ok (.iload 6, 2) := by decide +kernel
theorem dX12_ringAll_203 : decode cX12_ringAll 203 = .ok (.iadd, 1) := by decide +kernel
theorem dX12_ringAll_204 : decode cX12_ringAll 204 = .ok (.iaload, 1) := by decide +kernel
theorem dX12_ringAll_205 : decode cX12_ringAll 205 = .ok (.goto 16, 3) := by decide +kernel
theorem dX12_ringAll_208 : decode cX12_ringAll 208 = .ok (.aload_n 0, 1) := by decide +kernel
theorem dX12_ringAll_209 : decode cX12_ringAll 209 = .ok (.iload 5, 2) := by decide +kernel
theorem dX12_ringAll_211 : decode cX12_ringAll 211 = .ok (.aload_n 0, 1) := by decide +kernel
theorem dX12_ringAll_212 : decode cX12_ringAll 212 = .ok (.getfield 23, 3) := by decide +kernel
theorem dX12_ringAll_215 : decode cX12_ringAll 215 = .ok (.iload 4, 2) := by decide +kernel
theorem dX12_ringAll_217 : decode cX12_ringAll 217 = .ok (.iaload, 1) := by decide +kernel
theorem dX12_ringAll_218 : decode cX12_ringAll 218 = .ok (.invokevirtual 171, 3) := by decide +kernel
theorem dX12_ringAll_221 : decode cX12_ringAll 221 = .ok (.invokevirtual 167, 3) := by decide +kernel
theorem dX12_ringAll_224 : decode cX12_ringAll 224 = .ok (.iinc 6 1, 3) := by decide +kernel
theorem dX12_ringAll_227 : decode cX12_ringAll 227 = .ok (.goto (-152), 3) := by decide +kernel
theorem dX12_ringAll_230 : decode cX12_ringAll 230 = .ok (.iinc 4 1, 3) := by decide +kernel
theorem dX12_ringAll_233 : decode cX12_ringAll 233 = .ok (.goto (-179), 3) := by decide +kernel
theorem dX12_ringAll_236 : decode cX12_ringAll 236 = .ok (.iinc 3 1, 3) := by decide +kernel
theorem dX12_ringAll_239 : decode cX12_ringAll 239 = .ok (.goto (-193), 3) := by decide +kernel
theorem dX12_ringAll_242 : decode cX12_ringAll 242 = .ok (.return_, 1) := by decide +kernel
set_option maxRecDepth 20000 in
theorem ggX12_order_X12_rounds : GoodIn wsX12_order wsX12_rounds := goodIn_r _ [9, 3, 14, 15, 16, 17, 18, 19, 20, 21, 22, 23, 24, 25, 26, 27, 28, 29, 30, 31, 32, 33, 34, 35, 36, 37, 38, 39, 40, 41, 42, 43, 44, 45, 46, 47, 48, 49, 50, 51] (by decide +kernel) (by decide +kernel)
set_option maxRecDepth 20000 in
theorem gX12_order_X12_rounds : GoodIn wsX12_order (wsV RX12 175 RX12 yX12_rounds wsX12_rounds) := goodIn_app (goodIn_of _ (by decide +kernel)) ggX12_order_X12_rounds
set_option maxRecDepth 20000 in
theorem ggX12_order_X12_isRounds : GoodIn wsX12_order wsX12_isRounds := goodIn_r _ [13, 3, 14, 15, 16, 17, 18, 19, 20, 21, 22, 23, 24, 25, 26, 27, 28, 29, 30, 31, 32, 33, 34, 35, 36, 37, 38, 39, 40, 41, 42, 43, 44, 45, 46, 47, 48, 49, 50, 51] (by decide +kernel) (by decide +kernel)
set_option maxRecDepth 20000 in
theorem gX12_order_X12_isRounds : GoodIn wsX12_order (wsV RX12 187 RX12 yX12_isRounds wsX12_isRounds) := goodIn_app (goodIn_of _ (by decide +kernel)) ggX12_order_X12_isRounds
theorem dX12_order_0 : decode cX12_order 0 = .ok (.iconst 0, 1) := by decide +kernel
theorem dX12_order_1 : decode cX12_order 1 = .ok (.istore_n 1, 1) := by decide +kernel
theorem dX12_order_2 : decode cX12_order 2 = .ok (.aload_n 0, 1) := by decide +kernel
theorem dX12_order_3 : decode cX12_order 3 = .ok (.aload_n 0, 1) := by decide +kernel
theorem dX12_order_4 : decode cX12_order 4 = .ok (.getfield 58, 3) := by decide +kernel
theorem dX12_order_7 : decode cX12_order 7 = .ok (.invokevirtual 175, 3) := by decide +kernel
theorem dX12_order_10 : decode cX12_order 10 = .ok (.aload_n 0, 1) := by decide +kernel
theorem dX12_order_11 : decode cX12_order 11 = .ok (.getfield 55, 3) := by decide +kernel
theorem dX12_order_14 : decode cX12_order 14 = .ok (.astore_n 2, 1) := by decide +kernel
theorem dX12_order_15 : decode cX12_order 15 = .ok (.iconst 0, 1) := by decide +kernel
theorem dX12_order_16 : decode cX12_order 16 = .ok (.istore_n 3, 1) := by decide +kernel
theorem dX12_order_17 : decode cX12_order 17 = .ok (.iload_n 3, 1) := by decide +kernel
theorem dX12_order_18 : decode cX12_order 18 = .ok (.aload_n 0, 1) := by decide +kernel
theorem dX12_order_19 : decode cX12_order 19 = .ok (.getfield 7, 3) := by decide +kernel
theorem dX12_order_22 : decode cX12_order 22 = .ok (.if_icmp .ge 26, 3) := by decide +kernel
theorem dX12_order_25 : decode cX12_order 25 = .ok (.aload_n 0, 1) := by decide +kernel
theorem dX12_order_26 : decode cX12_order 26 = .ok (.getfield 48, 3) := by decide +kernel
theorem dX12_order_29 : decode cX12_order 29 = .ok (.iload_n 3, 1) := by decide +kernel
theorem dX12_order_30 : decode cX12_order 30 = .ok (.aload_n 0, 1) := by decide +kernel
theorem dX12_order_31 : decode cX12_order 31 = .ok (.getfield 58, 3) := by decide +kernel
theorem dX12_order_34 : decode cX12_order 34 = .ok (.aload_n 2, 1) := by decide +kernel
theorem dX12_order_35 : decode cX12_order 35 = .ok (.iload_n 3, 1) := by decide +kernel
theorem dX12_order_36 : decode cX12_order 36 = .ok (.iaload, 1) := by decide +kernel
theorem dX12_order_37 : decode cX12_order 37 = .ok (.iconst 1, 1) := by decide +kernel
theorem dX12_order_38 : decode cX12_order 38 = .ok (.isub, 1) := by decide +kernel
theorem dX12_order_39 : decode cX12_order 39 = .ok (.iaload, 1) := by decide +kernel
theorem dX12_order_40 : decode cX12_order 40 = .ok (.i2l, 1) := by decide +kernel
theorem dX12_order_41 : decode cX12_order 41 = .ok (.lastore, 1) := by decide +kernel
theorem dX12_order_42 : decode cX12_order 42 = .ok (.iinc 3 1, 3) := by decide +kernel
theorem dX12_order_45 : decode cX12_order 45 = .ok (.goto (-28), 3) := by decide +kernel
theorem dX12_order_48 : decode cX12_order 48 = .ok (.iconst 0, 1) := by decide +kernel
theorem dX12_order_49 : decode cX12_order 49 = .ok (.istore_n 3, 1) := by decide +kernel
theorem dX12_order_50 : decode cX12_order 50 = .ok (.iload_n 3, 1) := by decide +kernel
theorem dX12_order_51 : decode cX12_order 51 = .ok (.aload_n 0, 1) := by decide +kernel
theorem dX12_order_52 : decode cX12_order 52 = .ok (.getfield 7, 3) := by decide +kernel
theorem dX12_order_55 : decode cX12_order 55 = .ok (.if_icmp .ge 22, 3) := by decide +kernel
theorem dX12_order_58 : decode cX12_order 58 = .ok (.aload_n 0, 1) := by decide +kernel
theorem dX12_order_59 : decode cX12_order 59 = .ok (.getfield 58, 3) := by decide +kernel
theorem dX12_order_62 : decode cX12_order 62 = .ok (.iload_n 3, 1) := by decide +kernel
theorem dX12_order_63 : decode cX12_order 63 = .ok (.aload_n 0, 1) := by decide +kernel
theorem dX12_order_64 : decode cX12_order 64 = .ok (.getfield 48, 3) := by decide +kernel
theorem dX12_order_67 : decode cX12_order 67 = .ok (.iload_n 3, 1) := by decide +kernel
theorem dX12_order_68 : decode cX12_order 68 = .ok (.laload, 1) := by decide +kernel
theorem dX12_order_69 : decode cX12_order 69 = .ok (.l2i, 1) := by decide +kernel
theorem dX12_order_70 : decode cX12_order 70 = .ok (.iastore, 1) := by decide +kernel
theorem dX12_order_71 : decode cX12_order 71 = .ok (.iinc 3 1, 3) := by decide +kernel
theorem dX12_order_74 : decode cX12_order 74 = .ok (.goto (-24), 3) := by decide +kernel
theorem dX12_order_77 : decode cX12_order 77 = .ok (.iinc 1 1, 3) := by decide +kernel
theorem dX12_order_80 : decode cX12_order 80 = .ok (.aload_n 0, 1) := by decide +kernel
theorem dX12_order_81 : decode cX12_order 81 = .ok (.aload_n 0, 1) := by decide +kernel
theorem dX12_order_82 : decode cX12_order 82 = .ok (.getfield 58, 3) := by decide +kernel
theorem dX12_order_85 : decode cX12_order 85 = .ok (.invokevirtual 187, 3) := by decide +kernel
theorem dX12_order_88 : decode cX12_order 88 = .ok (.ifCond .eq (-78), 3) := by decide +kernel
theorem dX12_order_91 : decode cX12_order 91 = .ok (.iload_n 1, 1) := by decide +kernel
theorem dX12_order_92 : decode cX12_order 92 = .ok (.ireturn, 1) := by decide +kernel
set_option maxRecDepth 20000 in
theorem ggX12_touch_X12_ringAll : GoodIn wsX12_touch wsX12_ringAll := goodIn_r _ [13, 14, 15, 8, 5, 6, 7, 2, 4, 16, 17, 3, 18, 19, 20, 12, 21, 22, 23, 24, 25, 26, 27, 28, 29, 30, 31, 32, 33, 34, 49, 50, 51, 52, 53, 54, 55, 56, 57, 58, 59, 60, 61, 62, 63, 64, 65, 66, 67, 68, 69, 70, 71, 72, 73, 74, 75, 76, 77, 78, 79, 80, 81, 82, 83, 84, 85, 86] (by decide +kernel) (by decide +kernel)
set_option maxRecDepth 20000 in
theorem gX12_touch_X12_ringAll : GoodIn wsX12_touch (wsV RX12 214 RX12 yX12_ringAll wsX12_ringAll) := goodIn_app (goodIn_of _ (by decide +kernel)) ggX12_touch_X12_ringAll
set_option maxRecDepth 20000 in
theorem ggX12_touch_X12_number : GoodIn wsX12_touch wsX12_number := goodIn_r _ [38, 22, 49, 50, 51, 52, 53, 54, 55, 56, 57, 58, 59, 60, 61, 62, 63, 64, 65, 66, 67, 68, 69, 70, 71, 72, 73, 74, 75, 76, 77, 78, 79, 80, 81, 82, 83, 84, 85, 86] (by decide +kernel) (by decide +kernel)
set_option maxRecDepth 20000 in
theorem gX12_touch_X12_number : GoodIn wsX12_touch (wsV RX12 179 RX12 yX12_number wsX12_number) := goodIn_app (goodIn_of _ (by decide +kernel)) ggX12_touch_X12_number
set_option maxRecDepth 20000 in
theorem ggX12_touch_X12_isRounds : GoodIn wsX12_touch wsX12_isRounds := goodIn_r _ [42, 22, 49, 50, 51, 52, 53, 54, 55, 56, 57, 58, 59, 60, 61, 62, 63, 64, 65, 66, 67, 68, 69, 70, 71, 72, 73, 74, 75, 76, 77, 78, 79, 80, 81, 82, 83, 84, 85, 86] (by decide +kernel) (by decide +kernel)
set_option maxRecDepth 20000 in
theorem gX12_touch_X12_isRounds : GoodIn wsX12_touch (wsV RX12 187 RX12 yX12_isRounds wsX12_isRounds) := goodIn_app (goodIn_of _ (by decide +kernel)) ggX12_touch_X12_isRounds
set_option maxRecDepth 20000 in
theorem ggX12_touch_X12_order : GoodIn wsX12_touch wsX12_order := goodIn_r _ [46, 47, 8, 22, 48, 18, 19, 20, 12, 21, 39, 40, 41, 42, 49, 50, 51, 52, 53, 54, 55, 56, 57, 58, 59, 60, 61, 62, 63, 64, 65, 66, 67, 68, 69, 70, 71, 72, 73, 74, 75, 76, 77, 78, 79, 80, 81, 82, 83, 84, 85, 86] (by decide +kernel) (by decide +kernel)
set_option maxRecDepth 20000 in
theorem gX12_touch_X12_order : GoodIn wsX12_touch (wsV RX12 217 RX12 yX12_order wsX12_order) := goodIn_app (goodIn_of _ (by decide +kernel)) ggX12_touch_X12_order
theorem dX12_touch_0 : decode cX12_touch 0 = .ok (.aload_n 0, 1) := by decide +kernel
theorem dX12_touch_1 : decode cX12_touch 1 = .ok (.iconst 0, 1) := by decide +kernel
theorem dX12_touch_2 : decode cX12_touch 2 = .ok (.putfield 81, 3) := by decide +kernel
theorem dX12_touch_5 : decode cX12_touch 5 = .ok (.iload_n 1, 1) := by decide +kernel
theorem dX12_touch_6 : decode cX12_touch 6 = .ok (.ifCond .lt 9, 3) := by decide +kernel
theorem dX12_touch_9 : decode cX12_touch 9 = .ok (.iload_n 1, 1) := by decide +kernel
theorem dX12_touch_10 : decode cX12_touch 10 = .ok (.bipush 10, 2) := by decide +kernel
theorem dX12_touch_12 : decode cX12_touch 12 = .ok (.if_icmp .le 5, 3) := by decide +kernel
theorem dX12_touch_15 : decode cX12_touch 15 = .ok (.iconst (-1), 1) := by decide +kernel
theorem dX12_touch_16 : decode cX12_touch 16 = .ok (.ireturn, 1) := by decide +kernel
theorem dX12_touch_17 : decode cX12_touch 17 = .ok (.iload_n 1, 1) := by decide +kernel
theorem dX12_touch_18 : decode cX12_touch 18 = .ok (.ifCond .ne 8, 3) := by decide +kernel
theorem dX12_touch_21 : decode cX12_touch 21 = .ok (.aload_n 0, 1) := by decide +kernel
theorem dX12_touch_22 : decode cX12_touch 22 = .ok (.getfield 107, 3) := by decide +kernel
theorem dX12_touch_25 : decode cX12_touch 25 = .ok (.ireturn, 1) := by decide +kernel
theorem dX12_touch_26 : decode cX12_touch 26 = .ok (.iload_n 1, 1) := by decide +kernel
theorem dX12_touch_27 : decode cX12_touch 27 = .ok (.bipush 7, 2) := by decide +kernel
theorem dX12_touch_29 : decode cX12_touch 29 = .ok (.if_icmp .le 79, 3) := by decide +kernel
theorem dX12_touch_32 : decode cX12_touch 32 = .ok (.iconst 0, 1) := by decide +kernel
theorem dX12_touch_33 : decode cX12_touch 33 = .ok (.istore_n 2, 1) := by decide +kernel
theorem dX12_touch_34 : decode cX12_touch 34 = .ok (.iconst 0, 1) := by decide +kernel
theorem dX12_touch_35 : decode cX12_touch 35 = .ok (.istore_n 3, 1) := by decide +kernel
theorem dX12_touch_36 : decode cX12_touch 36 = .ok (.iload_n 3, 1) := by decide +kernel
theorem dX12_touch_37 : decode cX12_touch 37 = .ok (.aload_n 0, 1) := by decide +kernel
theorem dX12_touch_38 : decode cX12_touch 38 = .ok (.getfield 107, 3) := by decide +kernel
theorem dX12_touch_41 : decode cX12_touch 41 = .ok (.if_icmp .ge 65, 3) := by decide +kernel
theorem dX12_touch_44 : decode cX12_touch 44 = .ok (.iload_n 2, 1) := by decide +kernel
theorem dX12_touch_45 : decode cX12_touch 45 = .ok (.iload_n 1, 1) := by decide +kernel
theorem dX12_touch_46 : decode cX12_touch 46 = .ok (.bipush 10, 2) := by decide +kernel
theorem dX12_touch_48 : decode cX12_touch 48 = .ok (.if_icmp .ge 24, 3) := by decide +kernel
theorem dX12_touch_51 : decode cX12_touch 51 = .ok (.aload_n 0, 1) := by decide +kernel
theorem dX12_touch_52 : decode cX12_touch 52 = .ok (.getfield 23, 3) := by decide +kernel
theorem dX12_touch_55 : decode cX12_touch 55 = .ok (.iload_n 3, 1) := by decide +kernel
theorem dX12_touch_56 : decode cX12_touch 56 = .ok (.iaload, 1) := by decide +kernel
theorem dX12_touch_57 : decode cX12_touch 57 = .ok (.iload_n 1, 1) := by decide +kernel
theorem dX12_touch_58 : decode cX12_touch 58 = .ok (.bipush 7, 2) := by decide +kernel
theorem dX12_touch_60 : decode cX12_touch 60 = .ok (.isub, 1) := by decide +kernel
theorem dX12_touch_61 : decode cX12_touch 61 = .ok (.if_icmp .ne 7, 3) := by decide +kernel
theorem dX12_touch_64 : decode cX12_touch 64 = .ok (.iconst 1, 1) := by decide +kernel
theorem dX12_touch_65 : decode cX12_touch 65 = .ok (.goto 33, 3) := by decide +kernel
theorem dX12_touch_68 : decode cX12_touch 68 = .ok (.iconst 0, 1) := by decide +kernel
theorem dX12_touch_69 : decode cX12_touch 69 = .ok (.goto 29, 3) := by decide +kernel
theorem dX12_touch_72 : decode cX12_touch 72 = .ok (.iload_n 3, 1) := by decide +kernel
theorem dX12_touch_73 : decode cX12_touch 73 = .ok (.ifCond .le 24, 3) := by decide +kernel
theorem dX12_touch_76 : decode cX12_touch 76 = .ok (.aload_n 0, 1) := by decide +kernel
theorem dX12_touch_77 : decode cX12_touch 77 = .ok (.getfield 20, 3) := by decide +kernel
theorem dX12_touch_80 : decode cX12_touch 80 = .ok (.iload_n 3, 1) := by decide +kernel
theorem dX12_touch_81 : decode cX12_touch 81 = .ok (.iaload, 1) := by decide +kernel
theorem dX12_touch_82 : decode cX12_touch 82 = .ok (.aload_n 0, 1) := by decide +kernel
theorem dX12_touch_83 : decode cX12_touch 83 = .ok (.getfield 20, 3) := by decide +kernel
theorem dX12_touch_86 : decode cX12_touch 86 = .ok (.iload_n 3, 1) := by decide +kernel
theorem dX12_touch_87 : decode cX12_touch 87 = .ok (.iconst 1, 1) := by decide +kernel
theorem dX12_touch_88 : decode cX12_touch 88 = .ok (.isub, 1) := by decide +kernel
theorem dX12_touch_89 : decode cX12_touch 89 = .ok (.iaload, 1) := by decide +kernel
theorem dX12_touch_90 : decode cX12_touch 90 = .ok (.if_icmp .eq 7, 3) := by decide +kernel
theorem dX12_touch_93 : decode cX12_touch 93 = .ok (.iconst 1, 1) := by decide +kernel
theorem dX12_touch_94 : decode cX12_touch 94 = .ok (.goto 4, 3) := by decide +kernel
theorem dX12_touch_97 : decode cX12_touch 97 = .ok (.iconst 0, 1) := by decide +kernel
theorem dX12_touch_98 : decode cX12_touch 98 = .ok (.iadd, 1) := by decide +kernel
theorem dX12_touch_99 : decode cX12_touch 99 = .ok (.istore_n 2, 1) := by decide +kernel
theorem dX12_touch_100 : decode cX12_touch 100 = .ok (.iinc 3 1, 3) := by decide +kernel
theorem dX12_touch_103 : decode cX12_touch 103 = .ok (.goto (-67), 3) := by decide +kernel
theorem dX12_touch_106 : decode cX12_touch 106 = .ok (.iload_n 2, 1) := by decide +kernel
theorem dX12_touch_107 : decode cX12_touch 107 = .ok (.ireturn, 1) := by decide +kernel
theorem dX12_touch_108 : decode cX12_touch 108 = .ok (.aload_n 0, 1) := by decide +kernel
theorem dX12_touch_109 : decode cX12_touch 109 = .ok (.iconst 1, 1) := by decide +kernel
theorem dX12_touch_110 : decode cX12_touch 110 = .ok (.iconst (-1), 1) := by decide +kernel
theorem dX12_touch_111 : decode cX12_touch 111 = .ok (.invokevirtual 214, 3) := by decide +kernel
theorem dX12_touch_114 : decode cX12_touch 114 = .ok (.iload_n 1, 1) := by decide +kernel
theorem dX12_touch_115 : decode cX12_touch 115 = .ok (.tableswitch 91 1 6 #[37, 42, 55, 60, 65, 74], 37) := by decide +kernel
theorem dX12_touch_152 : decode cX12_touch 152 = .ok (.aload_n 0, 1) := by decide +kernel
theorem dX12_touch_153 : decode cX12_touch 153 = .ok (.getfield 202, 3) := by decide +kernel
theorem dX12_touch_156 : decode cX12_touch 156 = .ok (.ireturn, 1) := by decide +kernel
theorem dX12_touch_157 : decode cX12_touch 157 = .ok (.aload_n 0, 1) := by decide +kernel
theorem dX12_touch_158 : decode cX12_touch 158 = .ok (.getfield 205, 3) := by decide +kernel
theorem dX12_touch_161 : decode cX12_touch 161 = .ok (.ifCond .ge 7, 3) := by decide +kernel
theorem dX12_touch_164 : decode cX12_touch 164 = .ok (.iconst 1, 1) := by decide +kernel
theorem dX12_touch_165 : decode cX12_touch 165 = .ok (.goto 4, 3) := by decide +kernel
theorem dX12_touch_168 : decode cX12_touch 168 = .ok (.iconst 0, 1) := by decide +kernel
theorem dX12_touch_169 : decode cX12_touch 169 = .ok (.ireturn, 1) := by decide +kernel
theorem dX12_touch_170 : decode cX12_touch 170 = .ok (.aload_n 0, 1) := by decide +kernel
theorem dX12_touch_171 : decode cX12_touch 171 = .ok (.getfield 205, 3) := by decide +kernel
theorem dX12_touch_174 : decode cX12_touch 174 = .ok (.ireturn, 1) := by decide +kernel
theorem dX12_touch_175 : decode cX12_touch 175 = .ok (.aload_n 0, 1) := by decide +kernel
theorem dX12_touch_176 : decode cX12_touch 176 = .ok (.getfield 208, 3) := by decide +kernel
theorem dX12_touch_179 : decode cX12_touch 179 = .ok (.ireturn, 1) := by decide +kernel
theorem dX12_touch_180 : decode cX12_touch 180 = .ok (.aload_n 0, 1) := by decide +kernel
theorem dX12_touch_181 : decode cX12_touch 181 = .ok (.aload_n 0, 1) := by decide +kernel
theorem dX12_touch_182 : decode cX12_touch 182 = .ok (.getfield 55, 3) := by decide +kernel
theorem dX12_touch_185 : decode cX12_touch 185 = .ok (.invokevirtual 179, 3) := by decide +kernel
theorem dX12_touch_188 : decode cX12_touch 188 = .ok (.ireturn, 1) := by decide +kernel
theorem dX12_touch_189 : decode cX12_touch 189 = .ok (.aload_n 0, 1) := by decide +kernel
theorem dX12_touch_190 : decode cX12_touch 190 = .ok (.aload_n 0, 1) := by decide +kernel
theorem dX12_touch_191 : decode cX12_touch 191 = .ok (.getfield 55, 3) := by decide +kernel
theorem dX12_touch_194 : decode cX12_touch 194 = .ok (.invokevirtual 187, 3) := by decide +kernel
theorem dX12_touch_197 : decode cX12_touch 197 = .ok (.ifCond .eq 7, 3) := by decide +kernel
theorem dX12_touch_200 : decode cX12_touch 200 = .ok (.iconst 1, 1) := by decide +kernel
theorem dX12_touch_201 : decode cX12_touch 201 = .ok (.goto 4, 3) := by decide +kernel
theorem dX12_touch_204 : decode cX12_touch 204 = .ok (.iconst 0, 1) := by decide +kernel
theorem dX12_touch_205 : decode cX12_touch 205 = .ok (.ireturn, 1) := by decide +kernel
theorem dX12_touch_206 : decode cX12_touch 206 = .ok (.aload_n 0, 1) := by decide +kernel
theorem dX12_touch_207 : decode cX12_touch 207 = .ok (.invokevirtual 217, 3) := by decide +kernel
theorem dX12_touch_210 : decode cX12_touch 210 = .ok (.ireturn, 1) := by decide +kernel
set_option maxRecDepth 20000 in
theorem ggX12_called_X12_throwsIf : GoodIn wsX12_called wsX12_throwsIf := goodIn_r _ [10, 11, 34, 35, 36, 37, 38, 39, 40, 41, 42, 43, 44, 45, 46, 47, 48, 49, 50, 51, 52, 53, 54, 55, 56, 57, 58, 59, 60, 61, 62, 63, 64, 65, 66, 67, 68, 69, 70, 71] (by decide +kernel) (by decide +kernel)
set_option maxRecDepth 20000 in
theorem gX12_called_X12_throwsIf : GoodIn wsX12_called (wsV RX12 134 RX12 yX12_throwsIf wsX12_throwsIf) := goodIn_app (goodIn_of _ (by decide +kernel)) ggX12_called_X12_throwsIf
set_option maxRecDepth 20000 in
theorem ggX12_called_X12_rounds : GoodIn wsX12_called wsX12_rounds := goodIn_r _ [15, 16, 34, 35, 36, 37, 38, 39, 40, 41, 42, 43, 44, 45, 46, 47, 48, 49, 50, 51, 52, 53, 54, 55, 56, 57, 58, 59, 60, 61, 62, 63, 64, 65, 66, 67, 68, 69, 70, 71] (by decide +kernel) (by decide +kernel)
set_option maxRecDepth 20000 in
theorem gX12_called_X12_rounds : GoodIn wsX12_called (wsV RX12 175 RX12 yX12_rounds wsX12_rounds) := goodIn_app (goodIn_of _ (by decide +kernel)) ggX12_called_X12_rounds
set_option maxRecDepth 20000 in
theorem ggX12_called_X12_ringLead : GoodIn wsX12_called wsX12_ringLead := goodIn_r _ [20, 5, 21, 22, 23, 24, 9, 25, 16, 26, 27, 28, 29, 34, 35, 36, 37, 38, 39, 40, 41, 42, 43, 44, 45, 46, 47, 48, 49, 50, 51, 52, 53, 54, 55, 56, 57, 58, 59, 60, 61, 62, 63, 64, 65, 66, 67, 68, 69, 70, 71] (by decide +kernel) (by decide +kernel)
set_option maxRecDepth 20000 in
theorem gX12_called_X12_ringLead : GoodIn wsX12_called (wsV RX12 183 RX12 yX12_ringLead wsX12_ringLead) := goodIn_app (goodIn_of _ (by decide +kernel)) ggX12_called_X12_ringLead
set_option maxRecDepth 20000 in
theorem ggX12_called_X12_number : GoodIn wsX12_called wsX12_number := goodIn_r _ [33, 16, 34, 35, 36, 37, 38, 39, 40, 41, 42, 43, 44, 45, 46, 47, 48, 49, 50, 51, 52, 53, 54, 55, 56, 57, 58, 59, 60, 61, 62, 63, 64, 65, 66, 67, 68, 69, 70, 71] (by decide +kernel) (by decide +kernel)
set_option maxRecDepth 20000 in
theorem gX12_called_X12_number : GoodIn wsX12_called (wsV RX12 179 RX12 yX12_number wsX12_number) := goodIn_app (goodIn_of _ (by decide +kernel)) ggX12_called_X12_number
theorem dX12_called_0 : decode cX12_called 0 = .ok (.aload_n 0, 1) := by decide +kernel
theorem dX12_called_1 : decode cX12_called 1 = .ok (.iload_n 1, 1) := by decide +kernel
theorem dX12_called_2 : decode cX12_called 2 = .ok (.ifCond .lt 20, 3) := by decide +kernel
theorem dX12_called_5 : decode cX12_called 5 = .ok (.iload_n 1, 1) := by decide +kernel
theorem dX12_called_6 : decode cX12_called 6 = .ok (.aload_n 0, 1) := by decide +kernel
theorem dX12_called_7 : decode cX12_called 7 = .ok (.getfield 107, 3) := by decide +kernel
theorem dX12_called_10 : decode cX12_called 10 = .ok (.if_icmp .ge 12, 3) := by decide +kernel
theorem dX12_called_13 : decode cX12_called 13 = .ok (.iload_n 2, 1) := by decide +kernel
theorem dX12_called_14 : decode cX12_called 14 = .ok (.ifCond .lt 8, 3) := by decide +kernel
theorem dX12_called_17 : decode cX12_called 17 = .ok (.iload_n 2, 1) := by decide +kernel
theorem dX12_called_18 : decode cX12_called 18 = .ok (.iconst 3, 1) := by decide +kernel
theorem dX12_called_19 : decode cX12_called 19 = .ok (.if_icmp .le 7, 3) := by decide +kernel
theorem dX12_called_22 : decode cX12_called 22 = .ok (.iconst 1, 1) := by decide +kernel
theorem dX12_called_23 : decode cX12_called 23 = .ok (.goto 4, 3) := by decide +kernel
theorem dX12_called_26 : decode cX12_called 26 = .ok (.iconst 0, 1) := by decide +kernel
theorem dX12_called_27 : decode cX12_called 27 = .ok (.iconst 1, 1) := by decide +kernel
theorem dX12_called_28 : decode cX12_called 28 = .ok (.invokevirtual 134, 3) := by decide +kernel
theorem dX12_called_31 : decode cX12_called 31 = .ok (.ifCond .eq 5, 3) := by decide +kernel
theorem dX12_called_34 : decode cX12_called 34 = .ok (.iconst 0, 1) := by decide +kernel
theorem dX12_called_35 : decode cX12_called 35 = .ok (.ireturn, 1) := by decide +kernel
theorem dX12_called_36 : decode cX12_called 36 = .ok (.iload_n 2, 1) := by decide +kernel
theorem dX12_called_37 : decode cX12_called 37 = .ok (.iconst 1, 1) := by decide +kernel
theorem dX12_called_38 : decode cX12_called 38 = .ok (.if_icmp .ne 10, 3) := by decide +kernel
theorem dX12_called_41 : decode cX12_called 41 = .ok (.aload_n 0, 1) := by decide +kernel
theorem dX12_called_42 : decode cX12_called 42 = .ok (.getfield 20, 3) := by decide +kernel
theorem dX12_called_45 : decode cX12_called 45 = .ok (.iload_n 1, 1) := by decide +kernel
theorem dX12_called_46 : decode cX12_called 46 = .ok (.iaload, 1) := by decide +kernel
theorem dX12_called_47 : decode cX12_called 47 = .ok (.ireturn, 1) := by decide +kernel
theorem dX12_called_48 : decode cX12_called 48 = .ok (.iload_n 2, 1) := by decide +kernel
theorem dX12_called_49 : decode cX12_called 49 = .ok (.iconst 2, 1) := by decide +kernel
theorem dX12_called_50 : decode cX12_called 50 = .ok (.if_icmp .ne 10, 3) := by decide +kernel
theorem dX12_called_53 : decode cX12_called 53 = .ok (.aload_n 0, 1) := by decide +kernel
theorem dX12_called_54 : decode cX12_called 54 = .ok (.getfield 23, 3) := by decide +kernel
theorem dX12_called_57 : decode cX12_called 57 = .ok (.iload_n 1, 1) := by decide +kernel
theorem dX12_called_58 : decode cX12_called 58 = .ok (.iaload, 1) := by decide +kernel
theorem dX12_called_59 : decode cX12_called 59 = .ok (.ireturn, 1) := by decide +kernel
theorem dX12_called_60 : decode cX12_called 60 = .ok (.iconst 0, 1) := by decide +kernel
theorem dX12_called_61 : decode cX12_called 61 = .ok (.istore_n 3, 1) := by decide +kernel
theorem dX12_called_62 : decode cX12_called 62 = .ok (.aload_n 0, 1) := by decide +kernel
theorem dX12_called_63 : decode cX12_called 63 = .ok (.aload_n 0, 1) := by decide +kernel
theorem dX12_called_64 : decode cX12_called 64 = .ok (.getfield 55, 3) := by decide +kernel
theorem dX12_called_67 : decode cX12_called 67 = .ok (.invokevirtual 175, 3) := by decide +kernel
theorem dX12_called_70 : decode cX12_called 70 = .ok (.iconst 0, 1) := by decide +kernel
theorem dX12_called_71 : decode cX12_called 71 = .ok (.istore 4, 2) := by decide +kernel
theorem dX12_called_73 : decode cX12_called 73 = .ok (.iload 4, 2) := by decide +kernel
theorem dX12_called_75 : decode cX12_called 75 = .ok (.iload_n 1, 1) := by decide +kernel
theorem dX12_called_76 : decode cX12_called 76 = .ok (.if_icmp .ge 46, 3) := by decide +kernel
theorem dX12_called_79 : decode cX12_called 79 = .ok (.aload_n 0, 1) := by decide +kernel
theorem dX12_called_80 : decode cX12_called 80 = .ok (.aload_n 0, 1) := by decide +kernel
theorem dX12_called_81 : decode cX12_called 81 = .ok (.getfield 55, 3) := by decide +kernel
theorem dX12_called_84 : decode cX12_called 84 = .ok (.aload_n 0, 1) := by decide +kernel
theorem dX12_called_85 : decode cX12_called 85 = .ok (.getfield 20, 3) := by decide +kernel
theorem dX12_called_88 : decode cX12_called 88 = .ok (.iload 4, 2) := by decide +kernel
theorem dX12_called_90 : decode cX12_called 90 = .ok (.iaload, 1) := by decide +kernel
theorem dX12_called_91 : decode cX12_called 91 = .ok (.aload_n 0, 1) := by decide +kernel
theorem dX12_called_92 : decode cX12_called 92 = .ok (.getfield 23, 3) := by decide +kernel
theorem dX12_called_95 : decode cX12_called 95 = .ok (.iload 4, 2) := by decide +kernel
theorem dX12_called_97 : decode cX12_called 97 = .ok (.iaload, 1) := by decide +kernel
theorem dX12_called_98 : decode cX12_called 98 = .ok (.invokevirtual 183, 3) := by decide +kernel
theorem dX12_called_101 : decode cX12_called 101 = .ok (.iload_n 3, 1) := by decide +kernel
theorem dX12_called_102 : decode cX12_called 102 = .ok (.aload_n 0, 1) := by decide +kernel
theorem dX12_called_103 : decode cX12_called 103 = .ok (.getfield 13, 3) := by decide +kernel
theorem dX12_called_106 : decode cX12_called 106 = .ok (.aload_n 0, 1) := by decide +kernel
theorem dX12_called_107 : decode cX12_called 107 = .ok (.getfield 20, 3) := by decide +kernel
theorem dX12_called_110 : decode cX12_called 110 = .ok (.iload 4, 2) := by decide +kernel
theorem dX12_called_112 : decode cX12_called 112 = .ok (.iaload, 1) := by decide +kernel
theorem dX12_called_113 : decode cX12_called 113 = .ok (.iaload, 1) := by decide +kernel
theorem dX12_called_114 : decode cX12_called 114 = .ok (.iadd, 1) := by decide +kernel
theorem dX12_called_115 : decode cX12_called 115 = .ok (.istore_n 3, 1) := by decide +kernel
theorem dX12_called_116 : decode cX12_called 116 = .ok (.iinc 4 1, 3) := by decide +kernel
theorem dX12_called_119 : decode cX12_called 119 = .ok (.goto (-46), 3) := by decide +kernel
theorem dX12_called_122 : decode cX12_called 122 = .ok (.iload_n 2, 1) := by decide +kernel
theorem dX12_called_123 : decode cX12_called 123 = .ok (.ifCond .ne 14, 3) := by decide +kernel
theorem dX12_called_126 : decode cX12_called 126 = .ok (.aload_n 0, 1) := by decide +kernel
theorem dX12_called_127 : decode cX12_called 127 = .ok (.aload_n 0, 1) := by decide +kernel
theorem dX12_called_128 : decode cX12_called 128 = .ok (.getfield 55, 3) := by decide +kernel
theorem dX12_called_131 : decode cX12_called 131 = .ok (.invokevirtual 179, 3) := by decide +kernel
theorem dX12_called_134 : decode cX12_called 134 = .ok (.goto 4, 3) := by decide +kernel
theorem dX12_called_137 : decode cX12_called 137 = .ok (.iload_n 3, 1) := by decide +kernel
theorem dX12_called_138 : decode cX12_called 138 = .ok (.ireturn, 1) := by decide +kernel
set_option maxRecDepth 20000 in
theorem ggX12_row_X12_ringAll : GoodIn wsX12_row wsX12_ringAll := goodIn_r _ [7, 8, 9, 2, 1, 10, 11, 12, 13, 14, 15, 16, 17, 18, 19, 6, 20, 21, 22, 23, 24, 25, 26, 27, 28, 29, 30, 31, 32, 33, 47, 48, 49, 50, 51, 52, 53, 54, 55, 56, 57, 58, 59, 60, 61, 62, 63, 64, 65, 66, 67, 68, 69, 70, 71, 72, 73, 74, 75, 76, 77, 78, 79, 80, 81, 82, 83, 84] (by decide +kernel) (by decide +kernel)
set_option maxRecDepth 20000 in
theorem gX12_row_X12_ringAll : GoodIn wsX12_row (wsV RX12 214 RX12 yX12_ringAll wsX12_ringAll) := goodIn_app (goodIn_of _ (by decide +kernel)) ggX12_row_X12_ringAll
set_option maxRecDepth 20000 in
theorem ggX12_row_X12_all : GoodIn wsX12_row wsX12_all := goodIn_r _ [37, 12, 14, 13, 47, 48, 49, 50, 51, 52, 53, 54, 55, 56, 57, 58, 59, 60, 61, 62, 63, 64, 65, 66, 67, 68, 69, 70, 71, 72, 73, 74, 75, 76, 77, 78, 79, 80, 81, 82, 83, 84] (by decide +kernel) (by decide +kernel)
set_option maxRecDepth 20000 in
theorem gX12_row_X12_all : GoodIn wsX12_row (wsV RX12 220 RX12 yX12_all wsX12_all) := goodIn_app (goodIn_of _ (by decide +kernel)) ggX12_row_X12_all
set_option maxRecDepth 20000 in
theorem ggX12_row_X12_throwsIf : GoodIn wsX12_row wsX12_throwsIf := goodIn_r _ [41, 42, 47, 48, 49, 50, 51, 52, 53, 54, 55, 56, 57, 58, 59, 60, 61, 62, 63, 64, 65, 66, 67, 68, 69, 70, 71, 72, 73, 74, 75, 76, 77, 78, 79, 80, 81, 82, 83, 84] (by decide +kernel) (by decide +kernel)
set_option maxRecDepth 20000 in
theorem gX12_row_X12_throwsIf : GoodIn wsX12_row (wsV RX12 134 RX12 yX12_throwsIf wsX12_throwsIf) := goodIn_app (goodIn_of _ (by decide +kernel)) ggX12_row_X12_throwsIf
set_option maxRecDepth 20000 in
theorem ggX12_row_X12_number : GoodIn wsX12_row wsX12_number := goodIn_r _ [46, 21, 47, 48, 49, 50, 51, 52, 53, 54, 55, 56, 57, 58, 59, 60, 61, 62, 63, 64, 65, 66, 67, 68, 69, 70, 71, 72, 73, 74, 75, 76, 77, 78, 79, 80, 81, 82, 83, 84] (by decide +kernel) (by decide +kernel)
set_option maxRecDepth 20000 in
theorem gX12_row_X12_number : GoodIn wsX12_row (wsV RX12 179 RX12 yX12_number wsX12_number) := goodIn_app (goodIn_of _ (by decide +kernel)) ggX12_row_X12_number
theorem dX12_row_0 : decode cX12_row 0 = .ok (.iload_n 1, 1) := by decide +kernel
theorem dX12_row_1 : decode cX12_row 1 = .ok (.ifCond .lt 9, 3) := by decide +kernel
theorem dX12_row_4 : decode cX12_row 4 = .ok (.aload_n 0, 1) := by decide +kernel
theorem dX12_row_5 : decode cX12_row 5 = .ok (.iconst 1, 1) := by decide +kernel
theorem dX12_row_6 : decode cX12_row 6 = .ok (.iload_n 1, 1) := by decide +kernel
theorem dX12_row_7 : decode cX12_row 7 = .ok (.invokevirtual 214, 3) := by decide +kernel
theorem dX12_row_10 : decode cX12_row 10 = .ok (.iload_n 1, 1) := by decide +kernel
theorem dX12_row_11 : decode cX12_row 11 = .ok (.ifCond .lt 23, 3) := by decide +kernel
theorem dX12_row_14 : decode cX12_row 14 = .ok (.aload_n 0, 1) := by decide +kernel
theorem dX12_row_15 : decode cX12_row 15 = .ok (.getfield 202, 3) := by decide +kernel
theorem dX12_row_18 : decode cX12_row 18 = .ok (.iload_n 1, 1) := by decide +kernel
theorem dX12_row_19 : decode cX12_row 19 = .ok (.if_icmp .ne 15, 3) := by decide +kernel
theorem dX12_row_22 : decode cX12_row 22 = .ok (.iload_n 1, 1) := by decide +kernel
theorem dX12_row_23 : decode cX12_row 23 = .ok (.aload_n 0, 1) := by decide +kernel
theorem dX12_row_24 : decode cX12_row 24 = .ok (.invokevirtual 220, 3) := by decide +kernel
theorem dX12_row_27 : decode cX12_row 27 = .ok (.if_icmp .ge 7, 3) := by decide +kernel
theorem dX12_row_30 : decode cX12_row 30 = .ok (.iconst 1, 1) := by decide +kernel
theorem dX12_row_31 : decode cX12_row 31 = .ok (.goto 4, 3) := by decide +kernel
theorem dX12_row_34 : decode cX12_row 34 = .ok (.iconst 0, 1) := by decide +kernel
theorem dX12_row_35 : decode cX12_row 35 = .ok (.istore_n 2, 1) := by decide +kernel
theorem dX12_row_36 : decode cX12_row 36 = .ok (.aload_n 0, 1) := by decide +kernel
theorem dX12_row_37 : decode cX12_row 37 = .ok (.iload_n 2, 1) := by decide +kernel
theorem dX12_row_38 : decode cX12_row 38 = .ok (.ifCond .ne 7, 3) := by decide +kernel
theorem dX12_row_41 : decode cX12_row 41 = .ok (.iconst 1, 1) := by decide +kernel
theorem dX12_row_42 : decode cX12_row 42 = .ok (.goto 4, 3) := by decide +kernel
theorem dX12_row_45 : decode cX12_row 45 = .ok (.iconst 0, 1) := by decide +kernel
theorem dX12_row_46 : decode cX12_row 46 = .ok (.iconst 1, 1) := by decide +kernel
theorem dX12_row_47 : decode cX12_row 47 = .ok (.invokevirtual 134, 3) := by decide +kernel
theorem dX12_row_50 : decode cX12_row 50 = .ok (.ifCond .eq 5, 3) := by decide +kernel
theorem dX12_row_53 : decode cX12_row 53 = .ok (.iconst 0, 1) := by decide +kernel
theorem dX12_row_54 : decode cX12_row 54 = .ok (.ireturn, 1) := by decide +kernel
theorem dX12_row_55 : decode cX12_row 55 = .ok (.aload_n 0, 1) := by decide +kernel
theorem dX12_row_56 : decode cX12_row 56 = .ok (.aload_n 0, 1) := by decide +kernel
theorem dX12_row_57 : decode cX12_row 57 = .ok (.getfield 55, 3) := by decide +kernel
theorem dX12_row_60 : decode cX12_row 60 = .ok (.invokevirtual 179, 3) := by decide +kernel
theorem dX12_row_63 : decode cX12_row 63 = .ok (.ireturn, 1) := by decide +kernel
theorem dX12_all_0 : decode cX12_all 0 = .ok (.iconst 0, 1) := by decide +kernel
theorem dX12_all_1 : decode cX12_all 1 = .ok (.istore_n 1, 1) := by decide +kernel
theorem dX12_all_2 : decode cX12_all 2 = .ok (.iconst 0, 1) := by decide +kernel
theorem dX12_all_3 : decode cX12_all 3 = .ok (.istore_n 2, 1) := by decide +kernel
theorem dX12_all_4 : decode cX12_all 4 = .ok (.iload_n 2, 1) := by decide +kernel
theorem dX12_all_5 : decode cX12_all 5 = .ok (.aload_n 0, 1) := by decide +kernel
theorem dX12_all_6 : decode cX12_all 6 = .ok (.getfield 107, 3) := by decide +kernel
theorem dX12_all_9 : decode cX12_all 9 = .ok (.if_icmp .ge 23, 3) := by decide +kernel
theorem dX12_all_12 : decode cX12_all 12 = .ok (.iload_n 1, 1) := by decide +kernel
theorem dX12_all_13 : decode cX12_all 13 = .ok (.aload_n 0, 1) := by decide +kernel
theorem dX12_all_14 : decode cX12_all 14 = .ok (.getfield 13, 3) := by decide +kernel
theorem dX12_all_17 : decode cX12_all 17 = .ok (.aload_n 0, 1) := by decide +kernel
theorem dX12_all_18 : decode cX12_all 18 = .ok (.getfield 20, 3) := by decide +kernel
theorem dX12_all_21 : decode cX12_all 21 = .ok (.iload_n 2, 1) := by decide +kernel
theorem dX12_all_22 : decode cX12_all 22 = .ok (.iaload, 1) := by decide +kernel
theorem dX12_all_23 : decode cX12_all 23 = .ok (.iaload, 1) := by decide +kernel
theorem dX12_all_24 : decode cX12_all 24 = .ok (.iadd, 1) := by decide +kernel
theorem dX12_all_25 : decode cX12_all 25 = .ok (.istore_n 1, 1) := by decide +kernel
theorem dX12_all_26 : decode cX12_all 26 = .ok (.iinc 2 1, 3) := by decide +kernel
theorem dX12_all_29 : decode cX12_all 29 = .ok (.goto (-25), 3) := by decide +kernel
theorem dX12_all_32 : decode cX12_all 32 = .ok (.iload_n 1, 1) := by decide +kernel
theorem dX12_all_33 : decode cX12_all 33 = .ok (.ireturn, 1) := by decide +kernel
theorem dX12_isPattern_0 : decode cX12_isPattern 0 = .ok (.aload_n 0, 1) := by decide +kernel
theorem dX12_isPattern_1 : decode cX12_isPattern 1 = .ok (.iconst (-1), 1) := by decide +kernel
theorem dX12_isPattern_2 : decode cX12_isPattern 2 = .ok (.putfield 223, 3) := by decide +kernel
theorem dX12_isPattern_5 : decode cX12_isPattern 5 = .ok (.iconst 0, 1) := by decide +kernel
theorem dX12_isPattern_6 : decode cX12_isPattern 6 = .ok (.istore_n 2, 1) := by decide +kernel
theorem dX12_isPattern_7 : decode cX12_isPattern 7 = .ok (.iload_n 2, 1) := by decide +kernel
theorem dX12_isPattern_8 : decode cX12_isPattern 8 = .ok (.bipush 9, 2) := by decide +kernel
theorem dX12_isPattern_10 : decode cX12_isPattern 10 = .ok (.if_icmp .ge 16, 3) := by decide +kernel
theorem dX12_isPattern_13 : decode cX12_isPattern 13 = .ok (.aload_n 0, 1) := by decide +kernel
theorem dX12_isPattern_14 : decode cX12_isPattern 14 = .ok (.getfield 68, 3) := by decide +kernel
theorem dX12_isPattern_17 : decode cX12_isPattern 17 = .ok (.iload_n 2, 1) := by decide +kernel
theorem dX12_isPattern_18 : decode cX12_isPattern 18 = .ok (.iconst 0, 1) := by decide +kernel
theorem dX12_isPattern_19 : decode cX12_isPattern 19 = .ok (.bastore, 1) := by decide +kernel
theorem dX12_isPattern_20 : decode cX12_isPattern 20 = .ok (.iinc 2 1, 3) := by decide +kernel
theorem dX12_isPattern_23 : decode cX12_isPattern 23 = .ok (.goto (-16), 3) := by decide +kernel
theorem dX12_isPattern_26 : decode cX12_isPattern 26 = .ok (.iconst 0, 1) := by decide +kernel
theorem dX12_isPattern_27 : decode cX12_isPattern 27 = .ok (.istore_n 2, 1) := by decide +kernel
theorem dX12_isPattern_28 : decode cX12_isPattern 28 = .ok (.iload_n 2, 1) := by decide +kernel
theorem dX12_isPattern_29 : decode cX12_isPattern 29 = .ok (.iload_n 1, 1) := by decide +kernel
theorem dX12_isPattern_30 : decode cX12_isPattern 30 = .ok (.if_icmp .ge 86, 3) := by decide +kernel
theorem dX12_isPattern_33 : decode cX12_isPattern 33 = .ok (.aload_n 0, 1) := by decide +kernel
theorem dX12_isPattern_34 : decode cX12_isPattern 34 = .ok (.getfield 26, 3) := by decide +kernel
theorem dX12_isPattern_37 : decode cX12_isPattern 37 = .ok (.iload_n 2, 1) := by decide +kernel
theorem dX12_isPattern_38 : decode cX12_isPattern 38 = .ok (.baload, 1) := by decide +kernel
theorem dX12_isPattern_39 : decode cX12_isPattern 39 = .ok (.istore_n 3, 1) := by decide +kernel
theorem dX12_isPattern_40 : decode cX12_isPattern 40 = .ok (.iload_n 3, 1) := by decide +kernel
theorem dX12_isPattern_41 : decode cX12_isPattern 41 = .ok (.bipush 42, 2) := by decide +kernel
theorem dX12_isPattern_43 : decode cX12_isPattern 43 = .ok (.if_icmp .ne 20, 3) := by decide +kernel
theorem dX12_isPattern_46 : decode cX12_isPattern 46 = .ok (.aload_n 0, 1) := by decide +kernel
theorem dX12_isPattern_47 : decode cX12_isPattern 47 = .ok (.getfield 223, 3) := by decide +kernel
theorem dX12_isPattern_50 : decode cX12_isPattern 50 = .ok (.ifCond .lt 5, 3) := by decide +kernel
theorem dX12_isPattern_53 : decode cX12_isPattern 53 = .ok (.iconst 0, 1) := by decide +kernel
theorem dX12_isPattern_54 : decode cX12_isPattern 54 = .ok (.ireturn, 1) := by decide +kernel
theorem dX12_isPattern_55 : decode cX12_isPattern 55 = .ok (.aload_n 0, 1) := by decide +kernel
theorem dX12_isPattern_56 : decode cX12_isPattern 56 = .ok (.iload_n 2, 1) := by decide +kernel
theorem dX12_isPattern_57 : decode cX12_isPattern 57 = .ok (.putfield 223, 3) := by decide +kernel
theorem dX12_isPattern_60 : decode cX12_isPattern 60 = .ok (.goto 50, 3) := by decide +kernel
theorem dX12_isPattern_63 : decode cX12_isPattern 63 = .ok (.iload_n 3, 1) := by decide +kernel
theorem dX12_isPattern_64 : decode cX12_isPattern 64 = .ok (.bipush 63, 2) := by decide +kernel
theorem dX12_isPattern_66 : decode cX12_isPattern 66 = .ok (.if_icmp .eq 44, 3) := by decide +kernel
theorem dX12_isPattern_69 : decode cX12_isPattern 69 = .ok (.iload_n 3, 1) := by decide +kernel
theorem dX12_isPattern_70 : decode cX12_isPattern 70 = .ok (.bipush 49, 2) := by decide +kernel
theorem dX12_isPattern_72 : decode cX12_isPattern 72 = .ok (.if_icmp .lt 26, 3) := by decide +kernel
theorem dX12_isPattern_75 : decode cX12_isPattern 75 = .ok (.iload_n 3, 1) := by decide +kernel
theorem dX12_isPattern_76 : decode cX12_isPattern 76 = .ok (.bipush 48, 2) := by decide +kernel
theorem dX12_isPattern_78 : decode cX12_isPattern 78 = .ok (.aload_n 0, 1) := by decide +kernel
theorem dX12_isPattern_79 : decode cX12_isPattern 79 = .ok (.getfield 7, 3) := by decide +kernel
theorem dX12_isPattern_82 : decode cX12_isPattern 82 = .ok (.iadd, 1) := by decide +kernel
theorem dX12_isPattern_83 : decode cX12_isPattern 83 = .ok (.if_icmp .gt 15, 3) := by decide +kernel
theorem dX12_isPattern_86 : decode cX12_isPattern 86 = .ok (.aload_n 0, 1) := by decide +kernel
theorem dX12_isPattern_87 : decode cX12_isPattern 87 = .ok (.getfield 68, 3) := by decide +kernel
theorem dX12_isPattern_90 : decode cX12_isPattern 90 = .ok (.iload_n 3, 1) := by decide +kernel
theorem dX12_isPattern_91 : decode cX12_isPattern 91 = .ok (.bipush 48, 2) := by decide +kernel
theorem dX12_isPattern_93 : decode cX12_isPattern 93 = .ok (.isub, 1) := by decide +kernel
theorem dX12_isPattern_94 : decode cX12_isPattern 94 = .ok (.baload, 1) := by decide +kernel
theorem dX12_isPattern_95 : decode cX12_isPattern 95 = .ok (.ifCond .eq 5, 3) := by decide +kernel
theorem dX12_isPattern_98 : decode cX12_isPattern 98 = .ok (.iconst 0, 1) := by decide +kernel
theorem dX12_isPattern_99 : decode cX12_isPattern 99 = .ok (.ireturn, 1) := by decide +kernel
theorem dX12_isPattern_100 : decode cX12_isPattern 100 = .ok (.aload_n 0, 1) := by decide +kernel
theorem dX12_isPattern_101 : decode cX12_isPattern 101 = .ok (.getfield 68, 3) := by decide +kernel
theorem dX12_isPattern_104 : decode cX12_isPattern 104 = .ok (.iload_n 3, 1) := by decide +kernel
theorem dX12_isPattern_105 : decode cX12_isPattern 105 = .ok (.bipush 48, 2) := by decide +kernel
theorem dX12_isPattern_107 : decode cX12_isPattern 107 = .ok (.isub, 1) := by decide +kernel
theorem dX12_isPattern_108 : decode cX12_isPattern 108 = .ok (.iconst 1, 1) := by decide +kernel
theorem dX12_isPattern_109 : decode cX12_isPattern 109 = .ok (.bastore, 1) := by decide +kernel
theorem dX12_isPattern_110 : decode cX12_isPattern 110 = .ok (.iinc 2 1, 3) := by decide +kernel
theorem dX12_isPattern_113 : decode cX12_isPattern 113 = .ok (.goto (-85), 3) := by decide +kernel
theorem dX12_isPattern_116 : decode cX12_isPattern 116 = .ok (.aload_n 0, 1) := by decide +kernel
theorem dX12_isPattern_117 : decode cX12_isPattern 117 = .ok (.getfield 223, 3) := by decide +kernel
theorem dX12_isPattern_120 : decode cX12_isPattern 120 = .ok (.ifCond .lt 21, 3) := by decide +kernel
theorem dX12_isPattern_123 : decode cX12_isPattern 123 = .ok (.iload_n 1, 1) := by decide +kernel
theorem dX12_isPattern_124 : decode cX12_isPattern 124 = .ok (.iconst 1, 1) := by decide +kernel
theorem dX12_isPattern_125 : decode cX12_isPattern 125 = .ok (.isub, 1) := by decide +kernel
theorem dX12_isPattern_126 : decode cX12_isPattern 126 = .ok (.aload_n 0, 1) := by decide +kernel
theorem dX12_isPattern_127 : decode cX12_isPattern 127 = .ok (.getfield 7, 3) := by decide +kernel
theorem dX12_isPattern_130 : decode cX12_isPattern 130 = .ok (.if_icmp .gt 7, 3) := by decide +kernel
theorem dX12_isPattern_133 : decode cX12_isPattern 133 = .ok (.iconst 1, 1) := by decide +kernel
theorem dX12_isPattern_134 : decode cX12_isPattern 134 = .ok (.goto 20, 3) := by decide +kernel
theorem dX12_isPattern_137 : decode cX12_isPattern 137 = .ok (.iconst 0, 1) := by decide +kernel
theorem dX12_isPattern_138 : decode cX12_isPattern 138 = .ok (.goto 16, 3) := by decide +kernel
theorem dX12_isPattern_141 : decode cX12_isPattern 141 = .ok (.iload_n 1, 1) := by decide +kernel
theorem dX12_isPattern_142 : decode cX12_isPattern 142 = .ok (.aload_n 0, 1) := by decide +kernel
theorem dX12_isPattern_143 : decode cX12_isPattern 143 = .ok (.getfield 7, 3) := by decide +kernel
theorem dX12_isPattern_146 : decode cX12_isPattern 146 = .ok (.if_icmp .ne 7, 3) := by decide +kernel
theorem dX12_isPattern_149 : decode cX12_isPattern 149 = .ok (.iconst 1, 1) := by decide +kernel
theorem dX12_isPattern_150 : decode cX12_isPattern 150 = .ok (.goto 4, 3) := by decide +kernel
theorem dX12_isPattern_153 : decode cX12_isPattern 153 = .ok (.iconst 0, 1) := by decide +kernel
theorem dX12_isPattern_154 : decode cX12_isPattern 154 = .ok (.ireturn, 1) := by decide +kernel
theorem dX12_fits_0 : decode cX12_fits 0 = .ok (.aload_n 0, 1) := by decide +kernel
theorem dX12_fits_1 : decode cX12_fits 1 = .ok (.getfield 223, 3) := by decide +kernel
theorem dX12_fits_4 : decode cX12_fits 4 = .ok (.ifCond .ge 7, 3) := by decide +kernel
theorem dX12_fits_7 : decode cX12_fits 7 = .ok (.iload_n 1, 1) := by decide +kernel
theorem dX12_fits_8 : decode cX12_fits 8 = .ok (.goto 7, 3) := by decide +kernel
theorem dX12_fits_11 : decode cX12_fits 11 = .ok (.aload_n 0, 1) := by decide +kernel
theorem dX12_fits_12 : decode cX12_fits 12 = .ok (.getfield 223, 3) := by decide +kernel
theorem dX12_fits_15 : decode cX12_fits 15 = .ok (.istore_n 2, 1) := by decide +kernel
theorem dX12_fits_16 : decode cX12_fits 16 = .ok (.iconst 0, 1) := by decide +kernel
theorem dX12_fits_17 : decode cX12_fits 17 = .ok (.istore_n 3, 1) := by decide +kernel
theorem dX12_fits_18 : decode cX12_fits 18 = .ok (.iload_n 3, 1) := by decide +kernel
theorem dX12_fits_19 : decode cX12_fits 19 = .ok (.iload_n 2, 1) := by decide +kernel
theorem dX12_fits_20 : decode cX12_fits 20 = .ok (.if_icmp .ge 40, 3) := by decide +kernel
theorem dX12_fits_23 : decode cX12_fits 23 = .ok (.aload_n 0, 1) := by decide +kernel
theorem dX12_fits_24 : decode cX12_fits 24 = .ok (.getfield 26, 3) := by decide +kernel
theorem dX12_fits_27 : decode cX12_fits 27 = .ok (.iload_n 3, 1) := by decide +kernel
theorem dX12_fits_28 : decode cX12_fits 28 = .ok (.baload, 1) := by decide +kernel
theorem dX12_fits_29 : decode cX12_fits 29 = .ok (.bipush 63, 2) := by decide +kernel
theorem dX12_fits_31 : decode cX12_fits 31 = .ok (.if_icmp .eq 23, 3) := by decide +kernel
theorem dX12_fits_34 : decode cX12_fits 34 = .ok (.aload_n 0, 1) := by decide +kernel
theorem dX12_fits_35 : decode cX12_fits 35 = .ok (.getfield 26, 3) := by decide +kernel
theorem dX12_fits_38 : decode cX12_fits 38 = .ok (.iload_n 3, 1) := by decide +kernel
theorem dX12_fits_39 : decode cX12_fits 39 = .ok (.baload, 1) := by decide +kernel
theorem dX12_fits_40 : decode cX12_fits 40 = .ok (.bipush 48, 2) := by decide +kernel
theorem dX12_fits_42 : decode cX12_fits 42 = .ok (.isub, 1) := by decide +kernel
theorem dX12_fits_43 : decode cX12_fits 43 = .ok (.aload_n 0, 1) := by decide +kernel
theorem dX12_fits_44 : decode cX12_fits 44 = .ok (.getfield 55, 3) := by decide +kernel
theorem dX12_fits_47 : decode cX12_fits 47 = .ok (.iload_n 3, 1) := by decide +kernel
theorem dX12_fits_48 : decode cX12_fits 48 = .ok (.iaload, 1) := by decide +kernel
theorem dX12_fits_49 : decode cX12_fits 49 = .ok (.if_icmp .eq 5, 3) := by decide +kernel
theorem dX12_fits_52 : decode cX12_fits 52 = .ok (.iconst 0, 1) := by decide +kernel
theorem dX12_fits_53 : decode cX12_fits 53 = .ok (.ireturn, 1) := by decide +kernel
theorem dX12_fits_54 : decode cX12_fits 54 = .ok (.iinc 3 1, 3) := by decide +kernel
theorem dX12_fits_57 : decode cX12_fits 57 = .ok (.goto (-39), 3) := by decide +kernel
theorem dX12_fits_60 : decode cX12_fits 60 = .ok (.iload_n 1, 1) := by decide +kernel
theorem dX12_fits_61 : decode cX12_fits 61 = .ok (.iconst 1, 1) := by decide +kernel
theorem dX12_fits_62 : decode cX12_fits 62 = .ok (.isub, 1) := by decide +kernel
theorem dX12_fits_63 : decode cX12_fits 63 = .ok (.istore_n 3, 1) := by decide +kernel
theorem dX12_fits_64 : decode cX12_fits 64 = .ok (.aload_n 0, 1) := by decide +kernel
theorem dX12_fits_65 : decode cX12_fits 65 = .ok (.getfield 7, 3) := by decide +kernel
theorem dX12_fits_68 : decode cX12_fits 68 = .ok (.iconst 1, 1) := by decide +kernel
theorem dX12_fits_69 : decode cX12_fits 69 = .ok (.isub, 1) := by decide +kernel
theorem dX12_fits_70 : decode cX12_fits 70 = .ok (.istore 4, 2) := by decide +kernel
theorem dX12_fits_72 : decode cX12_fits 72 = .ok (.iload_n 3, 1) := by decide +kernel
theorem dX12_fits_73 : decode cX12_fits 73 = .ok (.iload_n 2, 1) := by decide +kernel
theorem dX12_fits_74 : decode cX12_fits 74 = .ok (.if_icmp .le 44, 3) := by decide +kernel
theorem dX12_fits_77 : decode cX12_fits 77 = .ok (.aload_n 0, 1) := by decide +kernel
theorem dX12_fits_78 : decode cX12_fits 78 = .ok (.getfield 26, 3) := by decide +kernel
theorem dX12_fits_81 : decode cX12_fits 81 = .ok (.iload_n 3, 1) := by decide +kernel
theorem dX12_fits_82 : decode cX12_fits 82 = .ok (.baload, 1) := by decide +kernel
theorem dX12_fits_83 : decode cX12_fits 83 = .ok (.bipush 63, 2) := by decide +kernel
theorem dX12_fits_85 : decode cX12_fits 85 = .ok (.if_icmp .eq 24, 3) := by decide +kernel
theorem dX12_fits_88 : decode cX12_fits 88 = .ok (.aload_n 0, 1) := by decide +kernel
theorem dX12_fits_89 : decode cX12_fits 89 = .ok (.getfield 26, 3) := by decide +kernel
theorem dX12_fits_92 : decode cX12_fits 92 = .ok (.iload_n 3, 1) := by decide +kernel
theorem dX12_fits_93 : decode cX12_fits 93 = .ok (.baload, 1) := by decide +kernel
theorem dX12_fits_94 : decode cX12_fits 94 = .ok (.bipush 48, 2) := by decide +kernel
theorem dX12_fits_96 : decode cX12_fits 96 = .ok (.isub, 1) := by decide +kernel
theorem dX12_fits_97 : decode cX12_fits 97 = .ok (.aload_n 0, 1) := by decide +kernel
theorem dX12_fits_98 : decode cX12_fits 98 = .ok (.getfield 55, 3) := by decide +kernel
theorem dX12_fits_101 : decode cX12_fits 101 = .ok (.iload 4, 2) := by decide +kernel
theorem dX12_fits_103 : decode cX12_fits 103 = .ok (.iaload, 1) := by decide +kernel
theorem dX12_fits_104 : decode cX12_fits 104 = .ok (.if_icmp .eq 5, 3) := by decide +kernel
theorem dX12_fits_107 : decode cX12_fits 107 = .ok (.iconst 0, 1) := by decide +kernel
theorem dX12_fits_108 : decode cX12_fits 108 = .ok (.ireturn, 1) := by decide +kernel
theorem dX12_fits_109 : decode cX12_fits 109 = .ok (.iinc 3 (-1), 3) := by decide +kernel
theorem dX12_fits_112 : decode cX12_fits 112 = .ok (.iinc 4 (-1), 3) := by decide +kernel
theorem dX12_fits_115 : decode cX12_fits 115 = .ok (.goto (-43), 3) := by decide +kernel
theorem dX12_fits_118 : decode cX12_fits 118 = .ok (.iconst 1, 1) := by decide +kernel
theorem dX12_fits_119 : decode cX12_fits 119 = .ok (.ireturn, 1) := by decide +kernel
set_option maxRecDepth 20000 in
theorem ggX12_music_X12_isPattern : GoodIn wsX12_music wsX12_isPattern := goodIn_r _ [13, 14, 15, 16, 17, 34, 35, 36, 37, 38, 39, 40, 41, 42, 43, 44, 45, 46, 47, 48, 49, 50, 51, 52, 53, 54, 55, 56, 57, 58, 59, 60, 61, 62, 63, 64, 65, 66, 67, 68, 69, 70, 71] (by decide +kernel) (by decide +kernel)
set_option maxRecDepth 20000 in
theorem gX12_music_X12_isPattern : GoodIn wsX12_music (wsV RX12 226 RX12 yX12_isPattern wsX12_isPattern) := goodIn_app (goodIn_of _ (by decide +kernel)) ggX12_music_X12_isPattern
set_option maxRecDepth 20000 in
theorem ggX12_music_X12_rounds : GoodIn wsX12_music wsX12_rounds := goodIn_r _ [21, 17, 34, 35, 36, 37, 38, 39, 40, 41, 42, 43, 44, 45, 46, 47, 48, 49, 50, 51, 52, 53, 54, 55, 56, 57, 58, 59, 60, 61, 62, 63, 64, 65, 66, 67, 68, 69, 70, 71] (by decide +kernel) (by decide +kernel)
set_option maxRecDepth 20000 in
theorem gX12_music_X12_rounds : GoodIn wsX12_music (wsV RX12 175 RX12 yX12_rounds wsX12_rounds) := goodIn_app (goodIn_of _ (by decide +kernel)) ggX12_music_X12_rounds
set_option maxRecDepth 20000 in
theorem ggX12_music_X12_fits : GoodIn wsX12_music wsX12_fits := goodIn_r _ [25, 14, 16, 3, 17, 34, 35, 36, 37, 38, 39, 40, 41, 42, 43, 44, 45, 46, 47, 48, 49, 50, 51, 52, 53, 54, 55, 56, 57, 58, 59, 60, 61, 62, 63, 64, 65, 66, 67, 68, 69, 70, 71] (by decide +kernel) (by decide +kernel)
set_option maxRecDepth 20000 in
theorem gX12_music_X12_fits : GoodIn wsX12_music (wsV RX12 229 RX12 yX12_fits wsX12_fits) := goodIn_app (goodIn_of _ (by decide +kernel)) ggX12_music_X12_fits
set_option maxRecDepth 20000 in
theorem ggX12_music_X12_last : GoodIn wsX12_music wsX12_last := goodIn_r _ [29, 7, 6, 34, 35, 36, 37, 38, 39, 40, 41, 42, 43, 44, 45, 46, 47, 48, 49, 50, 51, 52, 53, 54, 55, 56, 57, 58, 59, 60, 61, 62, 63, 64, 65, 66, 67, 68, 69, 70, 71] (by decide +kernel) (by decide +kernel)
set_option maxRecDepth 20000 in
theorem gX12_music_X12_last : GoodIn wsX12_music (wsV RX12 171 RX12 yX12_last wsX12_last) := goodIn_app (goodIn_of _ (by decide +kernel)) ggX12_music_X12_last
set_option maxRecDepth 20000 in
theorem ggX12_music_X12_ring : GoodIn wsX12_music wsX12_ring := goodIn_r _ [33, 17, 34, 35, 36, 37, 38, 39, 40, 41, 42, 43, 44, 45, 46, 47, 48, 49, 50, 51, 52, 53, 54, 55, 56, 57, 58, 59, 60, 61, 62, 63, 64, 65, 66, 67, 68, 69, 70, 71] (by decide +kernel) (by decide +kernel)
set_option maxRecDepth 20000 in
theorem gX12_music_X12_ring : GoodIn wsX12_music (wsV RX12 167 RX12 yX12_ring wsX12_ring) := goodIn_app (goodIn_of _ (by decide +kernel)) ggX12_music_X12_ring
theorem dX12_music_0 : decode cX12_music 0 = .ok (.aload_n 0, 1) := by decide +kernel
theorem dX12_music_1 : decode cX12_music 1 = .ok (.iconst 0, 1) := by decide +kernel
theorem dX12_music_2 : decode cX12_music 2 = .ok (.putfield 81, 3) := by decide +kernel
theorem dX12_music_5 : decode cX12_music 5 = .ok (.aload_n 0, 1) := by decide +kernel
theorem dX12_music_6 : decode cX12_music 6 = .ok (.getfield 84, 3) := by decide +kernel
theorem dX12_music_9 : decode cX12_music 9 = .ok (.istore_n 1, 1) := by decide +kernel
theorem dX12_music_10 : decode cX12_music 10 = .ok (.aload_n 0, 1) := by decide +kernel
theorem dX12_music_11 : decode cX12_music 11 = .ok (.iconst 0, 1) := by decide +kernel
theorem dX12_music_12 : decode cX12_music 12 = .ok (.putfield 84, 3) := by decide +kernel
theorem dX12_music_15 : decode cX12_music 15 = .ok (.aload_n 0, 1) := by decide +kernel
theorem dX12_music_16 : decode cX12_music 16 = .ok (.iload_n 1, 1) := by decide +kernel
theorem dX12_music_17 : decode cX12_music 17 = .ok (.invokevirtual 226, 3) := by decide +kernel
theorem dX12_music_20 : decode cX12_music 20 = .ok (.ifCond .ne 5, 3) := by decide +kernel
theorem dX12_music_23 : decode cX12_music 23 = .ok (.iconst (-1), 1) := by decide +kernel
theorem dX12_music_24 : decode cX12_music 24 = .ok (.ireturn, 1) := by decide +kernel
theorem dX12_music_25 : decode cX12_music 25 = .ok (.iconst 0, 1) := by decide +kernel
theorem dX12_music_26 : decode cX12_music 26 = .ok (.istore_n 2, 1) := by decide +kernel
theorem dX12_music_27 : decode cX12_music 27 = .ok (.aload_n 0, 1) := by decide +kernel
theorem dX12_music_28 : decode cX12_music 28 = .ok (.aload_n 0, 1) := by decide +kernel
theorem dX12_music_29 : decode cX12_music 29 = .ok (.getfield 55, 3) := by decide +kernel
theorem dX12_music_32 : decode cX12_music 32 = .ok (.invokevirtual 175, 3) := by decide +kernel
theorem dX12_music_35 : decode cX12_music 35 = .ok (.iconst 0, 1) := by decide +kernel
theorem dX12_music_36 : decode cX12_music 36 = .ok (.istore_n 3, 1) := by decide +kernel
theorem dX12_music_37 : decode cX12_music 37 = .ok (.iload_n 3, 1) := by decide +kernel
theorem dX12_music_38 : decode cX12_music 38 = .ok (.aload_n 0, 1) := by decide +kernel
theorem dX12_music_39 : decode cX12_music 39 = .ok (.getfield 107, 3) := by decide +kernel
theorem dX12_music_42 : decode cX12_music 42 = .ok (.if_icmp .ge 104, 3) := by decide +kernel
theorem dX12_music_45 : decode cX12_music 45 = .ok (.aload_n 0, 1) := by decide +kernel
theorem dX12_music_46 : decode cX12_music 46 = .ok (.getfield 20, 3) := by decide +kernel
theorem dX12_music_49 : decode cX12_music 49 = .ok (.iload_n 3, 1) := by decide +kernel
theorem dX12_music_50 : decode cX12_music 50 = .ok (.iaload, 1) := by decide +kernel
theorem dX12_music_51 : decode cX12_music 51 = .ok (.istore 4, 2) := by decide +kernel
theorem dX12_music_53 : decode cX12_music 53 = .ok (.iconst 0, 1) := by decide +kernel
theorem dX12_music_54 : decode cX12_music 54 = .ok (.istore 5, 2) := by decide +kernel
theorem dX12_music_56 : decode cX12_music 56 = .ok (.iload 5, 2) := by decide +kernel
theorem dX12_music_58 : decode cX12_music 58 = .ok (.aload_n 0, 1) := by decide +kernel
theorem dX12_music_59 : decode cX12_music 59 = .ok (.getfield 13, 3) := by decide +kernel
theorem dX12_music_62 : decode cX12_music 62 = .ok (.iload 4, 2) := by decide +kernel
theorem dX12_music_64 : decode cX12_music 64 = .ok (.iaload, 1) := by decide +kernel
theorem dX12_music_65 : decode cX12_music 65 = .ok (.if_icmp .ge 75, 3) := by decide +kernel
theorem dX12_music_68 : decode cX12_music 68 = .ok (.iload_n 2, 1) := by decide +kernel
theorem dX12_music_69 : decode cX12_music 69 = .ok (.aload_n 0, 1) := by decide +kernel
theorem dX12_music_70 : decode cX12_music 70 = .ok (.iload_n 1, 1) := by decide +kernel
theorem dX12_music_71 : decode cX12_music 71 = .ok (.invokevirtual 229, 3) := by decide +kernel
theorem dX12_music_74 : decode cX12_music 74 = .ok (.ifCond .eq 7, 3) := by decide +kernel
theorem dX12_music_77 : decode cX12_music 77 = .ok (.iconst 1, 1) := by decide +kernel
theorem dX12_music_78 : decode cX12_music 78 = .ok (.goto 4, 3) := by decide +kernel
theorem dX12_music_81 : decode cX12_music 81 = .ok (.iconst 0, 1) := by decide +kernel
theorem dX12_music_82 : decode cX12_music 82 = .ok (.iadd, 1) := by decide +kernel
theorem dX12_music_83 : decode cX12_music 83 = .ok (.istore_n 2, 1) := by decide +kernel
theorem dX12_music_84 : decode cX12_music 84 = .ok (.aload_n 0, 1) := by decide +kernel
theorem dX12_music_85 : decode cX12_music 85 = .ok (.aload_n 0, 1) := by decide +kernel
theorem dX12_music_86 : decode cX12_music 86 = .ok (.getfield 55, 3) := by decide +kernel
theorem dX12_music_89 : decode cX12_music 89 = .ok (.iload 5, 2) := by decide +kernel
theorem dX12_music_91 : decode cX12_music 91 = .ok (.iconst 1, 1) := by decide +kernel
theorem dX12_music_92 : decode cX12_music 92 = .ok (.iadd, 1) := by decide +kernel
theorem dX12_music_93 : decode cX12_music 93 = .ok (.aload_n 0, 1) := by decide +kernel
theorem dX12_music_94 : decode cX12_music 94 = .ok (.getfield 13, 3) := by decide +kernel
theorem dX12_music_97 : decode cX12_music 97 = .ok (.iload 4, 2) := by decide +kernel
theorem dX12_music_99 : decode cX12_music 99 = .ok (.iaload, 1) := by decide +kernel
theorem dX12_music_100 : decode cX12_music 100 = .ok (.if_icmp .ge 19, 3) := by decide +kernel
theorem dX12_music_103 : decode cX12_music 103 = .ok (.aload_n 0, 1) := by decide +kernel
theorem dX12_music_104 : decode cX12_music 104 = .ok (.getfield 17, 3) := by decide +kernel
theorem dX12_music_107 : decode cX12_music 107 = .ok (.bipush 66, 2) := by decide +kernel
theorem dX12_music_109 : decode cX12_music 109 = .ok (.iload 4, 2) := by decide +kernel
theorem dX12_music_111 : decode cX12_music 111 = .ok (.imul, 1) := by decide +kernel
theorem dX12_music_112 : decode cX12_music 112 = .ok (.iload 5, 2) := by decide +kernel
theorem dX12_music_114 : decode cX12_music 114 = .ok (.iadd, 1) := by decide +kernel
theorem dX12_music_115 : decode cX12_music 115 = .ok (.iaload, 1) := by decide +kernel
theorem dX12_music_116 : decode cX12_music 116 = .ok (.goto 15, 3) := by decide +kernel
theorem dX12_music_119 : decode cX12_music 119 = .ok (.aload_n 0, 1) := by decide +kernel
theorem dX12_music_120 : decode cX12_music 120 = .ok (.iload 4, 2) := by decide +kernel
theorem dX12_music_122 : decode cX12_music 122 = .ok (.aload_n 0, 1) := by decide +kernel
theorem dX12_music_123 : decode cX12_music 123 = .ok (.getfield 23, 3) := by decide +kernel
theorem dX12_music_126 : decode cX12_music 126 = .ok (.iload_n 3, 1) := by decide +kernel
theorem dX12_music_127 : decode cX12_music 127 = .ok (.iaload, 1) := by decide +kernel
theorem dX12_music_128 : decode cX12_music 128 = .ok (.invokevirtual 171, 3) := by decide +kernel
theorem dX12_music_131 : decode cX12_music 131 = .ok (.invokevirtual 167, 3) := by decide +kernel
theorem dX12_music_134 : decode cX12_music 134 = .ok (.iinc 5 1, 3) := by decide +kernel
theorem dX12_music_137 : decode cX12_music 137 = .ok (.goto (-81), 3) := by decide +kernel
theorem dX12_music_140 : decode cX12_music 140 = .ok (.iinc 3 1, 3) := by decide +kernel
theorem dX12_music_143 : decode cX12_music 143 = .ok (.goto (-106), 3) := by decide +kernel
theorem dX12_music_146 : decode cX12_music 146 = .ok (.iload_n 2, 1) := by decide +kernel
theorem dX12_music_147 : decode cX12_music 147 = .ok (.ireturn, 1) := by decide +kernel
set_option maxRecDepth 20000 in
theorem ggX12_whole_X12_ringAll : GoodIn wsX12_whole wsX12_ringAll := goodIn_r _ [8, 9, 10, 11, 12, 3, 13, 2, 14, 15, 16, 17, 18, 19, 20, 7, 21, 22, 23, 24, 25, 26, 27, 28, 29, 30, 31, 32, 33, 34, 45, 46, 47, 48, 49, 50, 51, 52, 53, 54, 55, 56, 57, 58, 59, 60, 61, 62, 63, 64, 65, 66, 67, 68, 69, 70, 71, 72, 73, 74, 75, 76, 77, 78, 79, 80, 81, 82] (by decide +kernel) (by decide +kernel)
set_option maxRecDepth 20000 in
theorem gX12_whole_X12_ringAll : GoodIn wsX12_whole (wsV RX12 214 RX12 yX12_ringAll wsX12_ringAll) := goodIn_app (goodIn_of _ (by decide +kernel)) ggX12_whole_X12_ringAll
set_option maxRecDepth 20000 in
theorem ggX12_whole_X12_order : GoodIn wsX12_whole wsX12_order := goodIn_r _ [38, 39, 11, 22, 40, 18, 19, 20, 7, 21, 41, 42, 43, 44, 45, 46, 47, 48, 49, 50, 51, 52, 53, 54, 55, 56, 57, 58, 59, 60, 61, 62, 63, 64, 65, 66, 67, 68, 69, 70, 71, 72, 73, 74, 75, 76, 77, 78, 79, 80, 81, 82] (by decide +kernel) (by decide +kernel)
set_option maxRecDepth 20000 in
theorem gX12_whole_X12_order : GoodIn wsX12_whole (wsV RX12 217 RX12 yX12_order wsX12_order) := goodIn_app (goodIn_of _ (by decide +kernel)) ggX12_whole_X12_order
theorem dX12_whole_0 : decode cX12_whole 0 = .ok (.aload_n 0, 1) := by decide +kernel
theorem dX12_whole_1 : decode cX12_whole 1 = .ok (.iconst 0, 1) := by decide +kernel
theorem dX12_whole_2 : decode cX12_whole 2 = .ok (.putfield 81, 3) := by decide +kernel
theorem dX12_whole_5 : decode cX12_whole 5 = .ok (.aload_n 0, 1) := by decide +kernel
theorem dX12_whole_6 : decode cX12_whole 6 = .ok (.iconst 1, 1) := by decide +kernel
theorem dX12_whole_7 : decode cX12_whole 7 = .ok (.iconst (-1), 1) := by decide +kernel
theorem dX12_whole_8 : decode cX12_whole 8 = .ok (.invokevirtual 214, 3) := by decide +kernel
theorem dX12_whole_11 : decode cX12_whole 11 = .ok (.aload_n 0, 1) := by decide +kernel
theorem dX12_whole_12 : decode cX12_whole 12 = .ok (.invokevirtual 217, 3) := by decide +kernel
theorem dX12_whole_15 : decode cX12_whole 15 = .ok (.istore_n 1, 1) := by decide +kernel
theorem dX12_whole_16 : decode cX12_whole 16 = .ok (.iload_n 1, 1) := by decide +kernel
theorem dX12_whole_17 : decode cX12_whole 17 = .ok (.aload_n 0, 1) := by decide +kernel
theorem dX12_whole_18 : decode cX12_whole 18 = .ok (.getfield 107, 3) := by decide +kernel
theorem dX12_whole_21 : decode cX12_whole 21 = .ok (.imul, 1) := by decide +kernel
theorem dX12_whole_22 : decode cX12_whole 22 = .ok (.sipush 1000, 3) := by decide +kernel
theorem dX12_whole_25 : decode cX12_whole 25 = .ok (.if_icmp .le 5, 3) := by decide +kernel
theorem dX12_whole_28 : decode cX12_whole 28 = .ok (.iconst (-1), 1) := by decide +kernel
theorem dX12_whole_29 : decode cX12_whole 29 = .ok (.ireturn, 1) := by decide +kernel
theorem dX12_whole_30 : decode cX12_whole 30 = .ok (.aload_n 0, 1) := by decide +kernel
theorem dX12_whole_31 : decode cX12_whole 31 = .ok (.iload_n 1, 1) := by decide +kernel
theorem dX12_whole_32 : decode cX12_whole 32 = .ok (.iconst (-1), 1) := by decide +kernel
theorem dX12_whole_33 : decode cX12_whole 33 = .ok (.invokevirtual 214, 3) := by decide +kernel
theorem dX12_whole_36 : decode cX12_whole 36 = .ok (.aload_n 0, 1) := by decide +kernel
theorem dX12_whole_37 : decode cX12_whole 37 = .ok (.getfield 205, 3) := by decide +kernel
theorem dX12_whole_40 : decode cX12_whole 40 = .ok (.ifCond .ge 7, 3) := by decide +kernel
theorem dX12_whole_43 : decode cX12_whole 43 = .ok (.iconst 1, 1) := by decide +kernel
theorem dX12_whole_44 : decode cX12_whole 44 = .ok (.goto 4, 3) := by decide +kernel
theorem dX12_whole_47 : decode cX12_whole 47 = .ok (.iconst 0, 1) := by decide +kernel
theorem dX12_whole_48 : decode cX12_whole 48 = .ok (.ireturn, 1) := by decide +kernel
set_option maxRecDepth 20000 in
theorem ggX12_put_X12_rank : GoodIn wsX12_put wsX12_rank := goodIn_r _ [10, 1, 15, 16, 17, 18, 19, 20, 21, 22, 23, 24, 25, 26, 27, 28, 29, 30, 31, 32, 33, 34, 35, 36, 37, 38, 39, 40, 41, 42, 43, 44, 45, 46, 47, 48, 49, 50, 51, 52] (by decide +kernel) (by decide +kernel)
set_option maxRecDepth 20000 in
theorem gX12_put_X12_rank : GoodIn wsX12_put (wsV RX12 211 RX12 yX12_rank wsX12_rank) := goodIn_app (goodIn_of _ (by decide +kernel)) ggX12_put_X12_rank
set_option maxRecDepth 20000 in
theorem ggX12_put_X12_ring : GoodIn wsX12_put wsX12_ring := goodIn_r _ [14, 1, 15, 16, 17, 18, 19, 20, 21, 22, 23, 24, 25, 26, 27, 28, 29, 30, 31, 32, 33, 34, 35, 36, 37, 38, 39, 40, 41, 42, 43, 44, 45, 46, 47, 48, 49, 50, 51, 52] (by decide +kernel) (by decide +kernel)
set_option maxRecDepth 20000 in
theorem gX12_put_X12_ring : GoodIn wsX12_put (wsV RX12 167 RX12 yX12_ring wsX12_ring) := goodIn_app (goodIn_of _ (by decide +kernel)) ggX12_put_X12_ring
theorem dX12_put_0 : decode cX12_put 0 = .ok (.iconst 0, 1) := by decide +kernel
theorem dX12_put_1 : decode cX12_put 1 = .ok (.istore 5, 2) := by decide +kernel
theorem dX12_put_3 : decode cX12_put 3 = .ok (.iload 5, 2) := by decide +kernel
theorem dX12_put_5 : decode cX12_put 5 = .ok (.aload_n 0, 1) := by decide +kernel
theorem dX12_put_6 : decode cX12_put 6 = .ok (.getfield 7, 3) := by decide +kernel
theorem dX12_put_9 : decode cX12_put 9 = .ok (.if_icmp .ge 28, 3) := by decide +kernel
theorem dX12_put_12 : decode cX12_put 12 = .ok (.aload_n 0, 1) := by decide +kernel
theorem dX12_put_13 : decode cX12_put 13 = .ok (.getfield 55, 3) := by decide +kernel
theorem dX12_put_16 : decode cX12_put 16 = .ok (.iload 5, 2) := by decide +kernel
theorem dX12_put_18 : decode cX12_put 18 = .ok (.aload_n 0, 1) := by decide +kernel
theorem dX12_put_19 : decode cX12_put 19 = .ok (.getfield 72, 3) := by decide +kernel
theorem dX12_put_22 : decode cX12_put 22 = .ok (.bipush 8, 2) := by decide +kernel
theorem dX12_put_24 : decode cX12_put 24 = .ok (.iload_n 2, 1) := by decide +kernel
theorem dX12_put_25 : decode cX12_put 25 = .ok (.imul, 1) := by decide +kernel
theorem dX12_put_26 : decode cX12_put 26 = .ok (.iload 5, 2) := by decide +kernel
theorem dX12_put_28 : decode cX12_put 28 = .ok (.iadd, 1) := by decide +kernel
theorem dX12_put_29 : decode cX12_put 29 = .ok (.iaload, 1) := by decide +kernel
theorem dX12_put_30 : decode cX12_put 30 = .ok (.iastore, 1) := by decide +kernel
theorem dX12_put_31 : decode cX12_put 31 = .ok (.iinc 5 1, 3) := by decide +kernel
theorem dX12_put_34 : decode cX12_put 34 = .ok (.goto (-31), 3) := by decide +kernel
theorem dX12_put_37 : decode cX12_put 37 = .ok (.iconst 0, 1) := by decide +kernel
theorem dX12_put_38 : decode cX12_put 38 = .ok (.istore 5, 2) := by decide +kernel
theorem dX12_put_40 : decode cX12_put 40 = .ok (.iload 5, 2) := by decide +kernel
theorem dX12_put_42 : decode cX12_put 42 = .ok (.iload_n 3, 1) := by decide +kernel
theorem dX12_put_43 : decode cX12_put 43 = .ok (.if_icmp .ge 66, 3) := by decide +kernel
theorem dX12_put_46 : decode cX12_put 46 = .ok (.aload_n 0, 1) := by decide +kernel
theorem dX12_put_47 : decode cX12_put 47 = .ok (.aload_n 0, 1) := by decide +kernel
theorem dX12_put_48 : decode cX12_put 48 = .ok (.getfield 55, 3) := by decide +kernel
theorem dX12_put_51 : decode cX12_put 51 = .ok (.invokevirtual 211, 3) := by decide +kernel
theorem dX12_put_54 : decode cX12_put 54 = .ok (.istore 6, 2) := by decide +kernel
theorem dX12_put_56 : decode cX12_put 56 = .ok (.iload 4, 2) := by decide +kernel
theorem dX12_put_58 : decode cX12_put 58 = .ok (.ifCond .eq 16, 3) := by decide +kernel
theorem dX12_put_61 : decode cX12_put 61 = .ok (.aload_n 0, 1) := by decide +kernel
theorem dX12_put_62 : decode cX12_put 62 = .ok (.getfield 78, 3) := by decide +kernel
theorem dX12_put_65 : decode cX12_put 65 = .ok (.iload 6, 2) := by decide +kernel
theorem dX12_put_67 : decode cX12_put 67 = .ok (.baload, 1) := by decide +kernel
theorem dX12_put_68 : decode cX12_put 68 = .ok (.ifCond .eq 6, 3) := by decide +kernel
theorem dX12_put_71 : decode cX12_put 71 = .ok (.iload 5, 2) := by decide +kernel
theorem dX12_put_73 : decode cX12_put 73 = .ok (.ireturn, 1) := by decide +kernel
theorem dX12_put_74 : decode cX12_put 74 = .ok (.aload_n 0, 1) := by decide +kernel
theorem dX12_put_75 : decode cX12_put 75 = .ok (.getfield 78, 3) := by decide +kernel
theorem dX12_put_78 : decode cX12_put 78 = .ok (.iload 6, 2) := by decide +kernel
theorem dX12_put_80 : decode cX12_put 80 = .ok (.iload 4, 2) := by decide +kernel
theorem dX12_put_82 : decode cX12_put 82 = .ok (.bastore, 1) := by decide +kernel
theorem dX12_put_83 : decode cX12_put 83 = .ok (.aload_n 0, 1) := by decide +kernel
theorem dX12_put_84 : decode cX12_put 84 = .ok (.aload_n 0, 1) := by decide +kernel
theorem dX12_put_85 : decode cX12_put 85 = .ok (.getfield 55, 3) := by decide +kernel
theorem dX12_put_88 : decode cX12_put 88 = .ok (.aload_n 0, 1) := by decide +kernel
theorem dX12_put_89 : decode cX12_put 89 = .ok (.getfield 17, 3) := by decide +kernel
theorem dX12_put_92 : decode cX12_put 92 = .ok (.bipush 66, 2) := by decide +kernel
theorem dX12_put_94 : decode cX12_put 94 = .ok (.iload_n 1, 1) := by decide +kernel
theorem dX12_put_95 : decode cX12_put 95 = .ok (.imul, 1) := by decide +kernel
theorem dX12_put_96 : decode cX12_put 96 = .ok (.iload 5, 2) := by decide +kernel
theorem dX12_put_98 : decode cX12_put 98 = .ok (.iadd, 1) := by decide +kernel
theorem dX12_put_99 : decode cX12_put 99 = .ok (.iaload, 1) := by decide +kernel
theorem dX12_put_100 : decode cX12_put 100 = .ok (.invokevirtual 167, 3) := by decide +kernel
theorem dX12_put_103 : decode cX12_put 103 = .ok (.iinc 5 1, 3) := by decide +kernel
theorem dX12_put_106 : decode cX12_put 106 = .ok (.goto (-66), 3) := by decide +kernel
theorem dX12_put_109 : decode cX12_put 109 = .ok (.iload_n 3, 1) := by decide +kernel
theorem dX12_put_110 : decode cX12_put 110 = .ok (.ireturn, 1) := by decide +kernel
set_option maxRecDepth 20000 in
theorem ggX12_find_X12_throwsIf : GoodIn wsX12_find wsX12_throwsIf := goodIn_r _ [16, 17, 51, 52, 53, 54, 55, 56, 57, 58, 59, 60, 61, 62, 63, 64, 65, 66, 67, 68, 69, 70, 71, 72, 73, 74, 75, 76, 77, 78, 79, 80, 81, 82, 83, 84, 85, 86, 87, 88] (by decide +kernel) (by decide +kernel)
set_option maxRecDepth 20000 in
theorem gX12_find_X12_throwsIf : GoodIn wsX12_find (wsV RX12 134 RX12 yX12_throwsIf wsX12_throwsIf) := goodIn_app (goodIn_of _ (by decide +kernel)) ggX12_find_X12_throwsIf
set_option maxRecDepth 20000 in
theorem ggX12_find_X12_isTold : GoodIn wsX12_find wsX12_isTold := goodIn_r _ [21, 7, 51, 52, 53, 54, 55, 56, 57, 58, 59, 60, 61, 62, 63, 64, 65, 66, 67, 68, 69, 70, 71, 72, 73, 74, 75, 76, 77, 78, 79, 80, 81, 82, 83, 84, 85, 86, 87, 88] (by decide +kernel) (by decide +kernel)
set_option maxRecDepth 20000 in
theorem gX12_find_X12_isTold : GoodIn wsX12_find (wsV RX12 150 RX12 yX12_isTold wsX12_isTold) := goodIn_app (goodIn_of _ (by decide +kernel)) ggX12_find_X12_isTold
set_option maxRecDepth 20000 in
theorem ggX12_find_X12_rounds : GoodIn wsX12_find wsX12_rounds := goodIn_r _ [25, 5, 51, 52, 53, 54, 55, 56, 57, 58, 59, 60, 61, 62, 63, 64, 65, 66, 67, 68, 69, 70, 71, 72, 73, 74, 75, 76, 77, 78, 79, 80, 81, 82, 83, 84, 85, 86, 87, 88] (by decide +kernel) (by decide +kernel)
set_option maxRecDepth 20000 in
theorem gX12_find_X12_rounds : GoodIn wsX12_find (wsV RX12 175 RX12 yX12_rounds wsX12_rounds) := goodIn_app (goodIn_of _ (by decide +kernel)) ggX12_find_X12_rounds
set_option maxRecDepth 20000 in
theorem ggX12_find_X12_put : GoodIn wsX12_find wsX12_put := goodIn_r _ [29, 5, 4, 6, 2, 30, 31, 32, 33, 15, 34, 35, 36, 37, 38, 51, 52, 53, 54, 55, 56, 57, 58, 59, 60, 61, 62, 63, 64, 65, 66, 67, 68, 69, 70, 71, 72, 73, 74, 75, 76, 77, 78, 79, 80, 81, 82, 83, 84, 85, 86, 87, 88] (by decide +kernel) (by decide +kernel)
set_option maxRecDepth 20000 in
theorem gX12_find_X12_put : GoodIn wsX12_find (wsV RX12 235 RX12 yX12_put wsX12_put) := goodIn_app (goodIn_of _ (by decide +kernel)) ggX12_find_X12_put
set_option maxRecDepth 20000 in
theorem ggX12_find_X12_ringLead : GoodIn wsX12_find wsX12_ringLead := goodIn_r _ [42, 7, 30, 35, 36, 37, 15, 38, 5, 43, 44, 45, 46, 51, 52, 53, 54, 55, 56, 57, 58, 59, 60, 61, 62, 63, 64, 65, 66, 67, 68, 69, 70, 71, 72, 73, 74, 75, 76, 77, 78, 79, 80, 81, 82, 83, 84, 85, 86, 87, 88] (by decide +kernel) (by decide +kernel)
set_option maxRecDepth 20000 in
theorem gX12_find_X12_ringLead : GoodIn wsX12_find (wsV RX12 183 RX12 yX12_ringLead wsX12_ringLead) := goodIn_app (goodIn_of _ (by decide +kernel)) ggX12_find_X12_ringLead
set_option maxRecDepth 20000 in
theorem ggX12_find_X12_isRounds : GoodIn wsX12_find wsX12_isRounds := goodIn_r _ [50, 5, 51, 52, 53, 54, 55, 56, 57, 58, 59, 60, 61, 62, 63, 64, 65, 66, 67, 68, 69, 70, 71, 72, 73, 74, 75, 76, 77, 78, 79, 80, 81, 82, 83, 84, 85, 86, 87, 88] (by decide +kernel) (by decide +kernel)
set_option maxRecDepth 20000 in
theorem gX12_find_X12_isRounds : GoodIn wsX12_find (wsV RX12 187 RX12 yX12_isRounds wsX12_isRounds) := goodIn_app (goodIn_of _ (by decide +kernel)) ggX12_find_X12_isRounds
theorem dX12_find_0 : decode cX12_find 0 = .ok (.aload_n 0, 1) := by decide +kernel
theorem dX12_find_1 : decode cX12_find 1 = .ok (.iload_n 2, 1) := by decide +kernel
theorem dX12_find_2 : decode cX12_find 2 = .ok (.iconst 1, 1) := by decide +kernel
theorem dX12_find_3 : decode cX12_find 3 = .ok (.if_icmp .lt 22, 3) := by decide +kernel
theorem dX12_find_6 : decode cX12_find 6 = .ok (.iload_n 2, 1) := by decide +kernel
theorem dX12_find_7 : decode cX12_find 7 = .ok (.sipush 200, 3) := by decide +kernel
theorem dX12_find_10 : decode cX12_find 10 = .ok (.if_icmp .gt 15, 3) := by decide +kernel
theorem dX12_find_13 : decode cX12_find 13 = .ok (.iload_n 3, 1) := by decide +kernel
theorem dX12_find_14 : decode cX12_find 14 = .ok (.iconst 1, 1) := by decide +kernel
theorem dX12_find_15 : decode cX12_find 15 = .ok (.if_icmp .lt 10, 3) := by decide +kernel
theorem dX12_find_18 : decode cX12_find 18 = .ok (.iload_n 3, 1) := by decide +kernel
theorem dX12_find_19 : decode cX12_find 19 = .ok (.sipush 3000, 3) := by decide +kernel
theorem dX12_find_22 : decode cX12_find 22 = .ok (.if_icmp .le 7, 3) := by decide +kernel
theorem dX12_find_25 : decode cX12_find 25 = .ok (.iconst 1, 1) := by decide +kernel
theorem dX12_find_26 : decode cX12_find 26 = .ok (.goto 4, 3) := by decide +kernel
theorem dX12_find_29 : decode cX12_find 29 = .ok (.iconst 0, 1) := by decide +kernel
theorem dX12_find_30 : decode cX12_find 30 = .ok (.iconst 1, 1) := by decide +kernel
theorem dX12_find_31 : decode cX12_find 31 = .ok (.invokevirtual 134, 3) := by decide +kernel
theorem dX12_find_34 : decode cX12_find 34 = .ok (.ifCond .ne 24, 3) := by decide +kernel
theorem dX12_find_37 : decode cX12_find 37 = .ok (.aload_n 0, 1) := by decide +kernel
theorem dX12_find_38 : decode cX12_find 38 = .ok (.aload_n 0, 1) := by decide +kernel
theorem dX12_find_39 : decode cX12_find 39 = .ok (.iload_n 1, 1) := by decide +kernel
theorem dX12_find_40 : decode cX12_find 40 = .ok (.invokevirtual 150, 3) := by decide +kernel
theorem dX12_find_43 : decode cX12_find 43 = .ok (.ifCond .ne 7, 3) := by decide +kernel
theorem dX12_find_46 : decode cX12_find 46 = .ok (.iconst 1, 1) := by decide +kernel
theorem dX12_find_47 : decode cX12_find 47 = .ok (.goto 4, 3) := by decide +kernel
theorem dX12_find_50 : decode cX12_find 50 = .ok (.iconst 0, 1) := by decide +kernel
theorem dX12_find_51 : decode cX12_find 51 = .ok (.iconst 2, 1) := by decide +kernel
theorem dX12_find_52 : decode cX12_find 52 = .ok (.invokevirtual 134, 3) := by decide +kernel
theorem dX12_find_55 : decode cX12_find 55 = .ok (.ifCond .eq 5, 3) := by decide +kernel
theorem dX12_find_58 : decode cX12_find 58 = .ok (.iconst 0, 1) := by decide +kernel
theorem dX12_find_59 : decode cX12_find 59 = .ok (.ireturn, 1) := by decide +kernel
theorem dX12_find_60 : decode cX12_find 60 = .ok (.iconst 0, 1) := by decide +kernel
theorem dX12_find_61 : decode cX12_find 61 = .ok (.istore 4, 2) := by decide +kernel
theorem dX12_find_63 : decode cX12_find 63 = .ok (.iload 4, 2) := by decide +kernel
theorem dX12_find_65 : decode cX12_find 65 = .ok (.ldc 64, 2) := by decide +kernel
theorem dX12_find_67 : decode cX12_find 67 = .ok (.if_icmp .ge 17, 3) := by decide +kernel
theorem dX12_find_70 : decode cX12_find 70 = .ok (.aload_n 0, 1) := by decide +kernel
theorem dX12_find_71 : decode cX12_find 71 = .ok (.getfield 78, 3) := by decide +kernel
theorem dX12_find_74 : decode cX12_find 74 = .ok (.iload 4, 2) := by decide +kernel
theorem dX12_find_76 : decode cX12_find 76 = .ok (.iconst 0, 1) := by decide +kernel
theorem dX12_find_77 : decode cX12_find 77 = .ok (.bastore, 1) := by decide +kernel
theorem dX12_find_78 : decode cX12_find 78 = .ok (.iinc 4 1, 3) := by decide +kernel
theorem dX12_find_81 : decode cX12_find 81 = .ok (.goto (-18), 3) := by decide +kernel
theorem dX12_find_84 : decode cX12_find 84 = .ok (.aload_n 0, 1) := by decide +kernel
theorem dX12_find_85 : decode cX12_find 85 = .ok (.iconst 0, 1) := by decide +kernel
theorem dX12_find_86 : decode cX12_find 86 = .ok (.putfield 232, 3) := by decide +kernel
theorem dX12_find_89 : decode cX12_find 89 = .ok (.aload_n 0, 1) := by decide +kernel
theorem dX12_find_90 : decode cX12_find 90 = .ok (.aload_n 0, 1) := by decide +kernel
theorem dX12_find_91 : decode cX12_find 91 = .ok (.getfield 55, 3) := by decide +kernel
theorem dX12_find_94 : decode cX12_find 94 = .ok (.invokevirtual 175, 3) := by decide +kernel
theorem dX12_find_97 : decode cX12_find 97 = .ok (.iconst 0, 1) := by decide +kernel
