theorem dX3_takeDigit_46 : decode cX3_takeDigit 46 = .ok (.iload_n 1, 1) := by decide +kernel
theorem dX3_takeDigit_47 : decode cX3_takeDigit 47 = .ok (.aload_n 0, 1) := by decide +kernel
theorem dX3_takeDigit_48 : decode cX3_takeDigit 48 = .ok (.getfield 18, 3) := by decide +kernel
theorem dX3_takeDigit_51 : decode cX3_takeDigit 51 = .ok (.if_icmp .le 7, 3) := by decide +kernel
theorem dX3_takeDigit_54 : decode cX3_takeDigit 54 = .ok (.iconst 1, 1) := by decide +kernel
theorem dX3_takeDigit_55 : decode cX3_takeDigit 55 = .ok (.goto 4, 3) := by decide +kernel
theorem dX3_takeDigit_58 : decode cX3_takeDigit 58 = .ok (.iconst 0, 1) := by decide +kernel
theorem dX3_takeDigit_59 : decode cX3_takeDigit 59 = .ok (.putfield 38, 3) := by decide +kernel
theorem dX3_takeDigit_62 : decode cX3_takeDigit 62 = .ok (.aload_n 0, 1) := by decide +kernel
theorem dX3_takeDigit_63 : decode cX3_takeDigit 63 = .ok (.iload_n 1, 1) := by decide +kernel
theorem dX3_takeDigit_64 : decode cX3_takeDigit 64 = .ok (.putfield 41, 3) := by decide +kernel
theorem dX3_takeDigit_67 : decode cX3_takeDigit 67 = .ok (.aload_n 0, 1) := by decide +kernel
theorem dX3_takeDigit_68 : decode cX3_takeDigit 68 = .ok (.iconst 0, 1) := by decide +kernel
theorem dX3_takeDigit_69 : decode cX3_takeDigit 69 = .ok (.putfield 47, 3) := by decide +kernel
theorem dX3_takeDigit_72 : decode cX3_takeDigit 72 = .ok (.goto 35, 3) := by decide +kernel
theorem dX3_takeDigit_75 : decode cX3_takeDigit 75 = .ok (.iload_n 1, 1) := by decide +kernel
theorem dX3_takeDigit_76 : decode cX3_takeDigit 76 = .ok (.aload_n 0, 1) := by decide +kernel
theorem dX3_takeDigit_77 : decode cX3_takeDigit 77 = .ok (.getfield 44, 3) := by decide +kernel
theorem dX3_takeDigit_80 : decode cX3_takeDigit 80 = .ok (.if_icmp .le 22, 3) := by decide +kernel
theorem dX3_takeDigit_83 : decode cX3_takeDigit 83 = .ok (.iload_n 1, 1) := by decide +kernel
theorem dX3_takeDigit_84 : decode cX3_takeDigit 84 = .ok (.aload_n 0, 1) := by decide +kernel
theorem dX3_takeDigit_85 : decode cX3_takeDigit 85 = .ok (.getfield 18, 3) := by decide +kernel
theorem dX3_takeDigit_88 : decode cX3_takeDigit 88 = .ok (.if_icmp .gt 14, 3) := by decide +kernel
theorem dX3_takeDigit_91 : decode cX3_takeDigit 91 = .ok (.iload_n 1, 1) := by decide +kernel
theorem dX3_takeDigit_92 : decode cX3_takeDigit 92 = .ok (.aload_n 0, 1) := by decide +kernel
theorem dX3_takeDigit_93 : decode cX3_takeDigit 93 = .ok (.getfield 44, 3) := by decide +kernel
theorem dX3_takeDigit_96 : decode cX3_takeDigit 96 = .ok (.isub, 1) := by decide +kernel
theorem dX3_takeDigit_97 : decode cX3_takeDigit 97 = .ok (.iconst 2, 1) := by decide +kernel
theorem dX3_takeDigit_98 : decode cX3_takeDigit 98 = .ok (.irem, 1) := by decide +kernel
theorem dX3_takeDigit_99 : decode cX3_takeDigit 99 = .ok (.ifCond .ne 8, 3) := by decide +kernel
theorem dX3_takeDigit_102 : decode cX3_takeDigit 102 = .ok (.aload_n 0, 1) := by decide +kernel
theorem dX3_takeDigit_103 : decode cX3_takeDigit 103 = .ok (.iconst 1, 1) := by decide +kernel
theorem dX3_takeDigit_104 : decode cX3_takeDigit 104 = .ok (.putfield 38, 3) := by decide +kernel
theorem dX3_takeDigit_107 : decode cX3_takeDigit 107 = .ok (.aload_n 0, 1) := by decide +kernel
theorem dX3_takeDigit_108 : decode cX3_takeDigit 108 = .ok (.iload_n 1, 1) := by decide +kernel
theorem dX3_takeDigit_109 : decode cX3_takeDigit 109 = .ok (.putfield 44, 3) := by decide +kernel
theorem dX3_takeDigit_112 : decode cX3_takeDigit 112 = .ok (.aload_n 0, 1) := by decide +kernel
theorem dX3_takeDigit_113 : decode cX3_takeDigit 113 = .ok (.dup, 1) := by decide +kernel
theorem dX3_takeDigit_114 : decode cX3_takeDigit 114 = .ok (.getfield 47, 3) := by decide +kernel
theorem dX3_takeDigit_117 : decode cX3_takeDigit 117 = .ok (.iconst 1, 1) := by decide +kernel
theorem dX3_takeDigit_118 : decode cX3_takeDigit 118 = .ok (.iload_n 1, 1) := by decide +kernel
theorem dX3_takeDigit_119 : decode cX3_takeDigit 119 = .ok (.iconst 1, 1) := by decide +kernel
theorem dX3_takeDigit_120 : decode cX3_takeDigit 120 = .ok (.isub, 1) := by decide +kernel
theorem dX3_takeDigit_121 : decode cX3_takeDigit 121 = .ok (.ishl, 1) := by decide +kernel
theorem dX3_takeDigit_122 : decode cX3_takeDigit 122 = .ok (.ior, 1) := by decide +kernel
theorem dX3_takeDigit_123 : decode cX3_takeDigit 123 = .ok (.putfield 47, 3) := by decide +kernel
theorem dX3_takeDigit_126 : decode cX3_takeDigit 126 = .ok (.return_, 1) := by decide +kernel
set_option maxRecDepth 20000 in
theorem ggX3_takeDigitsEnd_X10_refuse : GoodIn wsX3_takeDigitsEnd wsX10_refuse := goodIn_r _ [11, 12, 13, 59, 60, 61, 62, 63, 64, 65, 66, 67, 68, 69, 70, 71, 72, 73, 74, 75, 45, 46, 47, 48, 49, 50, 51, 52, 53, 54, 55, 56, 57, 58] (by decide +kernel) (by decide +kernel)
set_option maxRecDepth 20000 in
theorem gX3_takeDigitsEnd_X10_refuse_u73X3 : GoodIn wsX3_takeDigitsEnd (va_wsU RX3 73 RX3 "BellTower$Text" ⟨"BellTower$MethodText", "refuse", "(II)V"⟩ yX10_refuse wsX10_refuse) := goodIn_app (goodIn_of _ (by decide +kernel)) ggX3_takeDigitsEnd_X10_refuse
set_option maxRecDepth 20000 in
theorem ggX3_takeDigitsEnd_X6_changeMaking : GoodIn wsX3_takeDigitsEnd wsX6_changeMaking := goodIn_r _ [17] (by decide +kernel) (by decide +kernel)
set_option maxRecDepth 20000 in
theorem gX3_takeDigitsEnd_X6_changeMaking : GoodIn wsX3_takeDigitsEnd (va_wsS RX3 81 yX6_changeMaking wsX6_changeMaking) := goodIn_app (goodIn_of _ (by decide +kernel)) ggX3_takeDigitsEnd_X6_changeMaking
set_option maxRecDepth 20000 in
theorem ggX3_takeDigitsEnd_X3_addChange : GoodIn wsX3_takeDigitsEnd wsX3_addChange := goodIn_r _ [22, 23, 24, 25, 26, 27, 28, 29, 30, 31, 32, 33, 34, 35, 36, 37, 38, 39, 40, 41, 42, 43, 44, 45, 46, 47, 48, 49, 50, 51, 52, 53, 54, 55, 56, 57, 58, 76, 77, 78, 79, 80, 81, 82, 83] (by decide +kernel) (by decide +kernel)
set_option maxRecDepth 20000 in
theorem gX3_takeDigitsEnd_X3_addChange : GoodIn wsX3_takeDigitsEnd (wsV RX3 87 RX3 yX3_addChange wsX3_addChange) := goodIn_app (goodIn_of _ (by decide +kernel)) ggX3_takeDigitsEnd_X3_addChange
theorem dX3_takeDigitsEnd_0 : decode cX3_takeDigitsEnd 0 = .ok (.aload_n 0, 1) := by decide +kernel
theorem dX3_takeDigitsEnd_1 : decode cX3_takeDigitsEnd 1 = .ok (.getfield 38, 3) := by decide +kernel
theorem dX3_takeDigitsEnd_4 : decode cX3_takeDigitsEnd 4 = .ok (.ifCond .eq 10, 3) := by decide +kernel
theorem dX3_takeDigitsEnd_7 : decode cX3_takeDigitsEnd 7 = .ok (.aload_n 0, 1) := by decide +kernel
theorem dX3_takeDigitsEnd_8 : decode cX3_takeDigitsEnd 8 = .ok (.iconst 2, 1) := by decide +kernel
theorem dX3_takeDigitsEnd_9 : decode cX3_takeDigitsEnd 9 = .ok (.iload_n 1, 1) := by decide +kernel
theorem dX3_takeDigitsEnd_10 : decode cX3_takeDigitsEnd 10 = .ok (.invokevirtual 73, 3) := by decide +kernel
theorem dX3_takeDigitsEnd_13 : decode cX3_takeDigitsEnd 13 = .ok (.return_, 1) := by decide +kernel
theorem dX3_takeDigitsEnd_14 : decode cX3_takeDigitsEnd 14 = .ok (.aload_n 0, 1) := by decide +kernel
theorem dX3_takeDigitsEnd_15 : decode cX3_takeDigitsEnd 15 = .ok (.getfield 41, 3) := by decide +kernel
theorem dX3_takeDigitsEnd_18 : decode cX3_takeDigitsEnd 18 = .ok (.iconst 2, 1) := by decide +kernel
theorem dX3_takeDigitsEnd_19 : decode cX3_takeDigitsEnd 19 = .ok (.irem, 1) := by decide +kernel
theorem dX3_takeDigitsEnd_20 : decode cX3_takeDigitsEnd 20 = .ok (.ifCond .ne 13, 3) := by decide +kernel
theorem dX3_takeDigitsEnd_23 : decode cX3_takeDigitsEnd 23 = .ok (.aload_n 0, 1) := by decide +kernel
theorem dX3_takeDigitsEnd_24 : decode cX3_takeDigitsEnd 24 = .ok (.dup, 1) := by decide +kernel
theorem dX3_takeDigitsEnd_25 : decode cX3_takeDigitsEnd 25 = .ok (.getfield 47, 3) := by decide +kernel
theorem dX3_takeDigitsEnd_28 : decode cX3_takeDigitsEnd 28 = .ok (.iconst 1, 1) := by decide +kernel
theorem dX3_takeDigitsEnd_29 : decode cX3_takeDigitsEnd 29 = .ok (.ior, 1) := by decide +kernel
theorem dX3_takeDigitsEnd_30 : decode cX3_takeDigitsEnd 30 = .ok (.putfield 47, 3) := by decide +kernel
theorem dX3_takeDigitsEnd_33 : decode cX3_takeDigitsEnd 33 = .ok (.aload_n 0, 1) := by decide +kernel
theorem dX3_takeDigitsEnd_34 : decode cX3_takeDigitsEnd 34 = .ok (.aload_n 0, 1) := by decide +kernel
theorem dX3_takeDigitsEnd_35 : decode cX3_takeDigitsEnd 35 = .ok (.getfield 47, 3) := by decide +kernel
theorem dX3_takeDigitsEnd_38 : decode cX3_takeDigitsEnd 38 = .ok (.aload_n 0, 1) := by decide +kernel
theorem dX3_takeDigitsEnd_39 : decode cX3_takeDigitsEnd 39 = .ok (.getfield 18, 3) := by decide +kernel
theorem dX3_takeDigitsEnd_42 : decode cX3_takeDigitsEnd 42 = .ok (.invokestatic 81, 3) := by decide +kernel
theorem dX3_takeDigitsEnd_45 : decode cX3_takeDigitsEnd 45 = .ok (.invokevirtual 87, 3) := by decide +kernel
theorem dX3_takeDigitsEnd_48 : decode cX3_takeDigitsEnd 48 = .ok (.aload_n 0, 1) := by decide +kernel
theorem dX3_takeDigitsEnd_49 : decode cX3_takeDigitsEnd 49 = .ok (.iconst 3, 1) := by decide +kernel
theorem dX3_takeDigitsEnd_50 : decode cX3_takeDigitsEnd 50 = .ok (.putfield 25, 3) := by decide +kernel
theorem dX3_takeDigitsEnd_53 : decode cX3_takeDigitsEnd 53 = .ok (.return_, 1) := by decide +kernel
set_option maxRecDepth 20000 in
theorem ggX3_takeCross_X3_changeEnded : GoodIn wsX3_takeCross wsX3_changeEnded := goodIn_r _ [8, 3, 46, 47, 48, 49, 50, 51, 52, 53, 54, 55, 56, 57, 58, 59] (by decide +kernel) (by decide +kernel)
set_option maxRecDepth 20000 in
theorem gX3_takeCross_X3_changeEnded : GoodIn wsX3_takeCross (wsV RX3 77 RX3 yX3_changeEnded wsX3_changeEnded) := goodIn_app (goodIn_of _ (by decide +kernel)) ggX3_takeCross_X3_changeEnded
set_option maxRecDepth 20000 in
theorem ggX3_takeCross_X10_refuse : GoodIn wsX3_takeCross wsX10_refuse := goodIn_r _ [14, 15, 16, 60, 61, 62, 63, 64, 65, 66, 67, 68, 69, 70, 71, 72, 73, 74, 75, 76, 46, 47, 48, 49, 50, 51, 52, 53, 54, 55, 56, 57, 58, 59] (by decide +kernel) (by decide +kernel)
set_option maxRecDepth 20000 in
theorem gX3_takeCross_X10_refuse_u73X3 : GoodIn wsX3_takeCross (va_wsU RX3 73 RX3 "BellTower$Text" ⟨"BellTower$MethodText", "refuse", "(II)V"⟩ yX10_refuse wsX10_refuse) := goodIn_app (goodIn_of _ (by decide +kernel)) ggX3_takeCross_X10_refuse
set_option maxRecDepth 20000 in
theorem ggX3_takeCross_X6_changeMaking : GoodIn wsX3_takeCross wsX6_changeMaking := goodIn_r _ [20] (by decide +kernel) (by decide +kernel)
set_option maxRecDepth 20000 in
theorem gX3_takeCross_X6_changeMaking : GoodIn wsX3_takeCross (va_wsS RX3 81 yX6_changeMaking wsX6_changeMaking) := goodIn_app (goodIn_of _ (by decide +kernel)) ggX3_takeCross_X6_changeMaking
set_option maxRecDepth 20000 in
theorem ggX3_takeCross_X3_addChange : GoodIn wsX3_takeCross wsX3_addChange := goodIn_r _ [24, 1, 25, 26, 27, 28, 29, 30, 31, 32, 33, 34, 35, 36, 37, 38, 39, 40, 41, 42, 43, 44, 45, 46, 47, 48, 49, 50, 51, 52, 53, 54, 55, 56, 57, 58, 59, 77, 78, 79, 80, 81, 82, 83, 84] (by decide +kernel) (by decide +kernel)
set_option maxRecDepth 20000 in
theorem gX3_takeCross_X3_addChange : GoodIn wsX3_takeCross (wsV RX3 87 RX3 yX3_addChange wsX3_addChange) := goodIn_app (goodIn_of _ (by decide +kernel)) ggX3_takeCross_X3_addChange
theorem dX3_takeCross_0 : decode cX3_takeCross 0 = .ok (.aload_n 0, 1) := by decide +kernel
theorem dX3_takeCross_1 : decode cX3_takeCross 1 = .ok (.invokevirtual 77, 3) := by decide +kernel
theorem dX3_takeCross_4 : decode cX3_takeCross 4 = .ok (.ifCond .eq 19, 3) := by decide +kernel
theorem dX3_takeCross_7 : decode cX3_takeCross 7 = .ok (.aload_n 0, 1) := by decide +kernel
theorem dX3_takeCross_8 : decode cX3_takeCross 8 = .ok (.getfield 22, 3) := by decide +kernel
theorem dX3_takeCross_11 : decode cX3_takeCross 11 = .ok (.ifCond .eq 12, 3) := by decide +kernel
theorem dX3_takeCross_14 : decode cX3_takeCross 14 = .ok (.aload_n 0, 1) := by decide +kernel
theorem dX3_takeCross_15 : decode cX3_takeCross 15 = .ok (.iconst 1, 1) := by decide +kernel
theorem dX3_takeCross_16 : decode cX3_takeCross 16 = .ok (.iload_n 1, 1) := by decide +kernel
theorem dX3_takeCross_17 : decode cX3_takeCross 17 = .ok (.invokevirtual 73, 3) := by decide +kernel
theorem dX3_takeCross_20 : decode cX3_takeCross 20 = .ok (.goto 38, 3) := by decide +kernel
theorem dX3_takeCross_23 : decode cX3_takeCross 23 = .ok (.aload_n 0, 1) := by decide +kernel
theorem dX3_takeCross_24 : decode cX3_takeCross 24 = .ok (.getfield 18, 3) := by decide +kernel
theorem dX3_takeCross_27 : decode cX3_takeCross 27 = .ok (.iconst 2, 1) := by decide +kernel
theorem dX3_takeCross_28 : decode cX3_takeCross 28 = .ok (.irem, 1) := by decide +kernel
theorem dX3_takeCross_29 : decode cX3_takeCross 29 = .ok (.ifCond .eq 12, 3) := by decide +kernel
theorem dX3_takeCross_32 : decode cX3_takeCross 32 = .ok (.aload_n 0, 1) := by decide +kernel
theorem dX3_takeCross_33 : decode cX3_takeCross 33 = .ok (.iconst 2, 1) := by decide +kernel
theorem dX3_takeCross_34 : decode cX3_takeCross 34 = .ok (.iload_n 1, 1) := by decide +kernel
theorem dX3_takeCross_35 : decode cX3_takeCross 35 = .ok (.invokevirtual 73, 3) := by decide +kernel
theorem dX3_takeCross_38 : decode cX3_takeCross 38 = .ok (.goto 20, 3) := by decide +kernel
theorem dX3_takeCross_41 : decode cX3_takeCross 41 = .ok (.aload_n 0, 1) := by decide +kernel
theorem dX3_takeCross_42 : decode cX3_takeCross 42 = .ok (.iconst 0, 1) := by decide +kernel
theorem dX3_takeCross_43 : decode cX3_takeCross 43 = .ok (.aload_n 0, 1) := by decide +kernel
theorem dX3_takeCross_44 : decode cX3_takeCross 44 = .ok (.getfield 18, 3) := by decide +kernel
theorem dX3_takeCross_47 : decode cX3_takeCross 47 = .ok (.invokestatic 81, 3) := by decide +kernel
theorem dX3_takeCross_50 : decode cX3_takeCross 50 = .ok (.invokevirtual 87, 3) := by decide +kernel
theorem dX3_takeCross_53 : decode cX3_takeCross 53 = .ok (.aload_n 0, 1) := by decide +kernel
theorem dX3_takeCross_54 : decode cX3_takeCross 54 = .ok (.iconst 2, 1) := by decide +kernel
theorem dX3_takeCross_55 : decode cX3_takeCross 55 = .ok (.putfield 25, 3) := by decide +kernel
theorem dX3_takeCross_58 : decode cX3_takeCross 58 = .ok (.return_, 1) := by decide +kernel
set_option maxRecDepth 20000 in
theorem ggX3_addChange_X2_setBob : GoodIn wsX3_addChange wsX2_setBob := goodIn_r _ [8, 9, 37, 38, 39, 40, 41, 42, 43, 44] (by decide +kernel) (by decide +kernel)
set_option maxRecDepth 20000 in
theorem gX3_addChange_X2_setBob : GoodIn wsX3_addChange (wsV RX3 90 RX2 yX2_setBob wsX2_setBob) := goodIn_app (goodIn_of _ (by decide +kernel)) ggX3_addChange_X2_setBob
set_option maxRecDepth 20000 in
theorem ggX3_addChange_X2_setSingle : GoodIn wsX3_addChange wsX2_setSingle := goodIn_r _ [13, 14, 37, 38, 39, 40, 41, 42, 43, 44] (by decide +kernel) (by decide +kernel)
set_option maxRecDepth 20000 in
theorem gX3_addChange_X2_setSingle : GoodIn wsX3_addChange (wsV RX3 93 RX2 yX2_setSingle wsX2_setSingle) := goodIn_app (goodIn_of _ (by decide +kernel)) ggX3_addChange_X2_setSingle
set_option maxRecDepth 20000 in
theorem ggX3_addChange_X2_setChange : GoodIn wsX3_addChange wsX2_setChange := goodIn_r _ [18, 19, 20, 21, 22, 37, 38, 39, 40, 41, 42, 43, 44] (by decide +kernel) (by decide +kernel)
set_option maxRecDepth 20000 in
theorem gX3_addChange_X2_setChange : GoodIn wsX3_addChange (wsV RX3 96 RX2 yX2_setChange wsX2_setChange) := goodIn_app (goodIn_of _ (by decide +kernel)) ggX3_addChange_X2_setChange
theorem dX3_addChange_0 : decode cX3_addChange 0 = .ok (.aload_n 0, 1) := by decide +kernel
theorem dX3_addChange_1 : decode cX3_addChange 1 = .ok (.getfield 22, 3) := by decide +kernel
theorem dX3_addChange_4 : decode cX3_addChange 4 = .ok (.iconst 1, 1) := by decide +kernel
theorem dX3_addChange_5 : decode cX3_addChange 5 = .ok (.if_icmp .ne 14, 3) := by decide +kernel
theorem dX3_addChange_8 : decode cX3_addChange 8 = .ok (.aload_n 0, 1) := by decide +kernel
theorem dX3_addChange_9 : decode cX3_addChange 9 = .ok (.getfield 12, 3) := by decide +kernel
theorem dX3_addChange_12 : decode cX3_addChange 12 = .ok (.iload_n 1, 1) := by decide +kernel
theorem dX3_addChange_13 : decode cX3_addChange 13 = .ok (.invokevirtual 90, 3) := by decide +kernel
theorem dX3_addChange_16 : decode cX3_addChange 16 = .ok (.goto 44, 3) := by decide +kernel
theorem dX3_addChange_19 : decode cX3_addChange 19 = .ok (.aload_n 0, 1) := by decide +kernel
theorem dX3_addChange_20 : decode cX3_addChange 20 = .ok (.getfield 22, 3) := by decide +kernel
theorem dX3_addChange_23 : decode cX3_addChange 23 = .ok (.iconst 2, 1) := by decide +kernel
theorem dX3_addChange_24 : decode cX3_addChange 24 = .ok (.if_icmp .ne 14, 3) := by decide +kernel
theorem dX3_addChange_27 : decode cX3_addChange 27 = .ok (.aload_n 0, 1) := by decide +kernel
theorem dX3_addChange_28 : decode cX3_addChange 28 = .ok (.getfield 12, 3) := by decide +kernel
theorem dX3_addChange_31 : decode cX3_addChange 31 = .ok (.iload_n 1, 1) := by decide +kernel
theorem dX3_addChange_32 : decode cX3_addChange 32 = .ok (.invokevirtual 93, 3) := by decide +kernel
theorem dX3_addChange_35 : decode cX3_addChange 35 = .ok (.goto 25, 3) := by decide +kernel
theorem dX3_addChange_38 : decode cX3_addChange 38 = .ok (.aload_n 0, 1) := by decide +kernel
theorem dX3_addChange_39 : decode cX3_addChange 39 = .ok (.getfield 12, 3) := by decide +kernel
theorem dX3_addChange_42 : decode cX3_addChange 42 = .ok (.aload_n 0, 1) := by decide +kernel
theorem dX3_addChange_43 : decode cX3_addChange 43 = .ok (.getfield 28, 3) := by decide +kernel
theorem dX3_addChange_46 : decode cX3_addChange 46 = .ok (.iload_n 1, 1) := by decide +kernel
theorem dX3_addChange_47 : decode cX3_addChange 47 = .ok (.invokevirtual 96, 3) := by decide +kernel
theorem dX3_addChange_50 : decode cX3_addChange 50 = .ok (.aload_n 0, 1) := by decide +kernel
theorem dX3_addChange_51 : decode cX3_addChange 51 = .ok (.dup, 1) := by decide +kernel
theorem dX3_addChange_52 : decode cX3_addChange 52 = .ok (.getfield 28, 3) := by decide +kernel
theorem dX3_addChange_55 : decode cX3_addChange 55 = .ok (.iconst 1, 1) := by decide +kernel
theorem dX3_addChange_56 : decode cX3_addChange 56 = .ok (.iadd, 1) := by decide +kernel
theorem dX3_addChange_57 : decode cX3_addChange 57 = .ok (.putfield 28, 3) := by decide +kernel
theorem dX3_addChange_60 : decode cX3_addChange 60 = .ok (.return_, 1) := by decide +kernel
set_option maxRecDepth 20000 in
theorem ggX3_takeMark_X10_refuse : GoodIn wsX3_takeMark wsX10_refuse := goodIn_r _ [8, 9, 10, 25, 26, 27, 28, 29, 30, 31, 32, 33, 34, 35, 36, 37, 38, 39, 40, 41, 11, 12, 13, 14, 15, 16, 17, 18, 19, 20, 21, 22, 23, 24] (by decide +kernel) (by decide +kernel)
set_option maxRecDepth 20000 in
theorem gX3_takeMark_X10_refuse_u73X3 : GoodIn wsX3_takeMark (va_wsU RX3 73 RX3 "BellTower$Text" ⟨"BellTower$MethodText", "refuse", "(II)V"⟩ yX10_refuse wsX10_refuse) := goodIn_app (goodIn_of _ (by decide +kernel)) ggX3_takeMark_X10_refuse
theorem dX3_takeMark_0 : decode cX3_takeMark 0 = .ok (.aload_n 0, 1) := by decide +kernel
theorem dX3_takeMark_1 : decode cX3_takeMark 1 = .ok (.getfield 25, 3) := by decide +kernel
theorem dX3_takeMark_4 : decode cX3_takeMark 4 = .ok (.ifCond .eq 10, 3) := by decide +kernel
theorem dX3_takeMark_7 : decode cX3_takeMark 7 = .ok (.aload_n 0, 1) := by decide +kernel
theorem dX3_takeMark_8 : decode cX3_takeMark 8 = .ok (.iconst 1, 1) := by decide +kernel
theorem dX3_takeMark_9 : decode cX3_takeMark 9 = .ok (.iload_n 2, 1) := by decide +kernel
theorem dX3_takeMark_10 : decode cX3_takeMark 10 = .ok (.invokevirtual 73, 3) := by decide +kernel
theorem dX3_takeMark_13 : decode cX3_takeMark 13 = .ok (.return_, 1) := by decide +kernel
theorem dX3_takeMark_14 : decode cX3_takeMark 14 = .ok (.aload_n 0, 1) := by decide +kernel
theorem dX3_takeMark_15 : decode cX3_takeMark 15 = .ok (.iload_n 1, 1) := by decide +kernel
theorem dX3_takeMark_16 : decode cX3_takeMark 16 = .ok (.putfield 34, 3) := by decide +kernel
theorem dX3_takeMark_19 : decode cX3_takeMark 19 = .ok (.aload_n 0, 1) := by decide +kernel
theorem dX3_takeMark_20 : decode cX3_takeMark 20 = .ok (.iconst 1, 1) := by decide +kernel
theorem dX3_takeMark_21 : decode cX3_takeMark 21 = .ok (.putfield 25, 3) := by decide +kernel
theorem dX3_takeMark_24 : decode cX3_takeMark 24 = .ok (.return_, 1) := by decide +kernel
set_option maxRecDepth 20000 in
theorem ggX3_takeDot_X3_changeEnded : GoodIn wsX3_takeDot wsX3_changeEnded := goodIn_r _ [7, 2, 16, 17, 18, 19, 20, 21, 22, 23, 24, 25, 26, 27, 28, 29] (by decide +kernel) (by decide +kernel)
set_option maxRecDepth 20000 in
theorem gX3_takeDot_X3_changeEnded : GoodIn wsX3_takeDot (wsV RX3 77 RX3 yX3_changeEnded wsX3_changeEnded) := goodIn_app (goodIn_of _ (by decide +kernel)) ggX3_takeDot_X3_changeEnded
set_option maxRecDepth 20000 in
theorem ggX3_takeDot_X10_refuse : GoodIn wsX3_takeDot wsX10_refuse := goodIn_r _ [13, 14, 15, 30, 31, 32, 33, 34, 35, 36, 37, 38, 39, 40, 41, 42, 43, 44, 45, 46, 16, 17, 18, 19, 20, 21, 22, 23, 24, 25, 26, 27, 28, 29] (by decide +kernel) (by decide +kernel)
set_option maxRecDepth 20000 in
theorem gX3_takeDot_X10_refuse_u73X3 : GoodIn wsX3_takeDot (va_wsU RX3 73 RX3 "BellTower$Text" ⟨"BellTower$MethodText", "refuse", "(II)V"⟩ yX10_refuse wsX10_refuse) := goodIn_app (goodIn_of _ (by decide +kernel)) ggX3_takeDot_X10_refuse
theorem dX3_takeDot_0 : decode cX3_takeDot 0 = .ok (.aload_n 0, 1) := by decide +kernel
theorem dX3_takeDot_1 : decode cX3_takeDot 1 = .ok (.getfield 22, 3) := by decide +kernel
theorem dX3_takeDot_4 : decode cX3_takeDot 4 = .ok (.ifCond .ne 10, 3) := by decide +kernel
theorem dX3_takeDot_7 : decode cX3_takeDot 7 = .ok (.aload_n 0, 1) := by decide +kernel
theorem dX3_takeDot_8 : decode cX3_takeDot 8 = .ok (.invokevirtual 77, 3) := by decide +kernel
theorem dX3_takeDot_11 : decode cX3_takeDot 11 = .ok (.ifCond .ne 10, 3) := by decide +kernel
theorem dX3_takeDot_14 : decode cX3_takeDot 14 = .ok (.aload_n 0, 1) := by decide +kernel
theorem dX3_takeDot_15 : decode cX3_takeDot 15 = .ok (.iconst 1, 1) := by decide +kernel
theorem dX3_takeDot_16 : decode cX3_takeDot 16 = .ok (.iload_n 1, 1) := by decide +kernel
theorem dX3_takeDot_17 : decode cX3_takeDot 17 = .ok (.invokevirtual 73, 3) := by decide +kernel
theorem dX3_takeDot_20 : decode cX3_takeDot 20 = .ok (.return_, 1) := by decide +kernel
theorem dX3_takeDot_21 : decode cX3_takeDot 21 = .ok (.aload_n 0, 1) := by decide +kernel
theorem dX3_takeDot_22 : decode cX3_takeDot 22 = .ok (.iconst 1, 1) := by decide +kernel
theorem dX3_takeDot_23 : decode cX3_takeDot 23 = .ok (.putfield 25, 3) := by decide +kernel
theorem dX3_takeDot_26 : decode cX3_takeDot 26 = .ok (.return_, 1) := by decide +kernel
set_option maxRecDepth 20000 in
theorem ggX3_takeComma_X3_changeEnded : GoodIn wsX3_takeComma wsX3_changeEnded := goodIn_r _ [6, 7, 43, 44, 45, 46, 47, 48, 49, 50, 51, 52, 53, 54, 55, 56] (by decide +kernel) (by decide +kernel)
set_option maxRecDepth 20000 in
theorem gX3_takeComma_X3_changeEnded : GoodIn wsX3_takeComma (wsV RX3 77 RX3 yX3_changeEnded wsX3_changeEnded) := goodIn_app (goodIn_of _ (by decide +kernel)) ggX3_takeComma_X3_changeEnded
set_option maxRecDepth 20000 in
theorem ggX3_takeComma_X10_refuse : GoodIn wsX3_takeComma wsX10_refuse := goodIn_r _ [13, 14, 15, 57, 58, 59, 60, 61, 62, 63, 64, 65, 66, 67, 68, 69, 70, 71, 72, 73, 43, 44, 45, 46, 47, 48, 49, 50, 51, 52, 53, 54, 55, 56] (by decide +kernel) (by decide +kernel)
set_option maxRecDepth 20000 in
theorem gX3_takeComma_X10_refuse_u73X3 : GoodIn wsX3_takeComma (va_wsU RX3 73 RX3 "BellTower$Text" ⟨"BellTower$MethodText", "refuse", "(II)V"⟩ yX10_refuse wsX10_refuse) := goodIn_app (goodIn_of _ (by decide +kernel)) ggX3_takeComma_X10_refuse
set_option maxRecDepth 20000 in
theorem ggX3_takeComma_X3_closeBlock : GoodIn wsX3_takeComma wsX3_closeBlock := goodIn_r _ [19, 20, 21, 22, 23, 8, 9, 10, 11, 12, 13, 14, 15, 24, 25, 26, 27, 28, 29, 30, 31, 32, 33, 34, 35, 36, 37, 38, 43, 44, 45, 46, 47, 48, 49, 50, 51, 52, 53, 54, 55, 56, 57, 58, 59, 60, 61, 62, 63, 64, 65, 66, 67, 68, 69, 70, 71, 72, 73, 74, 75, 76, 77, 78, 79, 80, 81] (by decide +kernel) (by decide +kernel)
set_option maxRecDepth 20000 in
theorem gX3_takeComma_X3_closeBlock : GoodIn wsX3_takeComma (wsV RX3 99 RX3 yX3_closeBlock wsX3_closeBlock) := goodIn_app (goodIn_of _ (by decide +kernel)) ggX3_takeComma_X3_closeBlock
set_option maxRecDepth 20000 in
theorem ggX3_takeComma_X3_beginBlock : GoodIn wsX3_takeComma wsX3_beginBlock := goodIn_r _ [42, 7, 21, 22, 20, 43, 44, 45, 46, 47, 48, 49, 50, 51, 52, 53, 54, 55, 56] (by decide +kernel) (by decide +kernel)
set_option maxRecDepth 20000 in
theorem gX3_takeComma_X3_beginBlock : GoodIn wsX3_takeComma (wsV RX3 50 RX3 yX3_beginBlock wsX3_beginBlock) := goodIn_app (goodIn_of _ (by decide +kernel)) ggX3_takeComma_X3_beginBlock
theorem dX3_takeComma_0 : decode cX3_takeComma 0 = .ok (.aload_n 0, 1) := by decide +kernel
theorem dX3_takeComma_1 : decode cX3_takeComma 1 = .ok (.getfield 22, 3) := by decide +kernel
theorem dX3_takeComma_4 : decode cX3_takeComma 4 = .ok (.ifCond .ne 10, 3) := by decide +kernel
theorem dX3_takeComma_7 : decode cX3_takeComma 7 = .ok (.aload_n 0, 1) := by decide +kernel
theorem dX3_takeComma_8 : decode cX3_takeComma 8 = .ok (.invokevirtual 77, 3) := by decide +kernel
theorem dX3_takeComma_11 : decode cX3_takeComma 11 = .ok (.ifCond .ne 10, 3) := by decide +kernel
theorem dX3_takeComma_14 : decode cX3_takeComma 14 = .ok (.aload_n 0, 1) := by decide +kernel
theorem dX3_takeComma_15 : decode cX3_takeComma 15 = .ok (.iconst 1, 1) := by decide +kernel
theorem dX3_takeComma_16 : decode cX3_takeComma 16 = .ok (.iload_n 1, 1) := by decide +kernel
theorem dX3_takeComma_17 : decode cX3_takeComma 17 = .ok (.invokevirtual 73, 3) := by decide +kernel
theorem dX3_takeComma_20 : decode cX3_takeComma 20 = .ok (.return_, 1) := by decide +kernel
theorem dX3_takeComma_21 : decode cX3_takeComma 21 = .ok (.aload_n 0, 1) := by decide +kernel
theorem dX3_takeComma_22 : decode cX3_takeComma 22 = .ok (.iload_n 1, 1) := by decide +kernel
theorem dX3_takeComma_23 : decode cX3_takeComma 23 = .ok (.invokevirtual 99, 3) := by decide +kernel
theorem dX3_takeComma_26 : decode cX3_takeComma 26 = .ok (.aload_n 0, 1) := by decide +kernel
theorem dX3_takeComma_27 : decode cX3_takeComma 27 = .ok (.invokevirtual 50, 3) := by decide +kernel
theorem dX3_takeComma_30 : decode cX3_takeComma 30 = .ok (.return_, 1) := by decide +kernel
set_option maxRecDepth 20000 in
theorem ggX3_takeSemicolon_X3_changeEnded : GoodIn wsX3_takeSemicolon wsX3_changeEnded := goodIn_r _ [7, 2, 39, 40, 41, 42, 43, 44, 45, 46, 47, 48, 49, 50, 51, 52] (by decide +kernel) (by decide +kernel)
set_option maxRecDepth 20000 in
theorem gX3_takeSemicolon_X3_changeEnded : GoodIn wsX3_takeSemicolon (wsV RX3 77 RX3 yX3_changeEnded wsX3_changeEnded) := goodIn_app (goodIn_of _ (by decide +kernel)) ggX3_takeSemicolon_X3_changeEnded
set_option maxRecDepth 20000 in
theorem ggX3_takeSemicolon_X10_refuse : GoodIn wsX3_takeSemicolon wsX10_refuse := goodIn_r _ [13, 14, 15, 53, 54, 55, 56, 57, 58, 59, 60, 61, 62, 63, 64, 65, 66, 67, 68, 69, 39, 40, 41, 42, 43, 44, 45, 46, 47, 48, 49, 50, 51, 52] (by decide +kernel) (by decide +kernel)
set_option maxRecDepth 20000 in
theorem gX3_takeSemicolon_X10_refuse_u73X3 : GoodIn wsX3_takeSemicolon (va_wsU RX3 73 RX3 "BellTower$Text" ⟨"BellTower$MethodText", "refuse", "(II)V"⟩ yX10_refuse wsX10_refuse) := goodIn_app (goodIn_of _ (by decide +kernel)) ggX3_takeSemicolon_X10_refuse
set_option maxRecDepth 20000 in
theorem ggX3_takeSemicolon_X3_closeBlock : GoodIn wsX3_takeSemicolon wsX3_closeBlock := goodIn_r _ [19, 20, 21, 22, 23, 8, 9, 10, 11, 12, 13, 14, 15, 24, 25, 26, 27, 28, 29, 30, 31, 32, 33, 34, 35, 36, 37, 38, 39, 40, 41, 42, 43, 44, 45, 46, 47, 48, 49, 50, 51, 52, 53, 54, 55, 56, 57, 58, 59, 60, 61, 62, 63, 64, 65, 66, 67, 68, 69, 70, 71, 72, 73, 74, 75, 76, 77] (by decide +kernel) (by decide +kernel)
set_option maxRecDepth 20000 in
theorem gX3_takeSemicolon_X3_closeBlock : GoodIn wsX3_takeSemicolon (wsV RX3 99 RX3 yX3_closeBlock wsX3_closeBlock) := goodIn_app (goodIn_of _ (by decide +kernel)) ggX3_takeSemicolon_X3_closeBlock
theorem dX3_takeSemicolon_0 : decode cX3_takeSemicolon 0 = .ok (.aload_n 0, 1) := by decide +kernel
theorem dX3_takeSemicolon_1 : decode cX3_takeSemicolon 1 = .ok (.getfield 22, 3) := by decide +kernel
theorem dX3_takeSemicolon_4 : decode cX3_takeSemicolon 4 = .ok (.iconst 2, 1) := by decide +kernel
theorem dX3_takeSemicolon_5 : decode cX3_takeSemicolon 5 = .ok (.if_icmp .eq 10, 3) := by decide +kernel
theorem dX3_takeSemicolon_8 : decode cX3_takeSemicolon 8 = .ok (.aload_n 0, 1) := by decide +kernel
theorem dX3_takeSemicolon_9 : decode cX3_takeSemicolon 9 = .ok (.invokevirtual 77, 3) := by decide +kernel
theorem dX3_takeSemicolon_12 : decode cX3_takeSemicolon 12 = .ok (.ifCond .ne 10, 3) := by decide +kernel
theorem dX3_takeSemicolon_15 : decode cX3_takeSemicolon 15 = .ok (.aload_n 0, 1) := by decide +kernel
theorem dX3_takeSemicolon_16 : decode cX3_takeSemicolon 16 = .ok (.iconst 1, 1) := by decide +kernel
theorem dX3_takeSemicolon_17 : decode cX3_takeSemicolon 17 = .ok (.iload_n 1, 1) := by decide +kernel
theorem dX3_takeSemicolon_18 : decode cX3_takeSemicolon 18 = .ok (.invokevirtual 73, 3) := by decide +kernel
theorem dX3_takeSemicolon_21 : decode cX3_takeSemicolon 21 = .ok (.return_, 1) := by decide +kernel
theorem dX3_takeSemicolon_22 : decode cX3_takeSemicolon 22 = .ok (.aload_n 0, 1) := by decide +kernel
theorem dX3_takeSemicolon_23 : decode cX3_takeSemicolon 23 = .ok (.getfield 22, 3) := by decide +kernel
theorem dX3_takeSemicolon_26 : decode cX3_takeSemicolon 26 = .ok (.ifCond .ne 8, 3) := by decide +kernel
theorem dX3_takeSemicolon_29 : decode cX3_takeSemicolon 29 = .ok (.aload_n 0, 1) := by decide +kernel
theorem dX3_takeSemicolon_30 : decode cX3_takeSemicolon 30 = .ok (.iload_n 1, 1) := by decide +kernel
theorem dX3_takeSemicolon_31 : decode cX3_takeSemicolon 31 = .ok (.invokevirtual 99, 3) := by decide +kernel
theorem dX3_takeSemicolon_34 : decode cX3_takeSemicolon 34 = .ok (.aload_n 0, 1) := by decide +kernel
theorem dX3_takeSemicolon_35 : decode cX3_takeSemicolon 35 = .ok (.dup, 1) := by decide +kernel
theorem dX3_takeSemicolon_36 : decode cX3_takeSemicolon 36 = .ok (.getfield 22, 3) := by decide +kernel
theorem dX3_takeSemicolon_39 : decode cX3_takeSemicolon 39 = .ok (.iconst 1, 1) := by decide +kernel
theorem dX3_takeSemicolon_40 : decode cX3_takeSemicolon 40 = .ok (.iadd, 1) := by decide +kernel
theorem dX3_takeSemicolon_41 : decode cX3_takeSemicolon 41 = .ok (.putfield 22, 3) := by decide +kernel
theorem dX3_takeSemicolon_44 : decode cX3_takeSemicolon 44 = .ok (.aload_n 0, 1) := by decide +kernel
theorem dX3_takeSemicolon_45 : decode cX3_takeSemicolon 45 = .ok (.iconst 1, 1) := by decide +kernel
theorem dX3_takeSemicolon_46 : decode cX3_takeSemicolon 46 = .ok (.putfield 25, 3) := by decide +kernel
theorem dX3_takeSemicolon_49 : decode cX3_takeSemicolon 49 = .ok (.return_, 1) := by decide +kernel
set_option maxRecDepth 20000 in
theorem ggX3_takeEnd_X3_changeEnded : GoodIn wsX3_takeEnd wsX3_changeEnded := goodIn_r _ [9, 10, 50, 51, 52, 53, 54, 55, 56, 57, 58, 59, 60, 61, 62, 63] (by decide +kernel) (by decide +kernel)
set_option maxRecDepth 20000 in
theorem gX3_takeEnd_X3_changeEnded : GoodIn wsX3_takeEnd (wsV RX3 77 RX3 yX3_changeEnded wsX3_changeEnded) := goodIn_app (goodIn_of _ (by decide +kernel)) ggX3_takeEnd_X3_changeEnded
set_option maxRecDepth 20000 in
theorem ggX3_takeEnd_X10_refuse : GoodIn wsX3_takeEnd wsX10_refuse := goodIn_r _ [16, 17, 18, 64, 65, 66, 67, 68, 69, 70, 71, 72, 73, 74, 75, 76, 77, 78, 79, 80, 50, 51, 52, 53, 54, 55, 56, 57, 58, 59, 60, 61, 62, 63] (by decide +kernel) (by decide +kernel)
set_option maxRecDepth 20000 in
theorem gX3_takeEnd_X10_refuse_u73X3 : GoodIn wsX3_takeEnd (va_wsU RX3 73 RX3 "BellTower$Text" ⟨"BellTower$MethodText", "refuse", "(II)V"⟩ yX10_refuse wsX10_refuse) := goodIn_app (goodIn_of _ (by decide +kernel)) ggX3_takeEnd_X10_refuse
set_option maxRecDepth 20000 in
theorem ggX3_takeEnd_X2_complete : GoodIn wsX3_takeEnd wsX2_complete := goodIn_r _ [23, 24, 25, 26, 27, 28, 29, 30, 31, 32, 33, 34, 35, 36, 37, 22, 38, 39, 40, 41, 42, 43, 44, 45, 46, 47, 48, 49, 81, 82, 83, 84, 85, 86, 87, 88] (by decide +kernel) (by decide +kernel)
set_option maxRecDepth 20000 in
theorem gX3_takeEnd_X2_complete : GoodIn wsX3_takeEnd (wsV RX3 102 RX2 yX2_complete wsX2_complete) := goodIn_app (goodIn_of _ (by decide +kernel)) ggX3_takeEnd_X2_complete
theorem dX3_takeEnd_0 : decode cX3_takeEnd 0 = .ok (.aload_n 0, 1) := by decide +kernel
theorem dX3_takeEnd_1 : decode cX3_takeEnd 1 = .ok (.getfield 22, 3) := by decide +kernel
theorem dX3_takeEnd_4 : decode cX3_takeEnd 4 = .ok (.iconst 2, 1) := by decide +kernel
theorem dX3_takeEnd_5 : decode cX3_takeEnd 5 = .ok (.if_icmp .ne 10, 3) := by decide +kernel
theorem dX3_takeEnd_8 : decode cX3_takeEnd 8 = .ok (.aload_n 0, 1) := by decide +kernel
theorem dX3_takeEnd_9 : decode cX3_takeEnd 9 = .ok (.invokevirtual 77, 3) := by decide +kernel
theorem dX3_takeEnd_12 : decode cX3_takeEnd 12 = .ok (.ifCond .ne 10, 3) := by decide +kernel
theorem dX3_takeEnd_15 : decode cX3_takeEnd 15 = .ok (.aload_n 0, 1) := by decide +kernel
theorem dX3_takeEnd_16 : decode cX3_takeEnd 16 = .ok (.iconst 1, 1) := by decide +kernel
theorem dX3_takeEnd_17 : decode cX3_takeEnd 17 = .ok (.iload_n 1, 1) := by decide +kernel
theorem dX3_takeEnd_18 : decode cX3_takeEnd 18 = .ok (.invokevirtual 73, 3) := by decide +kernel
theorem dX3_takeEnd_21 : decode cX3_takeEnd 21 = .ok (.return_, 1) := by decide +kernel
theorem dX3_takeEnd_22 : decode cX3_takeEnd 22 = .ok (.aload_n 0, 1) := by decide +kernel
theorem dX3_takeEnd_23 : decode cX3_takeEnd 23 = .ok (.getfield 12, 3) := by decide +kernel
theorem dX3_takeEnd_26 : decode cX3_takeEnd 26 = .ok (.aload_n 0, 1) := by decide +kernel
theorem dX3_takeEnd_27 : decode cX3_takeEnd 27 = .ok (.getfield 28, 3) := by decide +kernel
theorem dX3_takeEnd_30 : decode cX3_takeEnd 30 = .ok (.aload_n 0, 1) := by decide +kernel
theorem dX3_takeEnd_31 : decode cX3_takeEnd 31 = .ok (.getfield 18, 3) := by decide +kernel
theorem dX3_takeEnd_34 : decode cX3_takeEnd 34 = .ok (.invokevirtual 102, 3) := by decide +kernel
theorem dX3_takeEnd_37 : decode cX3_takeEnd 37 = .ok (.return_, 1) := by decide +kernel
set_option maxRecDepth 20000 in
theorem ggX3_closeBlock_X10_refuse : GoodIn wsX3_closeBlock wsX10_refuse := goodIn_r _ [10, 11, 12, 42, 43, 44, 45, 46, 47, 48, 49, 50, 51, 52, 53, 54, 55, 56, 57, 58, 28, 29, 30, 31, 32, 33, 34, 35, 36, 37, 38, 39, 40, 41] (by decide +kernel) (by decide +kernel)
set_option maxRecDepth 20000 in
theorem gX3_closeBlock_X10_refuse_u73X3 : GoodIn wsX3_closeBlock (va_wsU RX3 73 RX3 "BellTower$Text" ⟨"BellTower$MethodText", "refuse", "(II)V"⟩ yX10_refuse wsX10_refuse) := goodIn_app (goodIn_of _ (by decide +kernel)) ggX3_closeBlock_X10_refuse
set_option maxRecDepth 20000 in
theorem ggX3_closeBlock_X2_changeAt : GoodIn wsX3_closeBlock wsX2_changeAt := goodIn_r _ [17, 18, 19, 20, 21, 59, 60, 61, 62, 63, 64, 65, 66] (by decide +kernel) (by decide +kernel)
set_option maxRecDepth 20000 in
theorem gX3_closeBlock_X2_changeAt : GoodIn wsX3_closeBlock (wsV RX3 105 RX2 yX2_changeAt wsX2_changeAt) := goodIn_app (goodIn_of _ (by decide +kernel)) ggX3_closeBlock_X2_changeAt
set_option maxRecDepth 20000 in
theorem ggX3_closeBlock_X2_setChange : GoodIn wsX3_closeBlock wsX2_setChange := goodIn_r _ [25, 18, 26, 20, 27, 59, 60, 61, 62, 63, 64, 65, 66] (by decide +kernel) (by decide +kernel)
set_option maxRecDepth 20000 in
theorem gX3_closeBlock_X2_setChange : GoodIn wsX3_closeBlock (wsV RX3 96 RX2 yX2_setChange wsX2_setChange) := goodIn_app (goodIn_of _ (by decide +kernel)) ggX3_closeBlock_X2_setChange
theorem dX3_closeBlock_0 : decode cX3_closeBlock 0 = .ok (.aload_n 0, 1) := by decide +kernel
theorem dX3_closeBlock_1 : decode cX3_closeBlock 1 = .ok (.getfield 34, 3) := by decide +kernel
theorem dX3_closeBlock_4 : decode cX3_closeBlock 4 = .ok (.ifCond .eq 17, 3) := by decide +kernel
theorem dX3_closeBlock_7 : decode cX3_closeBlock 7 = .ok (.aload_n 0, 1) := by decide +kernel
theorem dX3_closeBlock_8 : decode cX3_closeBlock 8 = .ok (.getfield 28, 3) := by decide +kernel
theorem dX3_closeBlock_11 : decode cX3_closeBlock 11 = .ok (.aload_n 0, 1) := by decide +kernel
theorem dX3_closeBlock_12 : decode cX3_closeBlock 12 = .ok (.getfield 31, 3) := by decide +kernel
theorem dX3_closeBlock_15 : decode cX3_closeBlock 15 = .ok (.isub, 1) := by decide +kernel
theorem dX3_closeBlock_16 : decode cX3_closeBlock 16 = .ok (.iconst 1, 1) := by decide +kernel
theorem dX3_closeBlock_17 : decode cX3_closeBlock 17 = .ok (.isub, 1) := by decide +kernel
theorem dX3_closeBlock_18 : decode cX3_closeBlock 18 = .ok (.goto 4, 3) := by decide +kernel
theorem dX3_closeBlock_21 : decode cX3_closeBlock 21 = .ok (.iconst 0, 1) := by decide +kernel
theorem dX3_closeBlock_22 : decode cX3_closeBlock 22 = .ok (.istore_n 2, 1) := by decide +kernel
theorem dX3_closeBlock_23 : decode cX3_closeBlock 23 = .ok (.aload_n 0, 1) := by decide +kernel
theorem dX3_closeBlock_24 : decode cX3_closeBlock 24 = .ok (.getfield 28, 3) := by decide +kernel
theorem dX3_closeBlock_27 : decode cX3_closeBlock 27 = .ok (.iload_n 2, 1) := by decide +kernel
theorem dX3_closeBlock_28 : decode cX3_closeBlock 28 = .ok (.iadd, 1) := by decide +kernel
theorem dX3_closeBlock_29 : decode cX3_closeBlock 29 = .ok (.bipush 64, 2) := by decide +kernel
theorem dX3_closeBlock_31 : decode cX3_closeBlock 31 = .ok (.if_icmp .le 10, 3) := by decide +kernel
theorem dX3_closeBlock_34 : decode cX3_closeBlock 34 = .ok (.aload_n 0, 1) := by decide +kernel
theorem dX3_closeBlock_35 : decode cX3_closeBlock 35 = .ok (.iconst 3, 1) := by decide +kernel
theorem dX3_closeBlock_36 : decode cX3_closeBlock 36 = .ok (.iload_n 1, 1) := by decide +kernel
theorem dX3_closeBlock_37 : decode cX3_closeBlock 37 = .ok (.invokevirtual 73, 3) := by decide +kernel
theorem dX3_closeBlock_40 : decode cX3_closeBlock 40 = .ok (.return_, 1) := by decide +kernel
theorem dX3_closeBlock_41 : decode cX3_closeBlock 41 = .ok (.iconst 0, 1) := by decide +kernel
theorem dX3_closeBlock_42 : decode cX3_closeBlock 42 = .ok (.istore_n 3, 1) := by decide +kernel
theorem dX3_closeBlock_43 : decode cX3_closeBlock 43 = .ok (.iload_n 3, 1) := by decide +kernel
theorem dX3_closeBlock_44 : decode cX3_closeBlock 44 = .ok (.iload_n 2, 1) := by decide +kernel
theorem dX3_closeBlock_45 : decode cX3_closeBlock 45 = .ok (.if_icmp .ge 37, 3) := by decide +kernel
theorem dX3_closeBlock_48 : decode cX3_closeBlock 48 = .ok (.aload_n 0, 1) := by decide +kernel
theorem dX3_closeBlock_49 : decode cX3_closeBlock 49 = .ok (.getfield 12, 3) := by decide +kernel
theorem dX3_closeBlock_52 : decode cX3_closeBlock 52 = .ok (.aload_n 0, 1) := by decide +kernel
theorem dX3_closeBlock_53 : decode cX3_closeBlock 53 = .ok (.getfield 28, 3) := by decide +kernel
theorem dX3_closeBlock_56 : decode cX3_closeBlock 56 = .ok (.iload_n 3, 1) := by decide +kernel
theorem dX3_closeBlock_57 : decode cX3_closeBlock 57 = .ok (.iadd, 1) := by decide +kernel
theorem dX3_closeBlock_58 : decode cX3_closeBlock 58 = .ok (.aload_n 0, 1) := by decide +kernel
theorem dX3_closeBlock_59 : decode cX3_closeBlock 59 = .ok (.getfield 12, 3) := by decide +kernel
theorem dX3_closeBlock_62 : decode cX3_closeBlock 62 = .ok (.aload_n 0, 1) := by decide +kernel
theorem dX3_closeBlock_63 : decode cX3_closeBlock 63 = .ok (.getfield 28, 3) := by decide +kernel
theorem dX3_closeBlock_66 : decode cX3_closeBlock 66 = .ok (.iconst 2, 1) := by decide +kernel
theorem dX3_closeBlock_67 : decode cX3_closeBlock 67 = .ok (.isub, 1) := by decide +kernel
theorem dX3_closeBlock_68 : decode cX3_closeBlock 68 = .ok (.iload_n 3, 1) := by decide +kernel
theorem dX3_closeBlock_69 : decode cX3_closeBlock 69 = .ok (.isub, 1) := by decide +kernel
theorem dX3_closeBlock_70 : decode cX3_closeBlock 70 = .ok (.invokevirtual 105, 3) := by decide +kernel
theorem dX3_closeBlock_73 : decode cX3_closeBlock 73 = .ok (.invokevirtual 96, 3) := by decide +kernel
theorem dX3_closeBlock_76 : decode cX3_closeBlock 76 = .ok (.iinc 3 1, 3) := by decide +kernel
theorem dX3_closeBlock_79 : decode cX3_closeBlock 79 = .ok (.goto (-36), 3) := by decide +kernel
theorem dX3_closeBlock_82 : decode cX3_closeBlock 82 = .ok (.aload_n 0, 1) := by decide +kernel
theorem dX3_closeBlock_83 : decode cX3_closeBlock 83 = .ok (.dup, 1) := by decide +kernel
theorem dX3_closeBlock_84 : decode cX3_closeBlock 84 = .ok (.getfield 28, 3) := by decide +kernel
theorem dX3_closeBlock_87 : decode cX3_closeBlock 87 = .ok (.iload_n 2, 1) := by decide +kernel
theorem dX3_closeBlock_88 : decode cX3_closeBlock 88 = .ok (.iadd, 1) := by decide +kernel
theorem dX3_closeBlock_89 : decode cX3_closeBlock 89 = .ok (.putfield 28, 3) := by decide +kernel
theorem dX3_closeBlock_92 : decode cX3_closeBlock 92 = .ok (.return_, 1) := by decide +kernel
theorem dX4_init_0 : decode cX4_init 0 = .ok (.aload_n 0, 1) := by decide +kernel
theorem dX4_init_1 : decode cX4_init 1 = .ok (.invokespecial 3, 3) := by decide +kernel
theorem dX4_init_4 : decode cX4_init 4 = .ok (.aload_n 0, 1) := by decide +kernel
theorem dX4_init_5 : decode cX4_init 5 = .ok (.iconst 0, 1) := by decide +kernel
theorem dX4_init_6 : decode cX4_init 6 = .ok (.putfield 9, 3) := by decide +kernel
theorem dX4_init_9 : decode cX4_init 9 = .ok (.aload_n 0, 1) := by decide +kernel
theorem dX4_init_10 : decode cX4_init 10 = .ok (.iconst 0, 1) := by decide +kernel
theorem dX4_init_11 : decode cX4_init 11 = .ok (.putfield 15, 3) := by decide +kernel
theorem dX4_init_14 : decode cX4_init 14 = .ok (.return_, 1) := by decide +kernel
set_option maxRecDepth 20000 in
theorem ggX4_read_X9_size : GoodIn wsX4_read wsX9_size := goodIn_r _ [5, 6, 22, 23] (by decide +kernel) (by decide +kernel)
set_option maxRecDepth 20000 in
theorem gX4_read_X9_size : GoodIn wsX4_read (wsV RX4 18 RX9 yX9_size wsX9_size) := goodIn_app (goodIn_of _ (by decide +kernel)) ggX4_read_X9_size
set_option maxRecDepth 20000 in
theorem ggX4_read_X9_signAt : GoodIn wsX4_read wsX9_signAt := goodIn_r _ [10, 6, 11, 22, 23] (by decide +kernel) (by decide +kernel)
set_option maxRecDepth 20000 in
theorem gX4_read_X9_signAt : GoodIn wsX4_read (wsV RX4 24 RX9 yX9_signAt wsX9_signAt) := goodIn_app (goodIn_of _ (by decide +kernel)) ggX4_read_X9_signAt
set_option maxRecDepth 20000 in
theorem ggX4_read_X4_bitOf : GoodIn wsX4_read wsX4_bitOf := goodIn_r _ [15] (by decide +kernel) (by decide +kernel)
set_option maxRecDepth 20000 in
theorem gX4_read_X4_bitOf : GoodIn wsX4_read (va_wsS RX4 28 yX4_bitOf wsX4_bitOf) := goodIn_app (goodIn_of _ (by decide +kernel)) ggX4_read_X4_bitOf
set_option maxRecDepth 20000 in
theorem ggX4_read_X4_setPlaces : GoodIn wsX4_read wsX4_setPlaces := goodIn_r _ [19, 20, 21, 1, 2, 3, 4, 5, 6, 7, 8, 9, 10, 11, 24, 25, 22, 23] (by decide +kernel) (by decide +kernel)
set_option maxRecDepth 20000 in
theorem gX4_read_X4_setPlaces : GoodIn wsX4_read (wsV RX4 32 RX4 yX4_setPlaces wsX4_setPlaces) := goodIn_app (goodIn_of _ (by decide +kernel)) ggX4_read_X4_setPlaces
theorem dX4_read_0 : decode cX4_read 0 = .ok (.iconst 0, 1) := by decide +kernel
theorem dX4_read_1 : decode cX4_read 1 = .ok (.istore_n 3, 1) := by decide +kernel
theorem dX4_read_2 : decode cX4_read 2 = .ok (.iconst 0, 1) := by decide +kernel
theorem dX4_read_3 : decode cX4_read 3 = .ok (.istore 4, 2) := by decide +kernel
theorem dX4_read_5 : decode cX4_read 5 = .ok (.iconst 0, 1) := by decide +kernel
theorem dX4_read_6 : decode cX4_read 6 = .ok (.istore 5, 2) := by decide +kernel
theorem dX4_read_8 : decode cX4_read 8 = .ok (.iconst 0, 1) := by decide +kernel
theorem dX4_read_9 : decode cX4_read 9 = .ok (.istore 6, 2) := by decide +kernel
theorem dX4_read_11 : decode cX4_read 11 = .ok (.iload 6, 2) := by decide +kernel
theorem dX4_read_13 : decode cX4_read 13 = .ok (.aload_n 1, 1) := by decide +kernel
theorem dX4_read_14 : decode cX4_read 14 = .ok (.invokevirtual 18, 3) := by decide +kernel
theorem dX4_read_17 : decode cX4_read 17 = .ok (.if_icmp .ge 75, 3) := by decide +kernel
theorem dX4_read_20 : decode cX4_read 20 = .ok (.aload_n 1, 1) := by decide +kernel
theorem dX4_read_21 : decode cX4_read 21 = .ok (.iload 6, 2) := by decide +kernel
theorem dX4_read_23 : decode cX4_read 23 = .ok (.invokevirtual 24, 3) := by decide +kernel
theorem dX4_read_26 : decode cX4_read 26 = .ok (.istore 7, 2) := by decide +kernel
theorem dX4_read_28 : decode cX4_read 28 = .ok (.iload 7, 2) := by decide +kernel
theorem dX4_read_30 : decode cX4_read 30 = .ok (.bipush 42, 2) := by decide +kernel
theorem dX4_read_32 : decode cX4_read 32 = .ok (.if_icmp .ne 9, 3) := by decide +kernel
theorem dX4_read_35 : decode cX4_read 35 = .ok (.iinc 4 1, 3) := by decide +kernel
theorem dX4_read_38 : decode cX4_read 38 = .ok (.goto 48, 3) := by decide +kernel
theorem dX4_read_41 : decode cX4_read 41 = .ok (.iinc 3 1, 3) := by decide +kernel
theorem dX4_read_44 : decode cX4_read 44 = .ok (.iload 7, 2) := by decide +kernel
theorem dX4_read_46 : decode cX4_read 46 = .ok (.bipush 63, 2) := by decide +kernel
theorem dX4_read_48 : decode cX4_read 48 = .ok (.if_icmp .ne 7, 3) := by decide +kernel
theorem dX4_read_51 : decode cX4_read 51 = .ok (.iconst 0, 1) := by decide +kernel
theorem dX4_read_52 : decode cX4_read 52 = .ok (.goto 9, 3) := by decide +kernel
theorem dX4_read_55 : decode cX4_read 55 = .ok (.iload 7, 2) := by decide +kernel
theorem dX4_read_57 : decode cX4_read 57 = .ok (.iload_n 2, 1) := by decide +kernel
theorem dX4_read_58 : decode cX4_read 58 = .ok (.invokestatic 28, 3) := by decide +kernel
theorem dX4_read_61 : decode cX4_read 61 = .ok (.istore 8, 2) := by decide +kernel
theorem dX4_read_63 : decode cX4_read 63 = .ok (.iload 8, 2) := by decide +kernel
theorem dX4_read_65 : decode cX4_read 65 = .ok (.iconst (-1), 1) := by decide +kernel
theorem dX4_read_66 : decode cX4_read 66 = .ok (.if_icmp .eq 11, 3) := by decide +kernel
theorem dX4_read_69 : decode cX4_read 69 = .ok (.iload 5, 2) := by decide +kernel
theorem dX4_read_71 : decode cX4_read 71 = .ok (.iload 8, 2) := by decide +kernel
theorem dX4_read_73 : decode cX4_read 73 = .ok (.iand, 1) := by decide +kernel
theorem dX4_read_74 : decode cX4_read 74 = .ok (.ifCond .eq 5, 3) := by decide +kernel
theorem dX4_read_77 : decode cX4_read 77 = .ok (.iconst 0, 1) := by decide +kernel
theorem dX4_read_78 : decode cX4_read 78 = .ok (.ireturn, 1) := by decide +kernel
theorem dX4_read_79 : decode cX4_read 79 = .ok (.iload 5, 2) := by decide +kernel
theorem dX4_read_81 : decode cX4_read 81 = .ok (.iload 8, 2) := by decide +kernel
theorem dX4_read_83 : decode cX4_read 83 = .ok (.ior, 1) := by decide +kernel
theorem dX4_read_84 : decode cX4_read 84 = .ok (.istore 5, 2) := by decide +kernel
theorem dX4_read_86 : decode cX4_read 86 = .ok (.iinc 6 1, 3) := by decide +kernel
theorem dX4_read_89 : decode cX4_read 89 = .ok (.goto (-78), 3) := by decide +kernel
theorem dX4_read_92 : decode cX4_read 92 = .ok (.iload 4, 2) := by decide +kernel
theorem dX4_read_94 : decode cX4_read 94 = .ok (.iconst 1, 1) := by decide +kernel
theorem dX4_read_95 : decode cX4_read 95 = .ok (.if_icmp .gt 18, 3) := by decide +kernel
theorem dX4_read_98 : decode cX4_read 98 = .ok (.iload_n 3, 1) := by decide +kernel
theorem dX4_read_99 : decode cX4_read 99 = .ok (.iload_n 2, 1) := by decide +kernel
theorem dX4_read_100 : decode cX4_read 100 = .ok (.if_icmp .gt 13, 3) := by decide +kernel
theorem dX4_read_103 : decode cX4_read 103 = .ok (.iload 4, 2) := by decide +kernel
theorem dX4_read_105 : decode cX4_read 105 = .ok (.ifCond .ne 10, 3) := by decide +kernel
theorem dX4_read_108 : decode cX4_read 108 = .ok (.iload_n 3, 1) := by decide +kernel
theorem dX4_read_109 : decode cX4_read 109 = .ok (.iload_n 2, 1) := by decide +kernel
theorem dX4_read_110 : decode cX4_read 110 = .ok (.if_icmp .ge 5, 3) := by decide +kernel
theorem dX4_read_113 : decode cX4_read 113 = .ok (.iconst 0, 1) := by decide +kernel
theorem dX4_read_114 : decode cX4_read 114 = .ok (.ireturn, 1) := by decide +kernel
theorem dX4_read_115 : decode cX4_read 115 = .ok (.aload_n 0, 1) := by decide +kernel
theorem dX4_read_116 : decode cX4_read 116 = .ok (.aload_n 1, 1) := by decide +kernel
theorem dX4_read_117 : decode cX4_read 117 = .ok (.iload_n 2, 1) := by decide +kernel
theorem dX4_read_118 : decode cX4_read 118 = .ok (.iload_n 3, 1) := by decide +kernel
theorem dX4_read_119 : decode cX4_read 119 = .ok (.isub, 1) := by decide +kernel
theorem dX4_read_120 : decode cX4_read 120 = .ok (.invokevirtual 32, 3) := by decide +kernel
theorem dX4_read_123 : decode cX4_read 123 = .ok (.iconst 1, 1) := by decide +kernel
theorem dX4_read_124 : decode cX4_read 124 = .ok (.ireturn, 1) := by decide +kernel
theorem dX4_bitOf_0 : decode cX4_bitOf 0 = .ok (.iload_n 0, 1) := by decide +kernel
theorem dX4_bitOf_1 : decode cX4_bitOf 1 = .ok (.bipush 49, 2) := by decide +kernel
theorem dX4_bitOf_3 : decode cX4_bitOf 3 = .ok (.if_icmp .lt 20, 3) := by decide +kernel
theorem dX4_bitOf_6 : decode cX4_bitOf 6 = .ok (.iload_n 0, 1) := by decide +kernel
theorem dX4_bitOf_7 : decode cX4_bitOf 7 = .ok (.bipush 48, 2) := by decide +kernel
theorem dX4_bitOf_9 : decode cX4_bitOf 9 = .ok (.iload_n 1, 1) := by decide +kernel
theorem dX4_bitOf_10 : decode cX4_bitOf 10 = .ok (.iadd, 1) := by decide +kernel
theorem dX4_bitOf_11 : decode cX4_bitOf 11 = .ok (.if_icmp .gt 12, 3) := by decide +kernel
theorem dX4_bitOf_14 : decode cX4_bitOf 14 = .ok (.iconst 1, 1) := by decide +kernel
theorem dX4_bitOf_15 : decode cX4_bitOf 15 = .ok (.iload_n 0, 1) := by decide +kernel
theorem dX4_bitOf_16 : decode cX4_bitOf 16 = .ok (.bipush 49, 2) := by decide +kernel
theorem dX4_bitOf_18 : decode cX4_bitOf 18 = .ok (.isub, 1) := by decide +kernel
theorem dX4_bitOf_19 : decode cX4_bitOf 19 = .ok (.ishl, 1) := by decide +kernel
theorem dX4_bitOf_20 : decode cX4_bitOf 20 = .ok (.goto 4, 3) := by decide +kernel
theorem dX4_bitOf_23 : decode cX4_bitOf 23 = .ok (.iconst (-1), 1) := by decide +kernel
theorem dX4_bitOf_24 : decode cX4_bitOf 24 = .ok (.ireturn, 1) := by decide +kernel
set_option maxRecDepth 20000 in
theorem ggX4_setPlaces_X9_size : GoodIn wsX4_setPlaces wsX9_size := goodIn_r _ [7, 8, 16, 17] (by decide +kernel) (by decide +kernel)
set_option maxRecDepth 20000 in
theorem gX4_setPlaces_X9_size : GoodIn wsX4_setPlaces (wsV RX4 18 RX9 yX9_size wsX9_size) := goodIn_app (goodIn_of _ (by decide +kernel)) ggX4_setPlaces_X9_size
set_option maxRecDepth 20000 in
theorem ggX4_setPlaces_X9_signAt : GoodIn wsX4_setPlaces wsX9_signAt := goodIn_r _ [12, 8, 13, 16, 17] (by decide +kernel) (by decide +kernel)
set_option maxRecDepth 20000 in
theorem gX4_setPlaces_X9_signAt : GoodIn wsX4_setPlaces (wsV RX4 24 RX9 yX9_signAt wsX9_signAt) := goodIn_app (goodIn_of _ (by decide +kernel)) ggX4_setPlaces_X9_signAt
theorem dX4_setPlaces_0 : decode cX4_setPlaces 0 = .ok (.iconst 0, 1) := by decide +kernel
theorem dX4_setPlaces_1 : decode cX4_setPlaces 1 = .ok (.istore_n 3, 1) := by decide +kernel
theorem dX4_setPlaces_2 : decode cX4_setPlaces 2 = .ok (.iconst 0, 1) := by decide +kernel
theorem dX4_setPlaces_3 : decode cX4_setPlaces 3 = .ok (.istore 4, 2) := by decide +kernel
theorem dX4_setPlaces_5 : decode cX4_setPlaces 5 = .ok (.iload 4, 2) := by decide +kernel
theorem dX4_setPlaces_7 : decode cX4_setPlaces 7 = .ok (.aload_n 1, 1) := by decide +kernel
theorem dX4_setPlaces_8 : decode cX4_setPlaces 8 = .ok (.invokevirtual 18, 3) := by decide +kernel
theorem dX4_setPlaces_11 : decode cX4_setPlaces 11 = .ok (.if_icmp .ge 74, 3) := by decide +kernel
theorem dX4_setPlaces_14 : decode cX4_setPlaces 14 = .ok (.aload_n 1, 1) := by decide +kernel
theorem dX4_setPlaces_15 : decode cX4_setPlaces 15 = .ok (.iload 4, 2) := by decide +kernel
theorem dX4_setPlaces_17 : decode cX4_setPlaces 17 = .ok (.invokevirtual 24, 3) := by decide +kernel
theorem dX4_setPlaces_20 : decode cX4_setPlaces 20 = .ok (.istore 5, 2) := by decide +kernel
theorem dX4_setPlaces_22 : decode cX4_setPlaces 22 = .ok (.iload 5, 2) := by decide +kernel
theorem dX4_setPlaces_24 : decode cX4_setPlaces 24 = .ok (.bipush 42, 2) := by decide +kernel
theorem dX4_setPlaces_26 : decode cX4_setPlaces 26 = .ok (.if_icmp .ne 10, 3) := by decide +kernel
theorem dX4_setPlaces_29 : decode cX4_setPlaces 29 = .ok (.iload_n 3, 1) := by decide +kernel
theorem dX4_setPlaces_30 : decode cX4_setPlaces 30 = .ok (.iload_n 2, 1) := by decide +kernel
theorem dX4_setPlaces_31 : decode cX4_setPlaces 31 = .ok (.iadd, 1) := by decide +kernel
theorem dX4_setPlaces_32 : decode cX4_setPlaces 32 = .ok (.istore_n 3, 1) := by decide +kernel
theorem dX4_setPlaces_33 : decode cX4_setPlaces 33 = .ok (.goto 46, 3) := by decide +kernel
theorem dX4_setPlaces_36 : decode cX4_setPlaces 36 = .ok (.iload 5, 2) := by decide +kernel
theorem dX4_setPlaces_38 : decode cX4_setPlaces 38 = .ok (.bipush 63, 2) := by decide +kernel
theorem dX4_setPlaces_40 : decode cX4_setPlaces 40 = .ok (.if_icmp .eq 36, 3) := by decide +kernel
theorem dX4_setPlaces_43 : decode cX4_setPlaces 43 = .ok (.aload_n 0, 1) := by decide +kernel
theorem dX4_setPlaces_44 : decode cX4_setPlaces 44 = .ok (.dup, 1) := by decide +kernel
theorem dX4_setPlaces_45 : decode cX4_setPlaces 45 = .ok (.getfield 9, 3) := by decide +kernel
theorem dX4_setPlaces_48 : decode cX4_setPlaces 48 = .ok (.bipush 7, 2) := by decide +kernel
theorem dX4_setPlaces_50 : decode cX4_setPlaces 50 = .ok (.iconst 3, 1) := by decide +kernel
theorem dX4_setPlaces_51 : decode cX4_setPlaces 51 = .ok (.iload_n 3, 1) := by decide +kernel
theorem dX4_setPlaces_52 : decode cX4_setPlaces 52 = .ok (.imul, 1) := by decide +kernel
theorem dX4_setPlaces_53 : decode cX4_setPlaces 53 = .ok (.ishl, 1) := by decide +kernel
theorem dX4_setPlaces_54 : decode cX4_setPlaces 54 = .ok (.ior, 1) := by decide +kernel
theorem dX4_setPlaces_55 : decode cX4_setPlaces 55 = .ok (.putfield 9, 3) := by decide +kernel
theorem dX4_setPlaces_58 : decode cX4_setPlaces 58 = .ok (.aload_n 0, 1) := by decide +kernel
theorem dX4_setPlaces_59 : decode cX4_setPlaces 59 = .ok (.dup, 1) := by decide +kernel
theorem dX4_setPlaces_60 : decode cX4_setPlaces 60 = .ok (.getfield 15, 3) := by decide +kernel
theorem dX4_setPlaces_63 : decode cX4_setPlaces 63 = .ok (.iload 5, 2) := by decide +kernel
theorem dX4_setPlaces_65 : decode cX4_setPlaces 65 = .ok (.bipush 49, 2) := by decide +kernel
theorem dX4_setPlaces_67 : decode cX4_setPlaces 67 = .ok (.isub, 1) := by decide +kernel
theorem dX4_setPlaces_68 : decode cX4_setPlaces 68 = .ok (.iconst 3, 1) := by decide +kernel
theorem dX4_setPlaces_69 : decode cX4_setPlaces 69 = .ok (.iload_n 3, 1) := by decide +kernel
theorem dX4_setPlaces_70 : decode cX4_setPlaces 70 = .ok (.imul, 1) := by decide +kernel
theorem dX4_setPlaces_71 : decode cX4_setPlaces 71 = .ok (.ishl, 1) := by decide +kernel
theorem dX4_setPlaces_72 : decode cX4_setPlaces 72 = .ok (.ior, 1) := by decide +kernel
theorem dX4_setPlaces_73 : decode cX4_setPlaces 73 = .ok (.putfield 15, 3) := by decide +kernel
theorem dX4_setPlaces_76 : decode cX4_setPlaces 76 = .ok (.iinc 3 1, 3) := by decide +kernel
theorem dX4_setPlaces_79 : decode cX4_setPlaces 79 = .ok (.iinc 4 1, 3) := by decide +kernel
theorem dX4_setPlaces_82 : decode cX4_setPlaces 82 = .ok (.goto (-77), 3) := by decide +kernel
theorem dX4_setPlaces_85 : decode cX4_setPlaces 85 = .ok (.return_, 1) := by decide +kernel
theorem dX4_fits_0 : decode cX4_fits 0 = .ok (.iload_n 1, 1) := by decide +kernel
theorem dX4_fits_1 : decode cX4_fits 1 = .ok (.aload_n 0, 1) := by decide +kernel
theorem dX4_fits_2 : decode cX4_fits 2 = .ok (.getfield 9, 3) := by decide +kernel
theorem dX4_fits_5 : decode cX4_fits 5 = .ok (.iand, 1) := by decide +kernel
theorem dX4_fits_6 : decode cX4_fits 6 = .ok (.aload_n 0, 1) := by decide +kernel
theorem dX4_fits_7 : decode cX4_fits 7 = .ok (.getfield 15, 3) := by decide +kernel
theorem dX4_fits_10 : decode cX4_fits 10 = .ok (.if_icmp .ne 7, 3) := by decide +kernel
theorem dX4_fits_13 : decode cX4_fits 13 = .ok (.iconst 1, 1) := by decide +kernel
theorem dX4_fits_14 : decode cX4_fits 14 = .ok (.goto 4, 3) := by decide +kernel
theorem dX4_fits_17 : decode cX4_fits 17 = .ok (.iconst 0, 1) := by decide +kernel
theorem dX4_fits_18 : decode cX4_fits 18 = .ok (.ireturn, 1) := by decide +kernel
set_option maxRecDepth 20000 in
theorem ggX5_init_X6_rounds : GoodIn wsX5_init wsX6_rounds := goodIn_r _ [20] (by decide +kernel) (by decide +kernel)
set_option maxRecDepth 20000 in
theorem gX5_init_X6_rounds : GoodIn wsX5_init (va_wsS RX5 49 yX6_rounds wsX6_rounds) := goodIn_app (goodIn_of _ (by decide +kernel)) ggX5_init_X6_rounds
theorem dX5_init_0 : decode cX5_init 0 = .ok (.aload_n 0, 1) := by decide +kernel
theorem dX5_init_1 : decode cX5_init 1 = .ok (.invokespecial 3, 3) := by decide +kernel
theorem dX5_init_4 : decode cX5_init 4 = .ok (.aload_n 0, 1) := by decide +kernel
theorem dX5_init_5 : decode cX5_init 5 = .ok (.sipush 1000, 3) := by decide +kernel
theorem dX5_init_8 : decode cX5_init 8 = .ok (.newarray .int, 2) := by decide +kernel
theorem dX5_init_10 : decode cX5_init 10 = .ok (.putfield 9, 3) := by decide +kernel
theorem dX5_init_13 : decode cX5_init 13 = .ok (.aload_n 0, 1) := by decide +kernel
theorem dX5_init_14 : decode cX5_init 14 = .ok (.sipush 1000, 3) := by decide +kernel
theorem dX5_init_17 : decode cX5_init 17 = .ok (.newarray .int, 2) := by decide +kernel
theorem dX5_init_19 : decode cX5_init 19 = .ok (.putfield 15, 3) := by decide +kernel
theorem dX5_init_22 : decode cX5_init 22 = .ok (.aload_n 0, 1) := by decide +kernel
theorem dX5_init_23 : decode cX5_init 23 = .ok (.sipush 1000, 3) := by decide +kernel
theorem dX5_init_26 : decode cX5_init 26 = .ok (.newarray .int, 2) := by decide +kernel
theorem dX5_init_28 : decode cX5_init 28 = .ok (.putfield 18, 3) := by decide +kernel
theorem dX5_init_31 : decode cX5_init 31 = .ok (.aload_n 0, 1) := by decide +kernel
theorem dX5_init_32 : decode cX5_init 32 = .ok (.iconst 0, 1) := by decide +kernel
theorem dX5_init_33 : decode cX5_init 33 = .ok (.putfield 21, 3) := by decide +kernel
theorem dX5_init_36 : decode cX5_init 36 = .ok (.aload_n 0, 1) := by decide +kernel
theorem dX5_init_37 : decode cX5_init 37 = .ok (.iconst 0, 1) := by decide +kernel
theorem dX5_init_38 : decode cX5_init 38 = .ok (.putfield 25, 3) := by decide +kernel
theorem dX5_init_41 : decode cX5_init 41 = .ok (.aload_n 0, 1) := by decide +kernel
theorem dX5_init_42 : decode cX5_init 42 = .ok (.iconst 0, 1) := by decide +kernel
theorem dX5_init_43 : decode cX5_init 43 = .ok (.putfield 28, 3) := by decide +kernel
theorem dX5_init_46 : decode cX5_init 46 = .ok (.aload_n 0, 1) := by decide +kernel
theorem dX5_init_47 : decode cX5_init 47 = .ok (.iconst (-1), 1) := by decide +kernel
theorem dX5_init_48 : decode cX5_init 48 = .ok (.putfield 32, 3) := by decide +kernel
theorem dX5_init_51 : decode cX5_init 51 = .ok (.aload_n 0, 1) := by decide +kernel
theorem dX5_init_52 : decode cX5_init 52 = .ok (.iconst (-1), 1) := by decide +kernel
theorem dX5_init_53 : decode cX5_init 53 = .ok (.putfield 35, 3) := by decide +kernel
theorem dX5_init_56 : decode cX5_init 56 = .ok (.aload_n 0, 1) := by decide +kernel
theorem dX5_init_57 : decode cX5_init 57 = .ok (.aload_n 1, 1) := by decide +kernel
theorem dX5_init_58 : decode cX5_init 58 = .ok (.putfield 38, 3) := by decide +kernel
theorem dX5_init_61 : decode cX5_init 61 = .ok (.aload_n 0, 1) := by decide +kernel
theorem dX5_init_62 : decode cX5_init 62 = .ok (.aload_n 2, 1) := by decide +kernel
theorem dX5_init_63 : decode cX5_init 63 = .ok (.putfield 42, 3) := by decide +kernel
theorem dX5_init_66 : decode cX5_init 66 = .ok (.aload_n 0, 1) := by decide +kernel
theorem dX5_init_67 : decode cX5_init 67 = .ok (.iload_n 3, 1) := by decide +kernel
theorem dX5_init_68 : decode cX5_init 68 = .ok (.putfield 46, 3) := by decide +kernel
theorem dX5_init_71 : decode cX5_init 71 = .ok (.aload_n 0, 1) := by decide +kernel
theorem dX5_init_72 : decode cX5_init 72 = .ok (.iload_n 3, 1) := by decide +kernel
theorem dX5_init_73 : decode cX5_init 73 = .ok (.invokestatic 49, 3) := by decide +kernel
theorem dX5_init_76 : decode cX5_init 76 = .ok (.putfield 55, 3) := by decide +kernel
theorem dX5_init_79 : decode cX5_init 79 = .ok (.return_, 1) := by decide +kernel
set_option maxRecDepth 20000 in
theorem ggX5_clear_X6_rounds : GoodIn wsX5_clear wsX6_rounds := goodIn_r _ [9] (by decide +kernel) (by decide +kernel)
set_option maxRecDepth 20000 in
theorem gX5_clear_X6_rounds : GoodIn wsX5_clear (va_wsS RX5 49 yX6_rounds wsX6_rounds) := goodIn_app (goodIn_of _ (by decide +kernel)) ggX5_clear_X6_rounds
theorem dX5_clear_0 : decode cX5_clear 0 = .ok (.aload_n 0, 1) := by decide +kernel
theorem dX5_clear_1 : decode cX5_clear 1 = .ok (.iload_n 1, 1) := by decide +kernel
theorem dX5_clear_2 : decode cX5_clear 2 = .ok (.putfield 46, 3) := by decide +kernel
theorem dX5_clear_5 : decode cX5_clear 5 = .ok (.aload_n 0, 1) := by decide +kernel
theorem dX5_clear_6 : decode cX5_clear 6 = .ok (.iconst 0, 1) := by decide +kernel
theorem dX5_clear_7 : decode cX5_clear 7 = .ok (.putfield 21, 3) := by decide +kernel
theorem dX5_clear_10 : decode cX5_clear 10 = .ok (.aload_n 0, 1) := by decide +kernel
theorem dX5_clear_11 : decode cX5_clear 11 = .ok (.iconst 0, 1) := by decide +kernel
theorem dX5_clear_12 : decode cX5_clear 12 = .ok (.putfield 25, 3) := by decide +kernel
theorem dX5_clear_15 : decode cX5_clear 15 = .ok (.aload_n 0, 1) := by decide +kernel
theorem dX5_clear_16 : decode cX5_clear 16 = .ok (.iload_n 1, 1) := by decide +kernel
theorem dX5_clear_17 : decode cX5_clear 17 = .ok (.invokestatic 49, 3) := by decide +kernel
theorem dX5_clear_20 : decode cX5_clear 20 = .ok (.putfield 55, 3) := by decide +kernel
theorem dX5_clear_23 : decode cX5_clear 23 = .ok (.aload_n 0, 1) := by decide +kernel
theorem dX5_clear_24 : decode cX5_clear 24 = .ok (.iconst 0, 1) := by decide +kernel
theorem dX5_clear_25 : decode cX5_clear 25 = .ok (.putfield 28, 3) := by decide +kernel
theorem dX5_clear_28 : decode cX5_clear 28 = .ok (.return_, 1) := by decide +kernel
set_option maxRecDepth 20000 in
theorem ggX5_add_X11_setCell : GoodIn wsX5_add wsX11_setCell := goodIn_r _ [10] (by decide +kernel) (by decide +kernel)
set_option maxRecDepth 20000 in
theorem gX5_add_X11_setCell_n58 : GoodIn wsX5_add (wsX11_setCell) := ggX5_add_X11_setCell
set_option maxRecDepth 20000 in
theorem ggX5_add_X0_at : GoodIn wsX5_add wsX0_at := goodIn_r _ [15, 16, 17, 51, 52] (by decide +kernel) (by decide +kernel)
set_option maxRecDepth 20000 in
theorem gX5_add_X0_at : GoodIn wsX5_add (wsV RX5 62 RX0 yX0_at wsX0_at) := goodIn_app (goodIn_of _ (by decide +kernel)) ggX5_add_X0_at
set_option maxRecDepth 20000 in
theorem ggX5_add_X2_size : GoodIn wsX5_add wsX2_size := goodIn_r _ [22, 23, 53, 54, 55, 56, 57, 58, 59, 60] (by decide +kernel) (by decide +kernel)
set_option maxRecDepth 20000 in
theorem gX5_add_X2_size : GoodIn wsX5_add (wsV RX5 68 RX2 yX2_size wsX2_size) := goodIn_app (goodIn_of _ (by decide +kernel)) ggX5_add_X2_size
set_option maxRecDepth 20000 in
theorem ggX5_add_X2_following : GoodIn wsX5_add wsX2_following := goodIn_r _ [27, 28, 29, 30, 31, 32, 33, 34, 35, 36, 37, 38, 53, 54, 55, 56, 57, 58, 59, 60] (by decide +kernel) (by decide +kernel)
set_option maxRecDepth 20000 in
theorem gX5_add_X2_following : GoodIn wsX5_add (wsV RX5 73 RX2 yX2_following wsX2_following) := goodIn_app (goodIn_of _ (by decide +kernel)) ggX5_add_X2_following
theorem dX5_add_0 : decode cX5_add 0 = .ok (.aload_n 0, 1) := by decide +kernel
theorem dX5_add_1 : decode cX5_add 1 = .ok (.getfield 21, 3) := by decide +kernel
theorem dX5_add_4 : decode cX5_add 4 = .ok (.sipush 1000, 3) := by decide +kernel
theorem dX5_add_7 : decode cX5_add 7 = .ok (.if_icmp .lt 4, 3) := by decide +kernel
theorem dX5_add_10 : decode cX5_add 10 = .ok (.return_, 1) := by decide +kernel
theorem dX5_add_11 : decode cX5_add 11 = .ok (.aload_n 0, 1) := by decide +kernel
theorem dX5_add_12 : decode cX5_add 12 = .ok (.getfield 9, 3) := by decide +kernel
theorem dX5_add_15 : decode cX5_add 15 = .ok (.aload_n 0, 1) := by decide +kernel
theorem dX5_add_16 : decode cX5_add 16 = .ok (.getfield 21, 3) := by decide +kernel
theorem dX5_add_19 : decode cX5_add 19 = .ok (.iload_n 1, 1) := by decide +kernel
theorem dX5_add_20 : decode cX5_add 20 = .ok (.iconst 3, 1) := by decide +kernel
theorem dX5_add_21 : decode cX5_add 21 = .ok (.imul, 1) := by decide +kernel
theorem dX5_add_22 : decode cX5_add 22 = .ok (.iload_n 2, 1) := by decide +kernel
theorem dX5_add_23 : decode cX5_add 23 = .ok (.iadd, 1) := by decide +kernel
theorem dX5_add_24 : decode cX5_add 24 = .ok (.invokestatic 58, 3) := by decide +kernel
theorem dX5_add_27 : decode cX5_add 27 = .ok (.aload_n 0, 1) := by decide +kernel
theorem dX5_add_28 : decode cX5_add 28 = .ok (.getfield 15, 3) := by decide +kernel
theorem dX5_add_31 : decode cX5_add 31 = .ok (.aload_n 0, 1) := by decide +kernel
theorem dX5_add_32 : decode cX5_add 32 = .ok (.getfield 21, 3) := by decide +kernel
theorem dX5_add_35 : decode cX5_add 35 = .ok (.aload_n 0, 1) := by decide +kernel
theorem dX5_add_36 : decode cX5_add 36 = .ok (.getfield 55, 3) := by decide +kernel
theorem dX5_add_39 : decode cX5_add 39 = .ok (.invokestatic 58, 3) := by decide +kernel
theorem dX5_add_42 : decode cX5_add 42 = .ok (.aload_n 0, 1) := by decide +kernel
theorem dX5_add_43 : decode cX5_add 43 = .ok (.getfield 18, 3) := by decide +kernel
theorem dX5_add_46 : decode cX5_add 46 = .ok (.aload_n 0, 1) := by decide +kernel
theorem dX5_add_47 : decode cX5_add 47 = .ok (.getfield 21, 3) := by decide +kernel
theorem dX5_add_50 : decode cX5_add 50 = .ok (.aload_n 0, 1) := by decide +kernel
theorem dX5_add_51 : decode cX5_add 51 = .ok (.getfield 25, 3) := by decide +kernel
theorem dX5_add_54 : decode cX5_add 54 = .ok (.invokestatic 58, 3) := by decide +kernel
theorem dX5_add_57 : decode cX5_add 57 = .ok (.aload_n 0, 1) := by decide +kernel
theorem dX5_add_58 : decode cX5_add 58 = .ok (.dup, 1) := by decide +kernel
theorem dX5_add_59 : decode cX5_add 59 = .ok (.getfield 21, 3) := by decide +kernel
theorem dX5_add_62 : decode cX5_add 62 = .ok (.iconst 1, 1) := by decide +kernel
theorem dX5_add_63 : decode cX5_add 63 = .ok (.iadd, 1) := by decide +kernel
theorem dX5_add_64 : decode cX5_add 64 = .ok (.putfield 21, 3) := by decide +kernel
theorem dX5_add_67 : decode cX5_add 67 = .ok (.aload_n 0, 1) := by decide +kernel
theorem dX5_add_68 : decode cX5_add 68 = .ok (.dup, 1) := by decide +kernel
theorem dX5_add_69 : decode cX5_add 69 = .ok (.getfield 25, 3) := by decide +kernel
theorem dX5_add_72 : decode cX5_add 72 = .ok (.aload_n 0, 1) := by decide +kernel
theorem dX5_add_73 : decode cX5_add 73 = .ok (.getfield 38, 3) := by decide +kernel
theorem dX5_add_76 : decode cX5_add 76 = .ok (.iload_n 1, 1) := by decide +kernel
theorem dX5_add_77 : decode cX5_add 77 = .ok (.invokevirtual 62, 3) := by decide +kernel
theorem dX5_add_80 : decode cX5_add 80 = .ok (.invokevirtual 68, 3) := by decide +kernel
theorem dX5_add_83 : decode cX5_add 83 = .ok (.iadd, 1) := by decide +kernel
theorem dX5_add_84 : decode cX5_add 84 = .ok (.putfield 25, 3) := by decide +kernel
theorem dX5_add_87 : decode cX5_add 87 = .ok (.aload_n 0, 1) := by decide +kernel
theorem dX5_add_88 : decode cX5_add 88 = .ok (.aload_n 0, 1) := by decide +kernel
theorem dX5_add_89 : decode cX5_add 89 = .ok (.getfield 38, 3) := by decide +kernel
theorem dX5_add_92 : decode cX5_add 92 = .ok (.iload_n 1, 1) := by decide +kernel
theorem dX5_add_93 : decode cX5_add 93 = .ok (.invokevirtual 62, 3) := by decide +kernel
theorem dX5_add_96 : decode cX5_add 96 = .ok (.aload_n 0, 1) := by decide +kernel
theorem dX5_add_97 : decode cX5_add 97 = .ok (.getfield 55, 3) := by decide +kernel
theorem dX5_add_100 : decode cX5_add 100 = .ok (.iload_n 2, 1) := by decide +kernel
theorem dX5_add_101 : decode cX5_add 101 = .ok (.invokevirtual 73, 3) := by decide +kernel
theorem dX5_add_104 : decode cX5_add 104 = .ok (.putfield 55, 3) := by decide +kernel
theorem dX5_add_107 : decode cX5_add 107 = .ok (.return_, 1) := by decide +kernel
theorem dX5_size_0 : decode cX5_size 0 = .ok (.aload_n 0, 1) := by decide +kernel
theorem dX5_size_1 : decode cX5_size 1 = .ok (.getfield 21, 3) := by decide +kernel
theorem dX5_size_4 : decode cX5_size 4 = .ok (.ireturn, 1) := by decide +kernel
theorem dX5_rows_0 : decode cX5_rows 0 = .ok (.aload_n 0, 1) := by decide +kernel
theorem dX5_rows_1 : decode cX5_rows 1 = .ok (.getfield 25, 3) := by decide +kernel
theorem dX5_rows_4 : decode cX5_rows 4 = .ok (.ireturn, 1) := by decide +kernel
theorem dX5_ending_0 : decode cX5_ending 0 = .ok (.aload_n 0, 1) := by decide +kernel
theorem dX5_ending_1 : decode cX5_ending 1 = .ok (.getfield 55, 3) := by decide +kernel
theorem dX5_ending_4 : decode cX5_ending 4 = .ok (.ireturn, 1) := by decide +kernel
set_option maxRecDepth 20000 in
theorem ggX5_order_X6_order : GoodIn wsX5_order wsX6_order := goodIn_r _ [6, 7, 8, 9, 5, 10, 11, 12, 13, 14, 15, 16] (by decide +kernel) (by decide +kernel)
set_option maxRecDepth 20000 in
theorem gX5_order_X6_order : GoodIn wsX5_order (va_wsS RX5 77 yX6_order wsX6_order) := goodIn_app (goodIn_of _ (by decide +kernel)) ggX5_order_X6_order
theorem dX5_order_0 : decode cX5_order 0 = .ok (.aload_n 0, 1) := by decide +kernel
theorem dX5_order_1 : decode cX5_order 1 = .ok (.getfield 55, 3) := by decide +kernel
theorem dX5_order_4 : decode cX5_order 4 = .ok (.aload_n 0, 1) := by decide +kernel
theorem dX5_order_5 : decode cX5_order 5 = .ok (.getfield 46, 3) := by decide +kernel
theorem dX5_order_8 : decode cX5_order 8 = .ok (.invokestatic 77, 3) := by decide +kernel
theorem dX5_order_11 : decode cX5_order 11 = .ok (.ireturn, 1) := by decide +kernel
set_option maxRecDepth 20000 in
theorem ggX5_letterOf_X11_cell : GoodIn wsX5_letterOf wsX11_cell := goodIn_r _ [4] (by decide +kernel) (by decide +kernel)
set_option maxRecDepth 20000 in
theorem gX5_letterOf_X11_cell_n80 : GoodIn wsX5_letterOf (wsX11_cell) := ggX5_letterOf_X11_cell
theorem dX5_letterOf_0 : decode cX5_letterOf 0 = .ok (.aload_n 0, 1) := by decide +kernel
theorem dX5_letterOf_1 : decode cX5_letterOf 1 = .ok (.getfield 9, 3) := by decide +kernel
theorem dX5_letterOf_4 : decode cX5_letterOf 4 = .ok (.iload_n 1, 1) := by decide +kernel
theorem dX5_letterOf_5 : decode cX5_letterOf 5 = .ok (.invokestatic 80, 3) := by decide +kernel
theorem dX5_letterOf_8 : decode cX5_letterOf 8 = .ok (.iconst 3, 1) := by decide +kernel
theorem dX5_letterOf_9 : decode cX5_letterOf 9 = .ok (.idiv, 1) := by decide +kernel
theorem dX5_letterOf_10 : decode cX5_letterOf 10 = .ok (.ireturn, 1) := by decide +kernel
set_option maxRecDepth 20000 in
theorem ggX5_callOf_X11_cell : GoodIn wsX5_callOf wsX11_cell := goodIn_r _ [4] (by decide +kernel) (by decide +kernel)
set_option maxRecDepth 20000 in
theorem gX5_callOf_X11_cell_n80 : GoodIn wsX5_callOf (wsX11_cell) := ggX5_callOf_X11_cell
theorem dX5_callOf_0 : decode cX5_callOf 0 = .ok (.aload_n 0, 1) := by decide +kernel
theorem dX5_callOf_1 : decode cX5_callOf 1 = .ok (.getfield 9, 3) := by decide +kernel
theorem dX5_callOf_4 : decode cX5_callOf 4 = .ok (.iload_n 1, 1) := by decide +kernel
theorem dX5_callOf_5 : decode cX5_callOf 5 = .ok (.invokestatic 80, 3) := by decide +kernel
theorem dX5_callOf_8 : decode cX5_callOf 8 = .ok (.iconst 3, 1) := by decide +kernel
theorem dX5_callOf_9 : decode cX5_callOf 9 = .ok (.irem, 1) := by decide +kernel
theorem dX5_callOf_10 : decode cX5_callOf 10 = .ok (.ireturn, 1) := by decide +kernel
set_option maxRecDepth 20000 in
theorem ggX5_headOf_X11_cell : GoodIn wsX5_headOf wsX11_cell := goodIn_r _ [4] (by decide +kernel) (by decide +kernel)
set_option maxRecDepth 20000 in
theorem gX5_headOf_X11_cell_n80 : GoodIn wsX5_headOf (wsX11_cell) := ggX5_headOf_X11_cell
theorem dX5_headOf_0 : decode cX5_headOf 0 = .ok (.aload_n 0, 1) := by decide +kernel
theorem dX5_headOf_1 : decode cX5_headOf 1 = .ok (.getfield 15, 3) := by decide +kernel
theorem dX5_headOf_4 : decode cX5_headOf 4 = .ok (.iload_n 1, 1) := by decide +kernel
theorem dX5_headOf_5 : decode cX5_headOf 5 = .ok (.invokestatic 80, 3) := by decide +kernel
theorem dX5_headOf_8 : decode cX5_headOf 8 = .ok (.ireturn, 1) := by decide +kernel
set_option maxRecDepth 20000 in
theorem ggX5_firstOf_X11_cell : GoodIn wsX5_firstOf wsX11_cell := goodIn_r _ [4] (by decide +kernel) (by decide +kernel)
set_option maxRecDepth 20000 in
theorem gX5_firstOf_X11_cell_n80 : GoodIn wsX5_firstOf (wsX11_cell) := ggX5_firstOf_X11_cell
theorem dX5_firstOf_0 : decode cX5_firstOf 0 = .ok (.aload_n 0, 1) := by decide +kernel
theorem dX5_firstOf_1 : decode cX5_firstOf 1 = .ok (.getfield 18, 3) := by decide +kernel
theorem dX5_firstOf_4 : decode cX5_firstOf 4 = .ok (.iload_n 1, 1) := by decide +kernel
theorem dX5_firstOf_5 : decode cX5_firstOf 5 = .ok (.invokestatic 80, 3) := by decide +kernel
theorem dX5_firstOf_8 : decode cX5_firstOf 8 = .ok (.ireturn, 1) := by decide +kernel
set_option maxRecDepth 20000 in
theorem ggX5_calls_X5_callOf : GoodIn wsX5_calls wsX5_callOf := goodIn_r _ [6, 7, 8, 9, 10, 13, 14, 15, 16, 17, 18, 19, 20, 21, 22, 23, 24] (by decide +kernel) (by decide +kernel)
set_option maxRecDepth 20000 in
theorem gX5_calls_X5_callOf : GoodIn wsX5_calls (wsV RX5 84 RX5 yX5_callOf wsX5_callOf) := goodIn_app (goodIn_of _ (by decide +kernel)) ggX5_calls_X5_callOf
set_option maxRecDepth 20000 in
theorem ggX5_calls_X11_oneIf : GoodIn wsX5_calls wsX11_oneIf := goodIn_r _ [12] (by decide +kernel) (by decide +kernel)
set_option maxRecDepth 20000 in
theorem gX5_calls_X11_oneIf_n87 : GoodIn wsX5_calls (wsX11_oneIf) := ggX5_calls_X11_oneIf
theorem dX5_calls_0 : decode cX5_calls 0 = .ok (.iconst 0, 1) := by decide +kernel
theorem dX5_calls_1 : decode cX5_calls 1 = .ok (.istore_n 2, 1) := by decide +kernel
theorem dX5_calls_2 : decode cX5_calls 2 = .ok (.iconst 0, 1) := by decide +kernel
theorem dX5_calls_3 : decode cX5_calls 3 = .ok (.istore_n 3, 1) := by decide +kernel
theorem dX5_calls_4 : decode cX5_calls 4 = .ok (.iload_n 3, 1) := by decide +kernel
theorem dX5_calls_5 : decode cX5_calls 5 = .ok (.aload_n 0, 1) := by decide +kernel
theorem dX5_calls_6 : decode cX5_calls 6 = .ok (.getfield 21, 3) := by decide +kernel
theorem dX5_calls_9 : decode cX5_calls 9 = .ok (.if_icmp .ge 29, 3) := by decide +kernel
theorem dX5_calls_12 : decode cX5_calls 12 = .ok (.iload_n 2, 1) := by decide +kernel
theorem dX5_calls_13 : decode cX5_calls 13 = .ok (.aload_n 0, 1) := by decide +kernel
theorem dX5_calls_14 : decode cX5_calls 14 = .ok (.iload_n 3, 1) := by decide +kernel
theorem dX5_calls_15 : decode cX5_calls 15 = .ok (.invokevirtual 84, 3) := by decide +kernel
theorem dX5_calls_18 : decode cX5_calls 18 = .ok (.iload_n 1, 1) := by decide +kernel
theorem dX5_calls_19 : decode cX5_calls 19 = .ok (.if_icmp .ne 7, 3) := by decide +kernel
theorem dX5_calls_22 : decode cX5_calls 22 = .ok (.iconst 1, 1) := by decide +kernel
theorem dX5_calls_23 : decode cX5_calls 23 = .ok (.goto 4, 3) := by decide +kernel
theorem dX5_calls_26 : decode cX5_calls 26 = .ok (.iconst 0, 1) := by decide +kernel
theorem dX5_calls_27 : decode cX5_calls 27 = .ok (.invokestatic 87, 3) := by decide +kernel
theorem dX5_calls_30 : decode cX5_calls 30 = .ok (.iadd, 1) := by decide +kernel
theorem dX5_calls_31 : decode cX5_calls 31 = .ok (.istore_n 2, 1) := by decide +kernel
theorem dX5_calls_32 : decode cX5_calls 32 = .ok (.iinc 3 1, 3) := by decide +kernel
theorem dX5_calls_35 : decode cX5_calls 35 = .ok (.goto (-31), 3) := by decide +kernel
theorem dX5_calls_38 : decode cX5_calls 38 = .ok (.iload_n 2, 1) := by decide +kernel
theorem dX5_calls_39 : decode cX5_calls 39 = .ok (.ireturn, 1) := by decide +kernel
set_option maxRecDepth 20000 in
theorem ggX5_methodChanges_X5_letterOf : GoodIn wsX5_methodChanges wsX5_letterOf := goodIn_r _ [6, 7, 8, 9, 10, 13, 14, 15, 16, 17, 18, 19, 20, 21, 22, 23, 24] (by decide +kernel) (by decide +kernel)
set_option maxRecDepth 20000 in
theorem gX5_methodChanges_X5_letterOf : GoodIn wsX5_methodChanges (wsV RX5 91 RX5 yX5_letterOf wsX5_letterOf) := goodIn_app (goodIn_of _ (by decide +kernel)) ggX5_methodChanges_X5_letterOf
set_option maxRecDepth 20000 in
theorem ggX5_methodChanges_X11_oneIf : GoodIn wsX5_methodChanges wsX11_oneIf := goodIn_r _ [12] (by decide +kernel) (by decide +kernel)
set_option maxRecDepth 20000 in
theorem gX5_methodChanges_X11_oneIf_n87 : GoodIn wsX5_methodChanges (wsX11_oneIf) := ggX5_methodChanges_X11_oneIf
theorem dX5_methodChanges_0 : decode cX5_methodChanges 0 = .ok (.iconst 0, 1) := by decide +kernel
theorem dX5_methodChanges_1 : decode cX5_methodChanges 1 = .ok (.istore_n 1, 1) := by decide +kernel
theorem dX5_methodChanges_2 : decode cX5_methodChanges 2 = .ok (.iconst 1, 1) := by decide +kernel
theorem dX5_methodChanges_3 : decode cX5_methodChanges 3 = .ok (.istore_n 2, 1) := by decide +kernel
theorem dX5_methodChanges_4 : decode cX5_methodChanges 4 = .ok (.iload_n 2, 1) := by decide +kernel
theorem dX5_methodChanges_5 : decode cX5_methodChanges 5 = .ok (.aload_n 0, 1) := by decide +kernel
theorem dX5_methodChanges_6 : decode cX5_methodChanges 6 = .ok (.getfield 21, 3) := by decide +kernel
theorem dX5_methodChanges_9 : decode cX5_methodChanges 9 = .ok (.if_icmp .ge 35, 3) := by decide +kernel
theorem dX5_methodChanges_12 : decode cX5_methodChanges 12 = .ok (.iload_n 1, 1) := by decide +kernel
theorem dX5_methodChanges_13 : decode cX5_methodChanges 13 = .ok (.aload_n 0, 1) := by decide +kernel
theorem dX5_methodChanges_14 : decode cX5_methodChanges 14 = .ok (.iload_n 2, 1) := by decide +kernel
theorem dX5_methodChanges_15 : decode cX5_methodChanges 15 = .ok (.invokevirtual 91, 3) := by decide +kernel
theorem dX5_methodChanges_18 : decode cX5_methodChanges 18 = .ok (.aload_n 0, 1) := by decide +kernel
theorem dX5_methodChanges_19 : decode cX5_methodChanges 19 = .ok (.iload_n 2, 1) := by decide +kernel
theorem dX5_methodChanges_20 : decode cX5_methodChanges 20 = .ok (.iconst 1, 1) := by decide +kernel
theorem dX5_methodChanges_21 : decode cX5_methodChanges 21 = .ok (.isub, 1) := by decide +kernel
theorem dX5_methodChanges_22 : decode cX5_methodChanges 22 = .ok (.invokevirtual 91, 3) := by decide +kernel
theorem dX5_methodChanges_25 : decode cX5_methodChanges 25 = .ok (.if_icmp .eq 7, 3) := by decide +kernel
theorem dX5_methodChanges_28 : decode cX5_methodChanges 28 = .ok (.iconst 1, 1) := by decide +kernel
theorem dX5_methodChanges_29 : decode cX5_methodChanges 29 = .ok (.goto 4, 3) := by decide +kernel
theorem dX5_methodChanges_32 : decode cX5_methodChanges 32 = .ok (.iconst 0, 1) := by decide +kernel
theorem dX5_methodChanges_33 : decode cX5_methodChanges 33 = .ok (.invokestatic 87, 3) := by decide +kernel
theorem dX5_methodChanges_36 : decode cX5_methodChanges 36 = .ok (.iadd, 1) := by decide +kernel
theorem dX5_methodChanges_37 : decode cX5_methodChanges 37 = .ok (.istore_n 1, 1) := by decide +kernel
theorem dX5_methodChanges_38 : decode cX5_methodChanges 38 = .ok (.iinc 2 1, 3) := by decide +kernel
theorem dX5_methodChanges_41 : decode cX5_methodChanges 41 = .ok (.goto (-37), 3) := by decide +kernel
theorem dX5_methodChanges_44 : decode cX5_methodChanges 44 = .ok (.iload_n 1, 1) := by decide +kernel
theorem dX5_methodChanges_45 : decode cX5_methodChanges 45 = .ok (.ireturn, 1) := by decide +kernel
set_option maxRecDepth 20000 in
theorem ggX5_rowNumbered_X5_firstOf : GoodIn wsX5_rowNumbered wsX5_firstOf := goodIn_r _ [8, 9, 10, 11, 12, 41, 42, 43, 44, 45, 46, 47, 48, 49, 50, 51, 52] (by decide +kernel) (by decide +kernel)
set_option maxRecDepth 20000 in
theorem gX5_rowNumbered_X5_firstOf : GoodIn wsX5_rowNumbered (wsV RX5 94 RX5 yX5_firstOf wsX5_firstOf) := goodIn_app (goodIn_of _ (by decide +kernel)) ggX5_rowNumbered_X5_firstOf
set_option maxRecDepth 20000 in
theorem ggX5_rowNumbered_X5_letterOf : GoodIn wsX5_rowNumbered wsX5_letterOf := goodIn_r _ [16, 17, 10, 11, 12, 41, 42, 43, 44, 45, 46, 47, 48, 49, 50, 51, 52] (by decide +kernel) (by decide +kernel)
set_option maxRecDepth 20000 in
theorem gX5_rowNumbered_X5_letterOf : GoodIn wsX5_rowNumbered (wsV RX5 91 RX5 yX5_letterOf wsX5_letterOf) := goodIn_app (goodIn_of _ (by decide +kernel)) ggX5_rowNumbered_X5_letterOf
set_option maxRecDepth 20000 in
theorem ggX5_rowNumbered_X0_at : GoodIn wsX5_rowNumbered wsX0_at := goodIn_r _ [22, 23, 24, 53, 54] (by decide +kernel) (by decide +kernel)
set_option maxRecDepth 20000 in
theorem gX5_rowNumbered_X0_at : GoodIn wsX5_rowNumbered (wsV RX5 62 RX0 yX0_at wsX0_at) := goodIn_app (goodIn_of _ (by decide +kernel)) ggX5_rowNumbered_X0_at
set_option maxRecDepth 20000 in
theorem ggX5_rowNumbered_X5_headOf : GoodIn wsX5_rowNumbered wsX5_headOf := goodIn_r _ [28, 29, 10, 11, 12, 41, 42, 43, 44, 45, 46, 47, 48, 49, 50, 51, 52] (by decide +kernel) (by decide +kernel)
set_option maxRecDepth 20000 in
theorem gX5_rowNumbered_X5_headOf : GoodIn wsX5_rowNumbered (wsV RX5 97 RX5 yX5_headOf wsX5_headOf) := goodIn_app (goodIn_of _ (by decide +kernel)) ggX5_rowNumbered_X5_headOf
set_option maxRecDepth 20000 in
theorem ggX5_rowNumbered_X2_rowFrom : GoodIn wsX5_rowNumbered wsX2_rowFrom := goodIn_r _ [34, 35, 36, 10, 11, 12, 37, 38, 39, 40, 55, 56, 57, 58, 59, 60, 61, 62] (by decide +kernel) (by decide +kernel)
set_option maxRecDepth 20000 in
theorem gX5_rowNumbered_X2_rowFrom : GoodIn wsX5_rowNumbered (wsV RX5 100 RX2 yX2_rowFrom wsX2_rowFrom) := goodIn_app (goodIn_of _ (by decide +kernel)) ggX5_rowNumbered_X2_rowFrom
theorem dX5_rowNumbered_0 : decode cX5_rowNumbered 0 = .ok (.aload_n 0, 1) := by decide +kernel
theorem dX5_rowNumbered_1 : decode cX5_rowNumbered 1 = .ok (.getfield 21, 3) := by decide +kernel
theorem dX5_rowNumbered_4 : decode cX5_rowNumbered 4 = .ok (.iconst 1, 1) := by decide +kernel
theorem dX5_rowNumbered_5 : decode cX5_rowNumbered 5 = .ok (.isub, 1) := by decide +kernel
theorem dX5_rowNumbered_6 : decode cX5_rowNumbered 6 = .ok (.istore_n 2, 1) := by decide +kernel
theorem dX5_rowNumbered_7 : decode cX5_rowNumbered 7 = .ok (.iload_n 2, 1) := by decide +kernel
theorem dX5_rowNumbered_8 : decode cX5_rowNumbered 8 = .ok (.ifCond .lt 46, 3) := by decide +kernel
theorem dX5_rowNumbered_11 : decode cX5_rowNumbered 11 = .ok (.aload_n 0, 1) := by decide +kernel
theorem dX5_rowNumbered_12 : decode cX5_rowNumbered 12 = .ok (.iload_n 2, 1) := by decide +kernel
theorem dX5_rowNumbered_13 : decode cX5_rowNumbered 13 = .ok (.invokevirtual 94, 3) := by decide +kernel
theorem dX5_rowNumbered_16 : decode cX5_rowNumbered 16 = .ok (.iload_n 1, 1) := by decide +kernel
theorem dX5_rowNumbered_17 : decode cX5_rowNumbered 17 = .ok (.if_icmp .gt 31, 3) := by decide +kernel
theorem dX5_rowNumbered_20 : decode cX5_rowNumbered 20 = .ok (.aload_n 0, 1) := by decide +kernel
theorem dX5_rowNumbered_21 : decode cX5_rowNumbered 21 = .ok (.getfield 38, 3) := by decide +kernel
theorem dX5_rowNumbered_24 : decode cX5_rowNumbered 24 = .ok (.aload_n 0, 1) := by decide +kernel
theorem dX5_rowNumbered_25 : decode cX5_rowNumbered 25 = .ok (.iload_n 2, 1) := by decide +kernel
theorem dX5_rowNumbered_26 : decode cX5_rowNumbered 26 = .ok (.invokevirtual 91, 3) := by decide +kernel
theorem dX5_rowNumbered_29 : decode cX5_rowNumbered 29 = .ok (.invokevirtual 62, 3) := by decide +kernel
theorem dX5_rowNumbered_32 : decode cX5_rowNumbered 32 = .ok (.aload_n 0, 1) := by decide +kernel
theorem dX5_rowNumbered_33 : decode cX5_rowNumbered 33 = .ok (.iload_n 2, 1) := by decide +kernel
theorem dX5_rowNumbered_34 : decode cX5_rowNumbered 34 = .ok (.invokevirtual 97, 3) := by decide +kernel
theorem dX5_rowNumbered_37 : decode cX5_rowNumbered 37 = .ok (.iload_n 1, 1) := by decide +kernel
theorem dX5_rowNumbered_38 : decode cX5_rowNumbered 38 = .ok (.aload_n 0, 1) := by decide +kernel
theorem dX5_rowNumbered_39 : decode cX5_rowNumbered 39 = .ok (.iload_n 2, 1) := by decide +kernel
theorem dX5_rowNumbered_40 : decode cX5_rowNumbered 40 = .ok (.invokevirtual 94, 3) := by decide +kernel
theorem dX5_rowNumbered_43 : decode cX5_rowNumbered 43 = .ok (.isub, 1) := by decide +kernel
theorem dX5_rowNumbered_44 : decode cX5_rowNumbered 44 = .ok (.invokevirtual 100, 3) := by decide +kernel
theorem dX5_rowNumbered_47 : decode cX5_rowNumbered 47 = .ok (.ireturn, 1) := by decide +kernel
theorem dX5_rowNumbered_48 : decode cX5_rowNumbered 48 = .ok (.iinc 2 (-1), 3) := by decide +kernel
theorem dX5_rowNumbered_51 : decode cX5_rowNumbered 51 = .ok (.goto (-44), 3) := by decide +kernel
theorem dX5_rowNumbered_54 : decode cX5_rowNumbered 54 = .ok (.aload_n 0, 1) := by decide +kernel
theorem dX5_rowNumbered_55 : decode cX5_rowNumbered 55 = .ok (.getfield 55, 3) := by decide +kernel
theorem dX5_rowNumbered_58 : decode cX5_rowNumbered 58 = .ok (.ireturn, 1) := by decide +kernel
set_option maxRecDepth 20000 in
theorem ggX5_repeated_X5_prove : GoodIn wsX5_repeated wsX5_prove := goodIn_r _ [6, 7, 1, 8, 9, 10, 11, 12, 5, 13, 14, 15, 16, 17, 18, 19, 20, 21, 22, 23, 24, 25, 26, 27, 28, 29, 30, 31, 32, 33, 34, 35, 36, 37, 38, 39, 40, 41, 42, 43, 44, 45, 46, 47, 48, 49, 50, 51, 52, 53, 54, 55, 56, 57, 58, 59, 60, 61, 62, 63, 64, 65, 66, 67, 68, 69, 70, 71, 72, 73, 74, 75, 76, 77, 78, 79, 80, 81, 82, 83, 84, 85, 86, 87, 88, 89, 90, 91, 92, 93, 94, 95, 96, 97, 98, 99, 100, 101, 102, 103, 104, 105, 106, 107, 108, 109, 110, 111, 112, 113, 114, 115, 116, 117, 118, 119, 120, 121, 122, 123, 124, 125, 126, 127, 128, 129, 130, 131, 132, 133] (by decide +kernel) (by decide +kernel)
set_option maxRecDepth 20000 in
theorem gX5_repeated_X5_prove : GoodIn wsX5_repeated (wsV RX5 103 RX5 yX5_prove wsX5_prove) := goodIn_app (goodIn_of _ (by decide +kernel)) ggX5_repeated_X5_prove
theorem dX5_repeated_0 : decode cX5_repeated 0 = .ok (.aload_n 0, 1) := by decide +kernel
theorem dX5_repeated_1 : decode cX5_repeated 1 = .ok (.invokevirtual 103, 3) := by decide +kernel
theorem dX5_repeated_4 : decode cX5_repeated 4 = .ok (.aload_n 0, 1) := by decide +kernel
theorem dX5_repeated_5 : decode cX5_repeated 5 = .ok (.getfield 32, 3) := by decide +kernel
theorem dX5_repeated_8 : decode cX5_repeated 8 = .ok (.ireturn, 1) := by decide +kernel
set_option maxRecDepth 20000 in
theorem ggX5_repeatedFrom_X5_prove : GoodIn wsX5_repeatedFrom wsX5_prove := goodIn_r _ [6, 7, 8, 9, 1, 10, 11, 12, 5, 13, 14, 15, 16, 17, 18, 19, 20, 21, 22, 23, 24, 25, 26, 27, 28, 29, 30, 31, 32, 33, 34, 35, 36, 37, 38, 39, 40, 41, 42, 43, 44, 45, 46, 47, 48, 49, 50, 51, 52, 53, 54, 55, 56, 57, 58, 59, 60, 61, 62, 63, 64, 65, 66, 67, 68, 69, 70, 71, 72, 73, 74, 75, 76, 77, 78, 79, 80, 81, 82, 83, 84, 85, 86, 87, 88, 89, 90, 91, 92, 93, 94, 95, 96, 97, 98, 99, 100, 101, 102, 103, 104, 105, 106, 107, 108, 109, 110, 111, 112, 113, 114, 115, 116, 117, 118, 119, 120, 121, 122, 123, 124, 125, 126, 127, 128, 129, 130, 131, 132, 133] (by decide +kernel) (by decide +kernel)
set_option maxRecDepth 20000 in
theorem gX5_repeatedFrom_X5_prove : GoodIn wsX5_repeatedFrom (wsV RX5 103 RX5 yX5_prove wsX5_prove) := goodIn_app (goodIn_of _ (by decide +kernel)) ggX5_repeatedFrom_X5_prove
theorem dX5_repeatedFrom_0 : decode cX5_repeatedFrom 0 = .ok (.aload_n 0, 1) := by decide +kernel
theorem dX5_repeatedFrom_1 : decode cX5_repeatedFrom 1 = .ok (.invokevirtual 103, 3) := by decide +kernel
theorem dX5_repeatedFrom_4 : decode cX5_repeatedFrom 4 = .ok (.aload_n 0, 1) := by decide +kernel
theorem dX5_repeatedFrom_5 : decode cX5_repeatedFrom 5 = .ok (.getfield 35, 3) := by decide +kernel
theorem dX5_repeatedFrom_8 : decode cX5_repeatedFrom 8 = .ok (.ireturn, 1) := by decide +kernel
set_option maxRecDepth 20000 in
theorem ggX5_prove_X5_firstRepeat : GoodIn wsX5_prove wsX5_firstRepeat := goodIn_r _ [9, 3, 10, 11, 12, 13, 14, 15, 16, 17, 18, 19, 20, 21, 22, 23, 24, 25, 26, 27, 8, 28, 29, 30, 31, 32, 33, 34, 35, 36, 37, 38, 39, 40, 41, 42, 43, 44, 45, 46, 47, 48, 49, 50, 51, 52, 53, 54, 55, 56, 57, 58, 59, 60, 61, 62, 63, 64, 65, 66, 67, 68, 69, 70, 71, 72, 73, 74, 75, 76, 77, 78, 79, 80, 81, 82, 83, 104, 105, 106, 107, 108, 109, 110, 111, 112, 113, 114, 115, 116, 117, 118, 119, 120, 121, 122, 123, 124, 125, 126, 127, 128, 129] (by decide +kernel) (by decide +kernel)
set_option maxRecDepth 20000 in
theorem gX5_prove_X5_firstRepeat : GoodIn wsX5_prove (wsV RX5 106 RX5 yX5_firstRepeat wsX5_firstRepeat) := goodIn_app (goodIn_of _ (by decide +kernel)) ggX5_prove_X5_firstRepeat
set_option maxRecDepth 20000 in
theorem ggX5_prove_X5_rowNumbered : GoodIn wsX5_prove wsX5_rowNumbered := goodIn_r _ [87, 11, 12, 88, 89, 90, 91, 8, 92, 93, 30, 31, 32, 25, 26, 27, 28, 29, 33, 34, 35, 36, 37, 38, 39, 94, 95, 96, 97, 98, 99, 100, 101, 43, 102, 45, 78, 103, 82, 23, 83, 104, 105, 106, 107, 108, 109, 110, 111, 112, 113, 114, 115, 120, 121, 122, 123, 124, 125, 126, 127, 128, 129] (by decide +kernel) (by decide +kernel)
set_option maxRecDepth 20000 in
theorem gX5_prove_X5_rowNumbered : GoodIn wsX5_prove (wsV RX5 109 RX5 yX5_rowNumbered wsX5_rowNumbered) := goodIn_app (goodIn_of _ (by decide +kernel)) ggX5_prove_X5_rowNumbered
set_option maxRecDepth 20000 in
theorem ggX5_prove_X8_note : GoodIn wsX5_prove wsX8_note := goodIn_r _ [49, 18, 50, 20, 19, 51, 52, 53, 54, 55, 56, 23, 57, 58, 59, 60, 61, 62, 63, 64, 65, 66, 67, 30, 31, 32, 68, 69, 116, 117, 118, 119] (by decide +kernel) (by decide +kernel)
set_option maxRecDepth 20000 in
theorem gX5_prove_X8_note : GoodIn wsX5_prove (wsV RX5 112 RX8 yX8_note wsX8_note) := goodIn_app (goodIn_of _ (by decide +kernel)) ggX5_prove_X8_note
theorem dX5_prove_0 : decode cX5_prove 0 = .ok (.aload_n 0, 1) := by decide +kernel
theorem dX5_prove_1 : decode cX5_prove 1 = .ok (.getfield 28, 3) := by decide +kernel
theorem dX5_prove_4 : decode cX5_prove 4 = .ok (.ifCond .eq 4, 3) := by decide +kernel
theorem dX5_prove_7 : decode cX5_prove 7 = .ok (.return_, 1) := by decide +kernel
theorem dX5_prove_8 : decode cX5_prove 8 = .ok (.aload_n 0, 1) := by decide +kernel
theorem dX5_prove_9 : decode cX5_prove 9 = .ok (.aload_n 0, 1) := by decide +kernel
theorem dX5_prove_10 : decode cX5_prove 10 = .ok (.iconst 1, 1) := by decide +kernel
theorem dX5_prove_11 : decode cX5_prove 11 = .ok (.invokevirtual 106, 3) := by decide +kernel
theorem dX5_prove_14 : decode cX5_prove 14 = .ok (.putfield 32, 3) := by decide +kernel
theorem dX5_prove_17 : decode cX5_prove 17 = .ok (.aload_n 0, 1) := by decide +kernel
theorem dX5_prove_18 : decode cX5_prove 18 = .ok (.aload_n 0, 1) := by decide +kernel
theorem dX5_prove_19 : decode cX5_prove 19 = .ok (.getfield 32, 3) := by decide +kernel
theorem dX5_prove_22 : decode cX5_prove 22 = .ok (.iconst (-1), 1) := by decide +kernel
theorem dX5_prove_23 : decode cX5_prove 23 = .ok (.if_icmp .ne 7, 3) := by decide +kernel
theorem dX5_prove_26 : decode cX5_prove 26 = .ok (.iconst (-1), 1) := by decide +kernel
theorem dX5_prove_27 : decode cX5_prove 27 = .ok (.goto 22, 3) := by decide +kernel
theorem dX5_prove_30 : decode cX5_prove 30 = .ok (.aload_n 0, 1) := by decide +kernel
theorem dX5_prove_31 : decode cX5_prove 31 = .ok (.getfield 42, 3) := by decide +kernel
theorem dX5_prove_34 : decode cX5_prove 34 = .ok (.aload_n 0, 1) := by decide +kernel
theorem dX5_prove_35 : decode cX5_prove 35 = .ok (.aload_n 0, 1) := by decide +kernel
theorem dX5_prove_36 : decode cX5_prove 36 = .ok (.getfield 32, 3) := by decide +kernel
theorem dX5_prove_39 : decode cX5_prove 39 = .ok (.invokevirtual 109, 3) := by decide +kernel
theorem dX5_prove_42 : decode cX5_prove 42 = .ok (.aload_n 0, 1) := by decide +kernel
theorem dX5_prove_43 : decode cX5_prove 43 = .ok (.getfield 32, 3) := by decide +kernel
theorem dX5_prove_46 : decode cX5_prove 46 = .ok (.invokevirtual 112, 3) := by decide +kernel
theorem dX5_prove_49 : decode cX5_prove 49 = .ok (.putfield 35, 3) := by decide +kernel
theorem dX5_prove_52 : decode cX5_prove 52 = .ok (.aload_n 0, 1) := by decide +kernel
theorem dX5_prove_53 : decode cX5_prove 53 = .ok (.iconst 1, 1) := by decide +kernel
theorem dX5_prove_54 : decode cX5_prove 54 = .ok (.putfield 28, 3) := by decide +kernel
theorem dX5_prove_57 : decode cX5_prove 57 = .ok (.return_, 1) := by decide +kernel
set_option maxRecDepth 20000 in
theorem ggX5_firstRepeat_X8_begin : GoodIn wsX5_firstRepeat wsX8_begin := goodIn_r _ [9, 10, 11, 12, 89, 90, 91, 92] (by decide +kernel) (by decide +kernel)
set_option maxRecDepth 20000 in
theorem gX5_firstRepeat_X8_begin : GoodIn wsX5_firstRepeat (wsV RX5 117 RX8 yX8_begin wsX8_begin) := goodIn_app (goodIn_of _ (by decide +kernel)) ggX5_firstRepeat_X8_begin
set_option maxRecDepth 20000 in
theorem ggX5_firstRepeat_X6_rounds : GoodIn wsX5_firstRepeat wsX6_rounds := goodIn_r _ [16] (by decide +kernel) (by decide +kernel)
set_option maxRecDepth 20000 in
theorem gX5_firstRepeat_X6_rounds : GoodIn wsX5_firstRepeat (va_wsS RX5 49 yX6_rounds wsX6_rounds) := goodIn_app (goodIn_of _ (by decide +kernel)) ggX5_firstRepeat_X6_rounds
set_option maxRecDepth 20000 in
theorem ggX5_firstRepeat_X5_letterOf : GoodIn wsX5_firstRepeat wsX5_letterOf := goodIn_r _ [21, 22, 23, 24, 25, 77, 78, 79, 80, 81, 82, 83, 84, 85, 86, 87, 88] (by decide +kernel) (by decide +kernel)
set_option maxRecDepth 20000 in
theorem gX5_firstRepeat_X5_letterOf : GoodIn wsX5_firstRepeat (wsV RX5 91 RX5 yX5_letterOf wsX5_letterOf) := goodIn_app (goodIn_of _ (by decide +kernel)) ggX5_firstRepeat_X5_letterOf
set_option maxRecDepth 20000 in
theorem ggX5_firstRepeat_X0_at : GoodIn wsX5_firstRepeat wsX0_at := goodIn_r _ [30, 31, 32, 93, 94] (by decide +kernel) (by decide +kernel)
set_option maxRecDepth 20000 in
theorem gX5_firstRepeat_X0_at : GoodIn wsX5_firstRepeat (wsV RX5 62 RX0 yX0_at wsX0_at) := goodIn_app (goodIn_of _ (by decide +kernel)) ggX5_firstRepeat_X0_at
set_option maxRecDepth 20000 in
theorem ggX5_firstRepeat_X2_size : GoodIn wsX5_firstRepeat wsX2_size := goodIn_r _ [37, 38, 95, 96, 97, 98, 99, 100, 101, 102] (by decide +kernel) (by decide +kernel)
set_option maxRecDepth 20000 in
theorem gX5_firstRepeat_X2_size : GoodIn wsX5_firstRepeat (wsV RX5 68 RX2 yX2_size wsX2_size) := goodIn_app (goodIn_of _ (by decide +kernel)) ggX5_firstRepeat_X2_size
set_option maxRecDepth 20000 in
theorem ggX5_firstRepeat_X8_note : GoodIn wsX5_firstRepeat wsX8_note := goodIn_r _ [42, 10, 43, 12, 11, 44, 45, 46, 47, 48, 49, 15, 50, 51, 52, 53, 54, 55, 56, 57, 58, 59, 60, 23, 24, 25, 61, 62, 89, 90, 91, 92] (by decide +kernel) (by decide +kernel)
set_option maxRecDepth 20000 in
theorem gX5_firstRepeat_X8_note : GoodIn wsX5_firstRepeat (wsV RX5 112 RX8 yX8_note wsX8_note) := goodIn_app (goodIn_of _ (by decide +kernel)) ggX5_firstRepeat_X8_note
set_option maxRecDepth 20000 in
theorem ggX5_firstRepeat_X5_callOf : GoodIn wsX5_firstRepeat wsX5_callOf := goodIn_r _ [66, 22, 23, 24, 25, 77, 78, 79, 80, 81, 82, 83, 84, 85, 86, 87, 88] (by decide +kernel) (by decide +kernel)
set_option maxRecDepth 20000 in
theorem gX5_firstRepeat_X5_callOf : GoodIn wsX5_firstRepeat (wsV RX5 84 RX5 yX5_callOf wsX5_callOf) := goodIn_app (goodIn_of _ (by decide +kernel)) ggX5_firstRepeat_X5_callOf
set_option maxRecDepth 20000 in
theorem ggX5_firstRepeat_X2_changeCalled : GoodIn wsX5_firstRepeat wsX2_changeCalled := goodIn_r _ [70, 38, 71, 72, 73, 23, 24, 25, 95, 96, 97, 98, 99, 100, 101, 102] (by decide +kernel) (by decide +kernel)
set_option maxRecDepth 20000 in
theorem gX5_firstRepeat_X2_changeCalled : GoodIn wsX5_firstRepeat (wsV RX5 121 RX2 yX2_changeCalled wsX2_changeCalled) := goodIn_app (goodIn_of _ (by decide +kernel)) ggX5_firstRepeat_X2_changeCalled
set_option maxRecDepth 20000 in
theorem ggX5_firstRepeat_X6_changed : GoodIn wsX5_firstRepeat wsX6_changed := goodIn_r _ [76] (by decide +kernel) (by decide +kernel)
set_option maxRecDepth 20000 in
theorem gX5_firstRepeat_X6_changed : GoodIn wsX5_firstRepeat (va_wsS RX5 124 yX6_changed wsX6_changed) := goodIn_app (goodIn_of _ (by decide +kernel)) ggX5_firstRepeat_X6_changed
theorem dX5_firstRepeat_0 : decode cX5_firstRepeat 0 = .ok (.aload_n 0, 1) := by decide +kernel
theorem dX5_firstRepeat_1 : decode cX5_firstRepeat 1 = .ok (.getfield 42, 3) := by decide +kernel
theorem dX5_firstRepeat_4 : decode cX5_firstRepeat 4 = .ok (.aload_n 0, 1) := by decide +kernel
theorem dX5_firstRepeat_5 : decode cX5_firstRepeat 5 = .ok (.getfield 46, 3) := by decide +kernel
theorem dX5_firstRepeat_8 : decode cX5_firstRepeat 8 = .ok (.invokevirtual 117, 3) := by decide +kernel
theorem dX5_firstRepeat_11 : decode cX5_firstRepeat 11 = .ok (.aload_n 0, 1) := by decide +kernel
theorem dX5_firstRepeat_12 : decode cX5_firstRepeat 12 = .ok (.getfield 46, 3) := by decide +kernel
theorem dX5_firstRepeat_15 : decode cX5_firstRepeat 15 = .ok (.invokestatic 49, 3) := by decide +kernel
theorem dX5_firstRepeat_18 : decode cX5_firstRepeat 18 = .ok (.istore_n 2, 1) := by decide +kernel
theorem dX5_firstRepeat_19 : decode cX5_firstRepeat 19 = .ok (.iconst 0, 1) := by decide +kernel
theorem dX5_firstRepeat_20 : decode cX5_firstRepeat 20 = .ok (.istore_n 3, 1) := by decide +kernel
theorem dX5_firstRepeat_21 : decode cX5_firstRepeat 21 = .ok (.iconst 0, 1) := by decide +kernel
theorem dX5_firstRepeat_22 : decode cX5_firstRepeat 22 = .ok (.istore 4, 2) := by decide +kernel
theorem dX5_firstRepeat_24 : decode cX5_firstRepeat 24 = .ok (.iload 4, 2) := by decide +kernel
theorem dX5_firstRepeat_26 : decode cX5_firstRepeat 26 = .ok (.iload_n 1, 1) := by decide +kernel
theorem dX5_firstRepeat_27 : decode cX5_firstRepeat 27 = .ok (.if_icmp .ge 97, 3) := by decide +kernel
theorem dX5_firstRepeat_30 : decode cX5_firstRepeat 30 = .ok (.iconst 0, 1) := by decide +kernel
theorem dX5_firstRepeat_31 : decode cX5_firstRepeat 31 = .ok (.istore 5, 2) := by decide +kernel
theorem dX5_firstRepeat_33 : decode cX5_firstRepeat 33 = .ok (.iload 5, 2) := by decide +kernel
theorem dX5_firstRepeat_35 : decode cX5_firstRepeat 35 = .ok (.aload_n 0, 1) := by decide +kernel
theorem dX5_firstRepeat_36 : decode cX5_firstRepeat 36 = .ok (.getfield 21, 3) := by decide +kernel
theorem dX5_firstRepeat_39 : decode cX5_firstRepeat 39 = .ok (.if_icmp .ge 79, 3) := by decide +kernel
theorem dX5_firstRepeat_42 : decode cX5_firstRepeat 42 = .ok (.aload_n 0, 1) := by decide +kernel
theorem dX5_firstRepeat_43 : decode cX5_firstRepeat 43 = .ok (.getfield 38, 3) := by decide +kernel
theorem dX5_firstRepeat_46 : decode cX5_firstRepeat 46 = .ok (.aload_n 0, 1) := by decide +kernel
theorem dX5_firstRepeat_47 : decode cX5_firstRepeat 47 = .ok (.iload 5, 2) := by decide +kernel
theorem dX5_firstRepeat_49 : decode cX5_firstRepeat 49 = .ok (.invokevirtual 91, 3) := by decide +kernel
theorem dX5_firstRepeat_52 : decode cX5_firstRepeat 52 = .ok (.invokevirtual 62, 3) := by decide +kernel
theorem dX5_firstRepeat_55 : decode cX5_firstRepeat 55 = .ok (.astore 6, 2) := by decide +kernel
theorem dX5_firstRepeat_57 : decode cX5_firstRepeat 57 = .ok (.iconst 0, 1) := by decide +kernel
theorem dX5_firstRepeat_58 : decode cX5_firstRepeat 58 = .ok (.istore 7, 2) := by decide +kernel
theorem dX5_firstRepeat_60 : decode cX5_firstRepeat 60 = .ok (.iload 7, 2) := by decide +kernel
theorem dX5_firstRepeat_62 : decode cX5_firstRepeat 62 = .ok (.aload 6, 2) := by decide +kernel
theorem dX5_firstRepeat_64 : decode cX5_firstRepeat 64 = .ok (.invokevirtual 68, 3) := by decide +kernel
theorem dX5_firstRepeat_67 : decode cX5_firstRepeat 67 = .ok (.if_icmp .ge 45, 3) := by decide +kernel
theorem dX5_firstRepeat_70 : decode cX5_firstRepeat 70 = .ok (.aload_n 0, 1) := by decide +kernel
theorem dX5_firstRepeat_71 : decode cX5_firstRepeat 71 = .ok (.getfield 42, 3) := by decide +kernel
theorem dX5_firstRepeat_74 : decode cX5_firstRepeat 74 = .ok (.iload_n 2, 1) := by decide +kernel
theorem dX5_firstRepeat_75 : decode cX5_firstRepeat 75 = .ok (.iload_n 3, 1) := by decide +kernel
theorem dX5_firstRepeat_76 : decode cX5_firstRepeat 76 = .ok (.invokevirtual 112, 3) := by decide +kernel
theorem dX5_firstRepeat_79 : decode cX5_firstRepeat 79 = .ok (.iconst (-1), 1) := by decide +kernel
theorem dX5_firstRepeat_80 : decode cX5_firstRepeat 80 = .ok (.if_icmp .eq 5, 3) := by decide +kernel
theorem dX5_firstRepeat_83 : decode cX5_firstRepeat 83 = .ok (.iload_n 3, 1) := by decide +kernel
theorem dX5_firstRepeat_84 : decode cX5_firstRepeat 84 = .ok (.ireturn, 1) := by decide +kernel
theorem dX5_firstRepeat_85 : decode cX5_firstRepeat 85 = .ok (.iinc 3 1, 3) := by decide +kernel
theorem dX5_firstRepeat_88 : decode cX5_firstRepeat 88 = .ok (.iload_n 2, 1) := by decide +kernel
theorem dX5_firstRepeat_89 : decode cX5_firstRepeat 89 = .ok (.aload 6, 2) := by decide +kernel
theorem dX5_firstRepeat_91 : decode cX5_firstRepeat 91 = .ok (.iload 7, 2) := by decide +kernel
theorem dX5_firstRepeat_93 : decode cX5_firstRepeat 93 = .ok (.aload_n 0, 1) := by decide +kernel
theorem dX5_firstRepeat_94 : decode cX5_firstRepeat 94 = .ok (.iload 5, 2) := by decide +kernel
theorem dX5_firstRepeat_96 : decode cX5_firstRepeat 96 = .ok (.invokevirtual 84, 3) := by decide +kernel
theorem dX5_firstRepeat_99 : decode cX5_firstRepeat 99 = .ok (.invokevirtual 121, 3) := by decide +kernel
theorem dX5_firstRepeat_102 : decode cX5_firstRepeat 102 = .ok (.invokestatic 124, 3) := by decide +kernel
theorem dX5_firstRepeat_105 : decode cX5_firstRepeat 105 = .ok (.istore_n 2, 1) := by decide +kernel
theorem dX5_firstRepeat_106 : decode cX5_firstRepeat 106 = .ok (.iinc 7 1, 3) := by decide +kernel
theorem dX5_firstRepeat_109 : decode cX5_firstRepeat 109 = .ok (.goto (-49), 3) := by decide +kernel
theorem dX5_firstRepeat_112 : decode cX5_firstRepeat 112 = .ok (.iinc 5 1, 3) := by decide +kernel
theorem dX5_firstRepeat_115 : decode cX5_firstRepeat 115 = .ok (.goto (-82), 3) := by decide +kernel
theorem dX5_firstRepeat_118 : decode cX5_firstRepeat 118 = .ok (.iinc 4 1, 3) := by decide +kernel
theorem dX5_firstRepeat_121 : decode cX5_firstRepeat 121 = .ok (.goto (-97), 3) := by decide +kernel
theorem dX5_firstRepeat_124 : decode cX5_firstRepeat 124 = .ok (.iconst (-1), 1) := by decide +kernel
theorem dX5_firstRepeat_125 : decode cX5_firstRepeat 125 = .ok (.ireturn, 1) := by decide +kernel
set_option maxRecDepth 20000 in
theorem ggX5_fitting_X5_letterOf : GoodIn wsX5_fitting wsX5_letterOf := goodIn_r _ [7, 8, 9, 10, 11, 48, 49, 50, 51, 52, 53, 54, 55, 56, 57, 58, 59] (by decide +kernel) (by decide +kernel)
set_option maxRecDepth 20000 in
theorem gX5_fitting_X5_letterOf : GoodIn wsX5_fitting (wsV RX5 91 RX5 yX5_letterOf wsX5_letterOf) := goodIn_app (goodIn_of _ (by decide +kernel)) ggX5_fitting_X5_letterOf
set_option maxRecDepth 20000 in
theorem ggX5_fitting_X0_at : GoodIn wsX5_fitting wsX0_at := goodIn_r _ [16, 17, 18, 60, 61] (by decide +kernel) (by decide +kernel)
set_option maxRecDepth 20000 in
theorem gX5_fitting_X0_at : GoodIn wsX5_fitting (wsV RX5 62 RX0 yX0_at wsX0_at) := goodIn_app (goodIn_of _ (by decide +kernel)) ggX5_fitting_X0_at
set_option maxRecDepth 20000 in
theorem ggX5_fitting_X5_headOf : GoodIn wsX5_fitting wsX5_headOf := goodIn_r _ [22, 23, 9, 10, 11, 48, 49, 50, 51, 52, 53, 54, 55, 56, 57, 58, 59] (by decide +kernel) (by decide +kernel)
set_option maxRecDepth 20000 in
theorem gX5_fitting_X5_headOf : GoodIn wsX5_fitting (wsV RX5 97 RX5 yX5_headOf wsX5_headOf) := goodIn_app (goodIn_of _ (by decide +kernel)) ggX5_fitting_X5_headOf
set_option maxRecDepth 20000 in
theorem ggX5_fitting_X2_size : GoodIn wsX5_fitting wsX2_size := goodIn_r _ [28, 29, 62, 63, 64, 65, 66, 67, 68, 69] (by decide +kernel) (by decide +kernel)
set_option maxRecDepth 20000 in
theorem gX5_fitting_X2_size : GoodIn wsX5_fitting (wsV RX5 68 RX2 yX2_size wsX2_size) := goodIn_app (goodIn_of _ (by decide +kernel)) ggX5_fitting_X2_size
set_option maxRecDepth 20000 in
theorem ggX5_fitting_X4_fits : GoodIn wsX5_fitting wsX4_fits := goodIn_r _ [34, 35, 36, 70, 71] (by decide +kernel) (by decide +kernel)
set_option maxRecDepth 20000 in
theorem gX5_fitting_X4_fits : GoodIn wsX5_fitting (wsV RX5 127 RX4 yX4_fits wsX4_fits) := goodIn_app (goodIn_of _ (by decide +kernel)) ggX5_fitting_X4_fits
set_option maxRecDepth 20000 in
theorem ggX5_fitting_X11_oneIf : GoodIn wsX5_fitting wsX11_oneIf := goodIn_r _ [38] (by decide +kernel) (by decide +kernel)
set_option maxRecDepth 20000 in
theorem gX5_fitting_X11_oneIf_n87 : GoodIn wsX5_fitting (wsX11_oneIf) := ggX5_fitting_X11_oneIf
set_option maxRecDepth 20000 in
theorem ggX5_fitting_X2_changeAt : GoodIn wsX5_fitting wsX2_changeAt := goodIn_r _ [42, 43, 9, 10, 11, 62, 63, 64, 65, 66, 67, 68, 69] (by decide +kernel) (by decide +kernel)
set_option maxRecDepth 20000 in
theorem gX5_fitting_X2_changeAt : GoodIn wsX5_fitting (wsV RX5 133 RX2 yX2_changeAt wsX2_changeAt) := goodIn_app (goodIn_of _ (by decide +kernel)) ggX5_fitting_X2_changeAt
set_option maxRecDepth 20000 in
theorem ggX5_fitting_X6_changed : GoodIn wsX5_fitting wsX6_changed := goodIn_r _ [47] (by decide +kernel) (by decide +kernel)
set_option maxRecDepth 20000 in
theorem gX5_fitting_X6_changed : GoodIn wsX5_fitting (va_wsS RX5 124 yX6_changed wsX6_changed) := goodIn_app (goodIn_of _ (by decide +kernel)) ggX5_fitting_X6_changed
theorem dX5_fitting_0 : decode cX5_fitting 0 = .ok (.iconst 0, 1) := by decide +kernel
theorem dX5_fitting_1 : decode cX5_fitting 1 = .ok (.istore_n 2, 1) := by decide +kernel
theorem dX5_fitting_2 : decode cX5_fitting 2 = .ok (.iconst 0, 1) := by decide +kernel
theorem dX5_fitting_3 : decode cX5_fitting 3 = .ok (.istore_n 3, 1) := by decide +kernel
theorem dX5_fitting_4 : decode cX5_fitting 4 = .ok (.iload_n 3, 1) := by decide +kernel
theorem dX5_fitting_5 : decode cX5_fitting 5 = .ok (.aload_n 0, 1) := by decide +kernel
theorem dX5_fitting_6 : decode cX5_fitting 6 = .ok (.getfield 21, 3) := by decide +kernel
theorem dX5_fitting_9 : decode cX5_fitting 9 = .ok (.if_icmp .ge 75, 3) := by decide +kernel
theorem dX5_fitting_12 : decode cX5_fitting 12 = .ok (.aload_n 0, 1) := by decide +kernel
theorem dX5_fitting_13 : decode cX5_fitting 13 = .ok (.getfield 38, 3) := by decide +kernel
theorem dX5_fitting_16 : decode cX5_fitting 16 = .ok (.aload_n 0, 1) := by decide +kernel
theorem dX5_fitting_17 : decode cX5_fitting 17 = .ok (.iload_n 3, 1) := by decide +kernel
theorem dX5_fitting_18 : decode cX5_fitting 18 = .ok (.invokevirtual 91, 3) := by decide +kernel
theorem dX5_fitting_21 : decode cX5_fitting 21 = .ok (.invokevirtual 62, 3) := by decide +kernel
theorem dX5_fitting_24 : decode cX5_fitting 24 = .ok (.astore 4, 2) := by decide +kernel
theorem dX5_fitting_26 : decode cX5_fitting 26 = .ok (.aload_n 0, 1) := by decide +kernel
theorem dX5_fitting_27 : decode cX5_fitting 27 = .ok (.iload_n 3, 1) := by decide +kernel
theorem dX5_fitting_28 : decode cX5_fitting 28 = .ok (.invokevirtual 97, 3) := by decide +kernel
theorem dX5_fitting_31 : decode cX5_fitting 31 = .ok (.istore 5, 2) := by decide +kernel
theorem dX5_fitting_33 : decode cX5_fitting 33 = .ok (.iconst 0, 1) := by decide +kernel
theorem dX5_fitting_34 : decode cX5_fitting 34 = .ok (.istore 6, 2) := by decide +kernel
theorem dX5_fitting_36 : decode cX5_fitting 36 = .ok (.iload 6, 2) := by decide +kernel
theorem dX5_fitting_38 : decode cX5_fitting 38 = .ok (.aload 4, 2) := by decide +kernel
theorem dX5_fitting_40 : decode cX5_fitting 40 = .ok (.invokevirtual 68, 3) := by decide +kernel
theorem dX5_fitting_43 : decode cX5_fitting 43 = .ok (.if_icmp .ge 35, 3) := by decide +kernel
theorem dX5_fitting_46 : decode cX5_fitting 46 = .ok (.iload_n 2, 1) := by decide +kernel
theorem dX5_fitting_47 : decode cX5_fitting 47 = .ok (.aload_n 1, 1) := by decide +kernel
theorem dX5_fitting_48 : decode cX5_fitting 48 = .ok (.iload 5, 2) := by decide +kernel
theorem dX5_fitting_50 : decode cX5_fitting 50 = .ok (.invokevirtual 127, 3) := by decide +kernel
theorem dX5_fitting_53 : decode cX5_fitting 53 = .ok (.invokestatic 87, 3) := by decide +kernel
theorem dX5_fitting_56 : decode cX5_fitting 56 = .ok (.iadd, 1) := by decide +kernel
theorem dX5_fitting_57 : decode cX5_fitting 57 = .ok (.istore_n 2, 1) := by decide +kernel
theorem dX5_fitting_58 : decode cX5_fitting 58 = .ok (.iload 5, 2) := by decide +kernel
theorem dX5_fitting_60 : decode cX5_fitting 60 = .ok (.aload 4, 2) := by decide +kernel
theorem dX5_fitting_62 : decode cX5_fitting 62 = .ok (.iload 6, 2) := by decide +kernel
theorem dX5_fitting_64 : decode cX5_fitting 64 = .ok (.invokevirtual 133, 3) := by decide +kernel
theorem dX5_fitting_67 : decode cX5_fitting 67 = .ok (.invokestatic 124, 3) := by decide +kernel
theorem dX5_fitting_70 : decode cX5_fitting 70 = .ok (.istore 5, 2) := by decide +kernel
theorem dX5_fitting_72 : decode cX5_fitting 72 = .ok (.iinc 6 1, 3) := by decide +kernel
theorem dX5_fitting_75 : decode cX5_fitting 75 = .ok (.goto (-39), 3) := by decide +kernel
theorem dX5_fitting_78 : decode cX5_fitting 78 = .ok (.iinc 3 1, 3) := by decide +kernel
theorem dX5_fitting_81 : decode cX5_fitting 81 = .ok (.goto (-77), 3) := by decide +kernel
theorem dX5_fitting_84 : decode cX5_fitting 84 = .ok (.iload_n 2, 1) := by decide +kernel
theorem dX5_fitting_85 : decode cX5_fitting 85 = .ok (.ireturn, 1) := by decide +kernel
theorem dX6_rounds_0 : decode cX6_rounds 0 = .ok (.iconst 0, 1) := by decide +kernel
theorem dX6_rounds_1 : decode cX6_rounds 1 = .ok (.istore_n 1, 1) := by decide +kernel
theorem dX6_rounds_2 : decode cX6_rounds 2 = .ok (.iconst 0, 1) := by decide +kernel
theorem dX6_rounds_3 : decode cX6_rounds 3 = .ok (.istore_n 2, 1) := by decide +kernel
theorem dX6_rounds_4 : decode cX6_rounds 4 = .ok (.iload_n 2, 1) := by decide +kernel
theorem dX6_rounds_5 : decode cX6_rounds 5 = .ok (.iload_n 0, 1) := by decide +kernel
theorem dX6_rounds_6 : decode cX6_rounds 6 = .ok (.if_icmp .ge 17, 3) := by decide +kernel
theorem dX6_rounds_9 : decode cX6_rounds 9 = .ok (.iload_n 1, 1) := by decide +kernel
theorem dX6_rounds_10 : decode cX6_rounds 10 = .ok (.iload_n 2, 1) := by decide +kernel
theorem dX6_rounds_11 : decode cX6_rounds 11 = .ok (.iconst 3, 1) := by decide +kernel
theorem dX6_rounds_12 : decode cX6_rounds 12 = .ok (.iload_n 2, 1) := by decide +kernel
theorem dX6_rounds_13 : decode cX6_rounds 13 = .ok (.imul, 1) := by decide +kernel
theorem dX6_rounds_14 : decode cX6_rounds 14 = .ok (.ishl, 1) := by decide +kernel
theorem dX6_rounds_15 : decode cX6_rounds 15 = .ok (.ior, 1) := by decide +kernel
theorem dX6_rounds_16 : decode cX6_rounds 16 = .ok (.istore_n 1, 1) := by decide +kernel
theorem dX6_rounds_17 : decode cX6_rounds 17 = .ok (.iinc 2 1, 3) := by decide +kernel
theorem dX6_rounds_20 : decode cX6_rounds 20 = .ok (.goto (-16), 3) := by decide +kernel
theorem dX6_rounds_23 : decode cX6_rounds 23 = .ok (.iload_n 1, 1) := by decide +kernel
theorem dX6_rounds_24 : decode cX6_rounds 24 = .ok (.ireturn, 1) := by decide +kernel
theorem dX6_bellAt_0 : decode cX6_bellAt 0 = .ok (.iload_n 0, 1) := by decide +kernel
theorem dX6_bellAt_1 : decode cX6_bellAt 1 = .ok (.iconst 3, 1) := by decide +kernel
theorem dX6_bellAt_2 : decode cX6_bellAt 2 = .ok (.iload_n 1, 1) := by decide +kernel
theorem dX6_bellAt_3 : decode cX6_bellAt 3 = .ok (.imul, 1) := by decide +kernel
theorem dX6_bellAt_4 : decode cX6_bellAt 4 = .ok (.iushr, 1) := by decide +kernel
theorem dX6_bellAt_5 : decode cX6_bellAt 5 = .ok (.bipush 7, 2) := by decide +kernel
theorem dX6_bellAt_7 : decode cX6_bellAt 7 = .ok (.iand, 1) := by decide +kernel
theorem dX6_bellAt_8 : decode cX6_bellAt 8 = .ok (.ireturn, 1) := by decide +kernel
set_option maxRecDepth 20000 in
theorem ggX6_placeOf_X6_bellAt : GoodIn wsX6_placeOf wsX6_bellAt := goodIn_r _ [4] (by decide +kernel) (by decide +kernel)
set_option maxRecDepth 20000 in
theorem gX6_placeOf_X6_bellAt : GoodIn wsX6_placeOf (va_wsS RX6 9 yX6_bellAt wsX6_bellAt) := goodIn_app (goodIn_of _ (by decide +kernel)) ggX6_placeOf_X6_bellAt
theorem dX6_placeOf_0 : decode cX6_placeOf 0 = .ok (.iconst 0, 1) := by decide +kernel
theorem dX6_placeOf_1 : decode cX6_placeOf 1 = .ok (.istore_n 3, 1) := by decide +kernel
theorem dX6_placeOf_2 : decode cX6_placeOf 2 = .ok (.iload_n 3, 1) := by decide +kernel
theorem dX6_placeOf_3 : decode cX6_placeOf 3 = .ok (.iload_n 2, 1) := by decide +kernel
theorem dX6_placeOf_4 : decode cX6_placeOf 4 = .ok (.if_icmp .ge 20, 3) := by decide +kernel
theorem dX6_placeOf_7 : decode cX6_placeOf 7 = .ok (.iload_n 0, 1) := by decide +kernel
theorem dX6_placeOf_8 : decode cX6_placeOf 8 = .ok (.iload_n 3, 1) := by decide +kernel
theorem dX6_placeOf_9 : decode cX6_placeOf 9 = .ok (.invokestatic 9, 3) := by decide +kernel
theorem dX6_placeOf_12 : decode cX6_placeOf 12 = .ok (.iload_n 1, 1) := by decide +kernel
theorem dX6_placeOf_13 : decode cX6_placeOf 13 = .ok (.if_icmp .ne 5, 3) := by decide +kernel
theorem dX6_placeOf_16 : decode cX6_placeOf 16 = .ok (.iload_n 3, 1) := by decide +kernel
theorem dX6_placeOf_17 : decode cX6_placeOf 17 = .ok (.ireturn, 1) := by decide +kernel
theorem dX6_placeOf_18 : decode cX6_placeOf 18 = .ok (.iinc 3 1, 3) := by decide +kernel
theorem dX6_placeOf_21 : decode cX6_placeOf 21 = .ok (.goto (-19), 3) := by decide +kernel
theorem dX6_placeOf_24 : decode cX6_placeOf 24 = .ok (.iconst (-1), 1) := by decide +kernel
theorem dX6_placeOf_25 : decode cX6_placeOf 25 = .ok (.ireturn, 1) := by decide +kernel
theorem dX6_changed_0 : decode cX6_changed 0 = .ok (.iload_n 0, 1) := by decide +kernel
theorem dX6_changed_1 : decode cX6_changed 1 = .ok (.iload_n 1, 1) := by decide +kernel
theorem dX6_changed_2 : decode cX6_changed 2 = .ok (.iload_n 1, 1) := by decide +kernel
theorem dX6_changed_3 : decode cX6_changed 3 = .ok (.iconst 3, 1) := by decide +kernel
theorem dX6_changed_4 : decode cX6_changed 4 = .ok (.ishl, 1) := by decide +kernel
theorem dX6_changed_5 : decode cX6_changed 5 = .ok (.ior, 1) := by decide +kernel
theorem dX6_changed_6 : decode cX6_changed 6 = .ok (.iconst (-1), 1) := by decide +kernel
theorem dX6_changed_7 : decode cX6_changed 7 = .ok (.ixor, 1) := by decide +kernel
theorem dX6_changed_8 : decode cX6_changed 8 = .ok (.iand, 1) := by decide +kernel
theorem dX6_changed_9 : decode cX6_changed 9 = .ok (.istore_n 2, 1) := by decide +kernel
theorem dX6_changed_10 : decode cX6_changed 10 = .ok (.iload_n 2, 1) := by decide +kernel
theorem dX6_changed_11 : decode cX6_changed 11 = .ok (.iload_n 0, 1) := by decide +kernel
theorem dX6_changed_12 : decode cX6_changed 12 = .ok (.iload_n 1, 1) := by decide +kernel
theorem dX6_changed_13 : decode cX6_changed 13 = .ok (.iand, 1) := by decide +kernel
theorem dX6_changed_14 : decode cX6_changed 14 = .ok (.iconst 3, 1) := by decide +kernel
theorem dX6_changed_15 : decode cX6_changed 15 = .ok (.ishl, 1) := by decide +kernel
theorem dX6_changed_16 : decode cX6_changed 16 = .ok (.ior, 1) := by decide +kernel
theorem dX6_changed_17 : decode cX6_changed 17 = .ok (.iload_n 0, 1) := by decide +kernel
theorem dX6_changed_18 : decode cX6_changed 18 = .ok (.iconst 3, 1) := by decide +kernel
theorem dX6_changed_19 : decode cX6_changed 19 = .ok (.iushr, 1) := by decide +kernel
theorem dX6_changed_20 : decode cX6_changed 20 = .ok (.iload_n 1, 1) := by decide +kernel
theorem dX6_changed_21 : decode cX6_changed 21 = .ok (.iand, 1) := by decide +kernel
theorem dX6_changed_22 : decode cX6_changed 22 = .ok (.ior, 1) := by decide +kernel
theorem dX6_changed_23 : decode cX6_changed 23 = .ok (.ireturn, 1) := by decide +kernel
theorem dX6_changeMaking_0 : decode cX6_changeMaking 0 = .ok (.iconst 0, 1) := by decide +kernel
theorem dX6_changeMaking_1 : decode cX6_changeMaking 1 = .ok (.istore_n 2, 1) := by decide +kernel
theorem dX6_changeMaking_2 : decode cX6_changeMaking 2 = .ok (.iconst 0, 1) := by decide +kernel
theorem dX6_changeMaking_3 : decode cX6_changeMaking 3 = .ok (.istore_n 3, 1) := by decide +kernel
theorem dX6_changeMaking_4 : decode cX6_changeMaking 4 = .ok (.iload_n 3, 1) := by decide +kernel
theorem dX6_changeMaking_5 : decode cX6_changeMaking 5 = .ok (.iconst 1, 1) := by decide +kernel
theorem dX6_changeMaking_6 : decode cX6_changeMaking 6 = .ok (.iadd, 1) := by decide +kernel
theorem dX6_changeMaking_7 : decode cX6_changeMaking 7 = .ok (.iload_n 1, 1) := by decide +kernel
theorem dX6_changeMaking_8 : decode cX6_changeMaking 8 = .ok (.if_icmp .ge 32, 3) := by decide +kernel
theorem dX6_changeMaking_11 : decode cX6_changeMaking 11 = .ok (.iload_n 0, 1) := by decide +kernel
theorem dX6_changeMaking_12 : decode cX6_changeMaking 12 = .ok (.iload_n 3, 1) := by decide +kernel
theorem dX6_changeMaking_13 : decode cX6_changeMaking 13 = .ok (.iushr, 1) := by decide +kernel
theorem dX6_changeMaking_14 : decode cX6_changeMaking 14 = .ok (.iconst 1, 1) := by decide +kernel
theorem dX6_changeMaking_15 : decode cX6_changeMaking 15 = .ok (.iand, 1) := by decide +kernel
theorem dX6_changeMaking_16 : decode cX6_changeMaking 16 = .ok (.ifCond .eq 9, 3) := by decide +kernel
theorem dX6_changeMaking_19 : decode cX6_changeMaking 19 = .ok (.iinc 3 1, 3) := by decide +kernel
theorem dX6_changeMaking_22 : decode cX6_changeMaking 22 = .ok (.goto (-18), 3) := by decide +kernel
theorem dX6_changeMaking_25 : decode cX6_changeMaking 25 = .ok (.iload_n 2, 1) := by decide +kernel
theorem dX6_changeMaking_26 : decode cX6_changeMaking 26 = .ok (.bipush 7, 2) := by decide +kernel
theorem dX6_changeMaking_28 : decode cX6_changeMaking 28 = .ok (.iconst 3, 1) := by decide +kernel
theorem dX6_changeMaking_29 : decode cX6_changeMaking 29 = .ok (.iload_n 3, 1) := by decide +kernel
theorem dX6_changeMaking_30 : decode cX6_changeMaking 30 = .ok (.imul, 1) := by decide +kernel
theorem dX6_changeMaking_31 : decode cX6_changeMaking 31 = .ok (.ishl, 1) := by decide +kernel
theorem dX6_changeMaking_32 : decode cX6_changeMaking 32 = .ok (.ior, 1) := by decide +kernel
theorem dX6_changeMaking_33 : decode cX6_changeMaking 33 = .ok (.istore_n 2, 1) := by decide +kernel
theorem dX6_changeMaking_34 : decode cX6_changeMaking 34 = .ok (.iinc 3 2, 3) := by decide +kernel
theorem dX6_changeMaking_37 : decode cX6_changeMaking 37 = .ok (.goto (-33), 3) := by decide +kernel
theorem dX6_changeMaking_40 : decode cX6_changeMaking 40 = .ok (.iload_n 2, 1) := by decide +kernel
theorem dX6_changeMaking_41 : decode cX6_changeMaking 41 = .ok (.ireturn, 1) := by decide +kernel
set_option maxRecDepth 20000 in
theorem ggX6_fromHead_X6_bellAt : GoodIn wsX6_fromHead wsX6_bellAt := goodIn_r _ [4] (by decide +kernel) (by decide +kernel)
set_option maxRecDepth 20000 in
theorem gX6_fromHead_X6_bellAt : GoodIn wsX6_fromHead (va_wsS RX6 9 yX6_bellAt wsX6_bellAt) := goodIn_app (goodIn_of _ (by decide +kernel)) ggX6_fromHead_X6_bellAt
theorem dX6_fromHead_0 : decode cX6_fromHead 0 = .ok (.iconst 0, 1) := by decide +kernel
theorem dX6_fromHead_1 : decode cX6_fromHead 1 = .ok (.istore_n 3, 1) := by decide +kernel
theorem dX6_fromHead_2 : decode cX6_fromHead 2 = .ok (.iconst 0, 1) := by decide +kernel
theorem dX6_fromHead_3 : decode cX6_fromHead 3 = .ok (.istore 4, 2) := by decide +kernel
theorem dX6_fromHead_5 : decode cX6_fromHead 5 = .ok (.iload 4, 2) := by decide +kernel
theorem dX6_fromHead_7 : decode cX6_fromHead 7 = .ok (.iload_n 2, 1) := by decide +kernel
theorem dX6_fromHead_8 : decode cX6_fromHead 8 = .ok (.if_icmp .ge 27, 3) := by decide +kernel
theorem dX6_fromHead_11 : decode cX6_fromHead 11 = .ok (.iload_n 3, 1) := by decide +kernel
theorem dX6_fromHead_12 : decode cX6_fromHead 12 = .ok (.iload_n 0, 1) := by decide +kernel
theorem dX6_fromHead_13 : decode cX6_fromHead 13 = .ok (.iload_n 1, 1) := by decide +kernel
theorem dX6_fromHead_14 : decode cX6_fromHead 14 = .ok (.iload 4, 2) := by decide +kernel
theorem dX6_fromHead_16 : decode cX6_fromHead 16 = .ok (.invokestatic 9, 3) := by decide +kernel
theorem dX6_fromHead_19 : decode cX6_fromHead 19 = .ok (.invokestatic 9, 3) := by decide +kernel
theorem dX6_fromHead_22 : decode cX6_fromHead 22 = .ok (.iconst 3, 1) := by decide +kernel
theorem dX6_fromHead_23 : decode cX6_fromHead 23 = .ok (.iload 4, 2) := by decide +kernel
theorem dX6_fromHead_25 : decode cX6_fromHead 25 = .ok (.imul, 1) := by decide +kernel
theorem dX6_fromHead_26 : decode cX6_fromHead 26 = .ok (.ishl, 1) := by decide +kernel
theorem dX6_fromHead_27 : decode cX6_fromHead 27 = .ok (.ior, 1) := by decide +kernel
theorem dX6_fromHead_28 : decode cX6_fromHead 28 = .ok (.istore_n 3, 1) := by decide +kernel
theorem dX6_fromHead_29 : decode cX6_fromHead 29 = .ok (.iinc 4 1, 3) := by decide +kernel
theorem dX6_fromHead_32 : decode cX6_fromHead 32 = .ok (.goto (-27), 3) := by decide +kernel
theorem dX6_fromHead_35 : decode cX6_fromHead 35 = .ok (.iload_n 3, 1) := by decide +kernel
theorem dX6_fromHead_36 : decode cX6_fromHead 36 = .ok (.ireturn, 1) := by decide +kernel
set_option maxRecDepth 20000 in
theorem ggX6_headBringing_X6_bellAt : GoodIn wsX6_headBringing wsX6_bellAt := goodIn_r _ [4] (by decide +kernel) (by decide +kernel)
