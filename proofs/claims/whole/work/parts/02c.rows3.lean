theorem dX11_load_21 : decode cX11_load 21 = .ok (.iconst 0, 1) := by decide +kernel
theorem dX11_load_22 : decode cX11_load 22 = .ok (.iconst 2, 1) := by decide +kernel
theorem dX11_load_23 : decode cX11_load 23 = .ok (.invokestatic 83, 3) := by decide +kernel
theorem dX11_load_26 : decode cX11_load 26 = .ok (.ifCond .ne 11, 3) := by decide +kernel
theorem dX11_load_29 : decode cX11_load 29 = .ok (.aload_n 0, 1) := by decide +kernel
theorem dX11_load_30 : decode cX11_load 30 = .ok (.sipush (-20000), 3) := by decide +kernel
theorem dX11_load_33 : decode cX11_load 33 = .ok (.invokevirtual 87, 3) := by decide +kernel
theorem dX11_load_36 : decode cX11_load 36 = .ok (.ireturn, 1) := by decide +kernel
theorem dX11_load_37 : decode cX11_load 37 = .ok (.aload_n 0, 1) := by decide +kernel
theorem dX11_load_38 : decode cX11_load 38 = .ok (.getfield 50, 3) := by decide +kernel
theorem dX11_load_41 : decode cX11_load 41 = .ok (.aload_n 0, 1) := by decide +kernel
theorem dX11_load_42 : decode cX11_load 42 = .ok (.getfield 10, 3) := by decide +kernel
theorem dX11_load_45 : decode cX11_load 45 = .ok (.iload_n 1, 1) := by decide +kernel
theorem dX11_load_46 : decode cX11_load 46 = .ok (.iload_n 2, 1) := by decide +kernel
theorem dX11_load_47 : decode cX11_load 47 = .ok (.iconst 1, 1) := by decide +kernel
theorem dX11_load_48 : decode cX11_load 48 = .ok (.if_icmp .ne 16, 3) := by decide +kernel
theorem dX11_load_51 : decode cX11_load 51 = .ok (.aload_n 0, 1) := by decide +kernel
theorem dX11_load_52 : decode cX11_load 52 = .ok (.getfield 10, 3) := by decide +kernel
theorem dX11_load_55 : decode cX11_load 55 = .ok (.getfield 141, 3) := by decide +kernel
theorem dX11_load_58 : decode cX11_load 58 = .ok (.getfield 193, 3) := by decide +kernel
theorem dX11_load_61 : decode cX11_load 61 = .ok (.goto 10, 3) := by decide +kernel
theorem dX11_load_64 : decode cX11_load 64 = .ok (.aload_n 0, 1) := by decide +kernel
theorem dX11_load_65 : decode cX11_load 65 = .ok (.getfield 10, 3) := by decide +kernel
theorem dX11_load_68 : decode cX11_load 68 = .ok (.invokevirtual 162, 3) := by decide +kernel
theorem dX11_load_71 : decode cX11_load 71 = .ok (.invokevirtual 196, 3) := by decide +kernel
theorem dX11_load_74 : decode cX11_load 74 = .ok (.aload_n 0, 1) := by decide +kernel
theorem dX11_load_75 : decode cX11_load 75 = .ok (.getfield 50, 3) := by decide +kernel
theorem dX11_load_78 : decode cX11_load 78 = .ok (.getfield 200, 3) := by decide +kernel
theorem dX11_load_81 : decode cX11_load 81 = .ok (.ifCond .ne 7, 3) := by decide +kernel
theorem dX11_load_84 : decode cX11_load 84 = .ok (.sipush (-10000), 3) := by decide +kernel
theorem dX11_load_87 : decode cX11_load 87 = .ok (.ireturn, 1) := by decide +kernel
theorem dX11_load_88 : decode cX11_load 88 = .ok (.iload_n 3, 1) := by decide +kernel
theorem dX11_load_89 : decode cX11_load 89 = .ok (.ifCond .ne 13, 3) := by decide +kernel
theorem dX11_load_92 : decode cX11_load 92 = .ok (.aload_n 0, 1) := by decide +kernel
theorem dX11_load_93 : decode cX11_load 93 = .ok (.getfield 50, 3) := by decide +kernel
theorem dX11_load_96 : decode cX11_load 96 = .ok (.getfield 204, 3) := by decide +kernel
theorem dX11_load_99 : decode cX11_load 99 = .ok (.goto 25, 3) := by decide +kernel
theorem dX11_load_102 : decode cX11_load 102 = .ok (.iload_n 3, 1) := by decide +kernel
theorem dX11_load_103 : decode cX11_load 103 = .ok (.iconst 1, 1) := by decide +kernel
theorem dX11_load_104 : decode cX11_load 104 = .ok (.if_icmp .ne 13, 3) := by decide +kernel
theorem dX11_load_107 : decode cX11_load 107 = .ok (.aload_n 0, 1) := by decide +kernel
theorem dX11_load_108 : decode cX11_load 108 = .ok (.getfield 50, 3) := by decide +kernel
theorem dX11_load_111 : decode cX11_load 111 = .ok (.getfield 207, 3) := by decide +kernel
theorem dX11_load_114 : decode cX11_load 114 = .ok (.goto 10, 3) := by decide +kernel
theorem dX11_load_117 : decode cX11_load 117 = .ok (.aload_n 0, 1) := by decide +kernel
theorem dX11_load_118 : decode cX11_load 118 = .ok (.getfield 50, 3) := by decide +kernel
theorem dX11_load_121 : decode cX11_load 121 = .ok (.getfield 210, 3) := by decide +kernel
theorem dX11_load_124 : decode cX11_load 124 = .ok (.ireturn, 1) := by decide +kernel
set_option maxRecDepth 20000 in
theorem ggX11_gain_X11_between : GoodIn wsX11_gain wsX11_between := goodIn_r _ [10] (by decide +kernel) (by decide +kernel)
set_option maxRecDepth 20000 in
theorem gX11_gain_X11_between : GoodIn wsX11_gain (va_wsS RX11 83 yX11_between wsX11_between) := goodIn_app (goodIn_of _ (by decide +kernel)) ggX11_gain_X11_between
set_option maxRecDepth 20000 in
theorem ggX11_gain_X11_refuseBad : GoodIn wsX11_gain wsX11_refuseBad := goodIn_r _ [14, 15, 93, 94, 95, 96, 97, 98, 99, 100, 101, 102, 103, 104, 105, 106, 107] (by decide +kernel) (by decide +kernel)
set_option maxRecDepth 20000 in
theorem gX11_gain_X11_refuseBad : GoodIn wsX11_gain (wsV RX11 87 RX11 yX11_refuseBad wsX11_refuseBad) := goodIn_app (goodIn_of _ (by decide +kernel)) ggX11_gain_X11_refuseBad
set_option maxRecDepth 20000 in
theorem ggX11_gain_X3_allStones : GoodIn wsX11_gain wsX3_allStones := goodIn_r _ [20, 21, 22, 23, 19, 24, 25, 26, 27, 28, 29, 30, 31, 108, 109, 110, 111, 112, 113, 114, 115, 116, 131, 132] (by decide +kernel) (by decide +kernel)
set_option maxRecDepth 20000 in
theorem gX11_gain_X3_allStones : GoodIn wsX11_gain (wsV RX11 162 RX3 yX3_allStones wsX3_allStones) := goodIn_app (goodIn_of _ (by decide +kernel)) ggX11_gain_X3_allStones
set_option maxRecDepth 20000 in
theorem ggX11_gain_X5_weigh : GoodIn wsX11_gain wsX5_weigh := goodIn_r _ [36, 37, 38, 39, 40, 41, 35, 42, 43, 44, 45, 46, 47, 48, 49, 29, 50, 31, 51, 52, 53, 54, 55, 56, 57, 58, 59, 60, 61, 62, 63, 22, 23, 19, 24, 25, 26, 27, 28, 30, 64, 9, 65, 66, 67, 68, 69, 70, 71, 72, 73, 74, 75, 76, 77, 78, 79, 80, 81, 82, 83, 84, 85, 86, 87, 88, 89, 90, 91, 92, 121, 122, 123, 124, 125, 126, 127, 128, 129, 130, 131, 132, 108, 109, 110, 111, 112, 113, 114, 115, 116, 117, 118, 119, 120] (by decide +kernel) (by decide +kernel)
set_option maxRecDepth 20000 in
theorem gX11_gain_X5_weigh : GoodIn wsX11_gain (wsV RX11 196 RX5 yX5_weigh wsX5_weigh) := goodIn_app (goodIn_of _ (by decide +kernel)) ggX11_gain_X5_weigh
theorem dX11_gain_0 : decode cX11_gain 0 = .ok (.iload_n 1, 1) := by decide +kernel
theorem dX11_gain_1 : decode cX11_gain 1 = .ok (.iconst 1, 1) := by decide +kernel
theorem dX11_gain_2 : decode cX11_gain 2 = .ok (.sipush 999, 3) := by decide +kernel
theorem dX11_gain_5 : decode cX11_gain 5 = .ok (.invokestatic 83, 3) := by decide +kernel
theorem dX11_gain_8 : decode cX11_gain 8 = .ok (.ifCond .eq 12, 3) := by decide +kernel
theorem dX11_gain_11 : decode cX11_gain 11 = .ok (.iload_n 2, 1) := by decide +kernel
theorem dX11_gain_12 : decode cX11_gain 12 = .ok (.iconst 0, 1) := by decide +kernel
theorem dX11_gain_13 : decode cX11_gain 13 = .ok (.iconst 1, 1) := by decide +kernel
theorem dX11_gain_14 : decode cX11_gain 14 = .ok (.invokestatic 83, 3) := by decide +kernel
theorem dX11_gain_17 : decode cX11_gain 17 = .ok (.ifCond .ne 11, 3) := by decide +kernel
theorem dX11_gain_20 : decode cX11_gain 20 = .ok (.aload_n 0, 1) := by decide +kernel
theorem dX11_gain_21 : decode cX11_gain 21 = .ok (.sipush (-20000), 3) := by decide +kernel
theorem dX11_gain_24 : decode cX11_gain 24 = .ok (.invokevirtual 87, 3) := by decide +kernel
theorem dX11_gain_27 : decode cX11_gain 27 = .ok (.ireturn, 1) := by decide +kernel
theorem dX11_gain_28 : decode cX11_gain 28 = .ok (.aload_n 0, 1) := by decide +kernel
theorem dX11_gain_29 : decode cX11_gain 29 = .ok (.getfield 50, 3) := by decide +kernel
theorem dX11_gain_32 : decode cX11_gain 32 = .ok (.aload_n 0, 1) := by decide +kernel
theorem dX11_gain_33 : decode cX11_gain 33 = .ok (.getfield 10, 3) := by decide +kernel
theorem dX11_gain_36 : decode cX11_gain 36 = .ok (.iload_n 1, 1) := by decide +kernel
theorem dX11_gain_37 : decode cX11_gain 37 = .ok (.iload_n 2, 1) := by decide +kernel
theorem dX11_gain_38 : decode cX11_gain 38 = .ok (.iconst 1, 1) := by decide +kernel
theorem dX11_gain_39 : decode cX11_gain 39 = .ok (.if_icmp .ne 16, 3) := by decide +kernel
theorem dX11_gain_42 : decode cX11_gain 42 = .ok (.aload_n 0, 1) := by decide +kernel
theorem dX11_gain_43 : decode cX11_gain 43 = .ok (.getfield 10, 3) := by decide +kernel
theorem dX11_gain_46 : decode cX11_gain 46 = .ok (.getfield 141, 3) := by decide +kernel
theorem dX11_gain_49 : decode cX11_gain 49 = .ok (.getfield 193, 3) := by decide +kernel
theorem dX11_gain_52 : decode cX11_gain 52 = .ok (.goto 10, 3) := by decide +kernel
theorem dX11_gain_55 : decode cX11_gain 55 = .ok (.aload_n 0, 1) := by decide +kernel
theorem dX11_gain_56 : decode cX11_gain 56 = .ok (.getfield 10, 3) := by decide +kernel
theorem dX11_gain_59 : decode cX11_gain 59 = .ok (.invokevirtual 162, 3) := by decide +kernel
theorem dX11_gain_62 : decode cX11_gain 62 = .ok (.invokevirtual 196, 3) := by decide +kernel
theorem dX11_gain_65 : decode cX11_gain 65 = .ok (.aload_n 0, 1) := by decide +kernel
theorem dX11_gain_66 : decode cX11_gain 66 = .ok (.getfield 50, 3) := by decide +kernel
theorem dX11_gain_69 : decode cX11_gain 69 = .ok (.getfield 200, 3) := by decide +kernel
theorem dX11_gain_72 : decode cX11_gain 72 = .ok (.ifCond .eq 13, 3) := by decide +kernel
theorem dX11_gain_75 : decode cX11_gain 75 = .ok (.aload_n 0, 1) := by decide +kernel
theorem dX11_gain_76 : decode cX11_gain 76 = .ok (.getfield 50, 3) := by decide +kernel
theorem dX11_gain_79 : decode cX11_gain 79 = .ok (.getfield 213, 3) := by decide +kernel
theorem dX11_gain_82 : decode cX11_gain 82 = .ok (.goto 6, 3) := by decide +kernel
theorem dX11_gain_85 : decode cX11_gain 85 = .ok (.sipush (-10000), 3) := by decide +kernel
theorem dX11_gain_88 : decode cX11_gain 88 = .ok (.ireturn, 1) := by decide +kernel
set_option maxRecDepth 20000 in
theorem ggX11_round_X3_hasStones : GoodIn wsX11_round wsX3_hasStones := goodIn_r _ [8, 9, 10, 11, 7, 12, 13, 14, 15, 16, 17, 18, 19, 20, 21, 22, 23, 24, 25, 26, 129, 130, 131, 132, 133, 134, 135, 136, 137, 138, 139] (by decide +kernel) (by decide +kernel)
set_option maxRecDepth 20000 in
theorem gX11_round_X3_hasStones : GoodIn wsX11_round (wsV RX11 216 RX3 yX3_hasStones wsX3_hasStones) := goodIn_app (goodIn_of _ (by decide +kernel)) ggX11_round_X3_hasStones
set_option maxRecDepth 20000 in
theorem ggX11_round_X11_refuseBad : GoodIn wsX11_round wsX11_refuseBad := goodIn_r _ [30, 31, 114, 115, 116, 117, 118, 119, 120, 121, 122, 123, 124, 125, 126, 127, 128] (by decide +kernel) (by decide +kernel)
set_option maxRecDepth 20000 in
theorem gX11_round_X11_refuseBad : GoodIn wsX11_round (wsV RX11 87 RX11 yX11_refuseBad wsX11_refuseBad) := goodIn_app (goodIn_of _ (by decide +kernel)) ggX11_round_X11_refuseBad
set_option maxRecDepth 20000 in
theorem ggX11_round_J6_bitCount_0f7a4 : GoodIn wsX11_round wsJ6_bitCount_0f7a4 := goodIn_r _ [35, 36, 37, 38] (by decide +kernel) (by decide +kernel)
set_option maxRecDepth 20000 in
theorem gX11_round_J6_bitCount_0f7a4 : GoodIn wsX11_round (va_wsS RX11 219 yJ6_bitCount_0f7a4 wsJ6_bitCount_0f7a4) := goodIn_app (goodIn_of _ (by decide +kernel)) ggX11_round_J6_bitCount_0f7a4
set_option maxRecDepth 20000 in
theorem ggX11_round_X10_plan : GoodIn wsX11_round wsX10_plan := goodIn_r _ [43, 44, 45, 46, 47, 48, 42, 49, 50, 51, 52, 53, 21, 54, 23, 55, 56, 57, 58, 59, 60, 61, 62, 63, 64, 65, 66, 67, 68, 69, 70, 71, 72, 25, 73, 74, 75, 76, 77, 78, 79, 80, 81, 82, 83, 84, 85, 86, 87, 88, 89, 90, 91, 92, 93, 94, 95, 96, 97, 98, 99, 100, 101, 102, 103, 104, 105, 140, 141, 142, 138, 139] (by decide +kernel) (by decide +kernel)
set_option maxRecDepth 20000 in
theorem gX11_round_X10_plan : GoodIn wsX11_round (wsV RX11 227 RX10 yX10_plan wsX10_plan) := goodIn_app (goodIn_of _ (by decide +kernel)) ggX11_round_X10_plan
set_option maxRecDepth 20000 in
theorem ggX11_round_X10_hours : GoodIn wsX11_round wsX10_hours := goodIn_r _ [109, 44, 98, 99, 100, 42, 101, 45, 55, 56, 57, 21, 58, 23, 59, 140, 141, 142, 138, 139] (by decide +kernel) (by decide +kernel)
set_option maxRecDepth 20000 in
theorem gX11_round_X10_hours : GoodIn wsX11_round (wsV RX11 231 RX10 yX10_hours wsX10_hours) := goodIn_app (goodIn_of _ (by decide +kernel)) ggX11_round_X10_hours
set_option maxRecDepth 20000 in
theorem ggX11_round_X10_visited : GoodIn wsX11_round wsX10_visited := goodIn_r _ [113, 44, 89, 90, 91, 42, 92, 93, 72, 25, 73, 94, 95, 96, 97, 78, 79, 80, 81, 50, 82, 83, 84, 85, 86, 87, 88, 55, 56, 57, 21, 58, 23, 59, 98, 99, 100, 101, 45, 140, 141, 142, 138, 139] (by decide +kernel) (by decide +kernel)
set_option maxRecDepth 20000 in
theorem gX11_round_X10_visited : GoodIn wsX11_round (wsV RX11 234 RX10 yX10_visited wsX10_visited) := goodIn_app (goodIn_of _ (by decide +kernel)) ggX11_round_X10_visited
theorem dX11_round_0 : decode cX11_round 0 = .ok (.iload_n 1, 1) := by decide +kernel
theorem dX11_round_1 : decode cX11_round 1 = .ok (.ifCond .eq 19, 3) := by decide +kernel
theorem dX11_round_4 : decode cX11_round 4 = .ok (.aload_n 0, 1) := by decide +kernel
theorem dX11_round_5 : decode cX11_round 5 = .ok (.getfield 10, 3) := by decide +kernel
theorem dX11_round_8 : decode cX11_round 8 = .ok (.iload_n 1, 1) := by decide +kernel
theorem dX11_round_9 : decode cX11_round 9 = .ok (.invokevirtual 216, 3) := by decide +kernel
theorem dX11_round_12 : decode cX11_round 12 = .ok (.ifCond .eq 8, 3) := by decide +kernel
theorem dX11_round_15 : decode cX11_round 15 = .ok (.iload_n 2, 1) := by decide +kernel
theorem dX11_round_16 : decode cX11_round 16 = .ok (.iconst (-1), 1) := by decide +kernel
theorem dX11_round_17 : decode cX11_round 17 = .ok (.if_icmp .ge 10, 3) := by decide +kernel
theorem dX11_round_20 : decode cX11_round 20 = .ok (.aload_n 0, 1) := by decide +kernel
theorem dX11_round_21 : decode cX11_round 21 = .ok (.bipush (-10), 2) := by decide +kernel
theorem dX11_round_23 : decode cX11_round 23 = .ok (.invokevirtual 87, 3) := by decide +kernel
theorem dX11_round_26 : decode cX11_round 26 = .ok (.ireturn, 1) := by decide +kernel
theorem dX11_round_27 : decode cX11_round 27 = .ok (.iload_n 2, 1) := by decide +kernel
theorem dX11_round_28 : decode cX11_round 28 = .ok (.iload_n 1, 1) := by decide +kernel
theorem dX11_round_29 : decode cX11_round 29 = .ok (.invokestatic 219, 3) := by decide +kernel
theorem dX11_round_32 : decode cX11_round 32 = .ok (.if_icmp .lt 6, 3) := by decide +kernel
theorem dX11_round_35 : decode cX11_round 35 = .ok (.bipush (-5), 2) := by decide +kernel
theorem dX11_round_37 : decode cX11_round 37 = .ok (.ireturn, 1) := by decide +kernel
theorem dX11_round_38 : decode cX11_round 38 = .ok (.aload_n 0, 1) := by decide +kernel
theorem dX11_round_39 : decode cX11_round 39 = .ok (.getfield 57, 3) := by decide +kernel
theorem dX11_round_42 : decode cX11_round 42 = .ok (.aload_n 0, 1) := by decide +kernel
theorem dX11_round_43 : decode cX11_round 43 = .ok (.getfield 10, 3) := by decide +kernel
theorem dX11_round_46 : decode cX11_round 46 = .ok (.getfield 224, 3) := by decide +kernel
theorem dX11_round_49 : decode cX11_round 49 = .ok (.iload_n 1, 1) := by decide +kernel
theorem dX11_round_50 : decode cX11_round 50 = .ok (.invokevirtual 227, 3) := by decide +kernel
theorem dX11_round_53 : decode cX11_round 53 = .ok (.iload_n 2, 1) := by decide +kernel
theorem dX11_round_54 : decode cX11_round 54 = .ok (.iconst (-1), 1) := by decide +kernel
theorem dX11_round_55 : decode cX11_round 55 = .ok (.if_icmp .ne 13, 3) := by decide +kernel
theorem dX11_round_58 : decode cX11_round 58 = .ok (.aload_n 0, 1) := by decide +kernel
theorem dX11_round_59 : decode cX11_round 59 = .ok (.getfield 57, 3) := by decide +kernel
theorem dX11_round_62 : decode cX11_round 62 = .ok (.invokevirtual 231, 3) := by decide +kernel
theorem dX11_round_65 : decode cX11_round 65 = .ok (.goto 11, 3) := by decide +kernel
theorem dX11_round_68 : decode cX11_round 68 = .ok (.aload_n 0, 1) := by decide +kernel
theorem dX11_round_69 : decode cX11_round 69 = .ok (.getfield 57, 3) := by decide +kernel
theorem dX11_round_72 : decode cX11_round 72 = .ok (.iload_n 2, 1) := by decide +kernel
theorem dX11_round_73 : decode cX11_round 73 = .ok (.invokevirtual 234, 3) := by decide +kernel
theorem dX11_round_76 : decode cX11_round 76 = .ok (.ireturn, 1) := by decide +kernel
set_option maxRecDepth 20000 in
theorem ggX11_gifts_X3_hasStones : GoodIn wsX11_gifts wsX3_hasStones := goodIn_r _ [10, 11, 12, 13, 9, 14, 15, 16, 17, 18, 19, 20, 21, 22, 23, 24, 25, 26, 27, 28, 73, 74, 75, 76, 77, 78, 79, 80, 81, 86, 87] (by decide +kernel) (by decide +kernel)
set_option maxRecDepth 20000 in
theorem gX11_gifts_X3_hasStones : GoodIn wsX11_gifts (wsV RX11 216 RX3 yX3_hasStones wsX3_hasStones) := goodIn_app (goodIn_of _ (by decide +kernel)) ggX11_gifts_X3_hasStones
set_option maxRecDepth 20000 in
theorem ggX11_gifts_X11_refuseBad : GoodIn wsX11_gifts wsX11_refuseBad := goodIn_r _ [32, 33, 58, 59, 60, 61, 62, 63, 64, 65, 66, 67, 68, 69, 70, 71, 72] (by decide +kernel) (by decide +kernel)
set_option maxRecDepth 20000 in
theorem gX11_gifts_X11_refuseBad : GoodIn wsX11_gifts (wsV RX11 87 RX11 yX11_refuseBad wsX11_refuseBad) := goodIn_app (goodIn_of _ (by decide +kernel)) ggX11_gifts_X11_refuseBad
set_option maxRecDepth 20000 in
theorem ggX11_gifts_X11_hasBit : GoodIn wsX11_gifts wsX11_hasBit := goodIn_r _ [36] (by decide +kernel) (by decide +kernel)
set_option maxRecDepth 20000 in
theorem gX11_gifts_X11_hasBit : GoodIn wsX11_gifts (va_wsS RX11 237 yX11_hasBit wsX11_hasBit) := goodIn_app (goodIn_of _ (by decide +kernel)) ggX11_gifts_X11_hasBit
set_option maxRecDepth 20000 in
theorem ggX11_gifts_X4_isLent : GoodIn wsX11_gifts wsX4_isLent := goodIn_r _ [41, 42, 35, 27, 36, 82, 83, 84, 85] (by decide +kernel) (by decide +kernel)
set_option maxRecDepth 20000 in
theorem gX11_gifts_X4_isLent : GoodIn wsX11_gifts (wsV RX11 144 RX4 yX4_isLent wsX4_isLent) := goodIn_app (goodIn_of _ (by decide +kernel)) ggX11_gifts_X4_isLent
set_option maxRecDepth 20000 in
theorem ggX11_gifts_X7_at : GoodIn wsX11_gifts wsX7_at := goodIn_r _ [46, 25, 47, 86, 87] (by decide +kernel) (by decide +kernel)
set_option maxRecDepth 20000 in
theorem gX11_gifts_X7_at : GoodIn wsX11_gifts (wsV RX11 115 RX7 yX7_at wsX7_at) := goodIn_app (goodIn_of _ (by decide +kernel)) ggX11_gifts_X7_at
set_option maxRecDepth 20000 in
theorem ggX11_gifts_X2_leastGift : GoodIn wsX11_gifts wsX2_leastGift := goodIn_r _ [51, 52, 53, 50, 54, 55, 56, 57] (by decide +kernel) (by decide +kernel)
set_option maxRecDepth 20000 in
theorem gX11_gifts_X2_leastGift : GoodIn wsX11_gifts (va_wsS RX11 244 yX2_leastGift wsX2_leastGift) := goodIn_app (goodIn_of _ (by decide +kernel)) ggX11_gifts_X2_leastGift
theorem dX11_gifts_0 : decode cX11_gifts 0 = .ok (.aload_n 0, 1) := by decide +kernel
theorem dX11_gifts_1 : decode cX11_gifts 1 = .ok (.getfield 10, 3) := by decide +kernel
theorem dX11_gifts_4 : decode cX11_gifts 4 = .ok (.iload_n 1, 1) := by decide +kernel
theorem dX11_gifts_5 : decode cX11_gifts 5 = .ok (.invokevirtual 216, 3) := by decide +kernel
theorem dX11_gifts_8 : decode cX11_gifts 8 = .ok (.ifCond .ne 10, 3) := by decide +kernel
theorem dX11_gifts_11 : decode cX11_gifts 11 = .ok (.aload_n 0, 1) := by decide +kernel
theorem dX11_gifts_12 : decode cX11_gifts 12 = .ok (.bipush (-2), 2) := by decide +kernel
theorem dX11_gifts_14 : decode cX11_gifts 14 = .ok (.invokevirtual 87, 3) := by decide +kernel
theorem dX11_gifts_17 : decode cX11_gifts 17 = .ok (.ireturn, 1) := by decide +kernel
theorem dX11_gifts_18 : decode cX11_gifts 18 = .ok (.iconst 0, 1) := by decide +kernel
theorem dX11_gifts_19 : decode cX11_gifts 19 = .ok (.istore_n 2, 1) := by decide +kernel
theorem dX11_gifts_20 : decode cX11_gifts 20 = .ok (.iconst 0, 1) := by decide +kernel
theorem dX11_gifts_21 : decode cX11_gifts 21 = .ok (.istore_n 3, 1) := by decide +kernel
theorem dX11_gifts_22 : decode cX11_gifts 22 = .ok (.iload_n 3, 1) := by decide +kernel
theorem dX11_gifts_23 : decode cX11_gifts 23 = .ok (.bipush 7, 2) := by decide +kernel
theorem dX11_gifts_25 : decode cX11_gifts 25 = .ok (.if_icmp .ge 84, 3) := by decide +kernel
theorem dX11_gifts_28 : decode cX11_gifts 28 = .ok (.iload_n 1, 1) := by decide +kernel
theorem dX11_gifts_29 : decode cX11_gifts 29 = .ok (.iload_n 3, 1) := by decide +kernel
theorem dX11_gifts_30 : decode cX11_gifts 30 = .ok (.invokestatic 237, 3) := by decide +kernel
theorem dX11_gifts_33 : decode cX11_gifts 33 = .ok (.ifCond .eq 70, 3) := by decide +kernel
theorem dX11_gifts_36 : decode cX11_gifts 36 = .ok (.aload_n 0, 1) := by decide +kernel
theorem dX11_gifts_37 : decode cX11_gifts 37 = .ok (.getfield 10, 3) := by decide +kernel
theorem dX11_gifts_40 : decode cX11_gifts 40 = .ok (.getfield 141, 3) := by decide +kernel
theorem dX11_gifts_43 : decode cX11_gifts 43 = .ok (.iload_n 3, 1) := by decide +kernel
theorem dX11_gifts_44 : decode cX11_gifts 44 = .ok (.invokevirtual 144, 3) := by decide +kernel
theorem dX11_gifts_47 : decode cX11_gifts 47 = .ok (.ifCond .ne 56, 3) := by decide +kernel
theorem dX11_gifts_50 : decode cX11_gifts 50 = .ok (.aload_n 0, 1) := by decide +kernel
theorem dX11_gifts_51 : decode cX11_gifts 51 = .ok (.getfield 10, 3) := by decide +kernel
theorem dX11_gifts_54 : decode cX11_gifts 54 = .ok (.getfield 91, 3) := by decide +kernel
theorem dX11_gifts_57 : decode cX11_gifts 57 = .ok (.iload_n 3, 1) := by decide +kernel
theorem dX11_gifts_58 : decode cX11_gifts 58 = .ok (.invokevirtual 115, 3) := by decide +kernel
theorem dX11_gifts_61 : decode cX11_gifts 61 = .ok (.aload_n 0, 1) := by decide +kernel
theorem dX11_gifts_62 : decode cX11_gifts 62 = .ok (.getfield 10, 3) := by decide +kernel
theorem dX11_gifts_65 : decode cX11_gifts 65 = .ok (.getfield 141, 3) := by decide +kernel
theorem dX11_gifts_68 : decode cX11_gifts 68 = .ok (.getfield 174, 3) := by decide +kernel
theorem dX11_gifts_71 : decode cX11_gifts 71 = .ok (.aload_n 0, 1) := by decide +kernel
theorem dX11_gifts_72 : decode cX11_gifts 72 = .ok (.getfield 10, 3) := by decide +kernel
theorem dX11_gifts_75 : decode cX11_gifts 75 = .ok (.getfield 141, 3) := by decide +kernel
theorem dX11_gifts_78 : decode cX11_gifts 78 = .ok (.getfield 241, 3) := by decide +kernel
theorem dX11_gifts_81 : decode cX11_gifts 81 = .ok (.iload_n 3, 1) := by decide +kernel
theorem dX11_gifts_82 : decode cX11_gifts 82 = .ok (.invokevirtual 115, 3) := by decide +kernel
theorem dX11_gifts_85 : decode cX11_gifts 85 = .ok (.invokestatic 244, 3) := by decide +kernel
theorem dX11_gifts_88 : decode cX11_gifts 88 = .ok (.istore 4, 2) := by decide +kernel
theorem dX11_gifts_90 : decode cX11_gifts 90 = .ok (.iload 4, 2) := by decide +kernel
theorem dX11_gifts_92 : decode cX11_gifts 92 = .ok (.iconst (-1), 1) := by decide +kernel
theorem dX11_gifts_93 : decode cX11_gifts 93 = .ok (.if_icmp .ne 5, 3) := by decide +kernel
theorem dX11_gifts_96 : decode cX11_gifts 96 = .ok (.iconst (-1), 1) := by decide +kernel
theorem dX11_gifts_97 : decode cX11_gifts 97 = .ok (.ireturn, 1) := by decide +kernel
theorem dX11_gifts_98 : decode cX11_gifts 98 = .ok (.iload_n 2, 1) := by decide +kernel
theorem dX11_gifts_99 : decode cX11_gifts 99 = .ok (.iload 4, 2) := by decide +kernel
theorem dX11_gifts_101 : decode cX11_gifts 101 = .ok (.iadd, 1) := by decide +kernel
theorem dX11_gifts_102 : decode cX11_gifts 102 = .ok (.istore_n 2, 1) := by decide +kernel
theorem dX11_gifts_103 : decode cX11_gifts 103 = .ok (.iinc 3 1, 3) := by decide +kernel
theorem dX11_gifts_106 : decode cX11_gifts 106 = .ok (.goto (-84), 3) := by decide +kernel
theorem dX11_gifts_109 : decode cX11_gifts 109 = .ok (.iload_n 2, 1) := by decide +kernel
theorem dX11_gifts_110 : decode cX11_gifts 110 = .ok (.ireturn, 1) := by decide +kernel
set_option maxRecDepth 20000 in
theorem ggX11_tips_X3_hasBalance : GoodIn wsX11_tips wsX3_hasBalance := goodIn_r _ [9, 10, 11, 12, 13, 14, 15, 16, 17, 18, 19, 90, 91, 92, 93, 94, 95, 96, 97, 98, 103, 104] (by decide +kernel) (by decide +kernel)
set_option maxRecDepth 20000 in
theorem gX11_tips_X3_hasBalance : GoodIn wsX11_tips (wsV RX11 247 RX3 yX3_hasBalance wsX3_hasBalance) := goodIn_app (goodIn_of _ (by decide +kernel)) ggX11_tips_X3_hasBalance
set_option maxRecDepth 20000 in
theorem ggX11_tips_X3_canLay : GoodIn wsX11_tips wsX3_canLay := goodIn_r _ [23, 24, 25, 26, 8, 27, 28, 29, 30, 31, 32, 33, 34, 35, 36, 11, 12, 13, 14, 15, 16, 17, 18, 19, 90, 91, 92, 93, 94, 95, 96, 97, 98, 103, 104] (by decide +kernel) (by decide +kernel)
set_option maxRecDepth 20000 in
theorem gX11_tips_X3_canLay : GoodIn wsX11_tips (wsV RX11 250 RX3 yX3_canLay wsX3_canLay) := goodIn_app (goodIn_of _ (by decide +kernel)) ggX11_tips_X3_canLay
set_option maxRecDepth 20000 in
theorem ggX11_tips_X11_refuseBad : GoodIn wsX11_tips wsX11_refuseBad := goodIn_r _ [40, 41, 75, 76, 77, 78, 79, 80, 81, 82, 83, 84, 85, 86, 87, 88, 89] (by decide +kernel) (by decide +kernel)
set_option maxRecDepth 20000 in
theorem gX11_tips_X11_refuseBad : GoodIn wsX11_tips (wsV RX11 87 RX11 yX11_refuseBad wsX11_refuseBad) := goodIn_app (goodIn_of _ (by decide +kernel)) ggX11_tips_X11_refuseBad
set_option maxRecDepth 20000 in
theorem ggX11_tips_X7_at : GoodIn wsX11_tips wsX7_at := goodIn_r _ [45, 16, 46, 103, 104] (by decide +kernel) (by decide +kernel)
set_option maxRecDepth 20000 in
theorem gX11_tips_X7_at : GoodIn wsX11_tips (wsV RX11 115 RX7 yX7_at wsX7_at) := goodIn_app (goodIn_of _ (by decide +kernel)) ggX11_tips_X7_at
set_option maxRecDepth 20000 in
theorem ggX11_tips_X7_sumOf : GoodIn wsX11_tips wsX7_sumOf := goodIn_r _ [50, 16, 51, 18, 52, 53, 43, 44, 14, 45, 46, 103, 104] (by decide +kernel) (by decide +kernel)
set_option maxRecDepth 20000 in
theorem gX11_tips_X7_sumOf : GoodIn wsX11_tips (wsV RX11 165 RX7 yX7_sumOf wsX7_sumOf) := goodIn_app (goodIn_of _ (by decide +kernel)) ggX11_tips_X7_sumOf
set_option maxRecDepth 20000 in
theorem ggX11_tips_X0_tip : GoodIn wsX11_tips wsX0_tip := goodIn_r _ [57, 58, 59, 56, 60, 61, 62, 63, 64, 65, 66, 67, 68, 69, 70, 71, 72, 73, 74] (by decide +kernel) (by decide +kernel)
set_option maxRecDepth 20000 in
theorem gX11_tips_X0_tip : GoodIn wsX11_tips (va_wsS RX11 253 yX0_tip wsX0_tip) := goodIn_app (goodIn_of _ (by decide +kernel)) ggX11_tips_X0_tip
theorem dX11_tips_0 : decode cX11_tips 0 = .ok (.aload_n 0, 1) := by decide +kernel
theorem dX11_tips_1 : decode cX11_tips 1 = .ok (.getfield 10, 3) := by decide +kernel
theorem dX11_tips_4 : decode cX11_tips 4 = .ok (.iload_n 1, 1) := by decide +kernel
theorem dX11_tips_5 : decode cX11_tips 5 = .ok (.invokevirtual 247, 3) := by decide +kernel
theorem dX11_tips_8 : decode cX11_tips 8 = .ok (.ifCond .eq 15, 3) := by decide +kernel
theorem dX11_tips_11 : decode cX11_tips 11 = .ok (.aload_n 0, 1) := by decide +kernel
theorem dX11_tips_12 : decode cX11_tips 12 = .ok (.getfield 10, 3) := by decide +kernel
theorem dX11_tips_15 : decode cX11_tips 15 = .ok (.iload_n 2, 1) := by decide +kernel
theorem dX11_tips_16 : decode cX11_tips 16 = .ok (.iload_n 3, 1) := by decide +kernel
theorem dX11_tips_17 : decode cX11_tips 17 = .ok (.invokevirtual 250, 3) := by decide +kernel
theorem dX11_tips_20 : decode cX11_tips 20 = .ok (.ifCond .ne 10, 3) := by decide +kernel
theorem dX11_tips_23 : decode cX11_tips 23 = .ok (.aload_n 0, 1) := by decide +kernel
theorem dX11_tips_24 : decode cX11_tips 24 = .ok (.bipush (-2), 2) := by decide +kernel
theorem dX11_tips_26 : decode cX11_tips 26 = .ok (.invokevirtual 87, 3) := by decide +kernel
theorem dX11_tips_29 : decode cX11_tips 29 = .ok (.ireturn, 1) := by decide +kernel
theorem dX11_tips_30 : decode cX11_tips 30 = .ok (.aload_n 0, 1) := by decide +kernel
theorem dX11_tips_31 : decode cX11_tips 31 = .ok (.getfield 10, 3) := by decide +kernel
theorem dX11_tips_34 : decode cX11_tips 34 = .ok (.getfield 141, 3) := by decide +kernel
theorem dX11_tips_37 : decode cX11_tips 37 = .ok (.getfield 159, 3) := by decide +kernel
theorem dX11_tips_40 : decode cX11_tips 40 = .ok (.astore 4, 2) := by decide +kernel
theorem dX11_tips_42 : decode cX11_tips 42 = .ok (.aload_n 0, 1) := by decide +kernel
theorem dX11_tips_43 : decode cX11_tips 43 = .ok (.getfield 10, 3) := by decide +kernel
theorem dX11_tips_46 : decode cX11_tips 46 = .ok (.getfield 122, 3) := by decide +kernel
theorem dX11_tips_49 : decode cX11_tips 49 = .ok (.iload_n 1, 1) := by decide +kernel
theorem dX11_tips_50 : decode cX11_tips 50 = .ok (.invokevirtual 115, 3) := by decide +kernel
theorem dX11_tips_53 : decode cX11_tips 53 = .ok (.aload 4, 2) := by decide +kernel
theorem dX11_tips_55 : decode cX11_tips 55 = .ok (.iload_n 2, 1) := by decide +kernel
theorem dX11_tips_56 : decode cX11_tips 56 = .ok (.invokevirtual 165, 3) := by decide +kernel
theorem dX11_tips_59 : decode cX11_tips 59 = .ok (.aload 4, 2) := by decide +kernel
theorem dX11_tips_61 : decode cX11_tips 61 = .ok (.iload_n 3, 1) := by decide +kernel
theorem dX11_tips_62 : decode cX11_tips 62 = .ok (.invokevirtual 165, 3) := by decide +kernel
theorem dX11_tips_65 : decode cX11_tips 65 = .ok (.invokestatic 253, 3) := by decide +kernel
theorem dX11_tips_68 : decode cX11_tips 68 = .ok (.ireturn, 1) := by decide +kernel
set_option maxRecDepth 20000 in
theorem ggX11_reading_X3_canLay : GoodIn wsX11_reading wsX3_canLay := goodIn_r _ [7, 8, 9, 10, 6, 11, 12, 13, 14, 15, 16, 17, 18, 19, 20, 21, 22, 23, 24, 25, 26, 27, 28, 29, 70, 71, 72, 73, 74, 75, 76, 77, 78, 79, 80] (by decide +kernel) (by decide +kernel)
set_option maxRecDepth 20000 in
theorem gX11_reading_X3_canLay : GoodIn wsX11_reading (wsV RX11 250 RX3 yX3_canLay wsX3_canLay) := goodIn_app (goodIn_of _ (by decide +kernel)) ggX11_reading_X3_canLay
set_option maxRecDepth 20000 in
theorem ggX11_reading_X11_between : GoodIn wsX11_reading wsX11_between := goodIn_r _ [29] (by decide +kernel) (by decide +kernel)
set_option maxRecDepth 20000 in
theorem gX11_reading_X11_between : GoodIn wsX11_reading (va_wsS RX11 83 yX11_between wsX11_between) := goodIn_app (goodIn_of _ (by decide +kernel)) ggX11_reading_X11_between
set_option maxRecDepth 20000 in
theorem ggX11_reading_X11_refuseBad : GoodIn wsX11_reading wsX11_refuseBad := goodIn_r _ [34, 35, 55, 56, 57, 58, 59, 60, 61, 62, 63, 64, 65, 66, 67, 68, 69] (by decide +kernel) (by decide +kernel)
set_option maxRecDepth 20000 in
theorem gX11_reading_X11_refuseBad : GoodIn wsX11_reading (wsV RX11 87 RX11 yX11_refuseBad wsX11_refuseBad) := goodIn_app (goodIn_of _ (by decide +kernel)) ggX11_reading_X11_refuseBad
set_option maxRecDepth 20000 in
theorem ggX11_reading_X7_isFull : GoodIn wsX11_reading wsX7_isFull := goodIn_r _ [39, 26, 40, 79, 80] (by decide +kernel) (by decide +kernel)
set_option maxRecDepth 20000 in
theorem gX11_reading_X7_isFull : GoodIn wsX11_reading (wsV RX11 94 RX7 yX7_isFull wsX7_isFull) := goodIn_app (goodIn_of _ (by decide +kernel)) ggX11_reading_X7_isFull
set_option maxRecDepth 20000 in
theorem ggX11_reading_X11_refuseFull : GoodIn wsX11_reading wsX11_refuseFull := goodIn_r _ [44, 45, 55, 56, 57, 58, 59, 60, 61, 62, 63, 64, 65, 66, 67, 68, 69] (by decide +kernel) (by decide +kernel)
set_option maxRecDepth 20000 in
theorem gX11_reading_X11_refuseFull : GoodIn wsX11_reading (wsV RX11 98 RX11 yX11_refuseFull wsX11_refuseFull) := goodIn_app (goodIn_of _ (by decide +kernel)) ggX11_reading_X11_refuseFull
set_option maxRecDepth 20000 in
theorem ggX11_reading_X7_add : GoodIn wsX11_reading wsX7_add := goodIn_r _ [49, 26, 40, 79, 80] (by decide +kernel) (by decide +kernel)
set_option maxRecDepth 20000 in
theorem gX11_reading_X7_add : GoodIn wsX11_reading (wsV RX11 125 RX7 yX7_add wsX7_add) := goodIn_app (goodIn_of _ (by decide +kernel)) ggX11_reading_X7_add
set_option maxRecDepth 20000 in
theorem ggX11_reading_X3_readingCount : GoodIn wsX11_reading wsX3_readingCount := goodIn_r _ [53, 54, 21, 22, 23, 24, 25, 26, 70, 71, 72, 73, 74, 75, 76, 77, 78, 79, 80] (by decide +kernel) (by decide +kernel)
set_option maxRecDepth 20000 in
theorem gX11_reading_X3_readingCount : GoodIn wsX11_reading (wsV RX11 261 RX3 yX3_readingCount wsX3_readingCount) := goodIn_app (goodIn_of _ (by decide +kernel)) ggX11_reading_X3_readingCount
theorem dX11_reading_0 : decode cX11_reading 0 = .ok (.aload_n 0, 1) := by decide +kernel
theorem dX11_reading_1 : decode cX11_reading 1 = .ok (.getfield 10, 3) := by decide +kernel
theorem dX11_reading_4 : decode cX11_reading 4 = .ok (.iload_n 1, 1) := by decide +kernel
theorem dX11_reading_5 : decode cX11_reading 5 = .ok (.iload_n 2, 1) := by decide +kernel
theorem dX11_reading_6 : decode cX11_reading 6 = .ok (.invokevirtual 250, 3) := by decide +kernel
theorem dX11_reading_9 : decode cX11_reading 9 = .ok (.ifCond .eq 12, 3) := by decide +kernel
theorem dX11_reading_12 : decode cX11_reading 12 = .ok (.iload_n 3, 1) := by decide +kernel
theorem dX11_reading_13 : decode cX11_reading 13 = .ok (.iconst (-1), 1) := by decide +kernel
theorem dX11_reading_14 : decode cX11_reading 14 = .ok (.iconst 1, 1) := by decide +kernel
theorem dX11_reading_15 : decode cX11_reading 15 = .ok (.invokestatic 83, 3) := by decide +kernel
theorem dX11_reading_18 : decode cX11_reading 18 = .ok (.ifCond .ne 10, 3) := by decide +kernel
theorem dX11_reading_21 : decode cX11_reading 21 = .ok (.aload_n 0, 1) := by decide +kernel
theorem dX11_reading_22 : decode cX11_reading 22 = .ok (.bipush (-2), 2) := by decide +kernel
theorem dX11_reading_24 : decode cX11_reading 24 = .ok (.invokevirtual 87, 3) := by decide +kernel
theorem dX11_reading_27 : decode cX11_reading 27 = .ok (.ireturn, 1) := by decide +kernel
theorem dX11_reading_28 : decode cX11_reading 28 = .ok (.aload_n 0, 1) := by decide +kernel
theorem dX11_reading_29 : decode cX11_reading 29 = .ok (.getfield 10, 3) := by decide +kernel
theorem dX11_reading_32 : decode cX11_reading 32 = .ok (.getfield 258, 3) := by decide +kernel
theorem dX11_reading_35 : decode cX11_reading 35 = .ok (.invokevirtual 94, 3) := by decide +kernel
theorem dX11_reading_38 : decode cX11_reading 38 = .ok (.ifCond .eq 8, 3) := by decide +kernel
theorem dX11_reading_41 : decode cX11_reading 41 = .ok (.aload_n 0, 1) := by decide +kernel
theorem dX11_reading_42 : decode cX11_reading 42 = .ok (.invokevirtual 98, 3) := by decide +kernel
theorem dX11_reading_45 : decode cX11_reading 45 = .ok (.ireturn, 1) := by decide +kernel
theorem dX11_reading_46 : decode cX11_reading 46 = .ok (.aload_n 0, 1) := by decide +kernel
theorem dX11_reading_47 : decode cX11_reading 47 = .ok (.getfield 10, 3) := by decide +kernel
theorem dX11_reading_50 : decode cX11_reading 50 = .ok (.getfield 258, 3) := by decide +kernel
theorem dX11_reading_53 : decode cX11_reading 53 = .ok (.iload_n 1, 1) := by decide +kernel
theorem dX11_reading_54 : decode cX11_reading 54 = .ok (.invokevirtual 125, 3) := by decide +kernel
theorem dX11_reading_57 : decode cX11_reading 57 = .ok (.aload_n 0, 1) := by decide +kernel
theorem dX11_reading_58 : decode cX11_reading 58 = .ok (.getfield 10, 3) := by decide +kernel
theorem dX11_reading_61 : decode cX11_reading 61 = .ok (.getfield 258, 3) := by decide +kernel
theorem dX11_reading_64 : decode cX11_reading 64 = .ok (.iload_n 2, 1) := by decide +kernel
theorem dX11_reading_65 : decode cX11_reading 65 = .ok (.invokevirtual 125, 3) := by decide +kernel
theorem dX11_reading_68 : decode cX11_reading 68 = .ok (.aload_n 0, 1) := by decide +kernel
theorem dX11_reading_69 : decode cX11_reading 69 = .ok (.getfield 10, 3) := by decide +kernel
theorem dX11_reading_72 : decode cX11_reading 72 = .ok (.getfield 258, 3) := by decide +kernel
theorem dX11_reading_75 : decode cX11_reading 75 = .ok (.iload_n 3, 1) := by decide +kernel
theorem dX11_reading_76 : decode cX11_reading 76 = .ok (.invokevirtual 125, 3) := by decide +kernel
theorem dX11_reading_79 : decode cX11_reading 79 = .ok (.aload_n 0, 1) := by decide +kernel
theorem dX11_reading_80 : decode cX11_reading 80 = .ok (.getfield 10, 3) := by decide +kernel
theorem dX11_reading_83 : decode cX11_reading 83 = .ok (.invokevirtual 261, 3) := by decide +kernel
theorem dX11_reading_86 : decode cX11_reading 86 = .ok (.ireturn, 1) := by decide +kernel
set_option maxRecDepth 20000 in
theorem ggX11_maybe_X11_between : GoodIn wsX11_maybe wsX11_between := goodIn_r _ [5] (by decide +kernel) (by decide +kernel)
set_option maxRecDepth 20000 in
theorem gX11_maybe_X11_between : GoodIn wsX11_maybe (va_wsS RX11 83 yX11_between wsX11_between) := goodIn_app (goodIn_of _ (by decide +kernel)) ggX11_maybe_X11_between
set_option maxRecDepth 20000 in
theorem ggX11_maybe_X11_refuseBad : GoodIn wsX11_maybe wsX11_refuseBad := goodIn_r _ [9, 10, 56, 57, 58, 59, 60, 61, 62, 63, 64, 65, 66, 67, 68, 69, 70] (by decide +kernel) (by decide +kernel)
set_option maxRecDepth 20000 in
theorem gX11_maybe_X11_refuseBad : GoodIn wsX11_maybe (wsV RX11 87 RX11 yX11_refuseBad wsX11_refuseBad) := goodIn_app (goodIn_of _ (by decide +kernel)) ggX11_maybe_X11_refuseBad
set_option maxRecDepth 20000 in
theorem ggX11_maybe_X1_mayBeOff : GoodIn wsX11_maybe wsX1_mayBeOff := goodIn_r _ [14, 15, 16, 17, 18, 19, 20, 21, 22, 23, 24, 25, 26, 27, 28, 13, 29, 30, 31, 32, 33, 34, 35, 36, 37, 38, 39, 40, 41, 42, 43, 44, 45, 4, 46, 47, 48, 49, 50, 51, 52, 53, 54, 55, 71, 72, 73, 74, 75, 76, 77, 78, 79, 80, 81] (by decide +kernel) (by decide +kernel)
set_option maxRecDepth 20000 in
theorem gX11_maybe_X1_mayBeOff : GoodIn wsX11_maybe (va_wsS RX11 266 yX1_mayBeOff wsX1_mayBeOff) := goodIn_app (goodIn_of _ (by decide +kernel)) ggX11_maybe_X1_mayBeOff
theorem dX11_maybe_0 : decode cX11_maybe 0 = .ok (.iload_n 1, 1) := by decide +kernel
theorem dX11_maybe_1 : decode cX11_maybe 1 = .ok (.iconst 0, 1) := by decide +kernel
theorem dX11_maybe_2 : decode cX11_maybe 2 = .ok (.iconst 1, 1) := by decide +kernel
theorem dX11_maybe_3 : decode cX11_maybe 3 = .ok (.invokestatic 83, 3) := by decide +kernel
theorem dX11_maybe_6 : decode cX11_maybe 6 = .ok (.ifCond .ne 10, 3) := by decide +kernel
theorem dX11_maybe_9 : decode cX11_maybe 9 = .ok (.aload_n 0, 1) := by decide +kernel
theorem dX11_maybe_10 : decode cX11_maybe 10 = .ok (.bipush (-2), 2) := by decide +kernel
theorem dX11_maybe_12 : decode cX11_maybe 12 = .ok (.invokevirtual 87, 3) := by decide +kernel
theorem dX11_maybe_15 : decode cX11_maybe 15 = .ok (.ireturn, 1) := by decide +kernel
theorem dX11_maybe_16 : decode cX11_maybe 16 = .ok (.aload_n 0, 1) := by decide +kernel
theorem dX11_maybe_17 : decode cX11_maybe 17 = .ok (.getfield 10, 3) := by decide +kernel
theorem dX11_maybe_20 : decode cX11_maybe 20 = .ok (.iload_n 1, 1) := by decide +kernel
theorem dX11_maybe_21 : decode cX11_maybe 21 = .ok (.ifCond .ne 7, 3) := by decide +kernel
theorem dX11_maybe_24 : decode cX11_maybe 24 = .ok (.iconst (-1), 1) := by decide +kernel
theorem dX11_maybe_25 : decode cX11_maybe 25 = .ok (.goto 4, 3) := by decide +kernel
theorem dX11_maybe_28 : decode cX11_maybe 28 = .ok (.iconst 1, 1) := by decide +kernel
theorem dX11_maybe_29 : decode cX11_maybe 29 = .ok (.invokestatic 266, 3) := by decide +kernel
theorem dX11_maybe_32 : decode cX11_maybe 32 = .ok (.ireturn, 1) := by decide +kernel
set_option maxRecDepth 20000 in
theorem ggX11_lift_X1_mayBeOff : GoodIn wsX11_lift wsX1_mayBeOff := goodIn_r _ [6, 7, 8, 9, 10, 11, 12, 13, 14, 15, 16, 17, 18, 19, 20, 5, 21, 22, 23, 24, 25, 26, 27, 28, 29, 30, 31, 32, 33, 34, 35, 36, 37, 38, 39, 40, 41, 42, 43, 44, 45, 46, 47, 48, 108, 109, 110, 111, 112, 113, 114, 115, 116, 117, 118] (by decide +kernel) (by decide +kernel)
set_option maxRecDepth 20000 in
theorem gX11_lift_X1_mayBeOff : GoodIn wsX11_lift (va_wsS RX11 266 yX1_mayBeOff wsX1_mayBeOff) := goodIn_app (goodIn_of _ (by decide +kernel)) ggX11_lift_X1_mayBeOff
set_option maxRecDepth 20000 in
theorem ggX11_lift_X1_bestPair : GoodIn wsX11_lift wsX1_bestPair := goodIn_r _ [51, 7, 8, 9, 10, 11, 12, 13, 14, 15, 16, 17, 18, 52, 53, 54, 55, 56, 57, 58, 59, 60, 61, 62, 63, 64, 65, 5, 66, 23, 37, 38, 39, 30, 31, 32, 33, 34, 35, 36, 40, 26, 27, 28, 29, 41, 42, 43, 44, 45, 46, 47, 48, 67, 68, 69, 70, 71, 72, 73, 74, 75, 76, 77, 78, 79, 80, 81, 82, 83, 84, 85, 86, 87, 88, 89, 90, 91, 92, 108, 109, 110, 111, 112, 113, 114, 115, 116, 117, 118, 119, 120, 121] (by decide +kernel) (by decide +kernel)
set_option maxRecDepth 20000 in
theorem gX11_lift_X1_bestPair : GoodIn wsX11_lift (va_wsS RX11 270 yX1_bestPair wsX1_bestPair) := goodIn_app (goodIn_of _ (by decide +kernel)) ggX11_lift_X1_bestPair
theorem dX11_lift_0 : decode cX11_lift 0 = .ok (.aload_n 0, 1) := by decide +kernel
theorem dX11_lift_1 : decode cX11_lift 1 = .ok (.getfield 10, 3) := by decide +kernel
theorem dX11_lift_4 : decode cX11_lift 4 = .ok (.iconst (-1), 1) := by decide +kernel
theorem dX11_lift_5 : decode cX11_lift 5 = .ok (.invokestatic 266, 3) := by decide +kernel
theorem dX11_lift_8 : decode cX11_lift 8 = .ok (.istore_n 1, 1) := by decide +kernel
theorem dX11_lift_9 : decode cX11_lift 9 = .ok (.aload_n 0, 1) := by decide +kernel
theorem dX11_lift_10 : decode cX11_lift 10 = .ok (.getfield 10, 3) := by decide +kernel
theorem dX11_lift_13 : decode cX11_lift 13 = .ok (.iconst 1, 1) := by decide +kernel
theorem dX11_lift_14 : decode cX11_lift 14 = .ok (.invokestatic 266, 3) := by decide +kernel
theorem dX11_lift_17 : decode cX11_lift 17 = .ok (.istore_n 2, 1) := by decide +kernel
theorem dX11_lift_18 : decode cX11_lift 18 = .ok (.iload_n 1, 1) := by decide +kernel
theorem dX11_lift_19 : decode cX11_lift 19 = .ok (.iload_n 2, 1) := by decide +kernel
theorem dX11_lift_20 : decode cX11_lift 20 = .ok (.ior, 1) := by decide +kernel
theorem dX11_lift_21 : decode cX11_lift 21 = .ok (.ifCond .ne 7, 3) := by decide +kernel
theorem dX11_lift_24 : decode cX11_lift 24 = .ok (.iconst (-1), 1) := by decide +kernel
theorem dX11_lift_25 : decode cX11_lift 25 = .ok (.goto 16, 3) := by decide +kernel
theorem dX11_lift_28 : decode cX11_lift 28 = .ok (.aload_n 0, 1) := by decide +kernel
theorem dX11_lift_29 : decode cX11_lift 29 = .ok (.getfield 10, 3) := by decide +kernel
theorem dX11_lift_32 : decode cX11_lift 32 = .ok (.iload_n 1, 1) := by decide +kernel
theorem dX11_lift_33 : decode cX11_lift 33 = .ok (.iload_n 2, 1) := by decide +kernel
theorem dX11_lift_34 : decode cX11_lift 34 = .ok (.aload_n 0, 1) := by decide +kernel
theorem dX11_lift_35 : decode cX11_lift 35 = .ok (.getfield 64, 3) := by decide +kernel
theorem dX11_lift_38 : decode cX11_lift 38 = .ok (.invokestatic 270, 3) := by decide +kernel
theorem dX11_lift_41 : decode cX11_lift 41 = .ok (.ireturn, 1) := by decide +kernel
set_option maxRecDepth 20000 in
theorem ggX11_note_X3_hasKeeper : GoodIn wsX11_note wsX3_hasKeeper := goodIn_r _ [7, 8, 9, 10, 6, 11, 12, 13, 14, 15, 16, 17, 18, 19, 20, 21, 62, 63, 64, 65, 66, 67, 68, 69, 70, 71, 72] (by decide +kernel) (by decide +kernel)
set_option maxRecDepth 20000 in
theorem gX11_note_X3_hasKeeper : GoodIn wsX11_note (wsV RX11 109 RX3 yX3_hasKeeper wsX3_hasKeeper) := goodIn_app (goodIn_of _ (by decide +kernel)) ggX11_note_X3_hasKeeper
set_option maxRecDepth 20000 in
theorem ggX11_note_X11_between : GoodIn wsX11_note wsX11_between := goodIn_r _ [21] (by decide +kernel) (by decide +kernel)
set_option maxRecDepth 20000 in
theorem gX11_note_X11_between : GoodIn wsX11_note (va_wsS RX11 83 yX11_between wsX11_between) := goodIn_app (goodIn_of _ (by decide +kernel)) ggX11_note_X11_between
set_option maxRecDepth 20000 in
theorem ggX11_note_X11_refuseBad : GoodIn wsX11_note wsX11_refuseBad := goodIn_r _ [26, 27, 47, 48, 49, 50, 51, 52, 53, 54, 55, 56, 57, 58, 59, 60, 61] (by decide +kernel) (by decide +kernel)
set_option maxRecDepth 20000 in
theorem gX11_note_X11_refuseBad : GoodIn wsX11_note (wsV RX11 87 RX11 yX11_refuseBad wsX11_refuseBad) := goodIn_app (goodIn_of _ (by decide +kernel)) ggX11_note_X11_refuseBad
set_option maxRecDepth 20000 in
theorem ggX11_note_X7_isFull : GoodIn wsX11_note wsX7_isFull := goodIn_r _ [31, 18, 32, 71, 72] (by decide +kernel) (by decide +kernel)
set_option maxRecDepth 20000 in
theorem gX11_note_X7_isFull : GoodIn wsX11_note (wsV RX11 94 RX7 yX7_isFull wsX7_isFull) := goodIn_app (goodIn_of _ (by decide +kernel)) ggX11_note_X7_isFull
set_option maxRecDepth 20000 in
theorem ggX11_note_X11_refuseFull : GoodIn wsX11_note wsX11_refuseFull := goodIn_r _ [36, 37, 47, 48, 49, 50, 51, 52, 53, 54, 55, 56, 57, 58, 59, 60, 61] (by decide +kernel) (by decide +kernel)
set_option maxRecDepth 20000 in
theorem gX11_note_X11_refuseFull : GoodIn wsX11_note (wsV RX11 98 RX11 yX11_refuseFull wsX11_refuseFull) := goodIn_app (goodIn_of _ (by decide +kernel)) ggX11_note_X11_refuseFull
set_option maxRecDepth 20000 in
theorem ggX11_note_X7_add : GoodIn wsX11_note wsX7_add := goodIn_r _ [41, 18, 32, 71, 72] (by decide +kernel) (by decide +kernel)
set_option maxRecDepth 20000 in
theorem gX11_note_X7_add : GoodIn wsX11_note (wsV RX11 125 RX7 yX7_add wsX7_add) := goodIn_app (goodIn_of _ (by decide +kernel)) ggX11_note_X7_add
set_option maxRecDepth 20000 in
theorem ggX11_note_X3_noteCount : GoodIn wsX11_note wsX3_noteCount := goodIn_r _ [45, 46, 13, 14, 15, 16, 17, 18, 62, 63, 64, 65, 66, 67, 68, 69, 70, 71, 72] (by decide +kernel) (by decide +kernel)
set_option maxRecDepth 20000 in
theorem gX11_note_X3_noteCount : GoodIn wsX11_note (wsV RX11 277 RX3 yX3_noteCount wsX3_noteCount) := goodIn_app (goodIn_of _ (by decide +kernel)) ggX11_note_X3_noteCount
theorem dX11_note_0 : decode cX11_note 0 = .ok (.aload_n 0, 1) := by decide +kernel
theorem dX11_note_1 : decode cX11_note 1 = .ok (.getfield 10, 3) := by decide +kernel
theorem dX11_note_4 : decode cX11_note 4 = .ok (.iload_n 1, 1) := by decide +kernel
theorem dX11_note_5 : decode cX11_note 5 = .ok (.invokevirtual 109, 3) := by decide +kernel
theorem dX11_note_8 : decode cX11_note 8 = .ok (.ifCond .eq 36, 3) := by decide +kernel
theorem dX11_note_11 : decode cX11_note 11 = .ok (.iload_n 2, 1) := by decide +kernel
theorem dX11_note_12 : decode cX11_note 12 = .ok (.iconst 1, 1) := by decide +kernel
theorem dX11_note_13 : decode cX11_note 13 = .ok (.sipush 250, 3) := by decide +kernel
theorem dX11_note_16 : decode cX11_note 16 = .ok (.invokestatic 83, 3) := by decide +kernel
theorem dX11_note_19 : decode cX11_note 19 = .ok (.ifCond .eq 25, 3) := by decide +kernel
theorem dX11_note_22 : decode cX11_note 22 = .ok (.iload_n 3, 1) := by decide +kernel
theorem dX11_note_23 : decode cX11_note 23 = .ok (.iconst 0, 1) := by decide +kernel
theorem dX11_note_24 : decode cX11_note 24 = .ok (.bipush 99, 2) := by decide +kernel
theorem dX11_note_26 : decode cX11_note 26 = .ok (.invokestatic 83, 3) := by decide +kernel
theorem dX11_note_29 : decode cX11_note 29 = .ok (.ifCond .eq 15, 3) := by decide +kernel
theorem dX11_note_32 : decode cX11_note 32 = .ok (.iload 4, 2) := by decide +kernel
theorem dX11_note_34 : decode cX11_note 34 = .ok (.iconst 1, 1) := by decide +kernel
theorem dX11_note_35 : decode cX11_note 35 = .ok (.sipush 250, 3) := by decide +kernel
theorem dX11_note_38 : decode cX11_note 38 = .ok (.invokestatic 83, 3) := by decide +kernel
theorem dX11_note_41 : decode cX11_note 41 = .ok (.ifCond .ne 10, 3) := by decide +kernel
theorem dX11_note_44 : decode cX11_note 44 = .ok (.aload_n 0, 1) := by decide +kernel
theorem dX11_note_45 : decode cX11_note 45 = .ok (.bipush (-2), 2) := by decide +kernel
theorem dX11_note_47 : decode cX11_note 47 = .ok (.invokevirtual 87, 3) := by decide +kernel
theorem dX11_note_50 : decode cX11_note 50 = .ok (.ireturn, 1) := by decide +kernel
theorem dX11_note_51 : decode cX11_note 51 = .ok (.aload_n 0, 1) := by decide +kernel
theorem dX11_note_52 : decode cX11_note 52 = .ok (.getfield 10, 3) := by decide +kernel
theorem dX11_note_55 : decode cX11_note 55 = .ok (.getfield 274, 3) := by decide +kernel
theorem dX11_note_58 : decode cX11_note 58 = .ok (.invokevirtual 94, 3) := by decide +kernel
theorem dX11_note_61 : decode cX11_note 61 = .ok (.ifCond .eq 8, 3) := by decide +kernel
theorem dX11_note_64 : decode cX11_note 64 = .ok (.aload_n 0, 1) := by decide +kernel
theorem dX11_note_65 : decode cX11_note 65 = .ok (.invokevirtual 98, 3) := by decide +kernel
theorem dX11_note_68 : decode cX11_note 68 = .ok (.ireturn, 1) := by decide +kernel
theorem dX11_note_69 : decode cX11_note 69 = .ok (.aload_n 0, 1) := by decide +kernel
theorem dX11_note_70 : decode cX11_note 70 = .ok (.getfield 10, 3) := by decide +kernel
theorem dX11_note_73 : decode cX11_note 73 = .ok (.getfield 274, 3) := by decide +kernel
theorem dX11_note_76 : decode cX11_note 76 = .ok (.iload_n 1, 1) := by decide +kernel
theorem dX11_note_77 : decode cX11_note 77 = .ok (.invokevirtual 125, 3) := by decide +kernel
theorem dX11_note_80 : decode cX11_note 80 = .ok (.aload_n 0, 1) := by decide +kernel
theorem dX11_note_81 : decode cX11_note 81 = .ok (.getfield 10, 3) := by decide +kernel
theorem dX11_note_84 : decode cX11_note 84 = .ok (.getfield 274, 3) := by decide +kernel
theorem dX11_note_87 : decode cX11_note 87 = .ok (.iload_n 2, 1) := by decide +kernel
theorem dX11_note_88 : decode cX11_note 88 = .ok (.invokevirtual 125, 3) := by decide +kernel
theorem dX11_note_91 : decode cX11_note 91 = .ok (.aload_n 0, 1) := by decide +kernel
theorem dX11_note_92 : decode cX11_note 92 = .ok (.getfield 10, 3) := by decide +kernel
theorem dX11_note_95 : decode cX11_note 95 = .ok (.getfield 274, 3) := by decide +kernel
theorem dX11_note_98 : decode cX11_note 98 = .ok (.iload_n 3, 1) := by decide +kernel
theorem dX11_note_99 : decode cX11_note 99 = .ok (.invokevirtual 125, 3) := by decide +kernel
theorem dX11_note_102 : decode cX11_note 102 = .ok (.aload_n 0, 1) := by decide +kernel
theorem dX11_note_103 : decode cX11_note 103 = .ok (.getfield 10, 3) := by decide +kernel
theorem dX11_note_106 : decode cX11_note 106 = .ok (.getfield 274, 3) := by decide +kernel
theorem dX11_note_109 : decode cX11_note 109 = .ok (.iload 4, 2) := by decide +kernel
theorem dX11_note_111 : decode cX11_note 111 = .ok (.invokevirtual 125, 3) := by decide +kernel
theorem dX11_note_114 : decode cX11_note 114 = .ok (.aload_n 0, 1) := by decide +kernel
theorem dX11_note_115 : decode cX11_note 115 = .ok (.getfield 10, 3) := by decide +kernel
theorem dX11_note_118 : decode cX11_note 118 = .ok (.invokevirtual 277, 3) := by decide +kernel
theorem dX11_note_121 : decode cX11_note 121 = .ok (.ireturn, 1) := by decide +kernel
set_option maxRecDepth 20000 in
theorem ggX11_tipped_X3_hasBalance : GoodIn wsX11_tipped wsX3_hasBalance := goodIn_r _ [7, 8, 9, 10, 11, 12, 13, 14, 15, 16, 17, 58, 59, 60, 61, 62, 63, 64, 65, 66, 67, 68] (by decide +kernel) (by decide +kernel)
set_option maxRecDepth 20000 in
theorem gX11_tipped_X3_hasBalance : GoodIn wsX11_tipped (wsV RX11 247 RX3 yX3_hasBalance wsX3_hasBalance) := goodIn_app (goodIn_of _ (by decide +kernel)) ggX11_tipped_X3_hasBalance
set_option maxRecDepth 20000 in
theorem ggX11_tipped_X11_between : GoodIn wsX11_tipped wsX11_between := goodIn_r _ [17] (by decide +kernel) (by decide +kernel)
set_option maxRecDepth 20000 in
theorem gX11_tipped_X11_between : GoodIn wsX11_tipped (va_wsS RX11 83 yX11_between wsX11_between) := goodIn_app (goodIn_of _ (by decide +kernel)) ggX11_tipped_X11_between
set_option maxRecDepth 20000 in
theorem ggX11_tipped_X11_refuseBad : GoodIn wsX11_tipped wsX11_refuseBad := goodIn_r _ [22, 23, 43, 44, 45, 46, 47, 48, 49, 50, 51, 52, 53, 54, 55, 56, 57] (by decide +kernel) (by decide +kernel)
set_option maxRecDepth 20000 in
theorem gX11_tipped_X11_refuseBad : GoodIn wsX11_tipped (wsV RX11 87 RX11 yX11_refuseBad wsX11_refuseBad) := goodIn_app (goodIn_of _ (by decide +kernel)) ggX11_tipped_X11_refuseBad
set_option maxRecDepth 20000 in
theorem ggX11_tipped_X7_isFull : GoodIn wsX11_tipped wsX7_isFull := goodIn_r _ [27, 14, 28, 67, 68] (by decide +kernel) (by decide +kernel)
set_option maxRecDepth 20000 in
theorem gX11_tipped_X7_isFull : GoodIn wsX11_tipped (wsV RX11 94 RX7 yX7_isFull wsX7_isFull) := goodIn_app (goodIn_of _ (by decide +kernel)) ggX11_tipped_X7_isFull
set_option maxRecDepth 20000 in
theorem ggX11_tipped_X11_refuseFull : GoodIn wsX11_tipped wsX11_refuseFull := goodIn_r _ [32, 33, 43, 44, 45, 46, 47, 48, 49, 50, 51, 52, 53, 54, 55, 56, 57] (by decide +kernel) (by decide +kernel)
set_option maxRecDepth 20000 in
theorem gX11_tipped_X11_refuseFull : GoodIn wsX11_tipped (wsV RX11 98 RX11 yX11_refuseFull wsX11_refuseFull) := goodIn_app (goodIn_of _ (by decide +kernel)) ggX11_tipped_X11_refuseFull
set_option maxRecDepth 20000 in
theorem ggX11_tipped_X7_add : GoodIn wsX11_tipped wsX7_add := goodIn_r _ [37, 14, 28, 67, 68] (by decide +kernel) (by decide +kernel)
set_option maxRecDepth 20000 in
theorem gX11_tipped_X7_add : GoodIn wsX11_tipped (wsV RX11 125 RX7 yX7_add wsX7_add) := goodIn_app (goodIn_of _ (by decide +kernel)) ggX11_tipped_X7_add
set_option maxRecDepth 20000 in
theorem ggX11_tipped_X3_tippingCount : GoodIn wsX11_tipped wsX3_tippingCount := goodIn_r _ [41, 42, 9, 10, 11, 12, 13, 14, 58, 59, 60, 61, 62, 63, 64, 65, 66, 67, 68] (by decide +kernel) (by decide +kernel)
set_option maxRecDepth 20000 in
theorem gX11_tipped_X3_tippingCount : GoodIn wsX11_tipped (wsV RX11 283 RX3 yX3_tippingCount wsX3_tippingCount) := goodIn_app (goodIn_of _ (by decide +kernel)) ggX11_tipped_X3_tippingCount
theorem dX11_tipped_0 : decode cX11_tipped 0 = .ok (.aload_n 0, 1) := by decide +kernel
theorem dX11_tipped_1 : decode cX11_tipped 1 = .ok (.getfield 10, 3) := by decide +kernel
theorem dX11_tipped_4 : decode cX11_tipped 4 = .ok (.iload_n 1, 1) := by decide +kernel
theorem dX11_tipped_5 : decode cX11_tipped 5 = .ok (.invokevirtual 247, 3) := by decide +kernel
theorem dX11_tipped_8 : decode cX11_tipped 8 = .ok (.ifCond .eq 35, 3) := by decide +kernel
theorem dX11_tipped_11 : decode cX11_tipped 11 = .ok (.iload_n 2, 1) := by decide +kernel
theorem dX11_tipped_12 : decode cX11_tipped 12 = .ok (.iconst 0, 1) := by decide +kernel
theorem dX11_tipped_13 : decode cX11_tipped 13 = .ok (.sipush 999, 3) := by decide +kernel
theorem dX11_tipped_16 : decode cX11_tipped 16 = .ok (.invokestatic 83, 3) := by decide +kernel
theorem dX11_tipped_19 : decode cX11_tipped 19 = .ok (.ifCond .eq 24, 3) := by decide +kernel
theorem dX11_tipped_22 : decode cX11_tipped 22 = .ok (.iload_n 3, 1) := by decide +kernel
theorem dX11_tipped_23 : decode cX11_tipped 23 = .ok (.iconst 0, 1) := by decide +kernel
theorem dX11_tipped_24 : decode cX11_tipped 24 = .ok (.sipush 999, 3) := by decide +kernel
theorem dX11_tipped_27 : decode cX11_tipped 27 = .ok (.invokestatic 83, 3) := by decide +kernel
theorem dX11_tipped_30 : decode cX11_tipped 30 = .ok (.ifCond .eq 13, 3) := by decide +kernel
theorem dX11_tipped_33 : decode cX11_tipped 33 = .ok (.iload 4, 2) := by decide +kernel
theorem dX11_tipped_35 : decode cX11_tipped 35 = .ok (.iconst (-1), 1) := by decide +kernel
theorem dX11_tipped_36 : decode cX11_tipped 36 = .ok (.iconst 1, 1) := by decide +kernel
theorem dX11_tipped_37 : decode cX11_tipped 37 = .ok (.invokestatic 83, 3) := by decide +kernel
theorem dX11_tipped_40 : decode cX11_tipped 40 = .ok (.ifCond .ne 10, 3) := by decide +kernel
theorem dX11_tipped_43 : decode cX11_tipped 43 = .ok (.aload_n 0, 1) := by decide +kernel
theorem dX11_tipped_44 : decode cX11_tipped 44 = .ok (.bipush (-2), 2) := by decide +kernel
theorem dX11_tipped_46 : decode cX11_tipped 46 = .ok (.invokevirtual 87, 3) := by decide +kernel
theorem dX11_tipped_49 : decode cX11_tipped 49 = .ok (.ireturn, 1) := by decide +kernel
theorem dX11_tipped_50 : decode cX11_tipped 50 = .ok (.aload_n 0, 1) := by decide +kernel
theorem dX11_tipped_51 : decode cX11_tipped 51 = .ok (.getfield 10, 3) := by decide +kernel
theorem dX11_tipped_54 : decode cX11_tipped 54 = .ok (.getfield 280, 3) := by decide +kernel
theorem dX11_tipped_57 : decode cX11_tipped 57 = .ok (.invokevirtual 94, 3) := by decide +kernel
theorem dX11_tipped_60 : decode cX11_tipped 60 = .ok (.ifCond .eq 8, 3) := by decide +kernel
theorem dX11_tipped_63 : decode cX11_tipped 63 = .ok (.aload_n 0, 1) := by decide +kernel
theorem dX11_tipped_64 : decode cX11_tipped 64 = .ok (.invokevirtual 98, 3) := by decide +kernel
theorem dX11_tipped_67 : decode cX11_tipped 67 = .ok (.ireturn, 1) := by decide +kernel
theorem dX11_tipped_68 : decode cX11_tipped 68 = .ok (.aload_n 0, 1) := by decide +kernel
theorem dX11_tipped_69 : decode cX11_tipped 69 = .ok (.getfield 10, 3) := by decide +kernel
theorem dX11_tipped_72 : decode cX11_tipped 72 = .ok (.getfield 280, 3) := by decide +kernel
theorem dX11_tipped_75 : decode cX11_tipped 75 = .ok (.iload_n 1, 1) := by decide +kernel
theorem dX11_tipped_76 : decode cX11_tipped 76 = .ok (.invokevirtual 125, 3) := by decide +kernel
theorem dX11_tipped_79 : decode cX11_tipped 79 = .ok (.aload_n 0, 1) := by decide +kernel
theorem dX11_tipped_80 : decode cX11_tipped 80 = .ok (.getfield 10, 3) := by decide +kernel
theorem dX11_tipped_83 : decode cX11_tipped 83 = .ok (.getfield 280, 3) := by decide +kernel
theorem dX11_tipped_86 : decode cX11_tipped 86 = .ok (.iload_n 2, 1) := by decide +kernel
theorem dX11_tipped_87 : decode cX11_tipped 87 = .ok (.invokevirtual 125, 3) := by decide +kernel
theorem dX11_tipped_90 : decode cX11_tipped 90 = .ok (.aload_n 0, 1) := by decide +kernel
theorem dX11_tipped_91 : decode cX11_tipped 91 = .ok (.getfield 10, 3) := by decide +kernel
theorem dX11_tipped_94 : decode cX11_tipped 94 = .ok (.getfield 280, 3) := by decide +kernel
theorem dX11_tipped_97 : decode cX11_tipped 97 = .ok (.iload_n 3, 1) := by decide +kernel
theorem dX11_tipped_98 : decode cX11_tipped 98 = .ok (.invokevirtual 125, 3) := by decide +kernel
theorem dX11_tipped_101 : decode cX11_tipped 101 = .ok (.aload_n 0, 1) := by decide +kernel
theorem dX11_tipped_102 : decode cX11_tipped 102 = .ok (.getfield 10, 3) := by decide +kernel
theorem dX11_tipped_105 : decode cX11_tipped 105 = .ok (.getfield 280, 3) := by decide +kernel
theorem dX11_tipped_108 : decode cX11_tipped 108 = .ok (.iload 4, 2) := by decide +kernel
theorem dX11_tipped_110 : decode cX11_tipped 110 = .ok (.invokevirtual 125, 3) := by decide +kernel
theorem dX11_tipped_113 : decode cX11_tipped 113 = .ok (.aload_n 0, 1) := by decide +kernel
theorem dX11_tipped_114 : decode cX11_tipped 114 = .ok (.getfield 10, 3) := by decide +kernel
theorem dX11_tipped_117 : decode cX11_tipped 117 = .ok (.invokevirtual 283, 3) := by decide +kernel
theorem dX11_tipped_120 : decode cX11_tipped 120 = .ok (.ireturn, 1) := by decide +kernel
set_option maxRecDepth 20000 in
theorem ggX11_forget_X11_between : GoodIn wsX11_forget wsX11_between := goodIn_r _ [8] (by decide +kernel) (by decide +kernel)
set_option maxRecDepth 20000 in
theorem gX11_forget_X11_between : GoodIn wsX11_forget (va_wsS RX11 83 yX11_between wsX11_between) := goodIn_app (goodIn_of _ (by decide +kernel)) ggX11_forget_X11_between
set_option maxRecDepth 20000 in
theorem ggX11_forget_X11_refuseBad : GoodIn wsX11_forget wsX11_refuseBad := goodIn_r _ [12, 13, 84, 85, 86, 87, 88, 89, 90, 91, 92, 93, 94, 95, 96, 97, 98] (by decide +kernel) (by decide +kernel)
set_option maxRecDepth 20000 in
theorem gX11_forget_X11_refuseBad : GoodIn wsX11_forget (wsV RX11 87 RX11 yX11_refuseBad wsX11_refuseBad) := goodIn_app (goodIn_of _ (by decide +kernel)) ggX11_forget_X11_refuseBad
set_option maxRecDepth 20000 in
theorem ggX11_forget_X11_howMany : GoodIn wsX11_forget wsX11_howMany := goodIn_r _ [17, 1, 18, 19, 20, 21, 22, 23, 24, 25, 26, 27, 28, 29, 30, 31, 32, 33, 34, 35, 36, 37, 38, 39, 40, 41, 42, 43, 44, 45, 46, 47, 48, 49, 50, 51, 52, 53, 7, 54, 55, 56, 57, 58, 59, 60, 61, 62, 63, 64, 65, 66, 67, 68, 69, 70, 71, 72, 73, 74, 75, 76, 77, 78, 79, 84, 85, 86, 87, 88, 89, 90, 91, 92, 93, 94, 95, 96, 97, 98, 99, 100, 101, 102, 103, 104, 105, 106, 107, 108, 109, 110, 111, 112, 113] (by decide +kernel) (by decide +kernel)
set_option maxRecDepth 20000 in
theorem gX11_forget_X11_howMany : GoodIn wsX11_forget (wsV RX11 286 RX11 yX11_howMany wsX11_howMany) := goodIn_app (goodIn_of _ (by decide +kernel)) ggX11_forget_X11_howMany
set_option maxRecDepth 20000 in
theorem ggX11_forget_X7_restart : GoodIn wsX11_forget wsX7_restart := goodIn_r _ [83, 35, 112, 113] (by decide +kernel) (by decide +kernel)
set_option maxRecDepth 20000 in
theorem gX11_forget_X7_restart : GoodIn wsX11_forget (wsV RX11 108 RX7 yX7_restart wsX7_restart) := goodIn_app (goodIn_of _ (by decide +kernel)) ggX11_forget_X7_restart
theorem dX11_forget_0 : decode cX11_forget 0 = .ok (.iload_n 1, 1) := by decide +kernel
theorem dX11_forget_1 : decode cX11_forget 1 = .ok (.iconst 0, 1) := by decide +kernel
theorem dX11_forget_2 : decode cX11_forget 2 = .ok (.iconst 2, 1) := by decide +kernel
theorem dX11_forget_3 : decode cX11_forget 3 = .ok (.invokestatic 83, 3) := by decide +kernel
theorem dX11_forget_6 : decode cX11_forget 6 = .ok (.ifCond .ne 10, 3) := by decide +kernel
theorem dX11_forget_9 : decode cX11_forget 9 = .ok (.aload_n 0, 1) := by decide +kernel
theorem dX11_forget_10 : decode cX11_forget 10 = .ok (.bipush (-2), 2) := by decide +kernel
theorem dX11_forget_12 : decode cX11_forget 12 = .ok (.invokevirtual 87, 3) := by decide +kernel
theorem dX11_forget_15 : decode cX11_forget 15 = .ok (.ireturn, 1) := by decide +kernel
theorem dX11_forget_16 : decode cX11_forget 16 = .ok (.aload_n 0, 1) := by decide +kernel
theorem dX11_forget_17 : decode cX11_forget 17 = .ok (.iconst 5, 1) := by decide +kernel
theorem dX11_forget_18 : decode cX11_forget 18 = .ok (.iload_n 1, 1) := by decide +kernel
theorem dX11_forget_19 : decode cX11_forget 19 = .ok (.iadd, 1) := by decide +kernel
theorem dX11_forget_20 : decode cX11_forget 20 = .ok (.invokevirtual 286, 3) := by decide +kernel
theorem dX11_forget_23 : decode cX11_forget 23 = .ok (.istore_n 2, 1) := by decide +kernel
theorem dX11_forget_24 : decode cX11_forget 24 = .ok (.iload_n 1, 1) := by decide +kernel
theorem dX11_forget_25 : decode cX11_forget 25 = .ok (.ifCond .ne 13, 3) := by decide +kernel
theorem dX11_forget_28 : decode cX11_forget 28 = .ok (.aload_n 0, 1) := by decide +kernel
theorem dX11_forget_29 : decode cX11_forget 29 = .ok (.getfield 10, 3) := by decide +kernel
theorem dX11_forget_32 : decode cX11_forget 32 = .ok (.getfield 258, 3) := by decide +kernel
theorem dX11_forget_35 : decode cX11_forget 35 = .ok (.goto 25, 3) := by decide +kernel
theorem dX11_forget_38 : decode cX11_forget 38 = .ok (.iload_n 1, 1) := by decide +kernel
theorem dX11_forget_39 : decode cX11_forget 39 = .ok (.iconst 1, 1) := by decide +kernel
theorem dX11_forget_40 : decode cX11_forget 40 = .ok (.if_icmp .ne 13, 3) := by decide +kernel
theorem dX11_forget_43 : decode cX11_forget 43 = .ok (.aload_n 0, 1) := by decide +kernel
theorem dX11_forget_44 : decode cX11_forget 44 = .ok (.getfield 10, 3) := by decide +kernel
theorem dX11_forget_47 : decode cX11_forget 47 = .ok (.getfield 274, 3) := by decide +kernel
theorem dX11_forget_50 : decode cX11_forget 50 = .ok (.goto 10, 3) := by decide +kernel
theorem dX11_forget_53 : decode cX11_forget 53 = .ok (.aload_n 0, 1) := by decide +kernel
theorem dX11_forget_54 : decode cX11_forget 54 = .ok (.getfield 10, 3) := by decide +kernel
theorem dX11_forget_57 : decode cX11_forget 57 = .ok (.getfield 280, 3) := by decide +kernel
theorem dX11_forget_60 : decode cX11_forget 60 = .ok (.astore_n 3, 1) := by decide +kernel
theorem dX11_forget_61 : decode cX11_forget 61 = .ok (.aload_n 3, 1) := by decide +kernel
theorem dX11_forget_62 : decode cX11_forget 62 = .ok (.invokevirtual 108, 3) := by decide +kernel
theorem dX11_forget_65 : decode cX11_forget 65 = .ok (.iload_n 2, 1) := by decide +kernel
theorem dX11_forget_66 : decode cX11_forget 66 = .ok (.ireturn, 1) := by decide +kernel
set_option maxRecDepth 20000 in
theorem ggX11_is_X3_hasKeeper : GoodIn wsX11_is wsX3_hasKeeper := goodIn_r _ [6, 7, 8, 9, 5, 10, 11, 12, 13, 14, 15, 16, 17, 18, 19, 20, 66, 67, 68, 69, 70, 71, 72, 73, 74, 75, 76] (by decide +kernel) (by decide +kernel)
set_option maxRecDepth 20000 in
theorem gX11_is_X3_hasKeeper : GoodIn wsX11_is (wsV RX11 109 RX3 yX3_hasKeeper wsX3_hasKeeper) := goodIn_app (goodIn_of _ (by decide +kernel)) ggX11_is_X3_hasKeeper
set_option maxRecDepth 20000 in
theorem ggX11_is_X1_kindsOfKeeper : GoodIn wsX11_is wsX1_kindsOfKeeper := goodIn_r _ [24, 25, 26, 27, 23, 28, 29, 13, 14, 15, 16, 17, 30, 31, 32, 33, 34, 35, 36, 37, 38, 39, 40, 41, 42, 43, 44, 45, 66, 67, 68, 69, 70, 71, 72, 73, 74, 75, 76] (by decide +kernel) (by decide +kernel)
set_option maxRecDepth 20000 in
theorem gX11_is_X1_kindsOfKeeper : GoodIn wsX11_is (va_wsS RX11 289 yX1_kindsOfKeeper wsX1_kindsOfKeeper) := goodIn_app (goodIn_of _ (by decide +kernel)) ggX11_is_X1_kindsOfKeeper
set_option maxRecDepth 20000 in
theorem ggX11_is_X11_refuseBad : GoodIn wsX11_is wsX11_refuseBad := goodIn_r _ [49, 50, 51, 52, 53, 54, 55, 56, 57, 58, 59, 60, 61, 62, 63, 64, 65] (by decide +kernel) (by decide +kernel)
set_option maxRecDepth 20000 in
theorem gX11_is_X11_refuseBad : GoodIn wsX11_is (wsV RX11 87 RX11 yX11_refuseBad wsX11_refuseBad) := goodIn_app (goodIn_of _ (by decide +kernel)) ggX11_is_X11_refuseBad
theorem dX11_is_0 : decode cX11_is 0 = .ok (.aload_n 0, 1) := by decide +kernel
theorem dX11_is_1 : decode cX11_is 1 = .ok (.getfield 10, 3) := by decide +kernel
theorem dX11_is_4 : decode cX11_is 4 = .ok (.iload_n 1, 1) := by decide +kernel
theorem dX11_is_5 : decode cX11_is 5 = .ok (.invokevirtual 109, 3) := by decide +kernel
theorem dX11_is_8 : decode cX11_is 8 = .ok (.ifCond .eq 14, 3) := by decide +kernel
theorem dX11_is_11 : decode cX11_is 11 = .ok (.aload_n 0, 1) := by decide +kernel
theorem dX11_is_12 : decode cX11_is 12 = .ok (.getfield 10, 3) := by decide +kernel
theorem dX11_is_15 : decode cX11_is 15 = .ok (.iload_n 1, 1) := by decide +kernel
theorem dX11_is_16 : decode cX11_is 16 = .ok (.invokestatic 289, 3) := by decide +kernel
theorem dX11_is_19 : decode cX11_is 19 = .ok (.goto 9, 3) := by decide +kernel
theorem dX11_is_22 : decode cX11_is 22 = .ok (.aload_n 0, 1) := by decide +kernel
theorem dX11_is_23 : decode cX11_is 23 = .ok (.bipush (-2), 2) := by decide +kernel
theorem dX11_is_25 : decode cX11_is 25 = .ok (.invokevirtual 87, 3) := by decide +kernel
theorem dX11_is_28 : decode cX11_is 28 = .ok (.ireturn, 1) := by decide +kernel
set_option maxRecDepth 20000 in
theorem ggX11_watch_X3_hasKeeper : GoodIn wsX11_watch wsX3_hasKeeper := goodIn_r _ [9, 10, 11, 12, 8, 13, 14, 15, 16, 17, 18, 19, 20, 21, 22, 23, 112, 113, 114, 115, 116, 117, 118, 119, 120, 125, 126] (by decide +kernel) (by decide +kernel)
set_option maxRecDepth 20000 in
theorem gX11_watch_X3_hasKeeper : GoodIn wsX11_watch (wsV RX11 109 RX3 yX3_hasKeeper wsX3_hasKeeper) := goodIn_app (goodIn_of _ (by decide +kernel)) ggX11_watch_X3_hasKeeper
set_option maxRecDepth 20000 in
theorem ggX11_watch_X11_refuseBad : GoodIn wsX11_watch wsX11_refuseBad := goodIn_r _ [27, 28, 97, 98, 99, 100, 101, 102, 103, 104, 105, 106, 107, 108, 109, 110, 111] (by decide +kernel) (by decide +kernel)
set_option maxRecDepth 20000 in
theorem gX11_watch_X11_refuseBad : GoodIn wsX11_watch (wsV RX11 87 RX11 yX11_refuseBad wsX11_refuseBad) := goodIn_app (goodIn_of _ (by decide +kernel)) ggX11_watch_X11_refuseBad
set_option maxRecDepth 20000 in
theorem ggX11_watch_X1_kindsOfKeeper : GoodIn wsX11_watch wsX1_kindsOfKeeper := goodIn_r _ [32, 33, 34, 35, 31, 36, 37, 16, 17, 18, 19, 20, 38, 39, 40, 41, 42, 43, 44, 45, 46, 47, 48, 49, 50, 51, 52, 53, 112, 113, 114, 115, 116, 117, 118, 119, 120, 125, 126] (by decide +kernel) (by decide +kernel)
set_option maxRecDepth 20000 in
theorem gX11_watch_X1_kindsOfKeeper : GoodIn wsX11_watch (va_wsS RX11 289 yX1_kindsOfKeeper wsX1_kindsOfKeeper) := goodIn_app (goodIn_of _ (by decide +kernel)) ggX11_watch_X1_kindsOfKeeper
set_option maxRecDepth 20000 in
theorem ggX11_watch_X7_at : GoodIn wsX11_watch wsX7_at := goodIn_r _ [41, 20, 42, 125, 126] (by decide +kernel) (by decide +kernel)
set_option maxRecDepth 20000 in
theorem gX11_watch_X7_at : GoodIn wsX11_watch (wsV RX11 115 RX7 yX7_at wsX7_at) := goodIn_app (goodIn_of _ (by decide +kernel)) ggX11_watch_X7_at
set_option maxRecDepth 20000 in
theorem ggX11_watch_X1_bestDay : GoodIn wsX11_watch wsX1_bestDay := goodIn_r _ [57, 58, 59, 60, 61, 62, 63, 64, 65, 66, 67, 68, 18, 69, 20, 70, 22, 71, 43, 44, 45, 46, 47, 48, 49, 50, 51, 52, 53, 72, 73, 74, 75, 76, 77, 78, 79, 80, 81, 82, 83, 16, 17, 19, 84, 39, 40, 41, 42, 85, 86, 87, 88, 89, 90, 91, 92, 93, 94, 95, 96, 127, 128, 129, 125, 126] (by decide +kernel) (by decide +kernel)
set_option maxRecDepth 20000 in
theorem gX11_watch_X1_bestDay : GoodIn wsX11_watch (va_wsS RX11 292 yX1_bestDay wsX1_bestDay) := goodIn_app (goodIn_of _ (by decide +kernel)) ggX11_watch_X1_bestDay
theorem dX11_watch_0 : decode cX11_watch 0 = .ok (.aload_n 0, 1) := by decide +kernel
theorem dX11_watch_1 : decode cX11_watch 1 = .ok (.getfield 10, 3) := by decide +kernel
theorem dX11_watch_4 : decode cX11_watch 4 = .ok (.iload_n 1, 1) := by decide +kernel
theorem dX11_watch_5 : decode cX11_watch 5 = .ok (.invokevirtual 109, 3) := by decide +kernel
theorem dX11_watch_8 : decode cX11_watch 8 = .ok (.ifCond .ne 10, 3) := by decide +kernel
theorem dX11_watch_11 : decode cX11_watch 11 = .ok (.aload_n 0, 1) := by decide +kernel
theorem dX11_watch_12 : decode cX11_watch 12 = .ok (.bipush (-2), 2) := by decide +kernel
theorem dX11_watch_14 : decode cX11_watch 14 = .ok (.invokevirtual 87, 3) := by decide +kernel
theorem dX11_watch_17 : decode cX11_watch 17 = .ok (.ireturn, 1) := by decide +kernel
theorem dX11_watch_18 : decode cX11_watch 18 = .ok (.aload_n 0, 1) := by decide +kernel
theorem dX11_watch_19 : decode cX11_watch 19 = .ok (.getfield 10, 3) := by decide +kernel
theorem dX11_watch_22 : decode cX11_watch 22 = .ok (.iload_n 1, 1) := by decide +kernel
theorem dX11_watch_23 : decode cX11_watch 23 = .ok (.invokestatic 289, 3) := by decide +kernel
theorem dX11_watch_26 : decode cX11_watch 26 = .ok (.istore_n 2, 1) := by decide +kernel
theorem dX11_watch_27 : decode cX11_watch 27 = .ok (.iload_n 2, 1) := by decide +kernel
theorem dX11_watch_28 : decode cX11_watch 28 = .ok (.ifCond .ne 7, 3) := by decide +kernel
theorem dX11_watch_31 : decode cX11_watch 31 = .ok (.iconst (-1), 1) := by decide +kernel
theorem dX11_watch_32 : decode cX11_watch 32 = .ok (.goto 25, 3) := by decide +kernel
theorem dX11_watch_35 : decode cX11_watch 35 = .ok (.iload_n 2, 1) := by decide +kernel
theorem dX11_watch_36 : decode cX11_watch 36 = .ok (.aload_n 0, 1) := by decide +kernel
theorem dX11_watch_37 : decode cX11_watch 37 = .ok (.getfield 10, 3) := by decide +kernel
theorem dX11_watch_40 : decode cX11_watch 40 = .ok (.getfield 141, 3) := by decide +kernel
theorem dX11_watch_43 : decode cX11_watch 43 = .ok (.getfield 159, 3) := by decide +kernel
theorem dX11_watch_46 : decode cX11_watch 46 = .ok (.iload_n 1, 1) := by decide +kernel
theorem dX11_watch_47 : decode cX11_watch 47 = .ok (.invokevirtual 115, 3) := by decide +kernel
theorem dX11_watch_50 : decode cX11_watch 50 = .ok (.aload_n 0, 1) := by decide +kernel
theorem dX11_watch_51 : decode cX11_watch 51 = .ok (.getfield 64, 3) := by decide +kernel
theorem dX11_watch_54 : decode cX11_watch 54 = .ok (.invokestatic 292, 3) := by decide +kernel
theorem dX11_watch_57 : decode cX11_watch 57 = .ok (.ireturn, 1) := by decide +kernel
set_option maxRecDepth 20000 in
theorem ggX11_who_X3_hasBalance : GoodIn wsX11_who wsX3_hasBalance := goodIn_r _ [6, 7, 8, 9, 10, 11, 12, 13, 14, 15, 16, 72, 73, 74, 75, 76, 77, 78, 79, 80, 81, 82] (by decide +kernel) (by decide +kernel)
set_option maxRecDepth 20000 in
theorem gX11_who_X3_hasBalance : GoodIn wsX11_who (wsV RX11 247 RX3 yX3_hasBalance wsX3_hasBalance) := goodIn_app (goodIn_of _ (by decide +kernel)) ggX11_who_X3_hasBalance
set_option maxRecDepth 20000 in
theorem ggX11_who_X1_kindsOfBalance : GoodIn wsX11_who wsX1_kindsOfBalance := goodIn_r _ [20, 21, 22, 23, 19, 24, 25, 9, 10, 11, 12, 13, 26, 27, 28, 29, 30, 31, 32, 33, 34, 35, 36, 37, 38, 39, 40, 41, 42, 43, 44, 45, 46, 47, 48, 49, 50, 51, 72, 73, 74, 75, 76, 77, 78, 79, 80, 81, 82] (by decide +kernel) (by decide +kernel)
set_option maxRecDepth 20000 in
theorem gX11_who_X1_kindsOfBalance : GoodIn wsX11_who (va_wsS RX11 296 yX1_kindsOfBalance wsX1_kindsOfBalance) := goodIn_app (goodIn_of _ (by decide +kernel)) ggX11_who_X1_kindsOfBalance
set_option maxRecDepth 20000 in
theorem ggX11_who_X11_refuseBad : GoodIn wsX11_who wsX11_refuseBad := goodIn_r _ [55, 56, 57, 58, 59, 60, 61, 62, 63, 64, 65, 66, 67, 68, 69, 70, 71] (by decide +kernel) (by decide +kernel)
set_option maxRecDepth 20000 in
theorem gX11_who_X11_refuseBad : GoodIn wsX11_who (wsV RX11 87 RX11 yX11_refuseBad wsX11_refuseBad) := goodIn_app (goodIn_of _ (by decide +kernel)) ggX11_who_X11_refuseBad
theorem dX11_who_0 : decode cX11_who 0 = .ok (.aload_n 0, 1) := by decide +kernel
theorem dX11_who_1 : decode cX11_who 1 = .ok (.getfield 10, 3) := by decide +kernel
theorem dX11_who_4 : decode cX11_who 4 = .ok (.iload_n 1, 1) := by decide +kernel
theorem dX11_who_5 : decode cX11_who 5 = .ok (.invokevirtual 247, 3) := by decide +kernel
theorem dX11_who_8 : decode cX11_who 8 = .ok (.ifCond .eq 14, 3) := by decide +kernel
theorem dX11_who_11 : decode cX11_who 11 = .ok (.aload_n 0, 1) := by decide +kernel
theorem dX11_who_12 : decode cX11_who 12 = .ok (.getfield 10, 3) := by decide +kernel
theorem dX11_who_15 : decode cX11_who 15 = .ok (.iload_n 1, 1) := by decide +kernel
theorem dX11_who_16 : decode cX11_who 16 = .ok (.invokestatic 296, 3) := by decide +kernel
theorem dX11_who_19 : decode cX11_who 19 = .ok (.goto 9, 3) := by decide +kernel
theorem dX11_who_22 : decode cX11_who 22 = .ok (.aload_n 0, 1) := by decide +kernel
theorem dX11_who_23 : decode cX11_who 23 = .ok (.bipush (-2), 2) := by decide +kernel
theorem dX11_who_25 : decode cX11_who 25 = .ok (.invokevirtual 87, 3) := by decide +kernel
theorem dX11_who_28 : decode cX11_who 28 = .ok (.ireturn, 1) := by decide +kernel
set_option maxRecDepth 20000 in
theorem ggX11_lay_X3_hasBalance : GoodIn wsX11_lay wsX3_hasBalance := goodIn_r _ [7, 8, 9, 10, 11, 12, 13, 14, 15, 16, 17, 118, 119, 120, 121, 122, 123, 124, 125, 126, 127, 128] (by decide +kernel) (by decide +kernel)
set_option maxRecDepth 20000 in
theorem gX11_lay_X3_hasBalance : GoodIn wsX11_lay (wsV RX11 247 RX3 yX3_hasBalance wsX3_hasBalance) := goodIn_app (goodIn_of _ (by decide +kernel)) ggX11_lay_X3_hasBalance
set_option maxRecDepth 20000 in
theorem ggX11_lay_X11_refuseBad : GoodIn wsX11_lay wsX11_refuseBad := goodIn_r _ [21, 22, 103, 104, 105, 106, 107, 108, 109, 110, 111, 112, 113, 114, 115, 116, 117] (by decide +kernel) (by decide +kernel)
set_option maxRecDepth 20000 in
theorem gX11_lay_X11_refuseBad : GoodIn wsX11_lay (wsV RX11 87 RX11 yX11_refuseBad wsX11_refuseBad) := goodIn_app (goodIn_of _ (by decide +kernel)) ggX11_lay_X11_refuseBad
set_option maxRecDepth 20000 in
theorem ggX11_lay_X1_kindsOfBalance : GoodIn wsX11_lay wsX1_kindsOfBalance := goodIn_r _ [26, 27, 28, 29, 25, 30, 31, 10, 11, 12, 13, 14, 32, 33, 34, 35, 36, 37, 38, 39, 40, 41, 42, 43, 44, 45, 46, 47, 48, 49, 50, 51, 52, 53, 54, 55, 56, 57, 118, 119, 120, 121, 122, 123, 124, 125, 126, 127, 128] (by decide +kernel) (by decide +kernel)
set_option maxRecDepth 20000 in
theorem gX11_lay_X1_kindsOfBalance : GoodIn wsX11_lay (va_wsS RX11 296 yX1_kindsOfBalance wsX1_kindsOfBalance) := goodIn_app (goodIn_of _ (by decide +kernel)) ggX11_lay_X1_kindsOfBalance
set_option maxRecDepth 20000 in
theorem ggX11_lay_X1_bestGrains : GoodIn wsX11_lay wsX1_bestGrains := goodIn_r _ [60, 61, 62, 63, 64, 65, 66, 67, 68, 69, 70, 71, 12, 72, 14, 73, 74, 25, 75, 76, 16, 77, 37, 38, 39, 40, 41, 42, 43, 44, 45, 46, 47, 48, 49, 50, 51, 52, 53, 54, 55, 56, 57, 78, 79, 80, 81, 82, 83, 84, 85, 86, 87, 88, 89, 10, 11, 13, 90, 33, 34, 35, 36, 91, 92, 93, 94, 95, 96, 97, 98, 99, 100, 101, 102, 129, 130, 131, 127, 128] (by decide +kernel) (by decide +kernel)
set_option maxRecDepth 20000 in
theorem gX11_lay_X1_bestGrains : GoodIn wsX11_lay (va_wsS RX11 299 yX1_bestGrains wsX1_bestGrains) := goodIn_app (goodIn_of _ (by decide +kernel)) ggX11_lay_X1_bestGrains
theorem dX11_lay_0 : decode cX11_lay 0 = .ok (.aload_n 0, 1) := by decide +kernel
theorem dX11_lay_1 : decode cX11_lay 1 = .ok (.getfield 10, 3) := by decide +kernel
theorem dX11_lay_4 : decode cX11_lay 4 = .ok (.iload_n 1, 1) := by decide +kernel
theorem dX11_lay_5 : decode cX11_lay 5 = .ok (.invokevirtual 247, 3) := by decide +kernel
theorem dX11_lay_8 : decode cX11_lay 8 = .ok (.ifCond .ne 10, 3) := by decide +kernel
theorem dX11_lay_11 : decode cX11_lay 11 = .ok (.aload_n 0, 1) := by decide +kernel
theorem dX11_lay_12 : decode cX11_lay 12 = .ok (.bipush (-2), 2) := by decide +kernel
theorem dX11_lay_14 : decode cX11_lay 14 = .ok (.invokevirtual 87, 3) := by decide +kernel
theorem dX11_lay_17 : decode cX11_lay 17 = .ok (.ireturn, 1) := by decide +kernel
theorem dX11_lay_18 : decode cX11_lay 18 = .ok (.aload_n 0, 1) := by decide +kernel
theorem dX11_lay_19 : decode cX11_lay 19 = .ok (.getfield 10, 3) := by decide +kernel
theorem dX11_lay_22 : decode cX11_lay 22 = .ok (.iload_n 1, 1) := by decide +kernel
theorem dX11_lay_23 : decode cX11_lay 23 = .ok (.invokestatic 296, 3) := by decide +kernel
theorem dX11_lay_26 : decode cX11_lay 26 = .ok (.istore_n 2, 1) := by decide +kernel
theorem dX11_lay_27 : decode cX11_lay 27 = .ok (.iload_n 2, 1) := by decide +kernel
theorem dX11_lay_28 : decode cX11_lay 28 = .ok (.ifCond .ne 7, 3) := by decide +kernel
theorem dX11_lay_31 : decode cX11_lay 31 = .ok (.iconst (-1), 1) := by decide +kernel
theorem dX11_lay_32 : decode cX11_lay 32 = .ok (.goto 11, 3) := by decide +kernel
theorem dX11_lay_35 : decode cX11_lay 35 = .ok (.iload_n 2, 1) := by decide +kernel
theorem dX11_lay_36 : decode cX11_lay 36 = .ok (.aload_n 0, 1) := by decide +kernel
theorem dX11_lay_37 : decode cX11_lay 37 = .ok (.getfield 64, 3) := by decide +kernel
theorem dX11_lay_40 : decode cX11_lay 40 = .ok (.invokestatic 299, 3) := by decide +kernel
theorem dX11_lay_43 : decode cX11_lay 43 = .ok (.ireturn, 1) := by decide +kernel
set_option maxRecDepth 20000 in
theorem ggX11_buyers_X3_hasKeeper : GoodIn wsX11_buyers wsX3_hasKeeper := goodIn_r _ [10, 11, 12, 13, 9, 14, 15, 16, 17, 18, 19, 20, 21, 22, 23, 24, 92, 93, 94, 95, 96, 97, 98, 99, 100, 105, 106] (by decide +kernel) (by decide +kernel)
set_option maxRecDepth 20000 in
theorem gX11_buyers_X3_hasKeeper : GoodIn wsX11_buyers (wsV RX11 109 RX3 yX3_hasKeeper wsX3_hasKeeper) := goodIn_app (goodIn_of _ (by decide +kernel)) ggX11_buyers_X3_hasKeeper
set_option maxRecDepth 20000 in
theorem ggX11_buyers_X11_refuseBad : GoodIn wsX11_buyers wsX11_refuseBad := goodIn_r _ [28, 29, 77, 78, 79, 80, 81, 82, 83, 84, 85, 86, 87, 88, 89, 90, 91] (by decide +kernel) (by decide +kernel)
set_option maxRecDepth 20000 in
theorem gX11_buyers_X11_refuseBad : GoodIn wsX11_buyers (wsV RX11 87 RX11 yX11_refuseBad wsX11_refuseBad) := goodIn_app (goodIn_of _ (by decide +kernel)) ggX11_buyers_X11_refuseBad
set_option maxRecDepth 20000 in
theorem ggX11_buyers_X4_isLent : GoodIn wsX11_buyers wsX4_isLent := goodIn_r _ [34, 35, 36, 23, 37, 101, 102, 103, 104] (by decide +kernel) (by decide +kernel)
set_option maxRecDepth 20000 in
theorem gX11_buyers_X4_isLent : GoodIn wsX11_buyers (wsV RX11 144 RX4 yX4_isLent wsX4_isLent) := goodIn_app (goodIn_of _ (by decide +kernel)) ggX11_buyers_X4_isLent
set_option maxRecDepth 20000 in
theorem ggX11_buyers_X11_refuseNo : GoodIn wsX11_buyers wsX11_refuseNo := goodIn_r _ [41, 42, 77, 78, 79, 80, 81, 82, 83, 84, 85, 86, 87, 88, 89, 90, 91] (by decide +kernel) (by decide +kernel)
set_option maxRecDepth 20000 in
theorem gX11_buyers_X11_refuseNo : GoodIn wsX11_buyers (wsV RX11 147 RX11 yX11_refuseNo wsX11_refuseNo) := goodIn_app (goodIn_of _ (by decide +kernel)) ggX11_buyers_X11_refuseNo
set_option maxRecDepth 20000 in
theorem ggX11_buyers_X7_at : GoodIn wsX11_buyers wsX7_at := goodIn_r _ [46, 21, 47, 105, 106] (by decide +kernel) (by decide +kernel)
set_option maxRecDepth 20000 in
theorem gX11_buyers_X7_at : GoodIn wsX11_buyers (wsV RX11 115 RX7 yX7_at wsX7_at) := goodIn_app (goodIn_of _ (by decide +kernel)) ggX11_buyers_X7_at
set_option maxRecDepth 20000 in
theorem ggX11_buyers_X2_giftsEnough : GoodIn wsX11_buyers wsX2_giftsEnough := goodIn_r _ [51, 52, 53, 50, 54, 55, 56, 57] (by decide +kernel) (by decide +kernel)
set_option maxRecDepth 20000 in
theorem gX11_buyers_X2_giftsEnough : GoodIn wsX11_buyers (va_wsS RX11 303 yX2_giftsEnough wsX2_giftsEnough) := goodIn_app (goodIn_of _ (by decide +kernel)) ggX11_buyers_X2_giftsEnough
set_option maxRecDepth 20000 in
theorem ggX11_buyers_X9_restCount : GoodIn wsX11_buyers wsX9_restCount := goodIn_r _ [61, 62, 63, 60, 64, 65, 66, 67, 68, 69, 70, 36, 23, 37, 71, 72, 73] (by decide +kernel) (by decide +kernel)
set_option maxRecDepth 20000 in
theorem gX11_buyers_X9_restCount : GoodIn wsX11_buyers (va_wsS RX11 306 yX9_restCount wsX9_restCount) := goodIn_app (goodIn_of _ (by decide +kernel)) ggX11_buyers_X9_restCount
set_option maxRecDepth 20000 in
theorem ggX11_buyers_X9_restingPair : GoodIn wsX11_buyers wsX9_restingPair := goodIn_r _ [76, 62, 63, 60, 64, 65, 66, 67, 68, 69, 70, 36, 23, 37, 71, 72, 73] (by decide +kernel) (by decide +kernel)
set_option maxRecDepth 20000 in
theorem gX11_buyers_X9_restingPair : GoodIn wsX11_buyers (va_wsS RX11 311 yX9_restingPair wsX9_restingPair) := goodIn_app (goodIn_of _ (by decide +kernel)) ggX11_buyers_X9_restingPair
theorem dX11_buyers_0 : decode cX11_buyers 0 = .ok (.aload_n 0, 1) := by decide +kernel
theorem dX11_buyers_1 : decode cX11_buyers 1 = .ok (.getfield 10, 3) := by decide +kernel
theorem dX11_buyers_4 : decode cX11_buyers 4 = .ok (.iload_n 1, 1) := by decide +kernel
theorem dX11_buyers_5 : decode cX11_buyers 5 = .ok (.invokevirtual 109, 3) := by decide +kernel
theorem dX11_buyers_8 : decode cX11_buyers 8 = .ok (.ifCond .eq 8, 3) := by decide +kernel
theorem dX11_buyers_11 : decode cX11_buyers 11 = .ok (.iload_n 2, 1) := by decide +kernel
theorem dX11_buyers_12 : decode cX11_buyers 12 = .ok (.iconst (-1), 1) := by decide +kernel
theorem dX11_buyers_13 : decode cX11_buyers 13 = .ok (.if_icmp .ge 10, 3) := by decide +kernel
theorem dX11_buyers_16 : decode cX11_buyers 16 = .ok (.aload_n 0, 1) := by decide +kernel
theorem dX11_buyers_17 : decode cX11_buyers 17 = .ok (.bipush (-10), 2) := by decide +kernel
theorem dX11_buyers_19 : decode cX11_buyers 19 = .ok (.invokevirtual 87, 3) := by decide +kernel
theorem dX11_buyers_22 : decode cX11_buyers 22 = .ok (.ireturn, 1) := by decide +kernel
theorem dX11_buyers_23 : decode cX11_buyers 23 = .ok (.aload_n 0, 1) := by decide +kernel
theorem dX11_buyers_24 : decode cX11_buyers 24 = .ok (.getfield 10, 3) := by decide +kernel
theorem dX11_buyers_27 : decode cX11_buyers 27 = .ok (.getfield 141, 3) := by decide +kernel
theorem dX11_buyers_30 : decode cX11_buyers 30 = .ok (.iload_n 1, 1) := by decide +kernel
theorem dX11_buyers_31 : decode cX11_buyers 31 = .ok (.invokevirtual 144, 3) := by decide +kernel
theorem dX11_buyers_34 : decode cX11_buyers 34 = .ok (.ifCond .eq 8, 3) := by decide +kernel
theorem dX11_buyers_37 : decode cX11_buyers 37 = .ok (.aload_n 0, 1) := by decide +kernel
theorem dX11_buyers_38 : decode cX11_buyers 38 = .ok (.invokevirtual 147, 3) := by decide +kernel
theorem dX11_buyers_41 : decode cX11_buyers 41 = .ok (.ireturn, 1) := by decide +kernel
theorem dX11_buyers_42 : decode cX11_buyers 42 = .ok (.aload_n 0, 1) := by decide +kernel
theorem dX11_buyers_43 : decode cX11_buyers 43 = .ok (.getfield 10, 3) := by decide +kernel
theorem dX11_buyers_46 : decode cX11_buyers 46 = .ok (.getfield 91, 3) := by decide +kernel
theorem dX11_buyers_49 : decode cX11_buyers 49 = .ok (.iload_n 1, 1) := by decide +kernel
theorem dX11_buyers_50 : decode cX11_buyers 50 = .ok (.invokevirtual 115, 3) := by decide +kernel
theorem dX11_buyers_53 : decode cX11_buyers 53 = .ok (.aload_n 0, 1) := by decide +kernel
theorem dX11_buyers_54 : decode cX11_buyers 54 = .ok (.getfield 10, 3) := by decide +kernel
theorem dX11_buyers_57 : decode cX11_buyers 57 = .ok (.getfield 141, 3) := by decide +kernel
theorem dX11_buyers_60 : decode cX11_buyers 60 = .ok (.getfield 174, 3) := by decide +kernel
theorem dX11_buyers_63 : decode cX11_buyers 63 = .ok (.aload_n 0, 1) := by decide +kernel
theorem dX11_buyers_64 : decode cX11_buyers 64 = .ok (.getfield 10, 3) := by decide +kernel
theorem dX11_buyers_67 : decode cX11_buyers 67 = .ok (.getfield 141, 3) := by decide +kernel
theorem dX11_buyers_70 : decode cX11_buyers 70 = .ok (.getfield 241, 3) := by decide +kernel
theorem dX11_buyers_73 : decode cX11_buyers 73 = .ok (.iload_n 1, 1) := by decide +kernel
theorem dX11_buyers_74 : decode cX11_buyers 74 = .ok (.invokevirtual 115, 3) := by decide +kernel
theorem dX11_buyers_77 : decode cX11_buyers 77 = .ok (.invokestatic 303, 3) := by decide +kernel
theorem dX11_buyers_80 : decode cX11_buyers 80 = .ok (.istore_n 3, 1) := by decide +kernel
theorem dX11_buyers_81 : decode cX11_buyers 81 = .ok (.iload_n 2, 1) := by decide +kernel
theorem dX11_buyers_82 : decode cX11_buyers 82 = .ok (.iconst (-1), 1) := by decide +kernel
theorem dX11_buyers_83 : decode cX11_buyers 83 = .ok (.if_icmp .ne 8, 3) := by decide +kernel
theorem dX11_buyers_86 : decode cX11_buyers 86 = .ok (.iload_n 3, 1) := by decide +kernel
theorem dX11_buyers_87 : decode cX11_buyers 87 = .ok (.invokestatic 306, 3) := by decide +kernel
theorem dX11_buyers_90 : decode cX11_buyers 90 = .ok (.ireturn, 1) := by decide +kernel
theorem dX11_buyers_91 : decode cX11_buyers 91 = .ok (.iload_n 3, 1) := by decide +kernel
theorem dX11_buyers_92 : decode cX11_buyers 92 = .ok (.iload_n 2, 1) := by decide +kernel
theorem dX11_buyers_93 : decode cX11_buyers 93 = .ok (.invokestatic 311, 3) := by decide +kernel
theorem dX11_buyers_96 : decode cX11_buyers 96 = .ok (.istore 4, 2) := by decide +kernel
theorem dX11_buyers_98 : decode cX11_buyers 98 = .ok (.iload 4, 2) := by decide +kernel
theorem dX11_buyers_100 : decode cX11_buyers 100 = .ok (.iconst (-1), 1) := by decide +kernel
theorem dX11_buyers_101 : decode cX11_buyers 101 = .ok (.if_icmp .ne 8, 3) := by decide +kernel
theorem dX11_buyers_104 : decode cX11_buyers 104 = .ok (.bipush (-5), 2) := by decide +kernel
theorem dX11_buyers_106 : decode cX11_buyers 106 = .ok (.goto 5, 3) := by decide +kernel
theorem dX11_buyers_109 : decode cX11_buyers 109 = .ok (.iload 4, 2) := by decide +kernel
theorem dX11_buyers_111 : decode cX11_buyers 111 = .ok (.ireturn, 1) := by decide +kernel
set_option maxRecDepth 20000 in
theorem ggX11_refusals_X3_hasStones : GoodIn wsX11_refusals wsX3_hasStones := goodIn_r _ [8, 9, 10, 11, 7, 12, 13, 14, 15, 16, 17, 18, 19, 20, 21, 22, 23, 24, 25, 26, 85, 86, 87, 88, 89, 90, 91, 92, 93, 94, 95] (by decide +kernel) (by decide +kernel)
set_option maxRecDepth 20000 in
theorem gX11_refusals_X3_hasStones : GoodIn wsX11_refusals (wsV RX11 216 RX3 yX3_hasStones wsX3_hasStones) := goodIn_app (goodIn_of _ (by decide +kernel)) ggX11_refusals_X3_hasStones
set_option maxRecDepth 20000 in
theorem ggX11_refusals_X11_between : GoodIn wsX11_refusals wsX11_between := goodIn_r _ [26] (by decide +kernel) (by decide +kernel)
set_option maxRecDepth 20000 in
theorem gX11_refusals_X11_between : GoodIn wsX11_refusals (va_wsS RX11 83 yX11_between wsX11_between) := goodIn_app (goodIn_of _ (by decide +kernel)) ggX11_refusals_X11_between
set_option maxRecDepth 20000 in
theorem ggX11_refusals_X11_refuseBad : GoodIn wsX11_refusals wsX11_refuseBad := goodIn_r _ [31, 32, 70, 71, 72, 73, 74, 75, 76, 77, 78, 79, 80, 81, 82, 83, 84] (by decide +kernel) (by decide +kernel)
set_option maxRecDepth 20000 in
theorem gX11_refusals_X11_refuseBad : GoodIn wsX11_refusals (wsV RX11 87 RX11 yX11_refuseBad wsX11_refuseBad) := goodIn_app (goodIn_of _ (by decide +kernel)) ggX11_refusals_X11_refuseBad
set_option maxRecDepth 20000 in
theorem ggX11_refusals_X11_hasBit : GoodIn wsX11_refusals wsX11_hasBit := goodIn_r _ [35] (by decide +kernel) (by decide +kernel)
set_option maxRecDepth 20000 in
theorem gX11_refusals_X11_hasBit : GoodIn wsX11_refusals (va_wsS RX11 237 yX11_hasBit wsX11_hasBit) := goodIn_app (goodIn_of _ (by decide +kernel)) ggX11_refusals_X11_hasBit
set_option maxRecDepth 20000 in
theorem ggX11_refusals_X4_isLent : GoodIn wsX11_refusals wsX4_isLent := goodIn_r _ [40, 41, 34, 25, 35, 96, 97, 98, 99] (by decide +kernel) (by decide +kernel)
set_option maxRecDepth 20000 in
theorem gX11_refusals_X4_isLent : GoodIn wsX11_refusals (wsV RX11 144 RX4 yX4_isLent wsX4_isLent) := goodIn_app (goodIn_of _ (by decide +kernel)) ggX11_refusals_X4_isLent
set_option maxRecDepth 20000 in
theorem ggX11_refusals_X3_wouldLend : GoodIn wsX11_refusals wsX3_wouldLend := goodIn_r _ [45, 17, 46, 47, 48, 49, 50, 51, 21, 52, 23, 53, 54, 55, 56, 57, 58, 59, 60, 85, 86, 87, 88, 89, 90, 91, 92, 93, 96, 97, 98, 99, 94, 95] (by decide +kernel) (by decide +kernel)
set_option maxRecDepth 20000 in
theorem gX11_refusals_X3_wouldLend : GoodIn wsX11_refusals (wsV RX11 314 RX3 yX3_wouldLend wsX3_wouldLend) := goodIn_app (goodIn_of _ (by decide +kernel)) ggX11_refusals_X3_wouldLend
set_option maxRecDepth 20000 in
theorem ggX11_refusals_X11_keepFraction : GoodIn wsX11_refusals wsX11_keepFraction := goodIn_r _ [64, 65, 66, 67, 68, 25, 69, 70, 71, 72, 73, 74, 75, 76, 77, 78, 79, 80, 81, 82, 83, 84] (by decide +kernel) (by decide +kernel)
set_option maxRecDepth 20000 in
theorem gX11_refusals_X11_keepFraction : GoodIn wsX11_refusals (wsV RX11 319 RX11 yX11_keepFraction wsX11_keepFraction) := goodIn_app (goodIn_of _ (by decide +kernel)) ggX11_refusals_X11_keepFraction
theorem dX11_refusals_0 : decode cX11_refusals 0 = .ok (.aload_n 0, 1) := by decide +kernel
theorem dX11_refusals_1 : decode cX11_refusals 1 = .ok (.getfield 10, 3) := by decide +kernel
theorem dX11_refusals_4 : decode cX11_refusals 4 = .ok (.iload_n 1, 1) := by decide +kernel
theorem dX11_refusals_5 : decode cX11_refusals 5 = .ok (.invokevirtual 216, 3) := by decide +kernel
theorem dX11_refusals_8 : decode cX11_refusals 8 = .ok (.ifCond .eq 23, 3) := by decide +kernel
theorem dX11_refusals_11 : decode cX11_refusals 11 = .ok (.iload_n 2, 1) := by decide +kernel
theorem dX11_refusals_12 : decode cX11_refusals 12 = .ok (.iconst 0, 1) := by decide +kernel
theorem dX11_refusals_13 : decode cX11_refusals 13 = .ok (.bipush 9, 2) := by decide +kernel
theorem dX11_refusals_15 : decode cX11_refusals 15 = .ok (.invokestatic 83, 3) := by decide +kernel
theorem dX11_refusals_18 : decode cX11_refusals 18 = .ok (.ifCond .eq 13, 3) := by decide +kernel
theorem dX11_refusals_21 : decode cX11_refusals 21 = .ok (.iload_n 3, 1) := by decide +kernel
theorem dX11_refusals_22 : decode cX11_refusals 22 = .ok (.iconst 0, 1) := by decide +kernel
theorem dX11_refusals_23 : decode cX11_refusals 23 = .ok (.bipush 10, 2) := by decide +kernel
theorem dX11_refusals_25 : decode cX11_refusals 25 = .ok (.invokestatic 83, 3) := by decide +kernel
theorem dX11_refusals_28 : decode cX11_refusals 28 = .ok (.ifCond .ne 10, 3) := by decide +kernel
theorem dX11_refusals_31 : decode cX11_refusals 31 = .ok (.aload_n 0, 1) := by decide +kernel
theorem dX11_refusals_32 : decode cX11_refusals 32 = .ok (.bipush (-2), 2) := by decide +kernel
theorem dX11_refusals_34 : decode cX11_refusals 34 = .ok (.invokevirtual 87, 3) := by decide +kernel
theorem dX11_refusals_37 : decode cX11_refusals 37 = .ok (.ireturn, 1) := by decide +kernel
theorem dX11_refusals_38 : decode cX11_refusals 38 = .ok (.lconst 1, 1) := by decide +kernel
theorem dX11_refusals_39 : decode cX11_refusals 39 = .ok (.lstore 4, 2) := by decide +kernel
theorem dX11_refusals_41 : decode cX11_refusals 41 = .ok (.lconst 1, 1) := by decide +kernel
theorem dX11_refusals_42 : decode cX11_refusals 42 = .ok (.lstore 6, 2) := by decide +kernel
theorem dX11_refusals_44 : decode cX11_refusals 44 = .ok (.iconst 0, 1) := by decide +kernel
theorem dX11_refusals_45 : decode cX11_refusals 45 = .ok (.istore 8, 2) := by decide +kernel
theorem dX11_refusals_47 : decode cX11_refusals 47 = .ok (.iload 8, 2) := by decide +kernel
theorem dX11_refusals_49 : decode cX11_refusals 49 = .ok (.bipush 7, 2) := by decide +kernel
theorem dX11_refusals_51 : decode cX11_refusals 51 = .ok (.if_icmp .ge 68, 3) := by decide +kernel
theorem dX11_refusals_54 : decode cX11_refusals 54 = .ok (.iload_n 1, 1) := by decide +kernel
theorem dX11_refusals_55 : decode cX11_refusals 55 = .ok (.iload 8, 2) := by decide +kernel
theorem dX11_refusals_57 : decode cX11_refusals 57 = .ok (.invokestatic 237, 3) := by decide +kernel
theorem dX11_refusals_60 : decode cX11_refusals 60 = .ok (.ifCond .eq 53, 3) := by decide +kernel
theorem dX11_refusals_63 : decode cX11_refusals 63 = .ok (.aload_n 0, 1) := by decide +kernel
theorem dX11_refusals_64 : decode cX11_refusals 64 = .ok (.getfield 10, 3) := by decide +kernel
theorem dX11_refusals_67 : decode cX11_refusals 67 = .ok (.getfield 141, 3) := by decide +kernel
theorem dX11_refusals_70 : decode cX11_refusals 70 = .ok (.iload 8, 2) := by decide +kernel
theorem dX11_refusals_72 : decode cX11_refusals 72 = .ok (.invokevirtual 144, 3) := by decide +kernel
theorem dX11_refusals_75 : decode cX11_refusals 75 = .ok (.ifCond .ne 38, 3) := by decide +kernel
theorem dX11_refusals_78 : decode cX11_refusals 78 = .ok (.lload 4, 2) := by decide +kernel
theorem dX11_refusals_80 : decode cX11_refusals 80 = .ok (.aload_n 0, 1) := by decide +kernel
theorem dX11_refusals_81 : decode cX11_refusals 81 = .ok (.getfield 10, 3) := by decide +kernel
theorem dX11_refusals_84 : decode cX11_refusals 84 = .ok (.iload 8, 2) := by decide +kernel
theorem dX11_refusals_86 : decode cX11_refusals 86 = .ok (.iload_n 2, 1) := by decide +kernel
theorem dX11_refusals_87 : decode cX11_refusals 87 = .ok (.invokevirtual 314, 3) := by decide +kernel
theorem dX11_refusals_90 : decode cX11_refusals 90 = .ok (.ifCond .eq 11, 3) := by decide +kernel
theorem dX11_refusals_93 : decode cX11_refusals 93 = .ok (.bipush 10, 2) := by decide +kernel
theorem dX11_refusals_95 : decode cX11_refusals 95 = .ok (.iload_n 3, 1) := by decide +kernel
theorem dX11_refusals_96 : decode cX11_refusals 96 = .ok (.isub, 1) := by decide +kernel
theorem dX11_refusals_97 : decode cX11_refusals 97 = .ok (.i2l, 1) := by decide +kernel
theorem dX11_refusals_98 : decode cX11_refusals 98 = .ok (.goto 4, 3) := by decide +kernel
theorem dX11_refusals_101 : decode cX11_refusals 101 = .ok (.lconst 0, 1) := by decide +kernel
theorem dX11_refusals_102 : decode cX11_refusals 102 = .ok (.lmul, 1) := by decide +kernel
theorem dX11_refusals_103 : decode cX11_refusals 103 = .ok (.lstore 4, 2) := by decide +kernel
theorem dX11_refusals_105 : decode cX11_refusals 105 = .ok (.lload 6, 2) := by decide +kernel
theorem dX11_refusals_107 : decode cX11_refusals 107 = .ok (.ldc2_w 317, 3) := by decide +kernel
theorem dX11_refusals_110 : decode cX11_refusals 110 = .ok (.lmul, 1) := by decide +kernel
theorem dX11_refusals_111 : decode cX11_refusals 111 = .ok (.lstore 6, 2) := by decide +kernel
theorem dX11_refusals_113 : decode cX11_refusals 113 = .ok (.iinc 8 1, 3) := by decide +kernel
theorem dX11_refusals_116 : decode cX11_refusals 116 = .ok (.goto (-69), 3) := by decide +kernel
theorem dX11_refusals_119 : decode cX11_refusals 119 = .ok (.aload_n 0, 1) := by decide +kernel
theorem dX11_refusals_120 : decode cX11_refusals 120 = .ok (.lload 4, 2) := by decide +kernel
theorem dX11_refusals_122 : decode cX11_refusals 122 = .ok (.lload 6, 2) := by decide +kernel
theorem dX11_refusals_124 : decode cX11_refusals 124 = .ok (.invokevirtual 319, 3) := by decide +kernel
theorem dX11_refusals_127 : decode cX11_refusals 127 = .ok (.iconst 1, 1) := by decide +kernel
theorem dX11_refusals_128 : decode cX11_refusals 128 = .ok (.ireturn, 1) := by decide +kernel
set_option maxRecDepth 20000 in
theorem ggX11_years_X11_between : GoodIn wsX11_years wsX11_between := goodIn_r _ [16] (by decide +kernel) (by decide +kernel)
set_option maxRecDepth 20000 in
theorem gX11_years_X11_between : GoodIn wsX11_years (va_wsS RX11 83 yX11_between wsX11_between) := goodIn_app (goodIn_of _ (by decide +kernel)) ggX11_years_X11_between
set_option maxRecDepth 20000 in
theorem ggX11_years_X11_refuseBad : GoodIn wsX11_years wsX11_refuseBad := goodIn_r _ [20, 21, 110, 111, 112, 113, 114, 115, 116, 117, 118, 119, 120, 121, 122, 123, 124] (by decide +kernel) (by decide +kernel)
set_option maxRecDepth 20000 in
theorem gX11_years_X11_refuseBad : GoodIn wsX11_years (wsV RX11 87 RX11 yX11_refuseBad wsX11_refuseBad) := goodIn_app (goodIn_of _ (by decide +kernel)) ggX11_years_X11_refuseBad
set_option maxRecDepth 20000 in
theorem ggX11_years_X4_take : GoodIn wsX11_years wsX4_take := goodIn_r _ [26, 27, 28, 29, 30, 31, 32, 33, 34, 35, 36, 37, 38, 39, 40, 41, 42, 43, 44, 45, 46, 47, 48, 49, 134, 135, 136, 137, 138, 139] (by decide +kernel) (by decide +kernel)
set_option maxRecDepth 20000 in
theorem gX11_years_X4_take : GoodIn wsX11_years (wsV RX11 324 RX4 yX4_take wsX4_take) := goodIn_app (goodIn_of _ (by decide +kernel)) ggX11_years_X4_take
set_option maxRecDepth 20000 in
theorem ggX11_years_X3_hasKeeper : GoodIn wsX11_years wsX3_hasKeeper := goodIn_r _ [54, 55, 56, 57, 53, 58, 59, 60, 61, 62, 34, 63, 36, 14, 15, 16, 125, 126, 127, 128, 129, 130, 131, 132, 133, 138, 139] (by decide +kernel) (by decide +kernel)
set_option maxRecDepth 20000 in
theorem gX11_years_X3_hasKeeper : GoodIn wsX11_years (wsV RX11 109 RX3 yX3_hasKeeper wsX3_hasKeeper) := goodIn_app (goodIn_of _ (by decide +kernel)) ggX11_years_X3_hasKeeper
set_option maxRecDepth 20000 in
theorem ggX11_years_X4_isLent : GoodIn wsX11_years wsX4_isLent := goodIn_r _ [67, 28, 68, 15, 69, 134, 135, 136, 137] (by decide +kernel) (by decide +kernel)
set_option maxRecDepth 20000 in
theorem gX11_years_X4_isLent : GoodIn wsX11_years (wsV RX11 144 RX4 yX4_isLent wsX4_isLent) := goodIn_app (goodIn_of _ (by decide +kernel)) ggX11_years_X4_isLent
set_option maxRecDepth 20000 in
theorem ggX11_years_X7_at : GoodIn wsX11_years wsX7_at := goodIn_r _ [44, 36, 45, 138, 139] (by decide +kernel) (by decide +kernel)
set_option maxRecDepth 20000 in
theorem gX11_years_X7_at : GoodIn wsX11_years (wsV RX11 115 RX7 yX7_at wsX7_at) := goodIn_app (goodIn_of _ (by decide +kernel)) ggX11_years_X7_at
set_option maxRecDepth 20000 in
theorem ggX11_years_X4_bringGift : GoodIn wsX11_years wsX4_bringGift := goodIn_r _ [74, 30, 27, 28, 75, 76, 77, 78, 79, 80, 81, 82, 42, 43, 34, 44, 36, 45, 83, 84, 85, 86, 87, 88, 89, 90, 91, 92, 93, 134, 135, 136, 137, 138, 139] (by decide +kernel) (by decide +kernel)
set_option maxRecDepth 20000 in
theorem gX11_years_X4_bringGift : GoodIn wsX11_years (wsV RX11 153 RX4 yX4_bringGift wsX4_bringGift) := goodIn_app (goodIn_of _ (by decide +kernel)) ggX11_years_X4_bringGift
set_option maxRecDepth 20000 in
theorem ggX11_years_X4_passDay : GoodIn wsX11_years wsX4_passDay := goodIn_r _ [97, 29, 27, 30, 28, 98, 61, 62, 34, 63, 36, 82, 42, 43, 44, 45, 99, 100, 85, 101, 102, 76, 77, 78, 103, 104, 105, 90, 91, 92, 93, 106, 107, 108, 109, 134, 135, 136, 137, 138, 139] (by decide +kernel) (by decide +kernel)
set_option maxRecDepth 20000 in
theorem gX11_years_X4_passDay : GoodIn wsX11_years (wsV RX11 339 RX4 yX4_passDay wsX4_passDay) := goodIn_app (goodIn_of _ (by decide +kernel)) ggX11_years_X4_passDay
theorem dX11_years_0 : decode cX11_years 0 = .ok (.iload_n 1, 1) := by decide +kernel
theorem dX11_years_1 : decode cX11_years 1 = .ok (.iconst 0, 1) := by decide +kernel
theorem dX11_years_2 : decode cX11_years 2 = .ok (.ldc_w 323, 3) := by decide +kernel
theorem dX11_years_5 : decode cX11_years 5 = .ok (.invokestatic 83, 3) := by decide +kernel
theorem dX11_years_8 : decode cX11_years 8 = .ok (.ifCond .eq 13, 3) := by decide +kernel
theorem dX11_years_11 : decode cX11_years 11 = .ok (.iload_n 2, 1) := by decide +kernel
theorem dX11_years_12 : decode cX11_years 12 = .ok (.iconst 0, 1) := by decide +kernel
theorem dX11_years_13 : decode cX11_years 13 = .ok (.bipush 60, 2) := by decide +kernel
theorem dX11_years_15 : decode cX11_years 15 = .ok (.invokestatic 83, 3) := by decide +kernel
theorem dX11_years_18 : decode cX11_years 18 = .ok (.ifCond .ne 10, 3) := by decide +kernel
theorem dX11_years_21 : decode cX11_years 21 = .ok (.aload_n 0, 1) := by decide +kernel
theorem dX11_years_22 : decode cX11_years 22 = .ok (.bipush (-2), 2) := by decide +kernel
theorem dX11_years_24 : decode cX11_years 24 = .ok (.invokevirtual 87, 3) := by decide +kernel
theorem dX11_years_27 : decode cX11_years 27 = .ok (.ireturn, 1) := by decide +kernel
theorem dX11_years_28 : decode cX11_years 28 = .ok (.aload_n 0, 1) := by decide +kernel
theorem dX11_years_29 : decode cX11_years 29 = .ok (.getfield 43, 3) := by decide +kernel
theorem dX11_years_32 : decode cX11_years 32 = .ok (.aload_n 0, 1) := by decide +kernel
theorem dX11_years_33 : decode cX11_years 33 = .ok (.getfield 10, 3) := by decide +kernel
theorem dX11_years_36 : decode cX11_years 36 = .ok (.getfield 141, 3) := by decide +kernel
theorem dX11_years_39 : decode cX11_years 39 = .ok (.invokevirtual 324, 3) := by decide +kernel
theorem dX11_years_42 : decode cX11_years 42 = .ok (.iload_n 1, 1) := by decide +kernel
theorem dX11_years_43 : decode cX11_years 43 = .ok (.i2l, 1) := by decide +kernel
theorem dX11_years_44 : decode cX11_years 44 = .ok (.lstore_n 3, 1) := by decide +kernel
theorem dX11_years_45 : decode cX11_years 45 = .ok (.iconst 0, 1) := by decide +kernel
theorem dX11_years_46 : decode cX11_years 46 = .ok (.istore 5, 2) := by decide +kernel
theorem dX11_years_48 : decode cX11_years 48 = .ok (.iconst 0, 1) := by decide +kernel
theorem dX11_years_49 : decode cX11_years 49 = .ok (.istore 6, 2) := by decide +kernel
theorem dX11_years_51 : decode cX11_years 51 = .ok (.iload 6, 2) := by decide +kernel
theorem dX11_years_53 : decode cX11_years 53 = .ok (.iload_n 2, 1) := by decide +kernel
theorem dX11_years_54 : decode cX11_years 54 = .ok (.if_icmp .ge 114, 3) := by decide +kernel
theorem dX11_years_57 : decode cX11_years 57 = .ok (.lload_n 3, 1) := by decide +kernel
theorem dX11_years_58 : decode cX11_years 58 = .ok (.ldc2_w 327, 3) := by decide +kernel
theorem dX11_years_61 : decode cX11_years 61 = .ok (.lmul, 1) := by decide +kernel
theorem dX11_years_62 : decode cX11_years 62 = .ok (.ldc2_w 329, 3) := by decide +kernel
theorem dX11_years_65 : decode cX11_years 65 = .ok (.ladd, 1) := by decide +kernel
theorem dX11_years_66 : decode cX11_years 66 = .ok (.ldc2_w 331, 3) := by decide +kernel
theorem dX11_years_69 : decode cX11_years 69 = .ok (.lrem, 1) := by decide +kernel
theorem dX11_years_70 : decode cX11_years 70 = .ok (.lstore_n 3, 1) := by decide +kernel
theorem dX11_years_71 : decode cX11_years 71 = .ok (.lload_n 3, 1) := by decide +kernel
theorem dX11_years_72 : decode cX11_years 72 = .ok (.ldc2_w 333, 3) := by decide +kernel
theorem dX11_years_75 : decode cX11_years 75 = .ok (.ldiv, 1) := by decide +kernel
theorem dX11_years_76 : decode cX11_years 76 = .ok (.ldc2_w 335, 3) := by decide +kernel
theorem dX11_years_79 : decode cX11_years 79 = .ok (.lrem, 1) := by decide +kernel
theorem dX11_years_80 : decode cX11_years 80 = .ok (.l2i, 1) := by decide +kernel
theorem dX11_years_81 : decode cX11_years 81 = .ok (.istore 7, 2) := by decide +kernel
theorem dX11_years_83 : decode cX11_years 83 = .ok (.lload_n 3, 1) := by decide +kernel
theorem dX11_years_84 : decode cX11_years 84 = .ok (.ldc2_w 337, 3) := by decide +kernel
theorem dX11_years_87 : decode cX11_years 87 = .ok (.ldiv, 1) := by decide +kernel
theorem dX11_years_88 : decode cX11_years 88 = .ok (.ldc2_w 317, 3) := by decide +kernel
theorem dX11_years_91 : decode cX11_years 91 = .ok (.lrem, 1) := by decide +kernel
theorem dX11_years_92 : decode cX11_years 92 = .ok (.l2i, 1) := by decide +kernel
theorem dX11_years_93 : decode cX11_years 93 = .ok (.istore 8, 2) := by decide +kernel
theorem dX11_years_95 : decode cX11_years 95 = .ok (.aload_n 0, 1) := by decide +kernel
theorem dX11_years_96 : decode cX11_years 96 = .ok (.getfield 10, 3) := by decide +kernel
theorem dX11_years_99 : decode cX11_years 99 = .ok (.iload 7, 2) := by decide +kernel
theorem dX11_years_101 : decode cX11_years 101 = .ok (.invokevirtual 109, 3) := by decide +kernel
theorem dX11_years_104 : decode cX11_years 104 = .ok (.ifCond .eq 44, 3) := by decide +kernel
theorem dX11_years_107 : decode cX11_years 107 = .ok (.aload_n 0, 1) := by decide +kernel
theorem dX11_years_108 : decode cX11_years 108 = .ok (.getfield 43, 3) := by decide +kernel
theorem dX11_years_111 : decode cX11_years 111 = .ok (.iload 7, 2) := by decide +kernel
theorem dX11_years_113 : decode cX11_years 113 = .ok (.invokevirtual 144, 3) := by decide +kernel
theorem dX11_years_116 : decode cX11_years 116 = .ok (.ifCond .ne 32, 3) := by decide +kernel
theorem dX11_years_119 : decode cX11_years 119 = .ok (.aload_n 0, 1) := by decide +kernel
theorem dX11_years_120 : decode cX11_years 120 = .ok (.getfield 43, 3) := by decide +kernel
theorem dX11_years_123 : decode cX11_years 123 = .ok (.iload 7, 2) := by decide +kernel
theorem dX11_years_125 : decode cX11_years 125 = .ok (.aload_n 0, 1) := by decide +kernel
theorem dX11_years_126 : decode cX11_years 126 = .ok (.getfield 10, 3) := by decide +kernel
theorem dX11_years_129 : decode cX11_years 129 = .ok (.getfield 91, 3) := by decide +kernel
theorem dX11_years_132 : decode cX11_years 132 = .ok (.iload 7, 2) := by decide +kernel
theorem dX11_years_134 : decode cX11_years 134 = .ok (.invokevirtual 115, 3) := by decide +kernel
theorem dX11_years_137 : decode cX11_years 137 = .ok (.iload 8, 2) := by decide +kernel
theorem dX11_years_139 : decode cX11_years 139 = .ok (.invokevirtual 153, 3) := by decide +kernel
theorem dX11_years_142 : decode cX11_years 142 = .ok (.ifCond .eq 6, 3) := by decide +kernel
theorem dX11_years_145 : decode cX11_years 145 = .ok (.iinc 5 1, 3) := by decide +kernel
theorem dX11_years_148 : decode cX11_years 148 = .ok (.aload_n 0, 1) := by decide +kernel
theorem dX11_years_149 : decode cX11_years 149 = .ok (.getfield 43, 3) := by decide +kernel
theorem dX11_years_152 : decode cX11_years 152 = .ok (.aload_n 0, 1) := by decide +kernel
theorem dX11_years_153 : decode cX11_years 153 = .ok (.getfield 10, 3) := by decide +kernel
theorem dX11_years_156 : decode cX11_years 156 = .ok (.getfield 91, 3) := by decide +kernel
theorem dX11_years_159 : decode cX11_years 159 = .ok (.invokevirtual 339, 3) := by decide +kernel
theorem dX11_years_162 : decode cX11_years 162 = .ok (.iinc 6 1, 3) := by decide +kernel
theorem dX11_years_165 : decode cX11_years 165 = .ok (.goto (-114), 3) := by decide +kernel
theorem dX11_years_168 : decode cX11_years 168 = .ok (.iload 5, 2) := by decide +kernel
theorem dX11_years_170 : decode cX11_years 170 = .ok (.ireturn, 1) := by decide +kernel
set_option maxRecDepth 20000 in
theorem ggX11_part_X11_between : GoodIn wsX11_part wsX11_between := goodIn_r _ [6] (by decide +kernel) (by decide +kernel)
set_option maxRecDepth 20000 in
theorem gX11_part_X11_between : GoodIn wsX11_part (va_wsS RX11 83 yX11_between wsX11_between) := goodIn_app (goodIn_of _ (by decide +kernel)) ggX11_part_X11_between
set_option maxRecDepth 20000 in
theorem ggX11_part_X11_refuseBad : GoodIn wsX11_part wsX11_refuseBad := goodIn_r _ [10, 11, 12, 13, 14, 15, 16, 17, 18, 19, 20, 21, 22, 23, 24, 25, 26] (by decide +kernel) (by decide +kernel)
set_option maxRecDepth 20000 in
theorem gX11_part_X11_refuseBad : GoodIn wsX11_part (wsV RX11 87 RX11 yX11_refuseBad wsX11_refuseBad) := goodIn_app (goodIn_of _ (by decide +kernel)) ggX11_part_X11_refuseBad
theorem dX11_part_0 : decode cX11_part 0 = .ok (.iload_n 1, 1) := by decide +kernel
theorem dX11_part_1 : decode cX11_part 1 = .ok (.iconst 0, 1) := by decide +kernel
theorem dX11_part_2 : decode cX11_part 2 = .ok (.iconst 1, 1) := by decide +kernel
theorem dX11_part_3 : decode cX11_part 3 = .ok (.invokestatic 83, 3) := by decide +kernel
theorem dX11_part_6 : decode cX11_part 6 = .ok (.ifCond .ne 11, 3) := by decide +kernel
theorem dX11_part_9 : decode cX11_part 9 = .ok (.aload_n 0, 1) := by decide +kernel
theorem dX11_part_10 : decode cX11_part 10 = .ok (.bipush (-2), 2) := by decide +kernel
theorem dX11_part_12 : decode cX11_part 12 = .ok (.invokevirtual 87, 3) := by decide +kernel
theorem dX11_part_15 : decode cX11_part 15 = .ok (.i2l, 1) := by decide +kernel
theorem dX11_part_16 : decode cX11_part 16 = .ok (.lreturn, 1) := by decide +kernel
theorem dX11_part_17 : decode cX11_part 17 = .ok (.iload_n 1, 1) := by decide +kernel
theorem dX11_part_18 : decode cX11_part 18 = .ok (.ifCond .ne 10, 3) := by decide +kernel
theorem dX11_part_21 : decode cX11_part 21 = .ok (.aload_n 0, 1) := by decide +kernel
theorem dX11_part_22 : decode cX11_part 22 = .ok (.getfield 342, 3) := by decide +kernel
theorem dX11_part_25 : decode cX11_part 25 = .ok (.goto 7, 3) := by decide +kernel
theorem dX11_part_28 : decode cX11_part 28 = .ok (.aload_n 0, 1) := by decide +kernel
theorem dX11_part_29 : decode cX11_part 29 = .ok (.getfield 68, 3) := by decide +kernel
theorem dX11_part_32 : decode cX11_part 32 = .ok (.lreturn, 1) := by decide +kernel
set_option maxRecDepth 20000 in
theorem ggX11_image_X11_between : GoodIn wsX11_image wsX11_between := goodIn_r _ [6] (by decide +kernel) (by decide +kernel)
set_option maxRecDepth 20000 in
theorem gX11_image_X11_between : GoodIn wsX11_image (va_wsS RX11 83 yX11_between wsX11_between) := goodIn_app (goodIn_of _ (by decide +kernel)) ggX11_image_X11_between
set_option maxRecDepth 20000 in
theorem ggX11_image_X11_refuseBad : GoodIn wsX11_image wsX11_refuseBad := goodIn_r _ [10, 11, 61, 62, 63, 64, 65, 66, 67, 68, 69, 70, 71, 72, 73, 74, 75] (by decide +kernel) (by decide +kernel)
set_option maxRecDepth 20000 in
theorem gX11_image_X11_refuseBad : GoodIn wsX11_image (wsV RX11 87 RX11 yX11_refuseBad wsX11_refuseBad) := goodIn_app (goodIn_of _ (by decide +kernel)) ggX11_image_X11_refuseBad
set_option maxRecDepth 20000 in
theorem ggX11_image_X11_imageNumber : GoodIn wsX11_image wsX11_imageNumber := goodIn_r _ [15, 16, 17, 61, 62, 63, 64, 65, 66, 67, 68, 69, 70, 71, 72, 73, 74, 75] (by decide +kernel) (by decide +kernel)
set_option maxRecDepth 20000 in
theorem gX11_image_X11_imageNumber : GoodIn wsX11_image (wsV RX11 345 RX11 yX11_imageNumber wsX11_imageNumber) := goodIn_app (goodIn_of _ (by decide +kernel)) ggX11_image_X11_imageNumber
set_option maxRecDepth 20000 in
theorem ggX11_image_X3_take : GoodIn wsX11_image wsX3_take := goodIn_r _ [22, 23, 24, 25, 26, 27, 28, 29, 30, 31, 32, 33, 34, 35, 36, 37, 38, 39, 40, 41, 42, 43, 44, 45, 46, 47, 48, 49, 50, 51, 52, 53, 54, 55, 56, 57, 58, 59, 60, 76, 77, 78, 79, 80, 81, 82, 83, 84, 85, 86, 87, 88, 89, 90] (by decide +kernel) (by decide +kernel)
set_option maxRecDepth 20000 in
theorem gX11_image_X3_take : GoodIn wsX11_image (wsV RX11 137 RX3 yX3_take wsX3_take) := goodIn_app (goodIn_of _ (by decide +kernel)) ggX11_image_X3_take
theorem dX11_image_0 : decode cX11_image 0 = .ok (.iload_n 1, 1) := by decide +kernel
theorem dX11_image_1 : decode cX11_image 1 = .ok (.iconst 0, 1) := by decide +kernel
theorem dX11_image_2 : decode cX11_image 2 = .ok (.iconst 1, 1) := by decide +kernel
theorem dX11_image_3 : decode cX11_image 3 = .ok (.invokestatic 83, 3) := by decide +kernel
theorem dX11_image_6 : decode cX11_image 6 = .ok (.ifCond .ne 10, 3) := by decide +kernel
theorem dX11_image_9 : decode cX11_image 9 = .ok (.aload_n 0, 1) := by decide +kernel
theorem dX11_image_10 : decode cX11_image 10 = .ok (.bipush (-2), 2) := by decide +kernel
theorem dX11_image_12 : decode cX11_image 12 = .ok (.invokevirtual 87, 3) := by decide +kernel
theorem dX11_image_15 : decode cX11_image 15 = .ok (.ireturn, 1) := by decide +kernel
theorem dX11_image_16 : decode cX11_image 16 = .ok (.aload_n 0, 1) := by decide +kernel
theorem dX11_image_17 : decode cX11_image 17 = .ok (.iload_n 1, 1) := by decide +kernel
theorem dX11_image_18 : decode cX11_image 18 = .ok (.invokevirtual 345, 3) := by decide +kernel
theorem dX11_image_21 : decode cX11_image 21 = .ok (.aload_n 0, 1) := by decide +kernel
theorem dX11_image_22 : decode cX11_image 22 = .ok (.getfield 10, 3) := by decide +kernel
theorem dX11_image_25 : decode cX11_image 25 = .ok (.invokevirtual 137, 3) := by decide +kernel
theorem dX11_image_28 : decode cX11_image 28 = .ok (.aload_n 0, 1) := by decide +kernel
theorem dX11_image_29 : decode cX11_image 29 = .ok (.dup, 1) := by decide +kernel
theorem dX11_image_30 : decode cX11_image 30 = .ok (.getfield 349, 3) := by decide +kernel
theorem dX11_image_33 : decode cX11_image 33 = .ok (.iconst 1, 1) := by decide +kernel
theorem dX11_image_34 : decode cX11_image 34 = .ok (.iload_n 1, 1) := by decide +kernel
theorem dX11_image_35 : decode cX11_image 35 = .ok (.ishl, 1) := by decide +kernel
theorem dX11_image_36 : decode cX11_image 36 = .ok (.ior, 1) := by decide +kernel
theorem dX11_image_37 : decode cX11_image 37 = .ok (.putfield 349, 3) := by decide +kernel
theorem dX11_image_40 : decode cX11_image 40 = .ok (.iconst 1, 1) := by decide +kernel
theorem dX11_image_41 : decode cX11_image 41 = .ok (.ireturn, 1) := by decide +kernel
set_option maxRecDepth 20000 in
theorem ggX11_from_X11_between : GoodIn wsX11_from wsX11_between := goodIn_r _ [6] (by decide +kernel) (by decide +kernel)
set_option maxRecDepth 20000 in
theorem gX11_from_X11_between : GoodIn wsX11_from (va_wsS RX11 83 yX11_between wsX11_between) := goodIn_app (goodIn_of _ (by decide +kernel)) ggX11_from_X11_between
set_option maxRecDepth 20000 in
theorem ggX11_from_X11_refuseBad : GoodIn wsX11_from wsX11_refuseBad := goodIn_r _ [10, 11, 69, 70, 71, 72, 73, 74, 75, 76, 77, 78, 79, 80, 81, 82, 83] (by decide +kernel) (by decide +kernel)
set_option maxRecDepth 20000 in
theorem gX11_from_X11_refuseBad : GoodIn wsX11_from (wsV RX11 87 RX11 yX11_refuseBad wsX11_refuseBad) := goodIn_app (goodIn_of _ (by decide +kernel)) ggX11_from_X11_refuseBad
set_option maxRecDepth 20000 in
theorem ggX11_from_X11_hasBit : GoodIn wsX11_from wsX11_hasBit := goodIn_r _ [14] (by decide +kernel) (by decide +kernel)
set_option maxRecDepth 20000 in
theorem gX11_from_X11_hasBit : GoodIn wsX11_from (va_wsS RX11 237 yX11_hasBit wsX11_hasBit) := goodIn_app (goodIn_of _ (by decide +kernel)) ggX11_from_X11_hasBit
set_option maxRecDepth 20000 in
theorem ggX11_from_X11_refuseNo : GoodIn wsX11_from wsX11_refuseNo := goodIn_r _ [18, 19, 69, 70, 71, 72, 73, 74, 75, 76, 77, 78, 79, 80, 81, 82, 83] (by decide +kernel) (by decide +kernel)
set_option maxRecDepth 20000 in
theorem gX11_from_X11_refuseNo : GoodIn wsX11_from (wsV RX11 147 RX11 yX11_refuseNo wsX11_refuseNo) := goodIn_app (goodIn_of _ (by decide +kernel)) ggX11_from_X11_refuseNo
set_option maxRecDepth 20000 in
theorem ggX11_from_X11_imageNumber : GoodIn wsX11_from wsX11_imageNumber := goodIn_r _ [23, 24, 25, 69, 70, 71, 72, 73, 74, 75, 76, 77, 78, 79, 80, 81, 82, 83] (by decide +kernel) (by decide +kernel)
set_option maxRecDepth 20000 in
theorem gX11_from_X11_imageNumber : GoodIn wsX11_from (wsV RX11 345 RX11 yX11_imageNumber wsX11_imageNumber) := goodIn_app (goodIn_of _ (by decide +kernel)) ggX11_from_X11_imageNumber
set_option maxRecDepth 20000 in
theorem ggX11_from_X3_take : GoodIn wsX11_from wsX3_take := goodIn_r _ [30, 31, 32, 33, 34, 35, 36, 37, 38, 39, 40, 41, 42, 43, 44, 45, 46, 47, 48, 49, 50, 51, 52, 53, 54, 55, 56, 57, 58, 59, 60, 61, 62, 63, 64, 65, 66, 67, 68, 84, 85, 86, 87, 88, 89, 90, 91, 92, 93, 94, 95, 96, 97, 98] (by decide +kernel) (by decide +kernel)
set_option maxRecDepth 20000 in
theorem gX11_from_X3_take : GoodIn wsX11_from (wsV RX11 137 RX3 yX3_take wsX3_take) := goodIn_app (goodIn_of _ (by decide +kernel)) ggX11_from_X3_take
theorem dX11_from_0 : decode cX11_from 0 = .ok (.iload_n 1, 1) := by decide +kernel
theorem dX11_from_1 : decode cX11_from 1 = .ok (.iconst 0, 1) := by decide +kernel
theorem dX11_from_2 : decode cX11_from 2 = .ok (.iconst 1, 1) := by decide +kernel
theorem dX11_from_3 : decode cX11_from 3 = .ok (.invokestatic 83, 3) := by decide +kernel
theorem dX11_from_6 : decode cX11_from 6 = .ok (.ifCond .ne 10, 3) := by decide +kernel
theorem dX11_from_9 : decode cX11_from 9 = .ok (.aload_n 0, 1) := by decide +kernel
theorem dX11_from_10 : decode cX11_from 10 = .ok (.bipush (-2), 2) := by decide +kernel
theorem dX11_from_12 : decode cX11_from 12 = .ok (.invokevirtual 87, 3) := by decide +kernel
theorem dX11_from_15 : decode cX11_from 15 = .ok (.ireturn, 1) := by decide +kernel
theorem dX11_from_16 : decode cX11_from 16 = .ok (.aload_n 0, 1) := by decide +kernel
theorem dX11_from_17 : decode cX11_from 17 = .ok (.getfield 349, 3) := by decide +kernel
theorem dX11_from_20 : decode cX11_from 20 = .ok (.iload_n 1, 1) := by decide +kernel
theorem dX11_from_21 : decode cX11_from 21 = .ok (.invokestatic 237, 3) := by decide +kernel
theorem dX11_from_24 : decode cX11_from 24 = .ok (.ifCond .ne 8, 3) := by decide +kernel
theorem dX11_from_27 : decode cX11_from 27 = .ok (.aload_n 0, 1) := by decide +kernel
theorem dX11_from_28 : decode cX11_from 28 = .ok (.invokevirtual 147, 3) := by decide +kernel
theorem dX11_from_31 : decode cX11_from 31 = .ok (.ireturn, 1) := by decide +kernel
theorem dX11_from_32 : decode cX11_from 32 = .ok (.aload_n 0, 1) := by decide +kernel
theorem dX11_from_33 : decode cX11_from 33 = .ok (.getfield 10, 3) := by decide +kernel
theorem dX11_from_36 : decode cX11_from 36 = .ok (.aload_n 0, 1) := by decide +kernel
theorem dX11_from_37 : decode cX11_from 37 = .ok (.iload_n 1, 1) := by decide +kernel
theorem dX11_from_38 : decode cX11_from 38 = .ok (.invokevirtual 345, 3) := by decide +kernel
theorem dX11_from_41 : decode cX11_from 41 = .ok (.invokevirtual 137, 3) := by decide +kernel
theorem dX11_from_44 : decode cX11_from 44 = .ok (.iconst 1, 1) := by decide +kernel
theorem dX11_from_45 : decode cX11_from 45 = .ok (.ireturn, 1) := by decide +kernel
set_option maxRecDepth 20000 in
theorem ggX11_status_X11_refuseBad : GoodIn wsX11_status wsX11_refuseBad := goodIn_r _ [8, 1, 9, 10, 11, 12, 13, 14, 15, 16, 17, 18, 19, 20, 21, 22, 23] (by decide +kernel) (by decide +kernel)
set_option maxRecDepth 20000 in
theorem gX11_status_X11_refuseBad : GoodIn wsX11_status (wsV RX11 87 RX11 yX11_refuseBad wsX11_refuseBad) := goodIn_app (goodIn_of _ (by decide +kernel)) ggX11_status_X11_refuseBad
theorem dX11_status_0 : decode cX11_status 0 = .ok (.iload_n 1, 1) := by decide +kernel
theorem dX11_status_1 : decode cX11_status 1 = .ok (.tableswitch 42 0 2 #[27, 32, 37], 27) := by decide +kernel
theorem dX11_status_28 : decode cX11_status 28 = .ok (.aload_n 0, 1) := by decide +kernel
theorem dX11_status_29 : decode cX11_status 29 = .ok (.getfield 352, 3) := by decide +kernel
theorem dX11_status_32 : decode cX11_status 32 = .ok (.ireturn, 1) := by decide +kernel
theorem dX11_status_33 : decode cX11_status 33 = .ok (.aload_n 0, 1) := by decide +kernel
theorem dX11_status_34 : decode cX11_status 34 = .ok (.getfield 355, 3) := by decide +kernel
theorem dX11_status_37 : decode cX11_status 37 = .ok (.ireturn, 1) := by decide +kernel
theorem dX11_status_38 : decode cX11_status 38 = .ok (.aload_n 0, 1) := by decide +kernel
theorem dX11_status_39 : decode cX11_status 39 = .ok (.getfield 358, 3) := by decide +kernel
theorem dX11_status_42 : decode cX11_status 42 = .ok (.ireturn, 1) := by decide +kernel
theorem dX11_status_43 : decode cX11_status 43 = .ok (.aload_n 0, 1) := by decide +kernel
theorem dX11_status_44 : decode cX11_status 44 = .ok (.iconst (-1), 1) := by decide +kernel
theorem dX11_status_45 : decode cX11_status 45 = .ok (.invokevirtual 87, 3) := by decide +kernel
theorem dX11_status_48 : decode cX11_status 48 = .ok (.ireturn, 1) := by decide +kernel
set_option maxRecDepth 20000 in
theorem ggX11_count_X11_between : GoodIn wsX11_count wsX11_between := goodIn_r _ [4] (by decide +kernel) (by decide +kernel)
set_option maxRecDepth 20000 in
theorem gX11_count_X11_between : GoodIn wsX11_count (va_wsS RX11 83 yX11_between wsX11_between) := goodIn_app (goodIn_of _ (by decide +kernel)) ggX11_count_X11_between
set_option maxRecDepth 20000 in
theorem ggX11_count_X11_howMany : GoodIn wsX11_count wsX11_howMany := goodIn_r _ [8, 9, 10, 11, 12, 13, 14, 15, 16, 17, 18, 19, 20, 21, 22, 23, 24, 25, 26, 27, 28, 29, 30, 31, 32, 33, 34, 35, 36, 37, 38, 39, 40, 41, 42, 43, 44, 45, 3, 46, 47, 48, 49, 50, 51, 52, 53, 54, 55, 56, 57, 58, 59, 60, 61, 62, 63, 64, 65, 66, 67, 68, 69, 70, 71, 77, 78, 79, 80, 81, 82, 83, 84, 85, 86, 87, 88, 89, 90, 91, 92, 93, 94, 95, 96, 97, 98, 99, 100, 101, 102, 103, 104, 105, 106] (by decide +kernel) (by decide +kernel)
set_option maxRecDepth 20000 in
theorem gX11_count_X11_howMany : GoodIn wsX11_count (wsV RX11 286 RX11 yX11_howMany wsX11_howMany) := goodIn_app (goodIn_of _ (by decide +kernel)) ggX11_count_X11_howMany
set_option maxRecDepth 20000 in
theorem ggX11_count_X11_refuseBad : GoodIn wsX11_count wsX11_refuseBad := goodIn_r _ [75, 76, 77, 78, 79, 80, 81, 82, 83, 84, 85, 86, 87, 88, 89, 90, 91] (by decide +kernel) (by decide +kernel)
set_option maxRecDepth 20000 in
theorem gX11_count_X11_refuseBad : GoodIn wsX11_count (wsV RX11 87 RX11 yX11_refuseBad wsX11_refuseBad) := goodIn_app (goodIn_of _ (by decide +kernel)) ggX11_count_X11_refuseBad
theorem dX11_count_0 : decode cX11_count 0 = .ok (.iload_n 1, 1) := by decide +kernel
theorem dX11_count_1 : decode cX11_count 1 = .ok (.iconst 0, 1) := by decide +kernel
theorem dX11_count_2 : decode cX11_count 2 = .ok (.bipush 9, 2) := by decide +kernel
theorem dX11_count_4 : decode cX11_count 4 = .ok (.invokestatic 83, 3) := by decide +kernel
theorem dX11_count_7 : decode cX11_count 7 = .ok (.ifCond .eq 11, 3) := by decide +kernel
theorem dX11_count_10 : decode cX11_count 10 = .ok (.aload_n 0, 1) := by decide +kernel
theorem dX11_count_11 : decode cX11_count 11 = .ok (.iload_n 1, 1) := by decide +kernel
theorem dX11_count_12 : decode cX11_count 12 = .ok (.invokevirtual 286, 3) := by decide +kernel
theorem dX11_count_15 : decode cX11_count 15 = .ok (.goto 9, 3) := by decide +kernel
theorem dX11_count_18 : decode cX11_count 18 = .ok (.aload_n 0, 1) := by decide +kernel
theorem dX11_count_19 : decode cX11_count 19 = .ok (.bipush (-2), 2) := by decide +kernel
theorem dX11_count_21 : decode cX11_count 21 = .ok (.invokevirtual 87, 3) := by decide +kernel
theorem dX11_count_24 : decode cX11_count 24 = .ok (.ireturn, 1) := by decide +kernel
set_option maxRecDepth 20000 in
theorem ggX11_digest_X11_howMany : GoodIn wsX11_digest wsX11_howMany := goodIn_r _ [14, 3, 4, 15, 16, 17, 18, 19, 20, 21, 22, 23, 24, 25, 26, 27, 28, 29, 30, 31, 32, 33, 34, 35, 36, 37, 38, 39, 40, 41, 42, 43, 44, 45, 46, 47, 48, 49, 13, 50, 51, 52, 53, 54, 55, 56, 57, 58, 59, 60, 61, 62, 63, 64, 65, 66, 67, 68, 69, 70, 71, 72, 73, 74, 75, 97, 98, 99, 100, 101, 102, 103, 104, 105, 106, 107, 108, 109, 110, 111, 112, 113, 114, 115, 116, 117, 118, 119, 120, 121, 122, 123, 124, 125, 126] (by decide +kernel) (by decide +kernel)
set_option maxRecDepth 20000 in
theorem gX11_digest_X11_howMany : GoodIn wsX11_digest (wsV RX11 286 RX11 yX11_howMany wsX11_howMany) := goodIn_app (goodIn_of _ (by decide +kernel)) ggX11_digest_X11_howMany
set_option maxRecDepth 20000 in
theorem ggX11_digest_X3_keeperCount : GoodIn wsX11_digest wsX3_keeperCount := goodIn_r _ [24, 25, 26, 27, 28, 29, 30, 31, 112, 113, 114, 115, 116, 117, 118, 119, 120, 125, 126] (by decide +kernel) (by decide +kernel)
set_option maxRecDepth 20000 in
theorem gX11_digest_X3_keeperCount : GoodIn wsX11_digest (wsV RX11 72 RX3 yX3_keeperCount wsX3_keeperCount) := goodIn_app (goodIn_of _ (by decide +kernel)) ggX11_digest_X3_keeperCount
set_option maxRecDepth 20000 in
theorem ggX11_digest_X3_toldOf : GoodIn wsX11_digest wsX3_toldOf := goodIn_r _ [79, 25, 80, 81, 82, 83, 84, 85, 52, 53, 29, 54, 31, 55, 86, 87, 88, 89, 90, 91, 49, 13, 50, 112, 113, 114, 115, 116, 117, 118, 119, 120, 121, 122, 123, 124, 125, 126] (by decide +kernel) (by decide +kernel)
set_option maxRecDepth 20000 in
theorem gX11_digest_X3_toldOf : GoodIn wsX11_digest (wsV RX11 178 RX3 yX3_toldOf wsX3_toldOf) := goodIn_app (goodIn_of _ (by decide +kernel)) ggX11_digest_X3_toldOf
set_option maxRecDepth 20000 in
theorem ggX11_digest_X7_mixedInto : GoodIn wsX11_digest wsX7_mixedInto := goodIn_r _ [95, 31, 96, 51, 52, 53, 29, 54, 55, 125, 126] (by decide +kernel) (by decide +kernel)
set_option maxRecDepth 20000 in
theorem gX11_digest_X7_mixedInto : GoodIn wsX11_digest (wsV RX11 365 RX7 yX7_mixedInto wsX7_mixedInto) := goodIn_app (goodIn_of _ (by decide +kernel)) ggX11_digest_X7_mixedInto
theorem dX11_digest_0 : decode cX11_digest 0 = .ok (.ldc2_w 361, 3) := by decide +kernel
theorem dX11_digest_3 : decode cX11_digest 3 = .ok (.lstore_n 1, 1) := by decide +kernel
theorem dX11_digest_4 : decode cX11_digest 4 = .ok (.iconst 0, 1) := by decide +kernel
theorem dX11_digest_5 : decode cX11_digest 5 = .ok (.istore_n 3, 1) := by decide +kernel
theorem dX11_digest_6 : decode cX11_digest 6 = .ok (.iload_n 3, 1) := by decide +kernel
theorem dX11_digest_7 : decode cX11_digest 7 = .ok (.bipush 9, 2) := by decide +kernel
theorem dX11_digest_9 : decode cX11_digest 9 = .ok (.if_icmp .gt 22, 3) := by decide +kernel
theorem dX11_digest_12 : decode cX11_digest 12 = .ok (.ldc2_w 363, 3) := by decide +kernel
theorem dX11_digest_15 : decode cX11_digest 15 = .ok (.lload_n 1, 1) := by decide +kernel
theorem dX11_digest_16 : decode cX11_digest 16 = .ok (.lmul, 1) := by decide +kernel
theorem dX11_digest_17 : decode cX11_digest 17 = .ok (.aload_n 0, 1) := by decide +kernel
theorem dX11_digest_18 : decode cX11_digest 18 = .ok (.iload_n 3, 1) := by decide +kernel
theorem dX11_digest_19 : decode cX11_digest 19 = .ok (.invokevirtual 286, 3) := by decide +kernel
theorem dX11_digest_22 : decode cX11_digest 22 = .ok (.i2l, 1) := by decide +kernel
theorem dX11_digest_23 : decode cX11_digest 23 = .ok (.ladd, 1) := by decide +kernel
theorem dX11_digest_24 : decode cX11_digest 24 = .ok (.lstore_n 1, 1) := by decide +kernel
theorem dX11_digest_25 : decode cX11_digest 25 = .ok (.iinc 3 1, 3) := by decide +kernel
theorem dX11_digest_28 : decode cX11_digest 28 = .ok (.goto (-22), 3) := by decide +kernel
theorem dX11_digest_31 : decode cX11_digest 31 = .ok (.iconst 0, 1) := by decide +kernel
theorem dX11_digest_32 : decode cX11_digest 32 = .ok (.istore_n 3, 1) := by decide +kernel
theorem dX11_digest_33 : decode cX11_digest 33 = .ok (.iload_n 3, 1) := by decide +kernel
theorem dX11_digest_34 : decode cX11_digest 34 = .ok (.aload_n 0, 1) := by decide +kernel
theorem dX11_digest_35 : decode cX11_digest 35 = .ok (.getfield 10, 3) := by decide +kernel
theorem dX11_digest_38 : decode cX11_digest 38 = .ok (.invokevirtual 72, 3) := by decide +kernel
theorem dX11_digest_41 : decode cX11_digest 41 = .ok (.if_icmp .ge 42, 3) := by decide +kernel
theorem dX11_digest_44 : decode cX11_digest 44 = .ok (.iconst 0, 1) := by decide +kernel
theorem dX11_digest_45 : decode cX11_digest 45 = .ok (.istore 4, 2) := by decide +kernel
theorem dX11_digest_47 : decode cX11_digest 47 = .ok (.iload 4, 2) := by decide +kernel
theorem dX11_digest_49 : decode cX11_digest 49 = .ok (.iconst 5, 1) := by decide +kernel
theorem dX11_digest_50 : decode cX11_digest 50 = .ok (.if_icmp .gt 27, 3) := by decide +kernel
theorem dX11_digest_53 : decode cX11_digest 53 = .ok (.ldc2_w 363, 3) := by decide +kernel
theorem dX11_digest_56 : decode cX11_digest 56 = .ok (.lload_n 1, 1) := by decide +kernel
theorem dX11_digest_57 : decode cX11_digest 57 = .ok (.lmul, 1) := by decide +kernel
theorem dX11_digest_58 : decode cX11_digest 58 = .ok (.aload_n 0, 1) := by decide +kernel
theorem dX11_digest_59 : decode cX11_digest 59 = .ok (.getfield 10, 3) := by decide +kernel
theorem dX11_digest_62 : decode cX11_digest 62 = .ok (.iload_n 3, 1) := by decide +kernel
theorem dX11_digest_63 : decode cX11_digest 63 = .ok (.iload 4, 2) := by decide +kernel
theorem dX11_digest_65 : decode cX11_digest 65 = .ok (.invokevirtual 178, 3) := by decide +kernel
theorem dX11_digest_68 : decode cX11_digest 68 = .ok (.i2l, 1) := by decide +kernel
theorem dX11_digest_69 : decode cX11_digest 69 = .ok (.ladd, 1) := by decide +kernel
theorem dX11_digest_70 : decode cX11_digest 70 = .ok (.lstore_n 1, 1) := by decide +kernel
theorem dX11_digest_71 : decode cX11_digest 71 = .ok (.iinc 4 1, 3) := by decide +kernel
theorem dX11_digest_74 : decode cX11_digest 74 = .ok (.goto (-27), 3) := by decide +kernel
theorem dX11_digest_77 : decode cX11_digest 77 = .ok (.iinc 3 1, 3) := by decide +kernel
theorem dX11_digest_80 : decode cX11_digest 80 = .ok (.goto (-47), 3) := by decide +kernel
theorem dX11_digest_83 : decode cX11_digest 83 = .ok (.aload_n 0, 1) := by decide +kernel
theorem dX11_digest_84 : decode cX11_digest 84 = .ok (.getfield 10, 3) := by decide +kernel
theorem dX11_digest_87 : decode cX11_digest 87 = .ok (.getfield 122, 3) := by decide +kernel
theorem dX11_digest_90 : decode cX11_digest 90 = .ok (.lload_n 1, 1) := by decide +kernel
theorem dX11_digest_91 : decode cX11_digest 91 = .ok (.invokevirtual 365, 3) := by decide +kernel
theorem dX11_digest_94 : decode cX11_digest 94 = .ok (.lstore_n 1, 1) := by decide +kernel
theorem dX11_digest_95 : decode cX11_digest 95 = .ok (.aload_n 0, 1) := by decide +kernel
theorem dX11_digest_96 : decode cX11_digest 96 = .ok (.getfield 10, 3) := by decide +kernel
theorem dX11_digest_99 : decode cX11_digest 99 = .ok (.getfield 258, 3) := by decide +kernel
theorem dX11_digest_102 : decode cX11_digest 102 = .ok (.lload_n 1, 1) := by decide +kernel
theorem dX11_digest_103 : decode cX11_digest 103 = .ok (.invokevirtual 365, 3) := by decide +kernel
theorem dX11_digest_106 : decode cX11_digest 106 = .ok (.lstore_n 1, 1) := by decide +kernel
theorem dX11_digest_107 : decode cX11_digest 107 = .ok (.aload_n 0, 1) := by decide +kernel
theorem dX11_digest_108 : decode cX11_digest 108 = .ok (.getfield 10, 3) := by decide +kernel
theorem dX11_digest_111 : decode cX11_digest 111 = .ok (.getfield 274, 3) := by decide +kernel
theorem dX11_digest_114 : decode cX11_digest 114 = .ok (.lload_n 1, 1) := by decide +kernel
theorem dX11_digest_115 : decode cX11_digest 115 = .ok (.invokevirtual 365, 3) := by decide +kernel
theorem dX11_digest_118 : decode cX11_digest 118 = .ok (.lstore_n 1, 1) := by decide +kernel
theorem dX11_digest_119 : decode cX11_digest 119 = .ok (.aload_n 0, 1) := by decide +kernel
theorem dX11_digest_120 : decode cX11_digest 120 = .ok (.getfield 10, 3) := by decide +kernel
theorem dX11_digest_123 : decode cX11_digest 123 = .ok (.getfield 280, 3) := by decide +kernel
theorem dX11_digest_126 : decode cX11_digest 126 = .ok (.lload_n 1, 1) := by decide +kernel
theorem dX11_digest_127 : decode cX11_digest 127 = .ok (.invokevirtual 365, 3) := by decide +kernel
theorem dX11_digest_130 : decode cX11_digest 130 = .ok (.lstore_n 1, 1) := by decide +kernel
theorem dX11_digest_131 : decode cX11_digest 131 = .ok (.ldc2_w 363, 3) := by decide +kernel
theorem dX11_digest_134 : decode cX11_digest 134 = .ok (.lload_n 1, 1) := by decide +kernel
theorem dX11_digest_135 : decode cX11_digest 135 = .ok (.lmul, 1) := by decide +kernel
theorem dX11_digest_136 : decode cX11_digest 136 = .ok (.aload_n 0, 1) := by decide +kernel
theorem dX11_digest_137 : decode cX11_digest 137 = .ok (.getfield 342, 3) := by decide +kernel
theorem dX11_digest_140 : decode cX11_digest 140 = .ok (.ladd, 1) := by decide +kernel
theorem dX11_digest_141 : decode cX11_digest 141 = .ok (.lstore_n 1, 1) := by decide +kernel
theorem dX11_digest_142 : decode cX11_digest 142 = .ok (.ldc2_w 363, 3) := by decide +kernel
theorem dX11_digest_145 : decode cX11_digest 145 = .ok (.lload_n 1, 1) := by decide +kernel
theorem dX11_digest_146 : decode cX11_digest 146 = .ok (.lmul, 1) := by decide +kernel
theorem dX11_digest_147 : decode cX11_digest 147 = .ok (.aload_n 0, 1) := by decide +kernel
theorem dX11_digest_148 : decode cX11_digest 148 = .ok (.getfield 68, 3) := by decide +kernel
theorem dX11_digest_151 : decode cX11_digest 151 = .ok (.ladd, 1) := by decide +kernel
theorem dX11_digest_152 : decode cX11_digest 152 = .ok (.lreturn, 1) := by decide +kernel
theorem dX11_refuseBad_0 : decode cX11_refuseBad 0 = .ok (.aload_n 0, 1) := by decide +kernel
theorem dX11_refuseBad_1 : decode cX11_refuseBad 1 = .ok (.dup, 1) := by decide +kernel
theorem dX11_refuseBad_2 : decode cX11_refuseBad 2 = .ok (.getfield 352, 3) := by decide +kernel
theorem dX11_refuseBad_5 : decode cX11_refuseBad 5 = .ok (.iconst 1, 1) := by decide +kernel
theorem dX11_refuseBad_6 : decode cX11_refuseBad 6 = .ok (.iadd, 1) := by decide +kernel
theorem dX11_refuseBad_7 : decode cX11_refuseBad 7 = .ok (.putfield 352, 3) := by decide +kernel
theorem dX11_refuseBad_10 : decode cX11_refuseBad 10 = .ok (.iload_n 1, 1) := by decide +kernel
theorem dX11_refuseBad_11 : decode cX11_refuseBad 11 = .ok (.ireturn, 1) := by decide +kernel
theorem dX11_refuseNo_0 : decode cX11_refuseNo 0 = .ok (.aload_n 0, 1) := by decide +kernel
theorem dX11_refuseNo_1 : decode cX11_refuseNo 1 = .ok (.dup, 1) := by decide +kernel
theorem dX11_refuseNo_2 : decode cX11_refuseNo 2 = .ok (.getfield 355, 3) := by decide +kernel
theorem dX11_refuseNo_5 : decode cX11_refuseNo 5 = .ok (.iconst 1, 1) := by decide +kernel
theorem dX11_refuseNo_6 : decode cX11_refuseNo 6 = .ok (.iadd, 1) := by decide +kernel
theorem dX11_refuseNo_7 : decode cX11_refuseNo 7 = .ok (.putfield 355, 3) := by decide +kernel
theorem dX11_refuseNo_10 : decode cX11_refuseNo 10 = .ok (.bipush (-3), 2) := by decide +kernel
theorem dX11_refuseNo_12 : decode cX11_refuseNo 12 = .ok (.ireturn, 1) := by decide +kernel
theorem dX11_refuseFull_0 : decode cX11_refuseFull 0 = .ok (.aload_n 0, 1) := by decide +kernel
theorem dX11_refuseFull_1 : decode cX11_refuseFull 1 = .ok (.dup, 1) := by decide +kernel
theorem dX11_refuseFull_2 : decode cX11_refuseFull 2 = .ok (.getfield 358, 3) := by decide +kernel
theorem dX11_refuseFull_5 : decode cX11_refuseFull 5 = .ok (.iconst 1, 1) := by decide +kernel
theorem dX11_refuseFull_6 : decode cX11_refuseFull 6 = .ok (.iadd, 1) := by decide +kernel
theorem dX11_refuseFull_7 : decode cX11_refuseFull 7 = .ok (.putfield 358, 3) := by decide +kernel
theorem dX11_refuseFull_10 : decode cX11_refuseFull 10 = .ok (.bipush (-4), 2) := by decide +kernel
theorem dX11_refuseFull_12 : decode cX11_refuseFull 12 = .ok (.ireturn, 1) := by decide +kernel
theorem dX11_imageNumber_0 : decode cX11_imageNumber 0 = .ok (.iload_n 1, 1) := by decide +kernel
theorem dX11_imageNumber_1 : decode cX11_imageNumber 1 = .ok (.ifCond .ne 10, 3) := by decide +kernel
theorem dX11_imageNumber_4 : decode cX11_imageNumber 4 = .ok (.aload_n 0, 1) := by decide +kernel
theorem dX11_imageNumber_5 : decode cX11_imageNumber 5 = .ok (.getfield 16, 3) := by decide +kernel
theorem dX11_imageNumber_8 : decode cX11_imageNumber 8 = .ok (.goto 7, 3) := by decide +kernel
theorem dX11_imageNumber_11 : decode cX11_imageNumber 11 = .ok (.aload_n 0, 1) := by decide +kernel
theorem dX11_imageNumber_12 : decode cX11_imageNumber 12 = .ok (.getfield 19, 3) := by decide +kernel
theorem dX11_imageNumber_15 : decode cX11_imageNumber 15 = .ok (.areturn, 1) := by decide +kernel
set_option maxRecDepth 20000 in
theorem ggX11_howMany_X3_keeperCount : GoodIn wsX11_howMany wsX3_keeperCount := goodIn_r _ [12, 13, 14, 15, 16, 17, 18, 19, 80, 81, 82, 83, 84, 85, 86, 87, 88, 93, 94] (by decide +kernel) (by decide +kernel)
set_option maxRecDepth 20000 in
theorem gX11_howMany_X3_keeperCount : GoodIn wsX11_howMany (wsV RX11 72 RX3 yX3_keeperCount wsX3_keeperCount) := goodIn_app (goodIn_of _ (by decide +kernel)) ggX11_howMany_X3_keeperCount
set_option maxRecDepth 20000 in
theorem ggX11_howMany_X7_size : GoodIn wsX11_howMany wsX7_size := goodIn_r _ [18, 19, 93, 94] (by decide +kernel) (by decide +kernel)
set_option maxRecDepth 20000 in
theorem gX11_howMany_X7_size : GoodIn wsX11_howMany (wsV RX11 128 RX7 yX7_size wsX7_size) := goodIn_app (goodIn_of _ (by decide +kernel)) ggX11_howMany_X7_size
set_option maxRecDepth 20000 in
theorem ggX11_howMany_J6_bitCount_0f7a4 : GoodIn wsX11_howMany wsJ6_bitCount_0f7a4 := goodIn_r _ [24, 25, 26, 27] (by decide +kernel) (by decide +kernel)
set_option maxRecDepth 20000 in
theorem gX11_howMany_J6_bitCount_0f7a4 : GoodIn wsX11_howMany (va_wsS RX11 219 yJ6_bitCount_0f7a4 wsJ6_bitCount_0f7a4) := goodIn_app (goodIn_of _ (by decide +kernel)) ggX11_howMany_J6_bitCount_0f7a4
set_option maxRecDepth 20000 in
theorem ggX11_howMany_X3_allStones : GoodIn wsX11_howMany wsX3_allStones := goodIn_r _ [31, 32, 9, 10, 11, 12, 13, 14, 15, 16, 17, 18, 19, 80, 81, 82, 83, 84, 85, 86, 87, 88, 93, 94] (by decide +kernel) (by decide +kernel)
set_option maxRecDepth 20000 in
theorem gX11_howMany_X3_allStones : GoodIn wsX11_howMany (wsV RX11 162 RX3 yX3_allStones wsX3_allStones) := goodIn_app (goodIn_of _ (by decide +kernel)) ggX11_howMany_X3_allStones
set_option maxRecDepth 20000 in
theorem ggX11_howMany_X7_sumOf : GoodIn wsX11_howMany wsX7_sumOf := goodIn_r _ [36, 19, 37, 38, 39, 40, 41, 42, 17, 43, 44, 93, 94] (by decide +kernel) (by decide +kernel)
set_option maxRecDepth 20000 in
theorem gX11_howMany_X7_sumOf : GoodIn wsX11_howMany (wsV RX11 165 RX7 yX7_sumOf wsX7_sumOf) := goodIn_app (goodIn_of _ (by decide +kernel)) ggX11_howMany_X7_sumOf
set_option maxRecDepth 20000 in
theorem ggX11_howMany_X3_readingCount : GoodIn wsX11_howMany wsX3_readingCount := goodIn_r _ [48, 49, 14, 15, 16, 17, 18, 19, 80, 81, 82, 83, 84, 85, 86, 87, 88, 93, 94] (by decide +kernel) (by decide +kernel)
set_option maxRecDepth 20000 in
theorem gX11_howMany_X3_readingCount : GoodIn wsX11_howMany (wsV RX11 261 RX3 yX3_readingCount wsX3_readingCount) := goodIn_app (goodIn_of _ (by decide +kernel)) ggX11_howMany_X3_readingCount
set_option maxRecDepth 20000 in
theorem ggX11_howMany_X3_noteCount : GoodIn wsX11_howMany wsX3_noteCount := goodIn_r _ [53, 54, 14, 15, 16, 17, 18, 19, 80, 81, 82, 83, 84, 85, 86, 87, 88, 93, 94] (by decide +kernel) (by decide +kernel)
set_option maxRecDepth 20000 in
theorem gX11_howMany_X3_noteCount : GoodIn wsX11_howMany (wsV RX11 277 RX3 yX3_noteCount wsX3_noteCount) := goodIn_app (goodIn_of _ (by decide +kernel)) ggX11_howMany_X3_noteCount
set_option maxRecDepth 20000 in
theorem ggX11_howMany_X3_tippingCount : GoodIn wsX11_howMany wsX3_tippingCount := goodIn_r _ [58, 59, 14, 15, 16, 17, 18, 19, 80, 81, 82, 83, 84, 85, 86, 87, 88, 93, 94] (by decide +kernel) (by decide +kernel)
set_option maxRecDepth 20000 in
theorem gX11_howMany_X3_tippingCount : GoodIn wsX11_howMany (wsV RX11 283 RX3 yX3_tippingCount wsX3_tippingCount) := goodIn_app (goodIn_of _ (by decide +kernel)) ggX11_howMany_X3_tippingCount
set_option maxRecDepth 20000 in
theorem ggX11_howMany_X3_undoable : GoodIn wsX11_howMany wsX3_undoable := goodIn_r _ [63, 64, 14, 15, 16, 17, 18, 19, 80, 81, 82, 83, 84, 85, 86, 87, 88, 93, 94] (by decide +kernel) (by decide +kernel)
set_option maxRecDepth 20000 in
theorem gX11_howMany_X3_undoable : GoodIn wsX11_howMany (wsV RX11 168 RX3 yX3_undoable wsX3_undoable) := goodIn_app (goodIn_of _ (by decide +kernel)) ggX11_howMany_X3_undoable
theorem dX11_howMany_0 : decode cX11_howMany 0 = .ok (.iload_n 1, 1) := by decide +kernel
theorem dX11_howMany_1 : decode cX11_howMany 1 = .ok (.tableswitch 148 0 8 #[51, 59, 70, 81, 95, 116, 124, 132, 140], 51) := by decide +kernel
theorem dX11_howMany_52 : decode cX11_howMany 52 = .ok (.aload_n 0, 1) := by decide +kernel
theorem dX11_howMany_53 : decode cX11_howMany 53 = .ok (.getfield 10, 3) := by decide +kernel
theorem dX11_howMany_56 : decode cX11_howMany 56 = .ok (.invokevirtual 72, 3) := by decide +kernel
theorem dX11_howMany_59 : decode cX11_howMany 59 = .ok (.ireturn, 1) := by decide +kernel
theorem dX11_howMany_60 : decode cX11_howMany 60 = .ok (.aload_n 0, 1) := by decide +kernel
theorem dX11_howMany_61 : decode cX11_howMany 61 = .ok (.getfield 10, 3) := by decide +kernel
theorem dX11_howMany_64 : decode cX11_howMany 64 = .ok (.getfield 122, 3) := by decide +kernel
theorem dX11_howMany_67 : decode cX11_howMany 67 = .ok (.invokevirtual 128, 3) := by decide +kernel
theorem dX11_howMany_70 : decode cX11_howMany 70 = .ok (.ireturn, 1) := by decide +kernel
theorem dX11_howMany_71 : decode cX11_howMany 71 = .ok (.aload_n 0, 1) := by decide +kernel
theorem dX11_howMany_72 : decode cX11_howMany 72 = .ok (.getfield 10, 3) := by decide +kernel
theorem dX11_howMany_75 : decode cX11_howMany 75 = .ok (.getfield 141, 3) := by decide +kernel
theorem dX11_howMany_78 : decode cX11_howMany 78 = .ok (.getfield 174, 3) := by decide +kernel
theorem dX11_howMany_81 : decode cX11_howMany 81 = .ok (.ireturn, 1) := by decide +kernel
theorem dX11_howMany_82 : decode cX11_howMany 82 = .ok (.aload_n 0, 1) := by decide +kernel
theorem dX11_howMany_83 : decode cX11_howMany 83 = .ok (.getfield 10, 3) := by decide +kernel
theorem dX11_howMany_86 : decode cX11_howMany 86 = .ok (.getfield 141, 3) := by decide +kernel
theorem dX11_howMany_89 : decode cX11_howMany 89 = .ok (.getfield 193, 3) := by decide +kernel
theorem dX11_howMany_92 : decode cX11_howMany 92 = .ok (.invokestatic 219, 3) := by decide +kernel
theorem dX11_howMany_95 : decode cX11_howMany 95 = .ok (.ireturn, 1) := by decide +kernel
theorem dX11_howMany_96 : decode cX11_howMany 96 = .ok (.aload_n 0, 1) := by decide +kernel
theorem dX11_howMany_97 : decode cX11_howMany 97 = .ok (.getfield 10, 3) := by decide +kernel
theorem dX11_howMany_100 : decode cX11_howMany 100 = .ok (.getfield 141, 3) := by decide +kernel
theorem dX11_howMany_103 : decode cX11_howMany 103 = .ok (.getfield 159, 3) := by decide +kernel
theorem dX11_howMany_106 : decode cX11_howMany 106 = .ok (.aload_n 0, 1) := by decide +kernel
theorem dX11_howMany_107 : decode cX11_howMany 107 = .ok (.getfield 10, 3) := by decide +kernel
theorem dX11_howMany_110 : decode cX11_howMany 110 = .ok (.invokevirtual 162, 3) := by decide +kernel
theorem dX11_howMany_113 : decode cX11_howMany 113 = .ok (.invokevirtual 165, 3) := by decide +kernel
theorem dX11_howMany_116 : decode cX11_howMany 116 = .ok (.ireturn, 1) := by decide +kernel
theorem dX11_howMany_117 : decode cX11_howMany 117 = .ok (.aload_n 0, 1) := by decide +kernel
theorem dX11_howMany_118 : decode cX11_howMany 118 = .ok (.getfield 10, 3) := by decide +kernel
theorem dX11_howMany_121 : decode cX11_howMany 121 = .ok (.invokevirtual 261, 3) := by decide +kernel
theorem dX11_howMany_124 : decode cX11_howMany 124 = .ok (.ireturn, 1) := by decide +kernel
theorem dX11_howMany_125 : decode cX11_howMany 125 = .ok (.aload_n 0, 1) := by decide +kernel
theorem dX11_howMany_126 : decode cX11_howMany 126 = .ok (.getfield 10, 3) := by decide +kernel
theorem dX11_howMany_129 : decode cX11_howMany 129 = .ok (.invokevirtual 277, 3) := by decide +kernel
theorem dX11_howMany_132 : decode cX11_howMany 132 = .ok (.ireturn, 1) := by decide +kernel
theorem dX11_howMany_133 : decode cX11_howMany 133 = .ok (.aload_n 0, 1) := by decide +kernel
theorem dX11_howMany_134 : decode cX11_howMany 134 = .ok (.getfield 10, 3) := by decide +kernel
theorem dX11_howMany_137 : decode cX11_howMany 137 = .ok (.invokevirtual 283, 3) := by decide +kernel
theorem dX11_howMany_140 : decode cX11_howMany 140 = .ok (.ireturn, 1) := by decide +kernel
theorem dX11_howMany_141 : decode cX11_howMany 141 = .ok (.aload_n 0, 1) := by decide +kernel
theorem dX11_howMany_142 : decode cX11_howMany 142 = .ok (.getfield 10, 3) := by decide +kernel
theorem dX11_howMany_145 : decode cX11_howMany 145 = .ok (.invokevirtual 168, 3) := by decide +kernel
theorem dX11_howMany_148 : decode cX11_howMany 148 = .ok (.ireturn, 1) := by decide +kernel
theorem dX11_howMany_149 : decode cX11_howMany 149 = .ok (.aload_n 0, 1) := by decide +kernel
theorem dX11_howMany_150 : decode cX11_howMany 150 = .ok (.getfield 27, 3) := by decide +kernel
theorem dX11_howMany_153 : decode cX11_howMany 153 = .ok (.invokevirtual 128, 3) := by decide +kernel
theorem dX11_howMany_156 : decode cX11_howMany 156 = .ok (.ireturn, 1) := by decide +kernel
set_option maxRecDepth 20000 in
theorem ggX11_keepFraction_X11_greatestDivisor : GoodIn wsX11_keepFraction wsX11_greatestDivisor := goodIn_r _ [6] (by decide +kernel) (by decide +kernel)
set_option maxRecDepth 20000 in
theorem gX11_keepFraction_X11_greatestDivisor : GoodIn wsX11_keepFraction (va_wsS RX11 369 yX11_greatestDivisor wsX11_greatestDivisor) := goodIn_app (goodIn_of _ (by decide +kernel)) ggX11_keepFraction_X11_greatestDivisor
theorem dX11_keepFraction_0 : decode cX11_keepFraction 0 = .ok (.lload_n 1, 1) := by decide +kernel
theorem dX11_keepFraction_1 : decode cX11_keepFraction 1 = .ok (.lload_n 3, 1) := by decide +kernel
theorem dX11_keepFraction_2 : decode cX11_keepFraction 2 = .ok (.invokestatic 369, 3) := by decide +kernel
theorem dX11_keepFraction_5 : decode cX11_keepFraction 5 = .ok (.lstore 5, 2) := by decide +kernel
theorem dX11_keepFraction_7 : decode cX11_keepFraction 7 = .ok (.lload 5, 2) := by decide +kernel
theorem dX11_keepFraction_9 : decode cX11_keepFraction 9 = .ok (.lconst 0, 1) := by decide +kernel
theorem dX11_keepFraction_10 : decode cX11_keepFraction 10 = .ok (.lcmp, 1) := by decide +kernel
theorem dX11_keepFraction_11 : decode cX11_keepFraction 11 = .ok (.ifCond .le 19, 3) := by decide +kernel
theorem dX11_keepFraction_14 : decode cX11_keepFraction 14 = .ok (.aload_n 0, 1) := by decide +kernel
theorem dX11_keepFraction_15 : decode cX11_keepFraction 15 = .ok (.lload_n 1, 1) := by decide +kernel
theorem dX11_keepFraction_16 : decode cX11_keepFraction 16 = .ok (.lload 5, 2) := by decide +kernel
theorem dX11_keepFraction_18 : decode cX11_keepFraction 18 = .ok (.ldiv, 1) := by decide +kernel
theorem dX11_keepFraction_19 : decode cX11_keepFraction 19 = .ok (.putfield 342, 3) := by decide +kernel
theorem dX11_keepFraction_22 : decode cX11_keepFraction 22 = .ok (.aload_n 0, 1) := by decide +kernel
theorem dX11_keepFraction_23 : decode cX11_keepFraction 23 = .ok (.lload_n 3, 1) := by decide +kernel
theorem dX11_keepFraction_24 : decode cX11_keepFraction 24 = .ok (.lload 5, 2) := by decide +kernel
theorem dX11_keepFraction_26 : decode cX11_keepFraction 26 = .ok (.ldiv, 1) := by decide +kernel
theorem dX11_keepFraction_27 : decode cX11_keepFraction 27 = .ok (.putfield 68, 3) := by decide +kernel
theorem dX11_keepFraction_30 : decode cX11_keepFraction 30 = .ok (.return_, 1) := by decide +kernel
theorem dX11_greatestDivisor_0 : decode cX11_greatestDivisor 0 = .ok (.iconst 0, 1) := by decide +kernel
theorem dX11_greatestDivisor_1 : decode cX11_greatestDivisor 1 = .ok (.istore 4, 2) := by decide +kernel
theorem dX11_greatestDivisor_3 : decode cX11_greatestDivisor 3 = .ok (.iload 4, 2) := by decide +kernel
theorem dX11_greatestDivisor_5 : decode cX11_greatestDivisor 5 = .ok (.bipush 100, 2) := by decide +kernel
theorem dX11_greatestDivisor_7 : decode cX11_greatestDivisor 7 = .ok (.if_icmp .ge 25, 3) := by decide +kernel
theorem dX11_greatestDivisor_10 : decode cX11_greatestDivisor 10 = .ok (.lload_n 2, 1) := by decide +kernel
theorem dX11_greatestDivisor_11 : decode cX11_greatestDivisor 11 = .ok (.lconst 0, 1) := by decide +kernel
theorem dX11_greatestDivisor_12 : decode cX11_greatestDivisor 12 = .ok (.lcmp, 1) := by decide +kernel
theorem dX11_greatestDivisor_13 : decode cX11_greatestDivisor 13 = .ok (.ifCond .eq 19, 3) := by decide +kernel
theorem dX11_greatestDivisor_16 : decode cX11_greatestDivisor 16 = .ok (.lload_n 0, 1) := by decide +kernel
theorem dX11_greatestDivisor_17 : decode cX11_greatestDivisor 17 = .ok (.lload_n 2, 1) := by decide +kernel
theorem dX11_greatestDivisor_18 : decode cX11_greatestDivisor 18 = .ok (.lrem, 1) := by decide +kernel
theorem dX11_greatestDivisor_19 : decode cX11_greatestDivisor 19 = .ok (.lstore 5, 2) := by decide +kernel
theorem dX11_greatestDivisor_21 : decode cX11_greatestDivisor 21 = .ok (.lload_n 2, 1) := by decide +kernel
theorem dX11_greatestDivisor_22 : decode cX11_greatestDivisor 22 = .ok (.lstore_n 0, 1) := by decide +kernel
theorem dX11_greatestDivisor_23 : decode cX11_greatestDivisor 23 = .ok (.lload 5, 2) := by decide +kernel
theorem dX11_greatestDivisor_25 : decode cX11_greatestDivisor 25 = .ok (.lstore_n 2, 1) := by decide +kernel
theorem dX11_greatestDivisor_26 : decode cX11_greatestDivisor 26 = .ok (.iinc 4 1, 3) := by decide +kernel
theorem dX11_greatestDivisor_29 : decode cX11_greatestDivisor 29 = .ok (.goto (-26), 3) := by decide +kernel
theorem dX11_greatestDivisor_32 : decode cX11_greatestDivisor 32 = .ok (.lload_n 0, 1) := by decide +kernel
theorem dX11_greatestDivisor_33 : decode cX11_greatestDivisor 33 = .ok (.lreturn, 1) := by decide +kernel
theorem dX11_between_0 : decode cX11_between 0 = .ok (.iload_n 0, 1) := by decide +kernel
theorem dX11_between_1 : decode cX11_between 1 = .ok (.iload_n 1, 1) := by decide +kernel
theorem dX11_between_2 : decode cX11_between 2 = .ok (.if_icmp .lt 12, 3) := by decide +kernel
theorem dX11_between_5 : decode cX11_between 5 = .ok (.iload_n 0, 1) := by decide +kernel
theorem dX11_between_6 : decode cX11_between 6 = .ok (.iload_n 2, 1) := by decide +kernel
theorem dX11_between_7 : decode cX11_between 7 = .ok (.if_icmp .gt 7, 3) := by decide +kernel
theorem dX11_between_10 : decode cX11_between 10 = .ok (.iconst 1, 1) := by decide +kernel
theorem dX11_between_11 : decode cX11_between 11 = .ok (.goto 4, 3) := by decide +kernel
theorem dX11_between_14 : decode cX11_between 14 = .ok (.iconst 0, 1) := by decide +kernel
theorem dX11_between_15 : decode cX11_between 15 = .ok (.ireturn, 1) := by decide +kernel
set_option maxRecDepth 20000 in
theorem ggX11_isKind_X11_between : GoodIn wsX11_isKind wsX11_between := goodIn_r _ [4] (by decide +kernel) (by decide +kernel)
set_option maxRecDepth 20000 in
theorem gX11_isKind_X11_between : GoodIn wsX11_isKind (va_wsS RX11 83 yX11_between wsX11_between) := goodIn_app (goodIn_of _ (by decide +kernel)) ggX11_isKind_X11_between
theorem dX11_isKind_0 : decode cX11_isKind 0 = .ok (.iload_n 0, 1) := by decide +kernel
theorem dX11_isKind_1 : decode cX11_isKind 1 = .ok (.iconst 0, 1) := by decide +kernel
theorem dX11_isKind_2 : decode cX11_isKind 2 = .ok (.iconst 5, 1) := by decide +kernel
theorem dX11_isKind_3 : decode cX11_isKind 3 = .ok (.invokestatic 83, 3) := by decide +kernel
theorem dX11_isKind_6 : decode cX11_isKind 6 = .ok (.ireturn, 1) := by decide +kernel
theorem dX11_hasBit_0 : decode cX11_hasBit 0 = .ok (.iload_n 1, 1) := by decide +kernel
theorem dX11_hasBit_1 : decode cX11_hasBit 1 = .ok (.ifCond .lt 22, 3) := by decide +kernel
theorem dX11_hasBit_4 : decode cX11_hasBit 4 = .ok (.iload_n 1, 1) := by decide +kernel
theorem dX11_hasBit_5 : decode cX11_hasBit 5 = .ok (.bipush 32, 2) := by decide +kernel
theorem dX11_hasBit_7 : decode cX11_hasBit 7 = .ok (.if_icmp .ge 16, 3) := by decide +kernel
theorem dX11_hasBit_10 : decode cX11_hasBit 10 = .ok (.iload_n 0, 1) := by decide +kernel
theorem dX11_hasBit_11 : decode cX11_hasBit 11 = .ok (.iload_n 1, 1) := by decide +kernel
theorem dX11_hasBit_12 : decode cX11_hasBit 12 = .ok (.ishr, 1) := by decide +kernel
theorem dX11_hasBit_13 : decode cX11_hasBit 13 = .ok (.iconst 1, 1) := by decide +kernel
theorem dX11_hasBit_14 : decode cX11_hasBit 14 = .ok (.iand, 1) := by decide +kernel
theorem dX11_hasBit_15 : decode cX11_hasBit 15 = .ok (.iconst 1, 1) := by decide +kernel
theorem dX11_hasBit_16 : decode cX11_hasBit 16 = .ok (.if_icmp .ne 7, 3) := by decide +kernel
theorem dX11_hasBit_19 : decode cX11_hasBit 19 = .ok (.iconst 1, 1) := by decide +kernel
theorem dX11_hasBit_20 : decode cX11_hasBit 20 = .ok (.goto 4, 3) := by decide +kernel
theorem dX11_hasBit_23 : decode cX11_hasBit 23 = .ok (.iconst 0, 1) := by decide +kernel
theorem dX11_hasBit_24 : decode cX11_hasBit 24 = .ok (.ireturn, 1) := by decide +kernel
theorem dX12_init_0 : decode cX12_init 0 = .ok (.aload_n 0, 1) := by decide +kernel
theorem dX12_init_1 : decode cX12_init 1 = .ok (.invokespecial 1, 3) := by decide +kernel
theorem dX12_init_4 : decode cX12_init 4 = .ok (.aload_n 0, 1) := by decide +kernel
theorem dX12_init_5 : decode cX12_init 5 = .ok (.sipush 964, 3) := by decide +kernel
theorem dX12_init_8 : decode cX12_init 8 = .ok (.newarray .int, 2) := by decide +kernel
theorem dX12_init_10 : decode cX12_init 10 = .ok (.putfield 7, 3) := by decide +kernel
theorem dX12_init_13 : decode cX12_init 13 = .ok (.aload_n 0, 1) := by decide +kernel
theorem dX12_init_14 : decode cX12_init 14 = .ok (.iconst 2, 1) := by decide +kernel
theorem dX12_init_15 : decode cX12_init 15 = .ok (.newarray .boolean, 2) := by decide +kernel
theorem dX12_init_17 : decode cX12_init 17 = .ok (.putfield 13, 3) := by decide +kernel
theorem dX12_init_20 : decode cX12_init 20 = .ok (.aload_n 0, 1) := by decide +kernel
theorem dX12_init_21 : decode cX12_init 21 = .ok (.sipush 150, 3) := by decide +kernel
theorem dX12_init_24 : decode cX12_init 24 = .ok (.newarray .int, 2) := by decide +kernel
theorem dX12_init_26 : decode cX12_init 26 = .ok (.putfield 17, 3) := by decide +kernel
theorem dX12_init_29 : decode cX12_init 29 = .ok (.aload_n 0, 1) := by decide +kernel
theorem dX12_init_30 : decode cX12_init 30 = .ok (.lconst 0, 1) := by decide +kernel
theorem dX12_init_31 : decode cX12_init 31 = .ok (.putfield 20, 3) := by decide +kernel
theorem dX12_init_34 : decode cX12_init 34 = .ok (.aload_n 0, 1) := by decide +kernel
theorem dX12_init_35 : decode cX12_init 35 = .ok (.lconst 1, 1) := by decide +kernel
theorem dX12_init_36 : decode cX12_init 36 = .ok (.putfield 24, 3) := by decide +kernel
theorem dX12_init_39 : decode cX12_init 39 = .ok (.aload_n 0, 1) := by decide +kernel
theorem dX12_init_40 : decode cX12_init 40 = .ok (.iconst 3, 1) := by decide +kernel
theorem dX12_init_41 : decode cX12_init 41 = .ok (.newarray .int, 2) := by decide +kernel
theorem dX12_init_43 : decode cX12_init 43 = .ok (.putfield 27, 3) := by decide +kernel
theorem dX12_init_46 : decode cX12_init 46 = .ok (.aload_n 0, 1) := by decide +kernel
theorem dX12_init_47 : decode cX12_init 47 = .ok (.bipush 8, 2) := by decide +kernel
theorem dX12_init_49 : decode cX12_init 49 = .ok (.newarray .int, 2) := by decide +kernel
theorem dX12_init_51 : decode cX12_init 51 = .ok (.putfield 30, 3) := by decide +kernel
theorem dX12_init_54 : decode cX12_init 54 = .ok (.aload_n 0, 1) := by decide +kernel
theorem dX12_init_55 : decode cX12_init 55 = .ok (.bipush 8, 2) := by decide +kernel
theorem dX12_init_57 : decode cX12_init 57 = .ok (.newarray .int, 2) := by decide +kernel
theorem dX12_init_59 : decode cX12_init 59 = .ok (.putfield 33, 3) := by decide +kernel
theorem dX12_init_62 : decode cX12_init 62 = .ok (.aload_n 0, 1) := by decide +kernel
theorem dX12_init_63 : decode cX12_init 63 = .ok (.bipush 7, 2) := by decide +kernel
theorem dX12_init_65 : decode cX12_init 65 = .ok (.newarray .int, 2) := by decide +kernel
theorem dX12_init_67 : decode cX12_init 67 = .ok (.putfield 36, 3) := by decide +kernel
theorem dX12_init_70 : decode cX12_init 70 = .ok (.aload_n 0, 1) := by decide +kernel
theorem dX12_init_71 : decode cX12_init 71 = .ok (.sipush 300, 3) := by decide +kernel
theorem dX12_init_74 : decode cX12_init 74 = .ok (.newarray .int, 2) := by decide +kernel
theorem dX12_init_76 : decode cX12_init 76 = .ok (.putfield 39, 3) := by decide +kernel
theorem dX12_init_79 : decode cX12_init 79 = .ok (.aload_n 0, 1) := by decide +kernel
theorem dX12_init_80 : decode cX12_init 80 = .ok (.bipush 7, 2) := by decide +kernel
theorem dX12_init_82 : decode cX12_init 82 = .ok (.newarray .int, 2) := by decide +kernel
theorem dX12_init_84 : decode cX12_init 84 = .ok (.putfield 42, 3) := by decide +kernel
theorem dX12_init_87 : decode cX12_init 87 = .ok (.aload_n 0, 1) := by decide +kernel
theorem dX12_init_88 : decode cX12_init 88 = .ok (.iconst 0, 1) := by decide +kernel
theorem dX12_init_89 : decode cX12_init 89 = .ok (.putfield 45, 3) := by decide +kernel
theorem dX12_init_92 : decode cX12_init 92 = .ok (.return_, 1) := by decide +kernel
theorem dX12_in_0 : decode cX12_in 0 = .ok (.lload_n 0, 1) := by decide +kernel
theorem dX12_in_1 : decode cX12_in 1 = .ok (.lload_n 2, 1) := by decide +kernel
theorem dX12_in_2 : decode cX12_in 2 = .ok (.lcmp, 1) := by decide +kernel
theorem dX12_in_3 : decode cX12_in 3 = .ok (.ifCond .lt 14, 3) := by decide +kernel
theorem dX12_in_6 : decode cX12_in 6 = .ok (.lload_n 0, 1) := by decide +kernel
theorem dX12_in_7 : decode cX12_in 7 = .ok (.lload 4, 2) := by decide +kernel
theorem dX12_in_9 : decode cX12_in 9 = .ok (.lcmp, 1) := by decide +kernel
theorem dX12_in_10 : decode cX12_in 10 = .ok (.ifCond .gt 7, 3) := by decide +kernel
theorem dX12_in_13 : decode cX12_in 13 = .ok (.iconst 1, 1) := by decide +kernel
theorem dX12_in_14 : decode cX12_in 14 = .ok (.goto 4, 3) := by decide +kernel
theorem dX12_in_17 : decode cX12_in 17 = .ok (.iconst 0, 1) := by decide +kernel
theorem dX12_in_18 : decode cX12_in 18 = .ok (.ireturn, 1) := by decide +kernel
theorem dX12_has_0 : decode cX12_has 0 = .ok (.iload_n 0, 1) := by decide +kernel
theorem dX12_has_1 : decode cX12_has 1 = .ok (.iload_n 1, 1) := by decide +kernel
theorem dX12_has_2 : decode cX12_has 2 = .ok (.ishr, 1) := by decide +kernel
theorem dX12_has_3 : decode cX12_has 3 = .ok (.iconst 1, 1) := by decide +kernel
theorem dX12_has_4 : decode cX12_has 4 = .ok (.iand, 1) := by decide +kernel
theorem dX12_has_5 : decode cX12_has 5 = .ok (.iconst 1, 1) := by decide +kernel
theorem dX12_has_6 : decode cX12_has 6 = .ok (.if_icmp .ne 7, 3) := by decide +kernel
theorem dX12_has_9 : decode cX12_has 9 = .ok (.iconst 1, 1) := by decide +kernel
theorem dX12_has_10 : decode cX12_has 10 = .ok (.goto 4, 3) := by decide +kernel
theorem dX12_has_13 : decode cX12_has 13 = .ok (.iconst 0, 1) := by decide +kernel
theorem dX12_has_14 : decode cX12_has 14 = .ok (.ireturn, 1) := by decide +kernel
theorem dX12_ones_0 : decode cX12_ones 0 = .ok (.iconst 0, 1) := by decide +kernel
theorem dX12_ones_1 : decode cX12_ones 1 = .ok (.istore_n 1, 1) := by decide +kernel
theorem dX12_ones_2 : decode cX12_ones 2 = .ok (.iconst 0, 1) := by decide +kernel
theorem dX12_ones_3 : decode cX12_ones 3 = .ok (.istore_n 2, 1) := by decide +kernel
theorem dX12_ones_4 : decode cX12_ones 4 = .ok (.iload_n 2, 1) := by decide +kernel
theorem dX12_ones_5 : decode cX12_ones 5 = .ok (.bipush 7, 2) := by decide +kernel
theorem dX12_ones_7 : decode cX12_ones 7 = .ok (.if_icmp .ge 17, 3) := by decide +kernel
theorem dX12_ones_10 : decode cX12_ones 10 = .ok (.iload_n 1, 1) := by decide +kernel
theorem dX12_ones_11 : decode cX12_ones 11 = .ok (.iload_n 0, 1) := by decide +kernel
theorem dX12_ones_12 : decode cX12_ones 12 = .ok (.iload_n 2, 1) := by decide +kernel
theorem dX12_ones_13 : decode cX12_ones 13 = .ok (.ishr, 1) := by decide +kernel
theorem dX12_ones_14 : decode cX12_ones 14 = .ok (.iconst 1, 1) := by decide +kernel
theorem dX12_ones_15 : decode cX12_ones 15 = .ok (.iand, 1) := by decide +kernel
theorem dX12_ones_16 : decode cX12_ones 16 = .ok (.iadd, 1) := by decide +kernel
theorem dX12_ones_17 : decode cX12_ones 17 = .ok (.istore_n 1, 1) := by decide +kernel
theorem dX12_ones_18 : decode cX12_ones 18 = .ok (.iinc 2 1, 3) := by decide +kernel
theorem dX12_ones_21 : decode cX12_ones 21 = .ok (.goto (-17), 3) := by decide +kernel
theorem dX12_ones_24 : decode cX12_ones 24 = .ok (.iload_n 1, 1) := by decide +kernel
theorem dX12_ones_25 : decode cX12_ones 25 = .ok (.ireturn, 1) := by decide +kernel
theorem dX12_bad_0 : decode cX12_bad 0 = .ok (.aload_n 0, 1) := by decide +kernel
theorem dX12_bad_1 : decode cX12_bad 1 = .ok (.getfield 27, 3) := by decide +kernel
theorem dX12_bad_4 : decode cX12_bad 4 = .ok (.iconst 0, 1) := by decide +kernel
theorem dX12_bad_5 : decode cX12_bad 5 = .ok (.dup2, 1) := by decide +kernel
theorem dX12_bad_6 : decode cX12_bad 6 = .ok (.iaload, 1) := by decide +kernel
theorem dX12_bad_7 : decode cX12_bad 7 = .ok (.iconst 1, 1) := by decide +kernel
theorem dX12_bad_8 : decode cX12_bad 8 = .ok (.iadd, 1) := by decide +kernel
theorem dX12_bad_9 : decode cX12_bad 9 = .ok (.iastore, 1) := by decide +kernel
theorem dX12_bad_10 : decode cX12_bad 10 = .ok (.iload_n 1, 1) := by decide +kernel
theorem dX12_bad_11 : decode cX12_bad 11 = .ok (.ireturn, 1) := by decide +kernel
theorem dX12_no_0 : decode cX12_no 0 = .ok (.aload_n 0, 1) := by decide +kernel
theorem dX12_no_1 : decode cX12_no 1 = .ok (.getfield 27, 3) := by decide +kernel
theorem dX12_no_4 : decode cX12_no 4 = .ok (.iconst 1, 1) := by decide +kernel
theorem dX12_no_5 : decode cX12_no 5 = .ok (.dup2, 1) := by decide +kernel
theorem dX12_no_6 : decode cX12_no 6 = .ok (.iaload, 1) := by decide +kernel
theorem dX12_no_7 : decode cX12_no 7 = .ok (.iconst 1, 1) := by decide +kernel
theorem dX12_no_8 : decode cX12_no 8 = .ok (.iadd, 1) := by decide +kernel
theorem dX12_no_9 : decode cX12_no 9 = .ok (.iastore, 1) := by decide +kernel
theorem dX12_no_10 : decode cX12_no 10 = .ok (.bipush (-3), 2) := by decide +kernel
theorem dX12_no_12 : decode cX12_no 12 = .ok (.ireturn, 1) := by decide +kernel
theorem dX12_full_0 : decode cX12_full 0 = .ok (.aload_n 0, 1) := by decide +kernel
theorem dX12_full_1 : decode cX12_full 1 = .ok (.getfield 27, 3) := by decide +kernel
theorem dX12_full_4 : decode cX12_full 4 = .ok (.iconst 2, 1) := by decide +kernel
theorem dX12_full_5 : decode cX12_full 5 = .ok (.dup2, 1) := by decide +kernel
theorem dX12_full_6 : decode cX12_full 6 = .ok (.iaload, 1) := by decide +kernel
theorem dX12_full_7 : decode cX12_full 7 = .ok (.iconst 1, 1) := by decide +kernel
theorem dX12_full_8 : decode cX12_full 8 = .ok (.iadd, 1) := by decide +kernel
theorem dX12_full_9 : decode cX12_full 9 = .ok (.iastore, 1) := by decide +kernel
theorem dX12_full_10 : decode cX12_full 10 = .ok (.bipush (-4), 2) := by decide +kernel
theorem dX12_full_12 : decode cX12_full 12 = .ok (.ireturn, 1) := by decide +kernel
theorem dX12_copy_0 : decode cX12_copy 0 = .ok (.iconst 0, 1) := by decide +kernel
theorem dX12_copy_1 : decode cX12_copy 1 = .ok (.istore_n 3, 1) := by decide +kernel
theorem dX12_copy_2 : decode cX12_copy 2 = .ok (.iload_n 3, 1) := by decide +kernel
theorem dX12_copy_3 : decode cX12_copy 3 = .ok (.sipush 241, 3) := by decide +kernel
theorem dX12_copy_6 : decode cX12_copy 6 = .ok (.if_icmp .ge 25, 3) := by decide +kernel
theorem dX12_copy_9 : decode cX12_copy 9 = .ok (.aload_n 0, 1) := by decide +kernel
theorem dX12_copy_10 : decode cX12_copy 10 = .ok (.getfield 7, 3) := by decide +kernel
theorem dX12_copy_13 : decode cX12_copy 13 = .ok (.iload_n 2, 1) := by decide +kernel
theorem dX12_copy_14 : decode cX12_copy 14 = .ok (.iload_n 3, 1) := by decide +kernel
theorem dX12_copy_15 : decode cX12_copy 15 = .ok (.iadd, 1) := by decide +kernel
theorem dX12_copy_16 : decode cX12_copy 16 = .ok (.aload_n 0, 1) := by decide +kernel
theorem dX12_copy_17 : decode cX12_copy 17 = .ok (.getfield 7, 3) := by decide +kernel
theorem dX12_copy_20 : decode cX12_copy 20 = .ok (.iload_n 1, 1) := by decide +kernel
theorem dX12_copy_21 : decode cX12_copy 21 = .ok (.iload_n 3, 1) := by decide +kernel
theorem dX12_copy_22 : decode cX12_copy 22 = .ok (.iadd, 1) := by decide +kernel
theorem dX12_copy_23 : decode cX12_copy 23 = .ok (.iaload, 1) := by decide +kernel
theorem dX12_copy_24 : decode cX12_copy 24 = .ok (.iastore, 1) := by decide +kernel
theorem dX12_copy_25 : decode cX12_copy 25 = .ok (.iinc 3 1, 3) := by decide +kernel
theorem dX12_copy_28 : decode cX12_copy 28 = .ok (.goto (-26), 3) := by decide +kernel
theorem dX12_copy_31 : decode cX12_copy 31 = .ok (.return_, 1) := by decide +kernel
theorem dX12_empties_0 : decode cX12_empties 0 = .ok (.iconst 0, 1) := by decide +kernel
theorem dX12_empties_1 : decode cX12_empties 1 = .ok (.istore_n 2, 1) := by decide +kernel
theorem dX12_empties_2 : decode cX12_empties 2 = .ok (.iload_n 2, 1) := by decide +kernel
theorem dX12_empties_3 : decode cX12_empties 3 = .ok (.sipush 241, 3) := by decide +kernel
theorem dX12_empties_6 : decode cX12_empties 6 = .ok (.if_icmp .ge 18, 3) := by decide +kernel
theorem dX12_empties_9 : decode cX12_empties 9 = .ok (.aload_n 0, 1) := by decide +kernel
theorem dX12_empties_10 : decode cX12_empties 10 = .ok (.getfield 7, 3) := by decide +kernel
theorem dX12_empties_13 : decode cX12_empties 13 = .ok (.iload_n 1, 1) := by decide +kernel
theorem dX12_empties_14 : decode cX12_empties 14 = .ok (.iload_n 2, 1) := by decide +kernel
theorem dX12_empties_15 : decode cX12_empties 15 = .ok (.iadd, 1) := by decide +kernel
theorem dX12_empties_16 : decode cX12_empties 16 = .ok (.iconst 0, 1) := by decide +kernel
theorem dX12_empties_17 : decode cX12_empties 17 = .ok (.iastore, 1) := by decide +kernel
theorem dX12_empties_18 : decode cX12_empties 18 = .ok (.iinc 2 1, 3) := by decide +kernel
theorem dX12_empties_21 : decode cX12_empties 21 = .ok (.goto (-19), 3) := by decide +kernel
theorem dX12_empties_24 : decode cX12_empties 24 = .ok (.return_, 1) := by decide +kernel
set_option maxRecDepth 20000 in
theorem ggX12_isKeeper_X12_in : GoodIn wsX12_isKeeper wsX12_in := goodIn_r _ [5] (by decide +kernel) (by decide +kernel)
set_option maxRecDepth 20000 in
theorem gX12_isKeeper_X12_in : GoodIn wsX12_isKeeper (va_wsS RX12 49 yX12_in wsX12_in) := goodIn_app (goodIn_of _ (by decide +kernel)) ggX12_isKeeper_X12_in
theorem dX12_isKeeper_0 : decode cX12_isKeeper 0 = .ok (.iload_n 1, 1) := by decide +kernel
theorem dX12_isKeeper_1 : decode cX12_isKeeper 1 = .ok (.i2l, 1) := by decide +kernel
theorem dX12_isKeeper_2 : decode cX12_isKeeper 2 = .ok (.lconst 0, 1) := by decide +kernel
theorem dX12_isKeeper_3 : decode cX12_isKeeper 3 = .ok (.aload_n 0, 1) := by decide +kernel
theorem dX12_isKeeper_4 : decode cX12_isKeeper 4 = .ok (.getfield 7, 3) := by decide +kernel
theorem dX12_isKeeper_7 : decode cX12_isKeeper 7 = .ok (.iconst 0, 1) := by decide +kernel
theorem dX12_isKeeper_8 : decode cX12_isKeeper 8 = .ok (.iaload, 1) := by decide +kernel
theorem dX12_isKeeper_9 : decode cX12_isKeeper 9 = .ok (.iconst 1, 1) := by decide +kernel
theorem dX12_isKeeper_10 : decode cX12_isKeeper 10 = .ok (.isub, 1) := by decide +kernel
theorem dX12_isKeeper_11 : decode cX12_isKeeper 11 = .ok (.i2l, 1) := by decide +kernel
theorem dX12_isKeeper_12 : decode cX12_isKeeper 12 = .ok (.invokestatic 49, 3) := by decide +kernel
theorem dX12_isKeeper_15 : decode cX12_isKeeper 15 = .ok (.ireturn, 1) := by decide +kernel
set_option maxRecDepth 20000 in
theorem ggX12_isBalance_X12_in : GoodIn wsX12_isBalance wsX12_in := goodIn_r _ [5] (by decide +kernel) (by decide +kernel)
set_option maxRecDepth 20000 in
theorem gX12_isBalance_X12_in : GoodIn wsX12_isBalance (va_wsS RX12 49 yX12_in wsX12_in) := goodIn_app (goodIn_of _ (by decide +kernel)) ggX12_isBalance_X12_in
theorem dX12_isBalance_0 : decode cX12_isBalance 0 = .ok (.iload_n 1, 1) := by decide +kernel
theorem dX12_isBalance_1 : decode cX12_isBalance 1 = .ok (.i2l, 1) := by decide +kernel
theorem dX12_isBalance_2 : decode cX12_isBalance 2 = .ok (.lconst 0, 1) := by decide +kernel
theorem dX12_isBalance_3 : decode cX12_isBalance 3 = .ok (.aload_n 0, 1) := by decide +kernel
theorem dX12_isBalance_4 : decode cX12_isBalance 4 = .ok (.getfield 7, 3) := by decide +kernel
theorem dX12_isBalance_7 : decode cX12_isBalance 7 = .ok (.iconst 1, 1) := by decide +kernel
theorem dX12_isBalance_8 : decode cX12_isBalance 8 = .ok (.iaload, 1) := by decide +kernel
theorem dX12_isBalance_9 : decode cX12_isBalance 9 = .ok (.iconst 1, 1) := by decide +kernel
theorem dX12_isBalance_10 : decode cX12_isBalance 10 = .ok (.isub, 1) := by decide +kernel
theorem dX12_isBalance_11 : decode cX12_isBalance 11 = .ok (.i2l, 1) := by decide +kernel
theorem dX12_isBalance_12 : decode cX12_isBalance 12 = .ok (.invokestatic 49, 3) := by decide +kernel
theorem dX12_isBalance_15 : decode cX12_isBalance 15 = .ok (.ireturn, 1) := by decide +kernel
set_option maxRecDepth 20000 in
theorem ggX12_areKeepers_X12_in : GoodIn wsX12_areKeepers wsX12_in := goodIn_r _ [5] (by decide +kernel) (by decide +kernel)
set_option maxRecDepth 20000 in
theorem gX12_areKeepers_X12_in : GoodIn wsX12_areKeepers (va_wsS RX12 49 yX12_in wsX12_in) := goodIn_app (goodIn_of _ (by decide +kernel)) ggX12_areKeepers_X12_in
theorem dX12_areKeepers_0 : decode cX12_areKeepers 0 = .ok (.iload_n 1, 1) := by decide +kernel
theorem dX12_areKeepers_1 : decode cX12_areKeepers 1 = .ok (.i2l, 1) := by decide +kernel
theorem dX12_areKeepers_2 : decode cX12_areKeepers 2 = .ok (.lconst 0, 1) := by decide +kernel
theorem dX12_areKeepers_3 : decode cX12_areKeepers 3 = .ok (.iconst 1, 1) := by decide +kernel
theorem dX12_areKeepers_4 : decode cX12_areKeepers 4 = .ok (.aload_n 0, 1) := by decide +kernel
theorem dX12_areKeepers_5 : decode cX12_areKeepers 5 = .ok (.getfield 7, 3) := by decide +kernel
theorem dX12_areKeepers_8 : decode cX12_areKeepers 8 = .ok (.iconst 0, 1) := by decide +kernel
theorem dX12_areKeepers_9 : decode cX12_areKeepers 9 = .ok (.iaload, 1) := by decide +kernel
theorem dX12_areKeepers_10 : decode cX12_areKeepers 10 = .ok (.ishl, 1) := by decide +kernel
theorem dX12_areKeepers_11 : decode cX12_areKeepers 11 = .ok (.iconst 1, 1) := by decide +kernel
theorem dX12_areKeepers_12 : decode cX12_areKeepers 12 = .ok (.isub, 1) := by decide +kernel
theorem dX12_areKeepers_13 : decode cX12_areKeepers 13 = .ok (.i2l, 1) := by decide +kernel
theorem dX12_areKeepers_14 : decode cX12_areKeepers 14 = .ok (.invokestatic 49, 3) := by decide +kernel
theorem dX12_areKeepers_17 : decode cX12_areKeepers 17 = .ok (.ireturn, 1) := by decide +kernel
theorem dX12_fades_0 : decode cX12_fades 0 = .ok (.iload_n 1, 1) := by decide +kernel
theorem dX12_fades_1 : decode cX12_fades 1 = .ok (.iconst 2, 1) := by decide +kernel
theorem dX12_fades_2 : decode cX12_fades 2 = .ok (.irem, 1) := by decide +kernel
theorem dX12_fades_3 : decode cX12_fades 3 = .ok (.ifCond .ne 8, 3) := by decide +kernel
theorem dX12_fades_6 : decode cX12_fades 6 = .ok (.iload_n 0, 1) := by decide +kernel
theorem dX12_fades_7 : decode cX12_fades 7 = .ok (.iconst 1, 1) := by decide +kernel
theorem dX12_fades_8 : decode cX12_fades 8 = .ok (.if_icmp .ne 7, 3) := by decide +kernel
theorem dX12_fades_11 : decode cX12_fades 11 = .ok (.iload_n 0, 1) := by decide +kernel
theorem dX12_fades_12 : decode cX12_fades 12 = .ok (.goto 6, 3) := by decide +kernel
theorem dX12_fades_15 : decode cX12_fades 15 = .ok (.iload_n 0, 1) := by decide +kernel
theorem dX12_fades_16 : decode cX12_fades 16 = .ok (.iconst 1, 1) := by decide +kernel
theorem dX12_fades_17 : decode cX12_fades 17 = .ok (.isub, 1) := by decide +kernel
theorem dX12_fades_18 : decode cX12_fades 18 = .ok (.ireturn, 1) := by decide +kernel
set_option maxRecDepth 20000 in
theorem ggX12_goes_X12_fades : GoodIn wsX12_goes wsX12_fades := goodIn_r _ [4] (by decide +kernel) (by decide +kernel)
set_option maxRecDepth 20000 in
theorem gX12_goes_X12_fades : GoodIn wsX12_goes (va_wsS RX12 53 yX12_fades wsX12_fades) := goodIn_app (goodIn_of _ (by decide +kernel)) ggX12_goes_X12_fades
theorem dX12_goes_0 : decode cX12_goes 0 = .ok (.iload_n 0, 1) := by decide +kernel
theorem dX12_goes_1 : decode cX12_goes 1 = .ok (.tableswitch 72 1 5 #[35, 72, 72, 41, 51], 35) := by decide +kernel
theorem dX12_goes_36 : decode cX12_goes 36 = .ok (.iload_n 1, 1) := by decide +kernel
theorem dX12_goes_37 : decode cX12_goes 37 = .ok (.iload_n 2, 1) := by decide +kernel
theorem dX12_goes_38 : decode cX12_goes 38 = .ok (.invokestatic 53, 3) := by decide +kernel
theorem dX12_goes_41 : decode cX12_goes 41 = .ok (.ireturn, 1) := by decide +kernel
theorem dX12_goes_42 : decode cX12_goes 42 = .ok (.iload_n 1, 1) := by decide +kernel
theorem dX12_goes_43 : decode cX12_goes 43 = .ok (.iload_n 2, 1) := by decide +kernel
theorem dX12_goes_44 : decode cX12_goes 44 = .ok (.invokestatic 53, 3) := by decide +kernel
theorem dX12_goes_47 : decode cX12_goes 47 = .ok (.iload_n 2, 1) := by decide +kernel
theorem dX12_goes_48 : decode cX12_goes 48 = .ok (.invokestatic 53, 3) := by decide +kernel
theorem dX12_goes_51 : decode cX12_goes 51 = .ok (.ireturn, 1) := by decide +kernel
theorem dX12_goes_52 : decode cX12_goes 52 = .ok (.iload_n 2, 1) := by decide +kernel
theorem dX12_goes_53 : decode cX12_goes 53 = .ok (.iconst 3, 1) := by decide +kernel
theorem dX12_goes_54 : decode cX12_goes 54 = .ok (.irem, 1) := by decide +kernel
theorem dX12_goes_55 : decode cX12_goes 55 = .ok (.ifCond .ne 16, 3) := by decide +kernel
theorem dX12_goes_58 : decode cX12_goes 58 = .ok (.iload_n 1, 1) := by decide +kernel
theorem dX12_goes_59 : decode cX12_goes 59 = .ok (.sipush 250, 3) := by decide +kernel
theorem dX12_goes_62 : decode cX12_goes 62 = .ok (.if_icmp .ge 9, 3) := by decide +kernel
theorem dX12_goes_65 : decode cX12_goes 65 = .ok (.iload_n 1, 1) := by decide +kernel
theorem dX12_goes_66 : decode cX12_goes 66 = .ok (.iconst 1, 1) := by decide +kernel
theorem dX12_goes_67 : decode cX12_goes 67 = .ok (.iadd, 1) := by decide +kernel
theorem dX12_goes_68 : decode cX12_goes 68 = .ok (.goto 4, 3) := by decide +kernel
theorem dX12_goes_71 : decode cX12_goes 71 = .ok (.iload_n 1, 1) := by decide +kernel
theorem dX12_goes_72 : decode cX12_goes 72 = .ok (.ireturn, 1) := by decide +kernel
theorem dX12_goes_73 : decode cX12_goes 73 = .ok (.iload_n 1, 1) := by decide +kernel
theorem dX12_goes_74 : decode cX12_goes 74 = .ok (.ireturn, 1) := by decide +kernel
theorem dX12_lends_0 : decode cX12_lends 0 = .ok (.iload_n 2, 1) := by decide +kernel
theorem dX12_lends_1 : decode cX12_lends 1 = .ok (.iload_n 3, 1) := by decide +kernel
theorem dX12_lends_2 : decode cX12_lends 2 = .ok (.iadd, 1) := by decide +kernel
theorem dX12_lends_3 : decode cX12_lends 3 = .ok (.iconst 5, 1) := by decide +kernel
theorem dX12_lends_4 : decode cX12_lends 4 = .ok (.if_icmp .lt 7, 3) := by decide +kernel
theorem dX12_lends_7 : decode cX12_lends 7 = .ok (.iconst 1, 1) := by decide +kernel
theorem dX12_lends_8 : decode cX12_lends 8 = .ok (.goto 4, 3) := by decide +kernel
theorem dX12_lends_11 : decode cX12_lends 11 = .ok (.iconst 0, 1) := by decide +kernel
theorem dX12_lends_12 : decode cX12_lends 12 = .ok (.istore 4, 2) := by decide +kernel
theorem dX12_lends_14 : decode cX12_lends 14 = .ok (.iload_n 0, 1) := by decide +kernel
theorem dX12_lends_15 : decode cX12_lends 15 = .ok (.tableswitch 71 2 5 #[29, 31, 54, 31], 29) := by decide +kernel
theorem dX12_lends_44 : decode cX12_lends 44 = .ok (.iconst 0, 1) := by decide +kernel
theorem dX12_lends_45 : decode cX12_lends 45 = .ok (.ireturn, 1) := by decide +kernel
theorem dX12_lends_46 : decode cX12_lends 46 = .ok (.iload 4, 2) := by decide +kernel
theorem dX12_lends_48 : decode cX12_lends 48 = .ok (.ifCond .eq 19, 3) := by decide +kernel
theorem dX12_lends_51 : decode cX12_lends 51 = .ok (.iload_n 1, 1) := by decide +kernel
theorem dX12_lends_52 : decode cX12_lends 52 = .ok (.bipush 7, 2) := by decide +kernel
theorem dX12_lends_54 : decode cX12_lends 54 = .ok (.irem, 1) := by decide +kernel
theorem dX12_lends_55 : decode cX12_lends 55 = .ok (.ifCond .eq 8, 3) := by decide +kernel
theorem dX12_lends_58 : decode cX12_lends 58 = .ok (.iload_n 3, 1) := by decide +kernel
theorem dX12_lends_59 : decode cX12_lends 59 = .ok (.iconst 5, 1) := by decide +kernel
theorem dX12_lends_60 : decode cX12_lends 60 = .ok (.if_icmp .lt 7, 3) := by decide +kernel
theorem dX12_lends_63 : decode cX12_lends 63 = .ok (.iconst 1, 1) := by decide +kernel
theorem dX12_lends_64 : decode cX12_lends 64 = .ok (.goto 4, 3) := by decide +kernel
theorem dX12_lends_67 : decode cX12_lends 67 = .ok (.iconst 0, 1) := by decide +kernel
theorem dX12_lends_68 : decode cX12_lends 68 = .ok (.ireturn, 1) := by decide +kernel
theorem dX12_lends_69 : decode cX12_lends 69 = .ok (.iload 4, 2) := by decide +kernel
theorem dX12_lends_71 : decode cX12_lends 71 = .ok (.ifCond .ne 9, 3) := by decide +kernel
theorem dX12_lends_74 : decode cX12_lends 74 = .ok (.iload_n 2, 1) := by decide +kernel
theorem dX12_lends_75 : decode cX12_lends 75 = .ok (.bipush 8, 2) := by decide +kernel
theorem dX12_lends_77 : decode cX12_lends 77 = .ok (.if_icmp .lt 7, 3) := by decide +kernel
theorem dX12_lends_80 : decode cX12_lends 80 = .ok (.iconst 1, 1) := by decide +kernel
theorem dX12_lends_81 : decode cX12_lends 81 = .ok (.goto 4, 3) := by decide +kernel
theorem dX12_lends_84 : decode cX12_lends 84 = .ok (.iconst 0, 1) := by decide +kernel
theorem dX12_lends_85 : decode cX12_lends 85 = .ok (.ireturn, 1) := by decide +kernel
theorem dX12_lends_86 : decode cX12_lends 86 = .ok (.iload 4, 2) := by decide +kernel
theorem dX12_lends_88 : decode cX12_lends 88 = .ok (.ireturn, 1) := by decide +kernel
theorem dX12_trueTip_0 : decode cX12_trueTip 0 = .ok (.iload_n 0, 1) := by decide +kernel
theorem dX12_trueTip_1 : decode cX12_trueTip 1 = .ok (.iload_n 1, 1) := by decide +kernel
theorem dX12_trueTip_2 : decode cX12_trueTip 2 = .ok (.if_icmp .le 7, 3) := by decide +kernel
theorem dX12_trueTip_5 : decode cX12_trueTip 5 = .ok (.iconst 1, 1) := by decide +kernel
theorem dX12_trueTip_6 : decode cX12_trueTip 6 = .ok (.goto 13, 3) := by decide +kernel
theorem dX12_trueTip_9 : decode cX12_trueTip 9 = .ok (.iload_n 0, 1) := by decide +kernel
theorem dX12_trueTip_10 : decode cX12_trueTip 10 = .ok (.iload_n 1, 1) := by decide +kernel
theorem dX12_trueTip_11 : decode cX12_trueTip 11 = .ok (.if_icmp .ge 7, 3) := by decide +kernel
theorem dX12_trueTip_14 : decode cX12_trueTip 14 = .ok (.iconst (-1), 1) := by decide +kernel
theorem dX12_trueTip_15 : decode cX12_trueTip 15 = .ok (.goto 4, 3) := by decide +kernel
theorem dX12_trueTip_18 : decode cX12_trueTip 18 = .ok (.iconst 0, 1) := by decide +kernel
theorem dX12_trueTip_19 : decode cX12_trueTip 19 = .ok (.ireturn, 1) := by decide +kernel
set_option maxRecDepth 20000 in
theorem ggX12_stiffTip_X12_in : GoodIn wsX12_stiffTip wsX12_in := goodIn_r _ [6] (by decide +kernel) (by decide +kernel)
set_option maxRecDepth 20000 in
theorem gX12_stiffTip_X12_in : GoodIn wsX12_stiffTip (va_wsS RX12 49 yX12_in wsX12_in) := goodIn_app (goodIn_of _ (by decide +kernel)) ggX12_stiffTip_X12_in
set_option maxRecDepth 20000 in
theorem ggX12_stiffTip_X12_trueTip : GoodIn wsX12_stiffTip wsX12_trueTip := goodIn_r _ [9] (by decide +kernel) (by decide +kernel)
set_option maxRecDepth 20000 in
theorem gX12_stiffTip_X12_trueTip : GoodIn wsX12_stiffTip (va_wsS RX12 61 yX12_trueTip wsX12_trueTip) := goodIn_app (goodIn_of _ (by decide +kernel)) ggX12_stiffTip_X12_trueTip
theorem dX12_stiffTip_0 : decode cX12_stiffTip 0 = .ok (.iload_n 0, 1) := by decide +kernel
theorem dX12_stiffTip_1 : decode cX12_stiffTip 1 = .ok (.iload_n 1, 1) := by decide +kernel
theorem dX12_stiffTip_2 : decode cX12_stiffTip 2 = .ok (.isub, 1) := by decide +kernel
theorem dX12_stiffTip_3 : decode cX12_stiffTip 3 = .ok (.i2l, 1) := by decide +kernel
theorem dX12_stiffTip_4 : decode cX12_stiffTip 4 = .ok (.ldc2_w 57, 3) := by decide +kernel
theorem dX12_stiffTip_7 : decode cX12_stiffTip 7 = .ok (.ldc2_w 59, 3) := by decide +kernel
theorem dX12_stiffTip_10 : decode cX12_stiffTip 10 = .ok (.invokestatic 49, 3) := by decide +kernel
theorem dX12_stiffTip_13 : decode cX12_stiffTip 13 = .ok (.ifCond .eq 7, 3) := by decide +kernel
theorem dX12_stiffTip_16 : decode cX12_stiffTip 16 = .ok (.iconst 0, 1) := by decide +kernel
theorem dX12_stiffTip_17 : decode cX12_stiffTip 17 = .ok (.goto 8, 3) := by decide +kernel
theorem dX12_stiffTip_20 : decode cX12_stiffTip 20 = .ok (.iload_n 0, 1) := by decide +kernel
theorem dX12_stiffTip_21 : decode cX12_stiffTip 21 = .ok (.iload_n 1, 1) := by decide +kernel
theorem dX12_stiffTip_22 : decode cX12_stiffTip 22 = .ok (.invokestatic 61, 3) := by decide +kernel
theorem dX12_stiffTip_25 : decode cX12_stiffTip 25 = .ok (.ireturn, 1) := by decide +kernel
set_option maxRecDepth 20000 in
theorem ggX12_tipOf_X12_stiffTip : GoodIn wsX12_tipOf wsX12_stiffTip := goodIn_r _ [4, 5, 6, 7, 8, 3, 9, 10, 11, 12] (by decide +kernel) (by decide +kernel)
set_option maxRecDepth 20000 in
theorem gX12_tipOf_X12_stiffTip : GoodIn wsX12_tipOf (va_wsS RX12 64 yX12_stiffTip wsX12_stiffTip) := goodIn_app (goodIn_of _ (by decide +kernel)) ggX12_tipOf_X12_stiffTip
set_option maxRecDepth 20000 in
theorem ggX12_tipOf_X12_trueTip : GoodIn wsX12_tipOf wsX12_trueTip := goodIn_r _ [12] (by decide +kernel) (by decide +kernel)
set_option maxRecDepth 20000 in
theorem gX12_tipOf_X12_trueTip : GoodIn wsX12_tipOf (va_wsS RX12 61 yX12_trueTip wsX12_trueTip) := goodIn_app (goodIn_of _ (by decide +kernel)) ggX12_tipOf_X12_trueTip
theorem dX12_tipOf_0 : decode cX12_tipOf 0 = .ok (.iload_n 0, 1) := by decide +kernel
theorem dX12_tipOf_1 : decode cX12_tipOf 1 = .ok (.tableswitch 96 1 5 #[35, 41, 49, 73, 87], 35) := by decide +kernel
theorem dX12_tipOf_36 : decode cX12_tipOf 36 = .ok (.iload_n 1, 1) := by decide +kernel
theorem dX12_tipOf_37 : decode cX12_tipOf 37 = .ok (.iload_n 2, 1) := by decide +kernel
theorem dX12_tipOf_38 : decode cX12_tipOf 38 = .ok (.invokestatic 64, 3) := by decide +kernel
theorem dX12_tipOf_41 : decode cX12_tipOf 41 = .ok (.ireturn, 1) := by decide +kernel
theorem dX12_tipOf_42 : decode cX12_tipOf 42 = .ok (.iload_n 1, 1) := by decide +kernel
theorem dX12_tipOf_43 : decode cX12_tipOf 43 = .ok (.iconst 2, 1) := by decide +kernel
theorem dX12_tipOf_44 : decode cX12_tipOf 44 = .ok (.iadd, 1) := by decide +kernel
theorem dX12_tipOf_45 : decode cX12_tipOf 45 = .ok (.iload_n 2, 1) := by decide +kernel
theorem dX12_tipOf_46 : decode cX12_tipOf 46 = .ok (.invokestatic 61, 3) := by decide +kernel
theorem dX12_tipOf_49 : decode cX12_tipOf 49 = .ok (.ireturn, 1) := by decide +kernel
theorem dX12_tipOf_50 : decode cX12_tipOf 50 = .ok (.iload_n 1, 1) := by decide +kernel
theorem dX12_tipOf_51 : decode cX12_tipOf 51 = .ok (.iload_n 2, 1) := by decide +kernel
theorem dX12_tipOf_52 : decode cX12_tipOf 52 = .ok (.iadd, 1) := by decide +kernel
theorem dX12_tipOf_53 : decode cX12_tipOf 53 = .ok (.iconst 2, 1) := by decide +kernel
theorem dX12_tipOf_54 : decode cX12_tipOf 54 = .ok (.irem, 1) := by decide +kernel
theorem dX12_tipOf_55 : decode cX12_tipOf 55 = .ok (.iconst 1, 1) := by decide +kernel
theorem dX12_tipOf_56 : decode cX12_tipOf 56 = .ok (.if_icmp .ne 12, 3) := by decide +kernel
theorem dX12_tipOf_59 : decode cX12_tipOf 59 = .ok (.iload_n 1, 1) := by decide +kernel
theorem dX12_tipOf_60 : decode cX12_tipOf 60 = .ok (.iload_n 2, 1) := by decide +kernel
theorem dX12_tipOf_61 : decode cX12_tipOf 61 = .ok (.invokestatic 61, 3) := by decide +kernel
theorem dX12_tipOf_64 : decode cX12_tipOf 64 = .ok (.ineg, 1) := by decide +kernel
theorem dX12_tipOf_65 : decode cX12_tipOf 65 = .ok (.goto 8, 3) := by decide +kernel
theorem dX12_tipOf_68 : decode cX12_tipOf 68 = .ok (.iload_n 1, 1) := by decide +kernel
theorem dX12_tipOf_69 : decode cX12_tipOf 69 = .ok (.iload_n 2, 1) := by decide +kernel
theorem dX12_tipOf_70 : decode cX12_tipOf 70 = .ok (.invokestatic 61, 3) := by decide +kernel
theorem dX12_tipOf_73 : decode cX12_tipOf 73 = .ok (.ireturn, 1) := by decide +kernel
theorem dX12_tipOf_74 : decode cX12_tipOf 74 = .ok (.iload_n 2, 1) := by decide +kernel
theorem dX12_tipOf_75 : decode cX12_tipOf 75 = .ok (.ifCond .ne 7, 3) := by decide +kernel
theorem dX12_tipOf_78 : decode cX12_tipOf 78 = .ok (.iconst 0, 1) := by decide +kernel
theorem dX12_tipOf_79 : decode cX12_tipOf 79 = .ok (.goto 8, 3) := by decide +kernel
theorem dX12_tipOf_82 : decode cX12_tipOf 82 = .ok (.iload_n 1, 1) := by decide +kernel
theorem dX12_tipOf_83 : decode cX12_tipOf 83 = .ok (.iload_n 2, 1) := by decide +kernel
theorem dX12_tipOf_84 : decode cX12_tipOf 84 = .ok (.invokestatic 64, 3) := by decide +kernel
theorem dX12_tipOf_87 : decode cX12_tipOf 87 = .ok (.ireturn, 1) := by decide +kernel
theorem dX12_tipOf_88 : decode cX12_tipOf 88 = .ok (.iload_n 1, 1) := by decide +kernel
theorem dX12_tipOf_89 : decode cX12_tipOf 89 = .ok (.iconst 2, 1) := by decide +kernel
theorem dX12_tipOf_90 : decode cX12_tipOf 90 = .ok (.iadd, 1) := by decide +kernel
theorem dX12_tipOf_91 : decode cX12_tipOf 91 = .ok (.iload_n 2, 1) := by decide +kernel
theorem dX12_tipOf_92 : decode cX12_tipOf 92 = .ok (.invokestatic 61, 3) := by decide +kernel
theorem dX12_tipOf_95 : decode cX12_tipOf 95 = .ok (.ineg, 1) := by decide +kernel
theorem dX12_tipOf_96 : decode cX12_tipOf 96 = .ok (.ireturn, 1) := by decide +kernel
theorem dX12_tipOf_97 : decode cX12_tipOf 97 = .ok (.iload_n 1, 1) := by decide +kernel
theorem dX12_tipOf_98 : decode cX12_tipOf 98 = .ok (.iload_n 2, 1) := by decide +kernel
theorem dX12_tipOf_99 : decode cX12_tipOf 99 = .ok (.invokestatic 61, 3) := by decide +kernel
theorem dX12_tipOf_102 : decode cX12_tipOf 102 = .ok (.ireturn, 1) := by decide +kernel
set_option maxRecDepth 20000 in
theorem ggX12_market_X12_empties : GoodIn wsX12_market wsX12_empties := goodIn_r _ [6, 1, 7, 8, 9, 10, 11, 12, 13, 14, 15, 16, 17, 18, 19, 20, 21, 22, 23, 24, 25, 26] (by decide +kernel) (by decide +kernel)
set_option maxRecDepth 20000 in
theorem gX12_market_X12_empties : GoodIn wsX12_market (wsV RX12 67 RX12 yX12_empties wsX12_empties) := goodIn_app (goodIn_of _ (by decide +kernel)) ggX12_market_X12_empties
theorem dX12_market_0 : decode cX12_market 0 = .ok (.aload_n 0, 1) := by decide +kernel
theorem dX12_market_1 : decode cX12_market 1 = .ok (.getfield 7, 3) := by decide +kernel
theorem dX12_market_4 : decode cX12_market 4 = .ok (.iconst 0, 1) := by decide +kernel
theorem dX12_market_5 : decode cX12_market 5 = .ok (.iaload, 1) := by decide +kernel
theorem dX12_market_6 : decode cX12_market 6 = .ok (.istore_n 1, 1) := by decide +kernel
theorem dX12_market_7 : decode cX12_market 7 = .ok (.aload_n 0, 1) := by decide +kernel
theorem dX12_market_8 : decode cX12_market 8 = .ok (.iconst 0, 1) := by decide +kernel
theorem dX12_market_9 : decode cX12_market 9 = .ok (.invokevirtual 67, 3) := by decide +kernel
theorem dX12_market_12 : decode cX12_market 12 = .ok (.iload_n 1, 1) := by decide +kernel
theorem dX12_market_13 : decode cX12_market 13 = .ok (.ireturn, 1) := by decide +kernel
theorem dX12_adds_0 : decode cX12_adds 0 = .ok (.aload_n 0, 1) := by decide +kernel
theorem dX12_adds_1 : decode cX12_adds 1 = .ok (.getfield 7, 3) := by decide +kernel
theorem dX12_adds_4 : decode cX12_adds 4 = .ok (.iload_n 1, 1) := by decide +kernel
theorem dX12_adds_5 : decode cX12_adds 5 = .ok (.iconst 0, 1) := by decide +kernel
theorem dX12_adds_6 : decode cX12_adds 6 = .ok (.iadd, 1) := by decide +kernel
theorem dX12_adds_7 : decode cX12_adds 7 = .ok (.iaload, 1) := by decide +kernel
theorem dX12_adds_8 : decode cX12_adds 8 = .ok (.istore 5, 2) := by decide +kernel
theorem dX12_adds_10 : decode cX12_adds 10 = .ok (.aload_n 0, 1) := by decide +kernel
theorem dX12_adds_11 : decode cX12_adds 11 = .ok (.getfield 7, 3) := by decide +kernel
theorem dX12_adds_14 : decode cX12_adds 14 = .ok (.iload_n 1, 1) := by decide +kernel
theorem dX12_adds_15 : decode cX12_adds 15 = .ok (.iconst 4, 1) := by decide +kernel
theorem dX12_adds_16 : decode cX12_adds 16 = .ok (.iadd, 1) := by decide +kernel
theorem dX12_adds_17 : decode cX12_adds 17 = .ok (.iload 5, 2) := by decide +kernel
theorem dX12_adds_19 : decode cX12_adds 19 = .ok (.iadd, 1) := by decide +kernel
theorem dX12_adds_20 : decode cX12_adds 20 = .ok (.iload_n 2, 1) := by decide +kernel
theorem dX12_adds_21 : decode cX12_adds 21 = .ok (.iastore, 1) := by decide +kernel
theorem dX12_adds_22 : decode cX12_adds 22 = .ok (.aload_n 0, 1) := by decide +kernel
theorem dX12_adds_23 : decode cX12_adds 23 = .ok (.getfield 7, 3) := by decide +kernel
theorem dX12_adds_26 : decode cX12_adds 26 = .ok (.iload_n 1, 1) := by decide +kernel
theorem dX12_adds_27 : decode cX12_adds 27 = .ok (.bipush 11, 2) := by decide +kernel
theorem dX12_adds_29 : decode cX12_adds 29 = .ok (.iadd, 1) := by decide +kernel
theorem dX12_adds_30 : decode cX12_adds 30 = .ok (.iload 5, 2) := by decide +kernel
theorem dX12_adds_32 : decode cX12_adds 32 = .ok (.iadd, 1) := by decide +kernel
theorem dX12_adds_33 : decode cX12_adds 33 = .ok (.iload_n 3, 1) := by decide +kernel
theorem dX12_adds_34 : decode cX12_adds 34 = .ok (.iastore, 1) := by decide +kernel
theorem dX12_adds_35 : decode cX12_adds 35 = .ok (.aload_n 0, 1) := by decide +kernel
theorem dX12_adds_36 : decode cX12_adds 36 = .ok (.getfield 7, 3) := by decide +kernel
theorem dX12_adds_39 : decode cX12_adds 39 = .ok (.iload_n 1, 1) := by decide +kernel
theorem dX12_adds_40 : decode cX12_adds 40 = .ok (.bipush 18, 2) := by decide +kernel
theorem dX12_adds_42 : decode cX12_adds 42 = .ok (.iadd, 1) := by decide +kernel
theorem dX12_adds_43 : decode cX12_adds 43 = .ok (.iload 5, 2) := by decide +kernel
theorem dX12_adds_45 : decode cX12_adds 45 = .ok (.iadd, 1) := by decide +kernel
theorem dX12_adds_46 : decode cX12_adds 46 = .ok (.iload 4, 2) := by decide +kernel
theorem dX12_adds_48 : decode cX12_adds 48 = .ok (.iastore, 1) := by decide +kernel
theorem dX12_adds_49 : decode cX12_adds 49 = .ok (.aload_n 0, 1) := by decide +kernel
theorem dX12_adds_50 : decode cX12_adds 50 = .ok (.getfield 7, 3) := by decide +kernel
theorem dX12_adds_53 : decode cX12_adds 53 = .ok (.iload_n 1, 1) := by decide +kernel
theorem dX12_adds_54 : decode cX12_adds 54 = .ok (.bipush 25, 2) := by decide +kernel
theorem dX12_adds_56 : decode cX12_adds 56 = .ok (.iadd, 1) := by decide +kernel
theorem dX12_adds_57 : decode cX12_adds 57 = .ok (.iload 5, 2) := by decide +kernel
theorem dX12_adds_59 : decode cX12_adds 59 = .ok (.iadd, 1) := by decide +kernel
theorem dX12_adds_60 : decode cX12_adds 60 = .ok (.iload 4, 2) := by decide +kernel
theorem dX12_adds_62 : decode cX12_adds 62 = .ok (.iastore, 1) := by decide +kernel
theorem dX12_adds_63 : decode cX12_adds 63 = .ok (.aload_n 0, 1) := by decide +kernel
theorem dX12_adds_64 : decode cX12_adds 64 = .ok (.getfield 7, 3) := by decide +kernel
theorem dX12_adds_67 : decode cX12_adds 67 = .ok (.iload_n 1, 1) := by decide +kernel
theorem dX12_adds_68 : decode cX12_adds 68 = .ok (.bipush 32, 2) := by decide +kernel
theorem dX12_adds_70 : decode cX12_adds 70 = .ok (.iadd, 1) := by decide +kernel
theorem dX12_adds_71 : decode cX12_adds 71 = .ok (.iload 5, 2) := by decide +kernel
theorem dX12_adds_73 : decode cX12_adds 73 = .ok (.iadd, 1) := by decide +kernel
theorem dX12_adds_74 : decode cX12_adds 74 = .ok (.iconst 5, 1) := by decide +kernel
theorem dX12_adds_75 : decode cX12_adds 75 = .ok (.iastore, 1) := by decide +kernel
theorem dX12_adds_76 : decode cX12_adds 76 = .ok (.aload_n 0, 1) := by decide +kernel
theorem dX12_adds_77 : decode cX12_adds 77 = .ok (.getfield 7, 3) := by decide +kernel
theorem dX12_adds_80 : decode cX12_adds 80 = .ok (.iload_n 1, 1) := by decide +kernel
theorem dX12_adds_81 : decode cX12_adds 81 = .ok (.iconst 0, 1) := by decide +kernel
theorem dX12_adds_82 : decode cX12_adds 82 = .ok (.iadd, 1) := by decide +kernel
theorem dX12_adds_83 : decode cX12_adds 83 = .ok (.dup2, 1) := by decide +kernel
theorem dX12_adds_84 : decode cX12_adds 84 = .ok (.iaload, 1) := by decide +kernel
theorem dX12_adds_85 : decode cX12_adds 85 = .ok (.iconst 1, 1) := by decide +kernel
theorem dX12_adds_86 : decode cX12_adds 86 = .ok (.iadd, 1) := by decide +kernel
