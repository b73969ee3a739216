theorem inX0 : ∀ w ∈ wsX00, w ∈ lw_tbl := by decide +kernel
theorem inX1 : ∀ w ∈ wsX10, w ∈ lw_tbl := by decide +kernel
theorem inX2 : ∀ w ∈ wsX20, w ∈ lw_tbl := by decide +kernel
theorem inlX3 : ∀ w ∈ wsX30, w ∈ wsL_law := fun _ h => List.mem_append_left _ (List.mem_append_left _ (List.mem_append_left _ (List.mem_append_left _ (List.mem_append_left _ (List.mem_append_left _ (List.mem_append_left _ (List.mem_append_right _ h)))))))
theorem inX3 : ∀ w ∈ wsX30, w ∈ lw_tbl := fun w h => wsL_law_in w (inlX3 w h)
theorem inlX4 : ∀ w ∈ wsX40, w ∈ wsL_law := fun _ h => List.mem_append_left _ (List.mem_append_left _ (List.mem_append_left _ (List.mem_append_left _ (List.mem_append_right _ h))))
theorem inX4 : ∀ w ∈ wsX40, w ∈ lw_tbl := fun w h => wsL_law_in w (inlX4 w h)
theorem inlX5 : ∀ w ∈ wsX50, w ∈ wsL_law := fun _ h => List.mem_append_left _ (List.mem_append_left _ (List.mem_append_left _ (List.mem_append_right _ h)))
theorem inX5 : ∀ w ∈ wsX50, w ∈ lw_tbl := fun w h => wsL_law_in w (inlX5 w h)
theorem inlX6 : ∀ w ∈ wsX60, w ∈ wsL_law := fun _ h => List.mem_append_left _ (List.mem_append_right _ h)
theorem inX6 : ∀ w ∈ wsX60, w ∈ lw_tbl := fun w h => wsL_law_in w (inlX6 w h)
theorem inlX7 : ∀ w ∈ wsX70, w ∈ wsL_law := fun _ h => List.mem_append_left _ (List.mem_append_left _ (List.mem_append_left _ (List.mem_append_left _ (List.mem_append_left _ (List.mem_append_left _ (List.mem_append_right _ h))))))
theorem inX7 : ∀ w ∈ wsX70, w ∈ lw_tbl := fun w h => wsL_law_in w (inlX7 w h)
theorem inlX8 : ∀ w ∈ wsX80, w ∈ wsL_law := fun _ h => List.mem_append_left _ (List.mem_append_left _ (List.mem_append_left _ (List.mem_append_left _ (List.mem_append_left _ (List.mem_append_right _ h)))))
theorem inX8 : ∀ w ∈ wsX80, w ∈ lw_tbl := fun w h => wsL_law_in w (inlX8 w h)
theorem inX9 : ∀ w ∈ wsX90, w ∈ lw_tbl := by decide +kernel
theorem inlX10 : ∀ w ∈ wsX100, w ∈ wsL_law := fun _ h => List.mem_append_left _ (List.mem_append_left _ (List.mem_append_right _ h))
theorem inX10 : ∀ w ∈ wsX100, w ∈ lw_tbl := fun w h => wsL_law_in w (inlX10 w h)
theorem inlX11 : ∀ w ∈ wsX110, w ∈ wsL_law := fun _ h => List.mem_append_left _ (List.mem_append_left _ (List.mem_append_left _ (List.mem_append_left _ (List.mem_append_left _ (List.mem_append_left _ (List.mem_append_left _ (List.mem_append_left _ (List.mem_append_left _ (List.mem_append_right _ h)))))))))
theorem inX11 : ∀ w ∈ wsX110, w ∈ lw_tbl := fun w h => wsL_law_in w (inlX11 w h)
theorem inlX12 : ∀ w ∈ wsX120, w ∈ wsL_law := fun _ h => List.mem_append_left _ (List.mem_append_left _ (List.mem_append_left _ (List.mem_append_left _ (List.mem_append_left _ (List.mem_append_left _ (List.mem_append_left _ (List.mem_append_left _ (List.mem_append_right _ h))))))))
theorem inX12 : ∀ w ∈ wsX120, w ∈ lw_tbl := fun w h => wsL_law_in w (inlX12 w h)
theorem inJ6 : ∀ w ∈ wsJ60, w ∈ lw_tbl := by decide +kernel
theorem inJ9 : ∀ w ∈ wsJ90, w ∈ lw_tbl := by decide +kernel
theorem inJ0 : ∀ w ∈ wsJ00, w ∈ lw_tbl := by decide +kernel
theorem inJ1 : ∀ w ∈ wsJ10, w ∈ lw_tbl := by decide +kernel
theorem inJ2 : ∀ w ∈ wsJ20, w ∈ lw_tbl := by decide +kernel
theorem inJ3 : ∀ w ∈ wsJ30, w ∈ lw_tbl := by decide +kernel
set_option maxRecDepth 20000 in
theorem ggX0_tip_X0_trueTip : GoodIn wsX0_tip wsX0_trueTip := goodIn_r _ [4, 5, 6, 7, 8] (by decide +kernel) (by decide +kernel)
set_option maxRecDepth 20000 in
theorem gX0_tip_X0_trueTip : GoodIn wsX0_tip (va_wsS RX0 7 yX0_trueTip wsX0_trueTip) := goodIn_app (goodIn_of _ (by decide +kernel)) ggX0_tip_X0_trueTip
set_option maxRecDepth 20000 in
theorem ggX0_tip_X0_stiffTip : GoodIn wsX0_tip wsX0_stiffTip := goodIn_r _ [11, 12, 13, 14, 15, 1, 2, 3, 4, 5, 6, 7, 8] (by decide +kernel) (by decide +kernel)
set_option maxRecDepth 20000 in
theorem gX0_tip_X0_stiffTip : GoodIn wsX0_tip (va_wsS RX0 13 yX0_stiffTip wsX0_stiffTip) := goodIn_app (goodIn_of _ (by decide +kernel)) ggX0_tip_X0_stiffTip
set_option maxRecDepth 20000 in
theorem ggX0_tip_X0_bentTip : GoodIn wsX0_tip wsX0_bentTip := goodIn_r _ [18, 1, 2, 3, 4, 5, 6, 7, 8] (by decide +kernel) (by decide +kernel)
set_option maxRecDepth 20000 in
theorem gX0_tip_X0_bentTip : GoodIn wsX0_tip (va_wsS RX0 16 yX0_bentTip wsX0_bentTip) := goodIn_app (goodIn_of _ (by decide +kernel)) ggX0_tip_X0_bentTip
theorem dX0_tip_0 : decode cX0_tip 0 = .ok (.iload_n 0, 1) := by decide +kernel
theorem dX0_tip_1 : decode cX0_tip 1 = .ok (.tableswitch 101 0 5 #[39, 45, 51, 57, 80, 94], 39) := by decide +kernel
theorem dX0_tip_40 : decode cX0_tip 40 = .ok (.iload_n 1, 1) := by decide +kernel
theorem dX0_tip_41 : decode cX0_tip 41 = .ok (.iload_n 2, 1) := by decide +kernel
theorem dX0_tip_42 : decode cX0_tip 42 = .ok (.invokestatic 7, 3) := by decide +kernel
theorem dX0_tip_45 : decode cX0_tip 45 = .ok (.ireturn, 1) := by decide +kernel
theorem dX0_tip_46 : decode cX0_tip 46 = .ok (.iload_n 1, 1) := by decide +kernel
theorem dX0_tip_47 : decode cX0_tip 47 = .ok (.iload_n 2, 1) := by decide +kernel
theorem dX0_tip_48 : decode cX0_tip 48 = .ok (.invokestatic 13, 3) := by decide +kernel
theorem dX0_tip_51 : decode cX0_tip 51 = .ok (.ireturn, 1) := by decide +kernel
theorem dX0_tip_52 : decode cX0_tip 52 = .ok (.iload_n 1, 1) := by decide +kernel
theorem dX0_tip_53 : decode cX0_tip 53 = .ok (.iload_n 2, 1) := by decide +kernel
theorem dX0_tip_54 : decode cX0_tip 54 = .ok (.invokestatic 16, 3) := by decide +kernel
theorem dX0_tip_57 : decode cX0_tip 57 = .ok (.ireturn, 1) := by decide +kernel
theorem dX0_tip_58 : decode cX0_tip 58 = .ok (.iload_n 1, 1) := by decide +kernel
theorem dX0_tip_59 : decode cX0_tip 59 = .ok (.iload_n 2, 1) := by decide +kernel
theorem dX0_tip_60 : decode cX0_tip 60 = .ok (.iadd, 1) := by decide +kernel
theorem dX0_tip_61 : decode cX0_tip 61 = .ok (.iconst 2, 1) := by decide +kernel
theorem dX0_tip_62 : decode cX0_tip 62 = .ok (.irem, 1) := by decide +kernel
theorem dX0_tip_63 : decode cX0_tip 63 = .ok (.ifCond .ne 11, 3) := by decide +kernel
theorem dX0_tip_66 : decode cX0_tip 66 = .ok (.iload_n 1, 1) := by decide +kernel
theorem dX0_tip_67 : decode cX0_tip 67 = .ok (.iload_n 2, 1) := by decide +kernel
theorem dX0_tip_68 : decode cX0_tip 68 = .ok (.invokestatic 7, 3) := by decide +kernel
theorem dX0_tip_71 : decode cX0_tip 71 = .ok (.goto 9, 3) := by decide +kernel
theorem dX0_tip_74 : decode cX0_tip 74 = .ok (.iload_n 1, 1) := by decide +kernel
theorem dX0_tip_75 : decode cX0_tip 75 = .ok (.iload_n 2, 1) := by decide +kernel
theorem dX0_tip_76 : decode cX0_tip 76 = .ok (.invokestatic 7, 3) := by decide +kernel
theorem dX0_tip_79 : decode cX0_tip 79 = .ok (.ineg, 1) := by decide +kernel
theorem dX0_tip_80 : decode cX0_tip 80 = .ok (.ireturn, 1) := by decide +kernel
theorem dX0_tip_81 : decode cX0_tip 81 = .ok (.iload_n 2, 1) := by decide +kernel
theorem dX0_tip_82 : decode cX0_tip 82 = .ok (.ifCond .ne 7, 3) := by decide +kernel
theorem dX0_tip_85 : decode cX0_tip 85 = .ok (.iconst 0, 1) := by decide +kernel
theorem dX0_tip_86 : decode cX0_tip 86 = .ok (.goto 8, 3) := by decide +kernel
theorem dX0_tip_89 : decode cX0_tip 89 = .ok (.iload_n 1, 1) := by decide +kernel
theorem dX0_tip_90 : decode cX0_tip 90 = .ok (.iload_n 2, 1) := by decide +kernel
theorem dX0_tip_91 : decode cX0_tip 91 = .ok (.invokestatic 13, 3) := by decide +kernel
theorem dX0_tip_94 : decode cX0_tip 94 = .ok (.ireturn, 1) := by decide +kernel
theorem dX0_tip_95 : decode cX0_tip 95 = .ok (.iload_n 1, 1) := by decide +kernel
theorem dX0_tip_96 : decode cX0_tip 96 = .ok (.iload_n 2, 1) := by decide +kernel
theorem dX0_tip_97 : decode cX0_tip 97 = .ok (.invokestatic 16, 3) := by decide +kernel
theorem dX0_tip_100 : decode cX0_tip 100 = .ok (.ineg, 1) := by decide +kernel
theorem dX0_tip_101 : decode cX0_tip 101 = .ok (.ireturn, 1) := by decide +kernel
theorem dX0_tip_102 : decode cX0_tip 102 = .ok (.iconst 0, 1) := by decide +kernel
theorem dX0_tip_103 : decode cX0_tip 103 = .ok (.ireturn, 1) := by decide +kernel
set_option maxRecDepth 20000 in
theorem ggX0_trueTip_J6_compare_7cf53 : GoodIn wsX0_trueTip wsJ6_compare_7cf53 := goodIn_r _ [4] (by decide +kernel) (by decide +kernel)
set_option maxRecDepth 20000 in
theorem gX0_trueTip_J6_compare_7cf53 : GoodIn wsX0_trueTip (va_wsS RX0 19 yJ6_compare_7cf53 wsJ6_compare_7cf53) := goodIn_app (goodIn_of _ (by decide +kernel)) ggX0_trueTip_J6_compare_7cf53
theorem dX0_trueTip_0 : decode cX0_trueTip 0 = .ok (.iload_n 0, 1) := by decide +kernel
theorem dX0_trueTip_1 : decode cX0_trueTip 1 = .ok (.iload_n 1, 1) := by decide +kernel
theorem dX0_trueTip_2 : decode cX0_trueTip 2 = .ok (.invokestatic 19, 3) := by decide +kernel
theorem dX0_trueTip_5 : decode cX0_trueTip 5 = .ok (.ireturn, 1) := by decide +kernel
set_option maxRecDepth 20000 in
theorem ggX0_stiffTip_X0_trueTip : GoodIn wsX0_stiffTip wsX0_trueTip := goodIn_r _ [8, 9, 10, 11, 12] (by decide +kernel) (by decide +kernel)
set_option maxRecDepth 20000 in
theorem gX0_stiffTip_X0_trueTip : GoodIn wsX0_stiffTip (va_wsS RX0 7 yX0_trueTip wsX0_trueTip) := goodIn_app (goodIn_of _ (by decide +kernel)) ggX0_stiffTip_X0_trueTip
theorem dX0_stiffTip_0 : decode cX0_stiffTip 0 = .ok (.iload_n 0, 1) := by decide +kernel
theorem dX0_stiffTip_1 : decode cX0_stiffTip 1 = .ok (.iload_n 1, 1) := by decide +kernel
theorem dX0_stiffTip_2 : decode cX0_stiffTip 2 = .ok (.isub, 1) := by decide +kernel
theorem dX0_stiffTip_3 : decode cX0_stiffTip 3 = .ok (.invokestatic 24, 3) := by decide +kernel
theorem dX0_stiffTip_6 : decode cX0_stiffTip 6 = .ok (.iconst 3, 1) := by decide +kernel
theorem dX0_stiffTip_7 : decode cX0_stiffTip 7 = .ok (.if_icmp .ge 7, 3) := by decide +kernel
theorem dX0_stiffTip_10 : decode cX0_stiffTip 10 = .ok (.iconst 0, 1) := by decide +kernel
theorem dX0_stiffTip_11 : decode cX0_stiffTip 11 = .ok (.goto 8, 3) := by decide +kernel
theorem dX0_stiffTip_14 : decode cX0_stiffTip 14 = .ok (.iload_n 0, 1) := by decide +kernel
theorem dX0_stiffTip_15 : decode cX0_stiffTip 15 = .ok (.iload_n 1, 1) := by decide +kernel
theorem dX0_stiffTip_16 : decode cX0_stiffTip 16 = .ok (.invokestatic 7, 3) := by decide +kernel
theorem dX0_stiffTip_19 : decode cX0_stiffTip 19 = .ok (.ireturn, 1) := by decide +kernel
set_option maxRecDepth 20000 in
theorem ggX0_bentTip_X0_trueTip : GoodIn wsX0_bentTip wsX0_trueTip := goodIn_r _ [4, 5, 6, 7, 8] (by decide +kernel) (by decide +kernel)
set_option maxRecDepth 20000 in
theorem gX0_bentTip_X0_trueTip : GoodIn wsX0_bentTip (va_wsS RX0 7 yX0_trueTip wsX0_trueTip) := goodIn_app (goodIn_of _ (by decide +kernel)) ggX0_bentTip_X0_trueTip
theorem dX0_bentTip_0 : decode cX0_bentTip 0 = .ok (.iload_n 0, 1) := by decide +kernel
theorem dX0_bentTip_1 : decode cX0_bentTip 1 = .ok (.iconst 2, 1) := by decide +kernel
theorem dX0_bentTip_2 : decode cX0_bentTip 2 = .ok (.iadd, 1) := by decide +kernel
theorem dX0_bentTip_3 : decode cX0_bentTip 3 = .ok (.iload_n 1, 1) := by decide +kernel
theorem dX0_bentTip_4 : decode cX0_bentTip 4 = .ok (.invokestatic 7, 3) := by decide +kernel
theorem dX0_bentTip_7 : decode cX0_bentTip 7 = .ok (.ireturn, 1) := by decide +kernel
set_option maxRecDepth 20000 in
theorem ggX1_mayBeOff_X3_keeperCount : GoodIn wsX1_mayBeOff wsX3_keeperCount := goodIn_r _ [5, 6, 7, 8, 9, 10, 11, 12, 44, 45, 46, 47, 48, 49, 50, 51, 52, 53, 54] (by decide +kernel) (by decide +kernel)
set_option maxRecDepth 20000 in
theorem gX1_mayBeOff_X3_keeperCount : GoodIn wsX1_mayBeOff (wsV RX1 9 RX3 yX3_keeperCount wsX3_keeperCount) := goodIn_app (goodIn_of _ (by decide +kernel)) ggX1_mayBeOff_X3_keeperCount
set_option maxRecDepth 20000 in
theorem ggX1_mayBeOff_X1_fitsReadings : GoodIn wsX1_mayBeOff wsX1_fitsReadings := goodIn_r _ [16, 17, 18, 19, 8, 9, 10, 11, 12, 20, 21, 22, 23, 24, 25, 26, 15, 27, 28, 29, 30, 31, 32, 33, 34, 35, 36, 37, 38, 39, 40, 41, 42, 43, 44, 45, 46, 47, 48, 49, 50, 51, 52, 53, 54] (by decide +kernel) (by decide +kernel)
set_option maxRecDepth 20000 in
theorem gX1_mayBeOff_X1_fitsReadings : GoodIn wsX1_mayBeOff (va_wsS RX1 15 yX1_fitsReadings wsX1_fitsReadings) := goodIn_app (goodIn_of _ (by decide +kernel)) ggX1_mayBeOff_X1_fitsReadings
theorem dX1_mayBeOff_0 : decode cX1_mayBeOff 0 = .ok (.iconst 0, 1) := by decide +kernel
theorem dX1_mayBeOff_1 : decode cX1_mayBeOff 1 = .ok (.istore_n 2, 1) := by decide +kernel
theorem dX1_mayBeOff_2 : decode cX1_mayBeOff 2 = .ok (.iconst 0, 1) := by decide +kernel
theorem dX1_mayBeOff_3 : decode cX1_mayBeOff 3 = .ok (.istore_n 3, 1) := by decide +kernel
theorem dX1_mayBeOff_4 : decode cX1_mayBeOff 4 = .ok (.iload_n 3, 1) := by decide +kernel
theorem dX1_mayBeOff_5 : decode cX1_mayBeOff 5 = .ok (.aload_n 0, 1) := by decide +kernel
theorem dX1_mayBeOff_6 : decode cX1_mayBeOff 6 = .ok (.invokevirtual 9, 3) := by decide +kernel
theorem dX1_mayBeOff_9 : decode cX1_mayBeOff 9 = .ok (.if_icmp .ge 24, 3) := by decide +kernel
theorem dX1_mayBeOff_12 : decode cX1_mayBeOff 12 = .ok (.aload_n 0, 1) := by decide +kernel
theorem dX1_mayBeOff_13 : decode cX1_mayBeOff 13 = .ok (.iload_n 3, 1) := by decide +kernel
theorem dX1_mayBeOff_14 : decode cX1_mayBeOff 14 = .ok (.iload_n 1, 1) := by decide +kernel
theorem dX1_mayBeOff_15 : decode cX1_mayBeOff 15 = .ok (.invokestatic 15, 3) := by decide +kernel
theorem dX1_mayBeOff_18 : decode cX1_mayBeOff 18 = .ok (.ifCond .eq 9, 3) := by decide +kernel
theorem dX1_mayBeOff_21 : decode cX1_mayBeOff 21 = .ok (.iload_n 2, 1) := by decide +kernel
theorem dX1_mayBeOff_22 : decode cX1_mayBeOff 22 = .ok (.iconst 1, 1) := by decide +kernel
theorem dX1_mayBeOff_23 : decode cX1_mayBeOff 23 = .ok (.iload_n 3, 1) := by decide +kernel
theorem dX1_mayBeOff_24 : decode cX1_mayBeOff 24 = .ok (.ishl, 1) := by decide +kernel
theorem dX1_mayBeOff_25 : decode cX1_mayBeOff 25 = .ok (.ior, 1) := by decide +kernel
theorem dX1_mayBeOff_26 : decode cX1_mayBeOff 26 = .ok (.istore_n 2, 1) := by decide +kernel
theorem dX1_mayBeOff_27 : decode cX1_mayBeOff 27 = .ok (.iinc 3 1, 3) := by decide +kernel
theorem dX1_mayBeOff_30 : decode cX1_mayBeOff 30 = .ok (.goto (-26), 3) := by decide +kernel
theorem dX1_mayBeOff_33 : decode cX1_mayBeOff 33 = .ok (.iload_n 2, 1) := by decide +kernel
theorem dX1_mayBeOff_34 : decode cX1_mayBeOff 34 = .ok (.ireturn, 1) := by decide +kernel
set_option maxRecDepth 20000 in
theorem ggX1_bestPair_X3_keeperCount : GoodIn wsX1_bestPair wsX3_keeperCount := goodIn_r _ [5, 6, 7, 8, 9, 10, 11, 12, 79, 80, 81, 82, 83, 84, 85, 86, 87, 88, 89] (by decide +kernel) (by decide +kernel)
set_option maxRecDepth 20000 in
theorem gX1_bestPair_X3_keeperCount : GoodIn wsX1_bestPair (wsV RX1 9 RX3 yX3_keeperCount wsX3_keeperCount) := goodIn_app (goodIn_of _ (by decide +kernel)) ggX1_bestPair_X3_keeperCount
set_option maxRecDepth 20000 in
theorem ggX1_bestPair_X6_restart : GoodIn wsX1_bestPair wsX6_restart := goodIn_r _ [17, 18, 19, 20, 21, 22, 23, 10, 24, 12, 90, 91, 92, 88, 89] (by decide +kernel) (by decide +kernel)
set_option maxRecDepth 20000 in
theorem gX1_bestPair_X6_restart : GoodIn wsX1_bestPair (wsV RX1 21 RX6 yX6_restart wsX6_restart) := goodIn_app (goodIn_of _ (by decide +kernel)) ggX1_bestPair_X6_restart
set_option maxRecDepth 20000 in
theorem ggX1_bestPair_X1_addTips : GoodIn wsX1_bestPair wsX1_addTips := goodIn_r _ [28, 29, 1, 2, 3, 4, 5, 6, 7, 8, 9, 10, 11, 12, 30, 31, 32, 33, 34, 27, 35, 36, 37, 38, 39, 40, 41, 42, 43, 44, 45, 46, 47, 48, 49, 50, 51, 52, 53, 54, 55, 16, 56, 19, 20, 57, 58, 59, 60, 61, 62, 63, 64, 18, 65, 66, 67, 68, 69, 70, 71, 72, 73, 74, 79, 80, 81, 82, 83, 84, 85, 86, 87, 88, 89, 90, 91, 92] (by decide +kernel) (by decide +kernel)
set_option maxRecDepth 20000 in
theorem gX1_bestPair_X1_addTips : GoodIn wsX1_bestPair (va_wsS RX1 26 yX1_addTips wsX1_addTips) := goodIn_app (goodIn_of _ (by decide +kernel)) ggX1_bestPair_X1_addTips
set_option maxRecDepth 20000 in
theorem ggX1_bestPair_X6_greatestPart : GoodIn wsX1_bestPair wsX6_greatestPart := goodIn_r _ [78, 20, 90, 91, 92] (by decide +kernel) (by decide +kernel)
set_option maxRecDepth 20000 in
theorem gX1_bestPair_X6_greatestPart : GoodIn wsX1_bestPair (wsV RX1 30 RX6 yX6_greatestPart wsX6_greatestPart) := goodIn_app (goodIn_of _ (by decide +kernel)) ggX1_bestPair_X6_greatestPart
theorem dX1_bestPair_0 : decode cX1_bestPair 0 = .ok (.iconst (-1), 1) := by decide +kernel
theorem dX1_bestPair_1 : decode cX1_bestPair 1 = .ok (.istore 4, 2) := by decide +kernel
theorem dX1_bestPair_3 : decode cX1_bestPair 3 = .ok (.iconst 0, 1) := by decide +kernel
theorem dX1_bestPair_4 : decode cX1_bestPair 4 = .ok (.istore 5, 2) := by decide +kernel
theorem dX1_bestPair_6 : decode cX1_bestPair 6 = .ok (.iconst 0, 1) := by decide +kernel
theorem dX1_bestPair_7 : decode cX1_bestPair 7 = .ok (.istore 6, 2) := by decide +kernel
theorem dX1_bestPair_9 : decode cX1_bestPair 9 = .ok (.iload 6, 2) := by decide +kernel
theorem dX1_bestPair_11 : decode cX1_bestPair 11 = .ok (.aload_n 0, 1) := by decide +kernel
theorem dX1_bestPair_12 : decode cX1_bestPair 12 = .ok (.invokevirtual 9, 3) := by decide +kernel
theorem dX1_bestPair_15 : decode cX1_bestPair 15 = .ok (.if_icmp .ge 87, 3) := by decide +kernel
theorem dX1_bestPair_18 : decode cX1_bestPair 18 = .ok (.iload 6, 2) := by decide +kernel
theorem dX1_bestPair_20 : decode cX1_bestPair 20 = .ok (.iconst 1, 1) := by decide +kernel
theorem dX1_bestPair_21 : decode cX1_bestPair 21 = .ok (.iadd, 1) := by decide +kernel
theorem dX1_bestPair_22 : decode cX1_bestPair 22 = .ok (.istore 7, 2) := by decide +kernel
theorem dX1_bestPair_24 : decode cX1_bestPair 24 = .ok (.iload 7, 2) := by decide +kernel
theorem dX1_bestPair_26 : decode cX1_bestPair 26 = .ok (.aload_n 0, 1) := by decide +kernel
theorem dX1_bestPair_27 : decode cX1_bestPair 27 = .ok (.invokevirtual 9, 3) := by decide +kernel
theorem dX1_bestPair_30 : decode cX1_bestPair 30 = .ok (.if_icmp .ge 66, 3) := by decide +kernel
theorem dX1_bestPair_33 : decode cX1_bestPair 33 = .ok (.aload_n 3, 1) := by decide +kernel
theorem dX1_bestPair_34 : decode cX1_bestPair 34 = .ok (.invokevirtual 21, 3) := by decide +kernel
theorem dX1_bestPair_37 : decode cX1_bestPair 37 = .ok (.aload_n 3, 1) := by decide +kernel
theorem dX1_bestPair_38 : decode cX1_bestPair 38 = .ok (.aload_n 0, 1) := by decide +kernel
theorem dX1_bestPair_39 : decode cX1_bestPair 39 = .ok (.iload_n 1, 1) := by decide +kernel
theorem dX1_bestPair_40 : decode cX1_bestPair 40 = .ok (.iconst (-1), 1) := by decide +kernel
theorem dX1_bestPair_41 : decode cX1_bestPair 41 = .ok (.iload 6, 2) := by decide +kernel
theorem dX1_bestPair_43 : decode cX1_bestPair 43 = .ok (.iload 7, 2) := by decide +kernel
theorem dX1_bestPair_45 : decode cX1_bestPair 45 = .ok (.invokestatic 26, 3) := by decide +kernel
theorem dX1_bestPair_48 : decode cX1_bestPair 48 = .ok (.aload_n 3, 1) := by decide +kernel
theorem dX1_bestPair_49 : decode cX1_bestPair 49 = .ok (.aload_n 0, 1) := by decide +kernel
theorem dX1_bestPair_50 : decode cX1_bestPair 50 = .ok (.iload_n 2, 1) := by decide +kernel
theorem dX1_bestPair_51 : decode cX1_bestPair 51 = .ok (.iconst 1, 1) := by decide +kernel
theorem dX1_bestPair_52 : decode cX1_bestPair 52 = .ok (.iload 6, 2) := by decide +kernel
theorem dX1_bestPair_54 : decode cX1_bestPair 54 = .ok (.iload 7, 2) := by decide +kernel
theorem dX1_bestPair_56 : decode cX1_bestPair 56 = .ok (.invokestatic 26, 3) := by decide +kernel
theorem dX1_bestPair_59 : decode cX1_bestPair 59 = .ok (.iload 4, 2) := by decide +kernel
theorem dX1_bestPair_61 : decode cX1_bestPair 61 = .ok (.iconst (-1), 1) := by decide +kernel
theorem dX1_bestPair_62 : decode cX1_bestPair 62 = .ok (.if_icmp .eq 12, 3) := by decide +kernel
theorem dX1_bestPair_65 : decode cX1_bestPair 65 = .ok (.aload_n 3, 1) := by decide +kernel
theorem dX1_bestPair_66 : decode cX1_bestPair 66 = .ok (.invokevirtual 30, 3) := by decide +kernel
theorem dX1_bestPair_69 : decode cX1_bestPair 69 = .ok (.iload 5, 2) := by decide +kernel
theorem dX1_bestPair_71 : decode cX1_bestPair 71 = .ok (.if_icmp .ge 19, 3) := by decide +kernel
theorem dX1_bestPair_74 : decode cX1_bestPair 74 = .ok (.bipush 8, 2) := by decide +kernel
theorem dX1_bestPair_76 : decode cX1_bestPair 76 = .ok (.iload 6, 2) := by decide +kernel
theorem dX1_bestPair_78 : decode cX1_bestPair 78 = .ok (.imul, 1) := by decide +kernel
theorem dX1_bestPair_79 : decode cX1_bestPair 79 = .ok (.iload 7, 2) := by decide +kernel
theorem dX1_bestPair_81 : decode cX1_bestPair 81 = .ok (.iadd, 1) := by decide +kernel
theorem dX1_bestPair_82 : decode cX1_bestPair 82 = .ok (.istore 4, 2) := by decide +kernel
theorem dX1_bestPair_84 : decode cX1_bestPair 84 = .ok (.aload_n 3, 1) := by decide +kernel
theorem dX1_bestPair_85 : decode cX1_bestPair 85 = .ok (.invokevirtual 30, 3) := by decide +kernel
theorem dX1_bestPair_88 : decode cX1_bestPair 88 = .ok (.istore 5, 2) := by decide +kernel
theorem dX1_bestPair_90 : decode cX1_bestPair 90 = .ok (.iinc 7 1, 3) := by decide +kernel
theorem dX1_bestPair_93 : decode cX1_bestPair 93 = .ok (.goto (-69), 3) := by decide +kernel
theorem dX1_bestPair_96 : decode cX1_bestPair 96 = .ok (.iinc 6 1, 3) := by decide +kernel
theorem dX1_bestPair_99 : decode cX1_bestPair 99 = .ok (.goto (-90), 3) := by decide +kernel
theorem dX1_bestPair_102 : decode cX1_bestPair 102 = .ok (.iload 4, 2) := by decide +kernel
theorem dX1_bestPair_104 : decode cX1_bestPair 104 = .ok (.ireturn, 1) := by decide +kernel
set_option maxRecDepth 20000 in
theorem ggX1_kindsOfKeeper_X1_fitsNotes : GoodIn wsX1_kindsOfKeeper wsX1_fitsNotes := goodIn_r _ [5, 6, 7, 8, 9, 10, 11, 12, 13, 14, 15, 16, 17, 18, 19, 20, 21, 22, 23, 24, 25, 26, 27, 37, 38] (by decide +kernel) (by decide +kernel)
set_option maxRecDepth 20000 in
theorem gX1_kindsOfKeeper_X1_fitsNotes : GoodIn wsX1_kindsOfKeeper (va_wsS RX1 37 yX1_fitsNotes wsX1_fitsNotes) := goodIn_app (goodIn_of _ (by decide +kernel)) ggX1_kindsOfKeeper_X1_fitsNotes
theorem dX1_kindsOfKeeper_0 : decode cX1_kindsOfKeeper 0 = .ok (.iconst 0, 1) := by decide +kernel
theorem dX1_kindsOfKeeper_1 : decode cX1_kindsOfKeeper 1 = .ok (.istore_n 2, 1) := by decide +kernel
theorem dX1_kindsOfKeeper_2 : decode cX1_kindsOfKeeper 2 = .ok (.iconst 0, 1) := by decide +kernel
theorem dX1_kindsOfKeeper_3 : decode cX1_kindsOfKeeper 3 = .ok (.istore_n 3, 1) := by decide +kernel
theorem dX1_kindsOfKeeper_4 : decode cX1_kindsOfKeeper 4 = .ok (.iload_n 3, 1) := by decide +kernel
theorem dX1_kindsOfKeeper_5 : decode cX1_kindsOfKeeper 5 = .ok (.bipush 6, 2) := by decide +kernel
theorem dX1_kindsOfKeeper_7 : decode cX1_kindsOfKeeper 7 = .ok (.if_icmp .ge 27, 3) := by decide +kernel
theorem dX1_kindsOfKeeper_10 : decode cX1_kindsOfKeeper 10 = .ok (.aload_n 0, 1) := by decide +kernel
theorem dX1_kindsOfKeeper_11 : decode cX1_kindsOfKeeper 11 = .ok (.getfield 33, 3) := by decide +kernel
theorem dX1_kindsOfKeeper_14 : decode cX1_kindsOfKeeper 14 = .ok (.iload_n 1, 1) := by decide +kernel
theorem dX1_kindsOfKeeper_15 : decode cX1_kindsOfKeeper 15 = .ok (.iload_n 3, 1) := by decide +kernel
theorem dX1_kindsOfKeeper_16 : decode cX1_kindsOfKeeper 16 = .ok (.invokestatic 37, 3) := by decide +kernel
theorem dX1_kindsOfKeeper_19 : decode cX1_kindsOfKeeper 19 = .ok (.ifCond .eq 9, 3) := by decide +kernel
theorem dX1_kindsOfKeeper_22 : decode cX1_kindsOfKeeper 22 = .ok (.iload_n 2, 1) := by decide +kernel
theorem dX1_kindsOfKeeper_23 : decode cX1_kindsOfKeeper 23 = .ok (.iconst 1, 1) := by decide +kernel
theorem dX1_kindsOfKeeper_24 : decode cX1_kindsOfKeeper 24 = .ok (.iload_n 3, 1) := by decide +kernel
theorem dX1_kindsOfKeeper_25 : decode cX1_kindsOfKeeper 25 = .ok (.ishl, 1) := by decide +kernel
theorem dX1_kindsOfKeeper_26 : decode cX1_kindsOfKeeper 26 = .ok (.ior, 1) := by decide +kernel
theorem dX1_kindsOfKeeper_27 : decode cX1_kindsOfKeeper 27 = .ok (.istore_n 2, 1) := by decide +kernel
theorem dX1_kindsOfKeeper_28 : decode cX1_kindsOfKeeper 28 = .ok (.iinc 3 1, 3) := by decide +kernel
theorem dX1_kindsOfKeeper_31 : decode cX1_kindsOfKeeper 31 = .ok (.goto (-27), 3) := by decide +kernel
theorem dX1_kindsOfKeeper_34 : decode cX1_kindsOfKeeper 34 = .ok (.iload_n 2, 1) := by decide +kernel
theorem dX1_kindsOfKeeper_35 : decode cX1_kindsOfKeeper 35 = .ok (.ireturn, 1) := by decide +kernel
set_option maxRecDepth 20000 in
theorem ggX1_bestDay_X6_restart : GoodIn wsX1_bestDay wsX6_restart := goodIn_r _ [5, 6, 7, 8, 9, 10, 11, 12, 13, 14, 61, 62, 63, 64, 65] (by decide +kernel) (by decide +kernel)
set_option maxRecDepth 20000 in
theorem gX1_bestDay_X6_restart : GoodIn wsX1_bestDay (wsV RX1 21 RX6 yX6_restart wsX6_restart) := goodIn_app (goodIn_of _ (by decide +kernel)) ggX1_bestDay_X6_restart
set_option maxRecDepth 20000 in
theorem ggX1_bestDay_X11_hasBit : GoodIn wsX1_bestDay wsX11_hasBit := goodIn_r _ [17] (by decide +kernel) (by decide +kernel)
set_option maxRecDepth 20000 in
theorem gX1_bestDay_X11_hasBit_n41 : GoodIn wsX1_bestDay (wsX11_hasBit) := ggX1_bestDay_X11_hasBit
set_option maxRecDepth 20000 in
theorem ggX1_bestDay_X2_behind : GoodIn wsX1_bestDay wsX2_behind := goodIn_r _ [21, 22, 23, 24, 25, 26, 27, 20, 28] (by decide +kernel) (by decide +kernel)
set_option maxRecDepth 20000 in
theorem gX1_bestDay_X2_behind : GoodIn wsX1_bestDay (va_wsS RX1 45 yX2_behind wsX2_behind) := goodIn_app (goodIn_of _ (by decide +kernel)) ggX1_bestDay_X2_behind
set_option maxRecDepth 20000 in
theorem ggX1_bestDay_X6_add : GoodIn wsX1_bestDay wsX6_add := goodIn_r _ [32, 7, 8, 33, 34, 24, 35, 36, 37, 38, 4, 39, 6, 40, 41, 42, 12, 43, 14, 44, 45, 46, 47, 48, 49, 50, 51, 52, 53, 54, 55, 56, 61, 62, 63, 64, 65] (by decide +kernel) (by decide +kernel)
set_option maxRecDepth 20000 in
theorem gX1_bestDay_X6_add : GoodIn wsX1_bestDay (wsV RX1 51 RX6 yX6_add wsX6_add) := goodIn_app (goodIn_of _ (by decide +kernel)) ggX1_bestDay_X6_add
set_option maxRecDepth 20000 in
theorem ggX1_bestDay_X6_greatestPart : GoodIn wsX1_bestDay wsX6_greatestPart := goodIn_r _ [60, 8, 61, 62, 63] (by decide +kernel) (by decide +kernel)
set_option maxRecDepth 20000 in
theorem gX1_bestDay_X6_greatestPart : GoodIn wsX1_bestDay (wsV RX1 30 RX6 yX6_greatestPart wsX6_greatestPart) := goodIn_app (goodIn_of _ (by decide +kernel)) ggX1_bestDay_X6_greatestPart
theorem dX1_bestDay_0 : decode cX1_bestDay 0 = .ok (.iconst (-1), 1) := by decide +kernel
theorem dX1_bestDay_1 : decode cX1_bestDay 1 = .ok (.istore_n 3, 1) := by decide +kernel
theorem dX1_bestDay_2 : decode cX1_bestDay 2 = .ok (.iconst 0, 1) := by decide +kernel
theorem dX1_bestDay_3 : decode cX1_bestDay 3 = .ok (.istore 4, 2) := by decide +kernel
theorem dX1_bestDay_5 : decode cX1_bestDay 5 = .ok (.iconst 0, 1) := by decide +kernel
theorem dX1_bestDay_6 : decode cX1_bestDay 6 = .ok (.istore 5, 2) := by decide +kernel
theorem dX1_bestDay_8 : decode cX1_bestDay 8 = .ok (.iload 5, 2) := by decide +kernel
theorem dX1_bestDay_10 : decode cX1_bestDay 10 = .ok (.bipush 11, 2) := by decide +kernel
theorem dX1_bestDay_12 : decode cX1_bestDay 12 = .ok (.if_icmp .gt 73, 3) := by decide +kernel
theorem dX1_bestDay_15 : decode cX1_bestDay 15 = .ok (.aload_n 2, 1) := by decide +kernel
theorem dX1_bestDay_16 : decode cX1_bestDay 16 = .ok (.invokevirtual 21, 3) := by decide +kernel
theorem dX1_bestDay_19 : decode cX1_bestDay 19 = .ok (.iconst 0, 1) := by decide +kernel
theorem dX1_bestDay_20 : decode cX1_bestDay 20 = .ok (.istore 6, 2) := by decide +kernel
theorem dX1_bestDay_22 : decode cX1_bestDay 22 = .ok (.iload 6, 2) := by decide +kernel
theorem dX1_bestDay_24 : decode cX1_bestDay 24 = .ok (.bipush 6, 2) := by decide +kernel
theorem dX1_bestDay_26 : decode cX1_bestDay 26 = .ok (.if_icmp .ge 30, 3) := by decide +kernel
theorem dX1_bestDay_29 : decode cX1_bestDay 29 = .ok (.iload_n 0, 1) := by decide +kernel
theorem dX1_bestDay_30 : decode cX1_bestDay 30 = .ok (.iload 6, 2) := by decide +kernel
theorem dX1_bestDay_32 : decode cX1_bestDay 32 = .ok (.invokestatic 41, 3) := by decide +kernel
theorem dX1_bestDay_35 : decode cX1_bestDay 35 = .ok (.ifCond .eq 15, 3) := by decide +kernel
theorem dX1_bestDay_38 : decode cX1_bestDay 38 = .ok (.aload_n 2, 1) := by decide +kernel
theorem dX1_bestDay_39 : decode cX1_bestDay 39 = .ok (.iload 6, 2) := by decide +kernel
theorem dX1_bestDay_41 : decode cX1_bestDay 41 = .ok (.iload_n 1, 1) := by decide +kernel
theorem dX1_bestDay_42 : decode cX1_bestDay 42 = .ok (.iload 5, 2) := by decide +kernel
theorem dX1_bestDay_44 : decode cX1_bestDay 44 = .ok (.invokestatic 45, 3) := by decide +kernel
theorem dX1_bestDay_47 : decode cX1_bestDay 47 = .ok (.invokevirtual 51, 3) := by decide +kernel
theorem dX1_bestDay_50 : decode cX1_bestDay 50 = .ok (.iinc 6 1, 3) := by decide +kernel
theorem dX1_bestDay_53 : decode cX1_bestDay 53 = .ok (.goto (-31), 3) := by decide +kernel
theorem dX1_bestDay_56 : decode cX1_bestDay 56 = .ok (.iload_n 3, 1) := by decide +kernel
theorem dX1_bestDay_57 : decode cX1_bestDay 57 = .ok (.iconst (-1), 1) := by decide +kernel
theorem dX1_bestDay_58 : decode cX1_bestDay 58 = .ok (.if_icmp .eq 12, 3) := by decide +kernel
theorem dX1_bestDay_61 : decode cX1_bestDay 61 = .ok (.aload_n 2, 1) := by decide +kernel
theorem dX1_bestDay_62 : decode cX1_bestDay 62 = .ok (.invokevirtual 30, 3) := by decide +kernel
theorem dX1_bestDay_65 : decode cX1_bestDay 65 = .ok (.iload 4, 2) := by decide +kernel
theorem dX1_bestDay_67 : decode cX1_bestDay 67 = .ok (.if_icmp .ge 12, 3) := by decide +kernel
theorem dX1_bestDay_70 : decode cX1_bestDay 70 = .ok (.iload 5, 2) := by decide +kernel
theorem dX1_bestDay_72 : decode cX1_bestDay 72 = .ok (.istore_n 3, 1) := by decide +kernel
theorem dX1_bestDay_73 : decode cX1_bestDay 73 = .ok (.aload_n 2, 1) := by decide +kernel
theorem dX1_bestDay_74 : decode cX1_bestDay 74 = .ok (.invokevirtual 30, 3) := by decide +kernel
theorem dX1_bestDay_77 : decode cX1_bestDay 77 = .ok (.istore 4, 2) := by decide +kernel
theorem dX1_bestDay_79 : decode cX1_bestDay 79 = .ok (.iinc 5 1, 3) := by decide +kernel
theorem dX1_bestDay_82 : decode cX1_bestDay 82 = .ok (.goto (-74), 3) := by decide +kernel
theorem dX1_bestDay_85 : decode cX1_bestDay 85 = .ok (.iload_n 3, 1) := by decide +kernel
theorem dX1_bestDay_86 : decode cX1_bestDay 86 = .ok (.ireturn, 1) := by decide +kernel
set_option maxRecDepth 20000 in
theorem ggX1_kindsOfBalance_X1_fitsTippings : GoodIn wsX1_kindsOfBalance wsX1_fitsTippings := goodIn_r _ [5, 6, 7, 8, 9, 10, 11, 12, 13, 14, 15, 16, 17, 18, 19, 20, 21, 22, 23, 24, 25, 26, 27, 28, 29, 30, 31, 32, 33, 34, 35, 36, 37, 47, 48] (by decide +kernel) (by decide +kernel)
set_option maxRecDepth 20000 in
theorem gX1_kindsOfBalance_X1_fitsTippings : GoodIn wsX1_kindsOfBalance (va_wsS RX1 58 yX1_fitsTippings wsX1_fitsTippings) := goodIn_app (goodIn_of _ (by decide +kernel)) ggX1_kindsOfBalance_X1_fitsTippings
theorem dX1_kindsOfBalance_0 : decode cX1_kindsOfBalance 0 = .ok (.iconst 0, 1) := by decide +kernel
theorem dX1_kindsOfBalance_1 : decode cX1_kindsOfBalance 1 = .ok (.istore_n 2, 1) := by decide +kernel
theorem dX1_kindsOfBalance_2 : decode cX1_kindsOfBalance 2 = .ok (.iconst 0, 1) := by decide +kernel
theorem dX1_kindsOfBalance_3 : decode cX1_kindsOfBalance 3 = .ok (.istore_n 3, 1) := by decide +kernel
theorem dX1_kindsOfBalance_4 : decode cX1_kindsOfBalance 4 = .ok (.iload_n 3, 1) := by decide +kernel
theorem dX1_kindsOfBalance_5 : decode cX1_kindsOfBalance 5 = .ok (.bipush 6, 2) := by decide +kernel
theorem dX1_kindsOfBalance_7 : decode cX1_kindsOfBalance 7 = .ok (.if_icmp .ge 27, 3) := by decide +kernel
theorem dX1_kindsOfBalance_10 : decode cX1_kindsOfBalance 10 = .ok (.aload_n 0, 1) := by decide +kernel
theorem dX1_kindsOfBalance_11 : decode cX1_kindsOfBalance 11 = .ok (.getfield 55, 3) := by decide +kernel
theorem dX1_kindsOfBalance_14 : decode cX1_kindsOfBalance 14 = .ok (.iload_n 1, 1) := by decide +kernel
theorem dX1_kindsOfBalance_15 : decode cX1_kindsOfBalance 15 = .ok (.iload_n 3, 1) := by decide +kernel
theorem dX1_kindsOfBalance_16 : decode cX1_kindsOfBalance 16 = .ok (.invokestatic 58, 3) := by decide +kernel
theorem dX1_kindsOfBalance_19 : decode cX1_kindsOfBalance 19 = .ok (.ifCond .eq 9, 3) := by decide +kernel
theorem dX1_kindsOfBalance_22 : decode cX1_kindsOfBalance 22 = .ok (.iload_n 2, 1) := by decide +kernel
theorem dX1_kindsOfBalance_23 : decode cX1_kindsOfBalance 23 = .ok (.iconst 1, 1) := by decide +kernel
theorem dX1_kindsOfBalance_24 : decode cX1_kindsOfBalance 24 = .ok (.iload_n 3, 1) := by decide +kernel
theorem dX1_kindsOfBalance_25 : decode cX1_kindsOfBalance 25 = .ok (.ishl, 1) := by decide +kernel
theorem dX1_kindsOfBalance_26 : decode cX1_kindsOfBalance 26 = .ok (.ior, 1) := by decide +kernel
theorem dX1_kindsOfBalance_27 : decode cX1_kindsOfBalance 27 = .ok (.istore_n 2, 1) := by decide +kernel
theorem dX1_kindsOfBalance_28 : decode cX1_kindsOfBalance 28 = .ok (.iinc 3 1, 3) := by decide +kernel
theorem dX1_kindsOfBalance_31 : decode cX1_kindsOfBalance 31 = .ok (.goto (-27), 3) := by decide +kernel
theorem dX1_kindsOfBalance_34 : decode cX1_kindsOfBalance 34 = .ok (.iload_n 2, 1) := by decide +kernel
theorem dX1_kindsOfBalance_35 : decode cX1_kindsOfBalance 35 = .ok (.ireturn, 1) := by decide +kernel
set_option maxRecDepth 20000 in
theorem ggX1_bestGrains_X6_restart : GoodIn wsX1_bestGrains wsX6_restart := goodIn_r _ [5, 6, 7, 8, 9, 10, 11, 12, 13, 14, 75, 76, 77, 78, 79] (by decide +kernel) (by decide +kernel)
set_option maxRecDepth 20000 in
theorem gX1_bestGrains_X6_restart : GoodIn wsX1_bestGrains (wsV RX1 21 RX6 yX6_restart wsX6_restart) := goodIn_app (goodIn_of _ (by decide +kernel)) ggX1_bestGrains_X6_restart
set_option maxRecDepth 20000 in
theorem ggX1_bestGrains_X1_addTipsOfKinds : GoodIn wsX1_bestGrains wsX1_addTipsOfKinds := goodIn_r _ [18, 19, 20, 21, 22, 23, 24, 25, 26, 27, 28, 29, 30, 31, 32, 33, 34, 35, 36, 37, 38, 39, 40, 41, 42, 43, 44, 45, 4, 46, 7, 8, 47, 48, 49, 50, 51, 52, 53, 6, 54, 55, 56, 12, 57, 14, 58, 59, 60, 61, 62, 63, 64, 65, 66, 67, 68, 69, 70, 75, 76, 77, 78, 79] (by decide +kernel) (by decide +kernel)
set_option maxRecDepth 20000 in
theorem gX1_bestGrains_X1_addTipsOfKinds : GoodIn wsX1_bestGrains (va_wsS RX1 61 yX1_addTipsOfKinds wsX1_addTipsOfKinds) := goodIn_app (goodIn_of _ (by decide +kernel)) ggX1_bestGrains_X1_addTipsOfKinds
set_option maxRecDepth 20000 in
theorem ggX1_bestGrains_X6_greatestPart : GoodIn wsX1_bestGrains wsX6_greatestPart := goodIn_r _ [74, 8, 75, 76, 77] (by decide +kernel) (by decide +kernel)
set_option maxRecDepth 20000 in
theorem gX1_bestGrains_X6_greatestPart : GoodIn wsX1_bestGrains (wsV RX1 30 RX6 yX6_greatestPart wsX6_greatestPart) := goodIn_app (goodIn_of _ (by decide +kernel)) ggX1_bestGrains_X6_greatestPart
theorem dX1_bestGrains_0 : decode cX1_bestGrains 0 = .ok (.iconst (-1), 1) := by decide +kernel
theorem dX1_bestGrains_1 : decode cX1_bestGrains 1 = .ok (.istore_n 2, 1) := by decide +kernel
theorem dX1_bestGrains_2 : decode cX1_bestGrains 2 = .ok (.iconst 0, 1) := by decide +kernel
theorem dX1_bestGrains_3 : decode cX1_bestGrains 3 = .ok (.istore_n 3, 1) := by decide +kernel
theorem dX1_bestGrains_4 : decode cX1_bestGrains 4 = .ok (.iconst 0, 1) := by decide +kernel
theorem dX1_bestGrains_5 : decode cX1_bestGrains 5 = .ok (.istore 4, 2) := by decide +kernel
theorem dX1_bestGrains_7 : decode cX1_bestGrains 7 = .ok (.iload 4, 2) := by decide +kernel
theorem dX1_bestGrains_9 : decode cX1_bestGrains 9 = .ok (.bipush 9, 2) := by decide +kernel
theorem dX1_bestGrains_11 : decode cX1_bestGrains 11 = .ok (.if_icmp .gt 65, 3) := by decide +kernel
theorem dX1_bestGrains_14 : decode cX1_bestGrains 14 = .ok (.iconst 0, 1) := by decide +kernel
theorem dX1_bestGrains_15 : decode cX1_bestGrains 15 = .ok (.istore 5, 2) := by decide +kernel
theorem dX1_bestGrains_17 : decode cX1_bestGrains 17 = .ok (.iload 5, 2) := by decide +kernel
theorem dX1_bestGrains_19 : decode cX1_bestGrains 19 = .ok (.bipush 9, 2) := by decide +kernel
theorem dX1_bestGrains_21 : decode cX1_bestGrains 21 = .ok (.if_icmp .gt 49, 3) := by decide +kernel
theorem dX1_bestGrains_24 : decode cX1_bestGrains 24 = .ok (.aload_n 1, 1) := by decide +kernel
theorem dX1_bestGrains_25 : decode cX1_bestGrains 25 = .ok (.invokevirtual 21, 3) := by decide +kernel
theorem dX1_bestGrains_28 : decode cX1_bestGrains 28 = .ok (.aload_n 1, 1) := by decide +kernel
theorem dX1_bestGrains_29 : decode cX1_bestGrains 29 = .ok (.iload_n 0, 1) := by decide +kernel
theorem dX1_bestGrains_30 : decode cX1_bestGrains 30 = .ok (.iload 4, 2) := by decide +kernel
theorem dX1_bestGrains_32 : decode cX1_bestGrains 32 = .ok (.iload 5, 2) := by decide +kernel
theorem dX1_bestGrains_34 : decode cX1_bestGrains 34 = .ok (.invokestatic 61, 3) := by decide +kernel
theorem dX1_bestGrains_37 : decode cX1_bestGrains 37 = .ok (.iload_n 2, 1) := by decide +kernel
theorem dX1_bestGrains_38 : decode cX1_bestGrains 38 = .ok (.iconst (-1), 1) := by decide +kernel
theorem dX1_bestGrains_39 : decode cX1_bestGrains 39 = .ok (.if_icmp .eq 11, 3) := by decide +kernel
theorem dX1_bestGrains_42 : decode cX1_bestGrains 42 = .ok (.aload_n 1, 1) := by decide +kernel
theorem dX1_bestGrains_43 : decode cX1_bestGrains 43 = .ok (.invokevirtual 30, 3) := by decide +kernel
theorem dX1_bestGrains_46 : decode cX1_bestGrains 46 = .ok (.iload_n 3, 1) := by decide +kernel
theorem dX1_bestGrains_47 : decode cX1_bestGrains 47 = .ok (.if_icmp .ge 17, 3) := by decide +kernel
theorem dX1_bestGrains_50 : decode cX1_bestGrains 50 = .ok (.bipush 10, 2) := by decide +kernel
theorem dX1_bestGrains_52 : decode cX1_bestGrains 52 = .ok (.iload 4, 2) := by decide +kernel
theorem dX1_bestGrains_54 : decode cX1_bestGrains 54 = .ok (.imul, 1) := by decide +kernel
theorem dX1_bestGrains_55 : decode cX1_bestGrains 55 = .ok (.iload 5, 2) := by decide +kernel
theorem dX1_bestGrains_57 : decode cX1_bestGrains 57 = .ok (.iadd, 1) := by decide +kernel
theorem dX1_bestGrains_58 : decode cX1_bestGrains 58 = .ok (.istore_n 2, 1) := by decide +kernel
theorem dX1_bestGrains_59 : decode cX1_bestGrains 59 = .ok (.aload_n 1, 1) := by decide +kernel
theorem dX1_bestGrains_60 : decode cX1_bestGrains 60 = .ok (.invokevirtual 30, 3) := by decide +kernel
theorem dX1_bestGrains_63 : decode cX1_bestGrains 63 = .ok (.istore_n 3, 1) := by decide +kernel
theorem dX1_bestGrains_64 : decode cX1_bestGrains 64 = .ok (.iinc 5 1, 3) := by decide +kernel
theorem dX1_bestGrains_67 : decode cX1_bestGrains 67 = .ok (.goto (-50), 3) := by decide +kernel
theorem dX1_bestGrains_70 : decode cX1_bestGrains 70 = .ok (.iinc 4 1, 3) := by decide +kernel
theorem dX1_bestGrains_73 : decode cX1_bestGrains 73 = .ok (.goto (-66), 3) := by decide +kernel
theorem dX1_bestGrains_76 : decode cX1_bestGrains 76 = .ok (.iload_n 2, 1) := by decide +kernel
theorem dX1_bestGrains_77 : decode cX1_bestGrains 77 = .ok (.ireturn, 1) := by decide +kernel
set_option maxRecDepth 20000 in
theorem ggX1_addTips_X3_keeperCount : GoodIn wsX1_addTips wsX3_keeperCount := goodIn_r _ [6, 7, 8, 9, 10, 11, 12, 13, 64, 65, 66, 67, 68, 69, 70, 71, 72, 73, 74] (by decide +kernel) (by decide +kernel)
set_option maxRecDepth 20000 in
theorem gX1_addTips_X3_keeperCount : GoodIn wsX1_addTips (wsV RX1 9 RX3 yX3_keeperCount wsX3_keeperCount) := goodIn_app (goodIn_of _ (by decide +kernel)) ggX1_addTips_X3_keeperCount
set_option maxRecDepth 20000 in
theorem ggX1_addTips_X11_hasBit : GoodIn wsX1_addTips wsX11_hasBit := goodIn_r _ [16] (by decide +kernel) (by decide +kernel)
set_option maxRecDepth 20000 in
theorem gX1_addTips_X11_hasBit_n41 : GoodIn wsX1_addTips (wsX11_hasBit) := ggX1_addTips_X11_hasBit
set_option maxRecDepth 20000 in
theorem ggX1_addTips_X1_tipIfOff : GoodIn wsX1_addTips wsX1_tipIfOff := goodIn_r _ [20, 21, 22, 23, 11, 24, 13, 14, 15, 16, 25, 26, 27, 28, 29, 30, 31, 32, 33, 34, 35, 36, 37, 73, 74] (by decide +kernel) (by decide +kernel)
set_option maxRecDepth 20000 in
theorem gX1_addTips_X1_tipIfOff : GoodIn wsX1_addTips (va_wsS RX1 68 yX1_tipIfOff wsX1_tipIfOff) := goodIn_app (goodIn_of _ (by decide +kernel)) ggX1_addTips_X1_tipIfOff
set_option maxRecDepth 20000 in
theorem ggX1_addTips_X6_add : GoodIn wsX1_addTips wsX6_add := goodIn_r _ [42, 43, 44, 45, 46, 47, 48, 49, 50, 51, 41, 52, 53, 54, 9, 10, 11, 12, 13, 55, 26, 27, 28, 29, 56, 57, 58, 59, 60, 61, 62, 63, 75, 76, 77, 73, 74] (by decide +kernel) (by decide +kernel)
set_option maxRecDepth 20000 in
theorem gX1_addTips_X6_add : GoodIn wsX1_addTips (wsV RX1 51 RX6 yX6_add wsX6_add) := goodIn_app (goodIn_of _ (by decide +kernel)) ggX1_addTips_X6_add
theorem dX1_addTips_0 : decode cX1_addTips 0 = .ok (.iconst 0, 1) := by decide +kernel
theorem dX1_addTips_1 : decode cX1_addTips 1 = .ok (.istore 6, 2) := by decide +kernel
theorem dX1_addTips_3 : decode cX1_addTips 3 = .ok (.iload 6, 2) := by decide +kernel
theorem dX1_addTips_5 : decode cX1_addTips 5 = .ok (.aload_n 1, 1) := by decide +kernel
theorem dX1_addTips_6 : decode cX1_addTips 6 = .ok (.invokevirtual 9, 3) := by decide +kernel
theorem dX1_addTips_9 : decode cX1_addTips 9 = .ok (.if_icmp .ge 40, 3) := by decide +kernel
theorem dX1_addTips_12 : decode cX1_addTips 12 = .ok (.iload_n 2, 1) := by decide +kernel
theorem dX1_addTips_13 : decode cX1_addTips 13 = .ok (.iload 6, 2) := by decide +kernel
theorem dX1_addTips_15 : decode cX1_addTips 15 = .ok (.invokestatic 41, 3) := by decide +kernel
theorem dX1_addTips_18 : decode cX1_addTips 18 = .ok (.ifCond .eq 25, 3) := by decide +kernel
theorem dX1_addTips_21 : decode cX1_addTips 21 = .ok (.aload_n 0, 1) := by decide +kernel
theorem dX1_addTips_22 : decode cX1_addTips 22 = .ok (.aload_n 1, 1) := by decide +kernel
theorem dX1_addTips_23 : decode cX1_addTips 23 = .ok (.getfield 65, 3) := by decide +kernel
theorem dX1_addTips_26 : decode cX1_addTips 26 = .ok (.iconst 1, 1) := by decide +kernel
theorem dX1_addTips_27 : decode cX1_addTips 27 = .ok (.iload 4, 2) := by decide +kernel
theorem dX1_addTips_29 : decode cX1_addTips 29 = .ok (.ishl, 1) := by decide +kernel
theorem dX1_addTips_30 : decode cX1_addTips 30 = .ok (.iconst 1, 1) := by decide +kernel
theorem dX1_addTips_31 : decode cX1_addTips 31 = .ok (.iload 5, 2) := by decide +kernel
theorem dX1_addTips_33 : decode cX1_addTips 33 = .ok (.ishl, 1) := by decide +kernel
theorem dX1_addTips_34 : decode cX1_addTips 34 = .ok (.iload 6, 2) := by decide +kernel
theorem dX1_addTips_36 : decode cX1_addTips 36 = .ok (.iload_n 3, 1) := by decide +kernel
theorem dX1_addTips_37 : decode cX1_addTips 37 = .ok (.invokestatic 68, 3) := by decide +kernel
theorem dX1_addTips_40 : decode cX1_addTips 40 = .ok (.invokevirtual 51, 3) := by decide +kernel
theorem dX1_addTips_43 : decode cX1_addTips 43 = .ok (.iinc 6 1, 3) := by decide +kernel
theorem dX1_addTips_46 : decode cX1_addTips 46 = .ok (.goto (-43), 3) := by decide +kernel
theorem dX1_addTips_49 : decode cX1_addTips 49 = .ok (.return_, 1) := by decide +kernel
set_option maxRecDepth 20000 in
theorem ggX1_addTipsOfKinds_X11_hasBit : GoodIn wsX1_addTipsOfKinds wsX11_hasBit := goodIn_r _ [3] (by decide +kernel) (by decide +kernel)
set_option maxRecDepth 20000 in
theorem gX1_addTipsOfKinds_X11_hasBit_n41 : GoodIn wsX1_addTipsOfKinds (wsX11_hasBit) := ggX1_addTipsOfKinds_X11_hasBit
set_option maxRecDepth 20000 in
theorem ggX1_addTipsOfKinds_X0_tip : GoodIn wsX1_addTipsOfKinds wsX0_tip := goodIn_r _ [7, 8, 9, 6, 10, 11, 12, 13, 14, 15, 16, 17, 18, 19, 20, 21, 22, 23, 24] (by decide +kernel) (by decide +kernel)
set_option maxRecDepth 20000 in
theorem gX1_addTipsOfKinds_X0_tip : GoodIn wsX1_addTipsOfKinds (va_wsS RX1 72 yX0_tip wsX0_tip) := goodIn_app (goodIn_of _ (by decide +kernel)) ggX1_addTipsOfKinds_X0_tip
set_option maxRecDepth 20000 in
theorem ggX1_addTipsOfKinds_X6_add : GoodIn wsX1_addTipsOfKinds wsX6_add := goodIn_r _ [29, 30, 31, 32, 33, 20, 34, 35, 36, 37, 28, 38, 39, 40, 41, 42, 43, 44, 45, 46, 47, 48, 49, 50, 51, 52, 53, 54, 55, 56, 57, 58, 59, 60, 61, 62, 63] (by decide +kernel) (by decide +kernel)
set_option maxRecDepth 20000 in
theorem gX1_addTipsOfKinds_X6_add : GoodIn wsX1_addTipsOfKinds (wsV RX1 51 RX6 yX6_add wsX6_add) := goodIn_app (goodIn_of _ (by decide +kernel)) ggX1_addTipsOfKinds_X6_add
theorem dX1_addTipsOfKinds_0 : decode cX1_addTipsOfKinds 0 = .ok (.iconst 0, 1) := by decide +kernel
theorem dX1_addTipsOfKinds_1 : decode cX1_addTipsOfKinds 1 = .ok (.istore 4, 2) := by decide +kernel
theorem dX1_addTipsOfKinds_3 : decode cX1_addTipsOfKinds 3 = .ok (.iload 4, 2) := by decide +kernel
theorem dX1_addTipsOfKinds_5 : decode cX1_addTipsOfKinds 5 = .ok (.bipush 6, 2) := by decide +kernel
theorem dX1_addTipsOfKinds_7 : decode cX1_addTipsOfKinds 7 = .ok (.if_icmp .ge 29, 3) := by decide +kernel
theorem dX1_addTipsOfKinds_10 : decode cX1_addTipsOfKinds 10 = .ok (.iload_n 1, 1) := by decide +kernel
theorem dX1_addTipsOfKinds_11 : decode cX1_addTipsOfKinds 11 = .ok (.iload 4, 2) := by decide +kernel
theorem dX1_addTipsOfKinds_13 : decode cX1_addTipsOfKinds 13 = .ok (.invokestatic 41, 3) := by decide +kernel
theorem dX1_addTipsOfKinds_16 : decode cX1_addTipsOfKinds 16 = .ok (.ifCond .eq 14, 3) := by decide +kernel
theorem dX1_addTipsOfKinds_19 : decode cX1_addTipsOfKinds 19 = .ok (.aload_n 0, 1) := by decide +kernel
theorem dX1_addTipsOfKinds_20 : decode cX1_addTipsOfKinds 20 = .ok (.iload 4, 2) := by decide +kernel
theorem dX1_addTipsOfKinds_22 : decode cX1_addTipsOfKinds 22 = .ok (.iload_n 2, 1) := by decide +kernel
theorem dX1_addTipsOfKinds_23 : decode cX1_addTipsOfKinds 23 = .ok (.iload_n 3, 1) := by decide +kernel
theorem dX1_addTipsOfKinds_24 : decode cX1_addTipsOfKinds 24 = .ok (.invokestatic 72, 3) := by decide +kernel
theorem dX1_addTipsOfKinds_27 : decode cX1_addTipsOfKinds 27 = .ok (.invokevirtual 51, 3) := by decide +kernel
theorem dX1_addTipsOfKinds_30 : decode cX1_addTipsOfKinds 30 = .ok (.iinc 4 1, 3) := by decide +kernel
theorem dX1_addTipsOfKinds_33 : decode cX1_addTipsOfKinds 33 = .ok (.goto (-30), 3) := by decide +kernel
theorem dX1_addTipsOfKinds_36 : decode cX1_addTipsOfKinds 36 = .ok (.return_, 1) := by decide +kernel
set_option maxRecDepth 20000 in
theorem ggX1_fitsReadings_X7_size : GoodIn wsX1_fitsReadings wsX7_size := goodIn_r _ [7, 8, 43, 44] (by decide +kernel) (by decide +kernel)
set_option maxRecDepth 20000 in
theorem gX1_fitsReadings_X7_size : GoodIn wsX1_fitsReadings (wsV RX1 80 RX7 yX7_size wsX7_size) := goodIn_app (goodIn_of _ (by decide +kernel)) ggX1_fitsReadings_X7_size
set_option maxRecDepth 20000 in
theorem ggX1_fitsReadings_X7_at : GoodIn wsX1_fitsReadings wsX7_at := goodIn_r _ [12, 8, 13, 43, 44] (by decide +kernel) (by decide +kernel)
set_option maxRecDepth 20000 in
theorem gX1_fitsReadings_X7_at : GoodIn wsX1_fitsReadings (wsV RX1 85 RX7 yX7_at wsX7_at) := goodIn_app (goodIn_of _ (by decide +kernel)) ggX1_fitsReadings_X7_at
set_option maxRecDepth 20000 in
theorem ggX1_fitsReadings_X1_tipIfOff : GoodIn wsX1_fitsReadings wsX1_tipIfOff := goodIn_r _ [17, 18, 19, 20, 6, 21, 8, 22, 23, 24, 25, 10, 11, 12, 13, 26, 27, 28, 29, 30, 31, 32, 33, 43, 44] (by decide +kernel) (by decide +kernel)
set_option maxRecDepth 20000 in
theorem gX1_fitsReadings_X1_tipIfOff : GoodIn wsX1_fitsReadings (va_wsS RX1 68 yX1_tipIfOff wsX1_tipIfOff) := goodIn_app (goodIn_of _ (by decide +kernel)) ggX1_fitsReadings_X1_tipIfOff
theorem dX1_fitsReadings_0 : decode cX1_fitsReadings 0 = .ok (.aload_n 0, 1) := by decide +kernel
theorem dX1_fitsReadings_1 : decode cX1_fitsReadings 1 = .ok (.getfield 77, 3) := by decide +kernel
theorem dX1_fitsReadings_4 : decode cX1_fitsReadings 4 = .ok (.astore_n 3, 1) := by decide +kernel
theorem dX1_fitsReadings_5 : decode cX1_fitsReadings 5 = .ok (.iconst 0, 1) := by decide +kernel
theorem dX1_fitsReadings_6 : decode cX1_fitsReadings 6 = .ok (.istore 4, 2) := by decide +kernel
theorem dX1_fitsReadings_8 : decode cX1_fitsReadings 8 = .ok (.iload 4, 2) := by decide +kernel
theorem dX1_fitsReadings_10 : decode cX1_fitsReadings 10 = .ok (.iconst 2, 1) := by decide +kernel
theorem dX1_fitsReadings_11 : decode cX1_fitsReadings 11 = .ok (.iadd, 1) := by decide +kernel
theorem dX1_fitsReadings_12 : decode cX1_fitsReadings 12 = .ok (.aload_n 3, 1) := by decide +kernel
theorem dX1_fitsReadings_13 : decode cX1_fitsReadings 13 = .ok (.invokevirtual 80, 3) := by decide +kernel
theorem dX1_fitsReadings_16 : decode cX1_fitsReadings 16 = .ok (.if_icmp .ge 45, 3) := by decide +kernel
theorem dX1_fitsReadings_19 : decode cX1_fitsReadings 19 = .ok (.aload_n 0, 1) := by decide +kernel
theorem dX1_fitsReadings_20 : decode cX1_fitsReadings 20 = .ok (.getfield 65, 3) := by decide +kernel
theorem dX1_fitsReadings_23 : decode cX1_fitsReadings 23 = .ok (.aload_n 3, 1) := by decide +kernel
theorem dX1_fitsReadings_24 : decode cX1_fitsReadings 24 = .ok (.iload 4, 2) := by decide +kernel
theorem dX1_fitsReadings_26 : decode cX1_fitsReadings 26 = .ok (.invokevirtual 85, 3) := by decide +kernel
theorem dX1_fitsReadings_29 : decode cX1_fitsReadings 29 = .ok (.aload_n 3, 1) := by decide +kernel
theorem dX1_fitsReadings_30 : decode cX1_fitsReadings 30 = .ok (.iload 4, 2) := by decide +kernel
theorem dX1_fitsReadings_32 : decode cX1_fitsReadings 32 = .ok (.iconst 1, 1) := by decide +kernel
theorem dX1_fitsReadings_33 : decode cX1_fitsReadings 33 = .ok (.iadd, 1) := by decide +kernel
theorem dX1_fitsReadings_34 : decode cX1_fitsReadings 34 = .ok (.invokevirtual 85, 3) := by decide +kernel
theorem dX1_fitsReadings_37 : decode cX1_fitsReadings 37 = .ok (.iload_n 1, 1) := by decide +kernel
theorem dX1_fitsReadings_38 : decode cX1_fitsReadings 38 = .ok (.iload_n 2, 1) := by decide +kernel
theorem dX1_fitsReadings_39 : decode cX1_fitsReadings 39 = .ok (.invokestatic 68, 3) := by decide +kernel
theorem dX1_fitsReadings_42 : decode cX1_fitsReadings 42 = .ok (.aload_n 3, 1) := by decide +kernel
theorem dX1_fitsReadings_43 : decode cX1_fitsReadings 43 = .ok (.iload 4, 2) := by decide +kernel
theorem dX1_fitsReadings_45 : decode cX1_fitsReadings 45 = .ok (.iconst 2, 1) := by decide +kernel
theorem dX1_fitsReadings_46 : decode cX1_fitsReadings 46 = .ok (.iadd, 1) := by decide +kernel
theorem dX1_fitsReadings_47 : decode cX1_fitsReadings 47 = .ok (.invokevirtual 85, 3) := by decide +kernel
theorem dX1_fitsReadings_50 : decode cX1_fitsReadings 50 = .ok (.if_icmp .eq 5, 3) := by decide +kernel
theorem dX1_fitsReadings_53 : decode cX1_fitsReadings 53 = .ok (.iconst 0, 1) := by decide +kernel
theorem dX1_fitsReadings_54 : decode cX1_fitsReadings 54 = .ok (.ireturn, 1) := by decide +kernel
theorem dX1_fitsReadings_55 : decode cX1_fitsReadings 55 = .ok (.iinc 4 3, 3) := by decide +kernel
theorem dX1_fitsReadings_58 : decode cX1_fitsReadings 58 = .ok (.goto (-50), 3) := by decide +kernel
theorem dX1_fitsReadings_61 : decode cX1_fitsReadings 61 = .ok (.iconst 1, 1) := by decide +kernel
theorem dX1_fitsReadings_62 : decode cX1_fitsReadings 62 = .ok (.ireturn, 1) := by decide +kernel
set_option maxRecDepth 20000 in
theorem ggX1_tipIfOff_X7_sumOf : GoodIn wsX1_tipIfOff wsX7_sumOf := goodIn_r _ [5, 6, 7, 8, 9, 10, 11, 12, 4, 13, 14, 23, 24] (by decide +kernel) (by decide +kernel)
set_option maxRecDepth 20000 in
theorem gX1_tipIfOff_X7_sumOf : GoodIn wsX1_tipIfOff (wsV RX1 89 RX7 yX7_sumOf wsX7_sumOf) := goodIn_app (goodIn_of _ (by decide +kernel)) ggX1_tipIfOff_X7_sumOf
set_option maxRecDepth 20000 in
theorem ggX1_tipIfOff_X11_hasBit : GoodIn wsX1_tipIfOff wsX11_hasBit := goodIn_r _ [9] (by decide +kernel) (by decide +kernel)
set_option maxRecDepth 20000 in
theorem gX1_tipIfOff_X11_hasBit_n41 : GoodIn wsX1_tipIfOff (wsX11_hasBit) := ggX1_tipIfOff_X11_hasBit
set_option maxRecDepth 20000 in
theorem ggX1_tipIfOff_X0_trueTip : GoodIn wsX1_tipIfOff wsX0_trueTip := goodIn_r _ [18, 19, 20, 21, 22] (by decide +kernel) (by decide +kernel)
set_option maxRecDepth 20000 in
theorem gX1_tipIfOff_X0_trueTip : GoodIn wsX1_tipIfOff (va_wsS RX1 92 yX0_trueTip wsX0_trueTip) := goodIn_app (goodIn_of _ (by decide +kernel)) ggX1_tipIfOff_X0_trueTip
theorem dX1_tipIfOff_0 : decode cX1_tipIfOff 0 = .ok (.aload_n 0, 1) := by decide +kernel
theorem dX1_tipIfOff_1 : decode cX1_tipIfOff 1 = .ok (.iload_n 1, 1) := by decide +kernel
theorem dX1_tipIfOff_2 : decode cX1_tipIfOff 2 = .ok (.invokevirtual 89, 3) := by decide +kernel
theorem dX1_tipIfOff_5 : decode cX1_tipIfOff 5 = .ok (.iload_n 1, 1) := by decide +kernel
theorem dX1_tipIfOff_6 : decode cX1_tipIfOff 6 = .ok (.iload_n 3, 1) := by decide +kernel
theorem dX1_tipIfOff_7 : decode cX1_tipIfOff 7 = .ok (.invokestatic 41, 3) := by decide +kernel
theorem dX1_tipIfOff_10 : decode cX1_tipIfOff 10 = .ok (.ifCond .eq 8, 3) := by decide +kernel
theorem dX1_tipIfOff_13 : decode cX1_tipIfOff 13 = .ok (.iload 4, 2) := by decide +kernel
theorem dX1_tipIfOff_15 : decode cX1_tipIfOff 15 = .ok (.goto 4, 3) := by decide +kernel
theorem dX1_tipIfOff_18 : decode cX1_tipIfOff 18 = .ok (.iconst 0, 1) := by decide +kernel
theorem dX1_tipIfOff_19 : decode cX1_tipIfOff 19 = .ok (.iadd, 1) := by decide +kernel
theorem dX1_tipIfOff_20 : decode cX1_tipIfOff 20 = .ok (.istore 5, 2) := by decide +kernel
theorem dX1_tipIfOff_22 : decode cX1_tipIfOff 22 = .ok (.aload_n 0, 1) := by decide +kernel
theorem dX1_tipIfOff_23 : decode cX1_tipIfOff 23 = .ok (.iload_n 2, 1) := by decide +kernel
theorem dX1_tipIfOff_24 : decode cX1_tipIfOff 24 = .ok (.invokevirtual 89, 3) := by decide +kernel
theorem dX1_tipIfOff_27 : decode cX1_tipIfOff 27 = .ok (.iload_n 2, 1) := by decide +kernel
theorem dX1_tipIfOff_28 : decode cX1_tipIfOff 28 = .ok (.iload_n 3, 1) := by decide +kernel
theorem dX1_tipIfOff_29 : decode cX1_tipIfOff 29 = .ok (.invokestatic 41, 3) := by decide +kernel
theorem dX1_tipIfOff_32 : decode cX1_tipIfOff 32 = .ok (.ifCond .eq 8, 3) := by decide +kernel
theorem dX1_tipIfOff_35 : decode cX1_tipIfOff 35 = .ok (.iload 4, 2) := by decide +kernel
theorem dX1_tipIfOff_37 : decode cX1_tipIfOff 37 = .ok (.goto 4, 3) := by decide +kernel
theorem dX1_tipIfOff_40 : decode cX1_tipIfOff 40 = .ok (.iconst 0, 1) := by decide +kernel
theorem dX1_tipIfOff_41 : decode cX1_tipIfOff 41 = .ok (.iadd, 1) := by decide +kernel
theorem dX1_tipIfOff_42 : decode cX1_tipIfOff 42 = .ok (.istore 6, 2) := by decide +kernel
theorem dX1_tipIfOff_44 : decode cX1_tipIfOff 44 = .ok (.iload 5, 2) := by decide +kernel
theorem dX1_tipIfOff_46 : decode cX1_tipIfOff 46 = .ok (.iload 6, 2) := by decide +kernel
theorem dX1_tipIfOff_48 : decode cX1_tipIfOff 48 = .ok (.invokestatic 92, 3) := by decide +kernel
theorem dX1_tipIfOff_51 : decode cX1_tipIfOff 51 = .ok (.ireturn, 1) := by decide +kernel
set_option maxRecDepth 20000 in
theorem ggX1_fitsNotes_X7_size : GoodIn wsX1_fitsNotes wsX7_size := goodIn_r _ [5, 6, 23, 24] (by decide +kernel) (by decide +kernel)
set_option maxRecDepth 20000 in
theorem gX1_fitsNotes_X7_size : GoodIn wsX1_fitsNotes (wsV RX1 80 RX7 yX7_size wsX7_size) := goodIn_app (goodIn_of _ (by decide +kernel)) ggX1_fitsNotes_X7_size
set_option maxRecDepth 20000 in
theorem ggX1_fitsNotes_X7_at : GoodIn wsX1_fitsNotes wsX7_at := goodIn_r _ [10, 6, 11, 23, 24] (by decide +kernel) (by decide +kernel)
set_option maxRecDepth 20000 in
theorem gX1_fitsNotes_X7_at : GoodIn wsX1_fitsNotes (wsV RX1 85 RX7 yX7_at wsX7_at) := goodIn_app (goodIn_of _ (by decide +kernel)) ggX1_fitsNotes_X7_at
set_option maxRecDepth 20000 in
theorem ggX1_fitsNotes_X2_behind : GoodIn wsX1_fitsNotes wsX2_behind := goodIn_r _ [15, 16, 17, 18, 19, 20, 21, 14, 22] (by decide +kernel) (by decide +kernel)
set_option maxRecDepth 20000 in
theorem gX1_fitsNotes_X2_behind : GoodIn wsX1_fitsNotes (va_wsS RX1 45 yX2_behind wsX2_behind) := goodIn_app (goodIn_of _ (by decide +kernel)) ggX1_fitsNotes_X2_behind
theorem dX1_fitsNotes_0 : decode cX1_fitsNotes 0 = .ok (.iconst 0, 1) := by decide +kernel
theorem dX1_fitsNotes_1 : decode cX1_fitsNotes 1 = .ok (.istore_n 3, 1) := by decide +kernel
theorem dX1_fitsNotes_2 : decode cX1_fitsNotes 2 = .ok (.iload_n 3, 1) := by decide +kernel
theorem dX1_fitsNotes_3 : decode cX1_fitsNotes 3 = .ok (.iconst 3, 1) := by decide +kernel
theorem dX1_fitsNotes_4 : decode cX1_fitsNotes 4 = .ok (.iadd, 1) := by decide +kernel
theorem dX1_fitsNotes_5 : decode cX1_fitsNotes 5 = .ok (.aload_n 0, 1) := by decide +kernel
theorem dX1_fitsNotes_6 : decode cX1_fitsNotes 6 = .ok (.invokevirtual 80, 3) := by decide +kernel
theorem dX1_fitsNotes_9 : decode cX1_fitsNotes 9 = .ok (.if_icmp .ge 48, 3) := by decide +kernel
theorem dX1_fitsNotes_12 : decode cX1_fitsNotes 12 = .ok (.aload_n 0, 1) := by decide +kernel
theorem dX1_fitsNotes_13 : decode cX1_fitsNotes 13 = .ok (.iload_n 3, 1) := by decide +kernel
theorem dX1_fitsNotes_14 : decode cX1_fitsNotes 14 = .ok (.invokevirtual 85, 3) := by decide +kernel
theorem dX1_fitsNotes_17 : decode cX1_fitsNotes 17 = .ok (.iload_n 1, 1) := by decide +kernel
theorem dX1_fitsNotes_18 : decode cX1_fitsNotes 18 = .ok (.if_icmp .ne 33, 3) := by decide +kernel
theorem dX1_fitsNotes_21 : decode cX1_fitsNotes 21 = .ok (.iload_n 2, 1) := by decide +kernel
theorem dX1_fitsNotes_22 : decode cX1_fitsNotes 22 = .ok (.aload_n 0, 1) := by decide +kernel
theorem dX1_fitsNotes_23 : decode cX1_fitsNotes 23 = .ok (.iload_n 3, 1) := by decide +kernel
theorem dX1_fitsNotes_24 : decode cX1_fitsNotes 24 = .ok (.iconst 1, 1) := by decide +kernel
theorem dX1_fitsNotes_25 : decode cX1_fitsNotes 25 = .ok (.iadd, 1) := by decide +kernel
theorem dX1_fitsNotes_26 : decode cX1_fitsNotes 26 = .ok (.invokevirtual 85, 3) := by decide +kernel
theorem dX1_fitsNotes_29 : decode cX1_fitsNotes 29 = .ok (.aload_n 0, 1) := by decide +kernel
theorem dX1_fitsNotes_30 : decode cX1_fitsNotes 30 = .ok (.iload_n 3, 1) := by decide +kernel
theorem dX1_fitsNotes_31 : decode cX1_fitsNotes 31 = .ok (.iconst 2, 1) := by decide +kernel
theorem dX1_fitsNotes_32 : decode cX1_fitsNotes 32 = .ok (.iadd, 1) := by decide +kernel
theorem dX1_fitsNotes_33 : decode cX1_fitsNotes 33 = .ok (.invokevirtual 85, 3) := by decide +kernel
theorem dX1_fitsNotes_36 : decode cX1_fitsNotes 36 = .ok (.invokestatic 45, 3) := by decide +kernel
theorem dX1_fitsNotes_39 : decode cX1_fitsNotes 39 = .ok (.aload_n 0, 1) := by decide +kernel
theorem dX1_fitsNotes_40 : decode cX1_fitsNotes 40 = .ok (.iload_n 3, 1) := by decide +kernel
theorem dX1_fitsNotes_41 : decode cX1_fitsNotes 41 = .ok (.iconst 3, 1) := by decide +kernel
theorem dX1_fitsNotes_42 : decode cX1_fitsNotes 42 = .ok (.iadd, 1) := by decide +kernel
theorem dX1_fitsNotes_43 : decode cX1_fitsNotes 43 = .ok (.invokevirtual 85, 3) := by decide +kernel
theorem dX1_fitsNotes_46 : decode cX1_fitsNotes 46 = .ok (.if_icmp .eq 5, 3) := by decide +kernel
theorem dX1_fitsNotes_49 : decode cX1_fitsNotes 49 = .ok (.iconst 0, 1) := by decide +kernel
theorem dX1_fitsNotes_50 : decode cX1_fitsNotes 50 = .ok (.ireturn, 1) := by decide +kernel
theorem dX1_fitsNotes_51 : decode cX1_fitsNotes 51 = .ok (.iinc 3 4, 3) := by decide +kernel
theorem dX1_fitsNotes_54 : decode cX1_fitsNotes 54 = .ok (.goto (-52), 3) := by decide +kernel
theorem dX1_fitsNotes_57 : decode cX1_fitsNotes 57 = .ok (.iconst 1, 1) := by decide +kernel
theorem dX1_fitsNotes_58 : decode cX1_fitsNotes 58 = .ok (.ireturn, 1) := by decide +kernel
set_option maxRecDepth 20000 in
theorem ggX1_fitsTippings_X7_size : GoodIn wsX1_fitsTippings wsX7_size := goodIn_r _ [5, 6, 33, 34] (by decide +kernel) (by decide +kernel)
set_option maxRecDepth 20000 in
theorem gX1_fitsTippings_X7_size : GoodIn wsX1_fitsTippings (wsV RX1 80 RX7 yX7_size wsX7_size) := goodIn_app (goodIn_of _ (by decide +kernel)) ggX1_fitsTippings_X7_size
set_option maxRecDepth 20000 in
theorem ggX1_fitsTippings_X7_at : GoodIn wsX1_fitsTippings wsX7_at := goodIn_r _ [10, 6, 11, 33, 34] (by decide +kernel) (by decide +kernel)
set_option maxRecDepth 20000 in
theorem gX1_fitsTippings_X7_at : GoodIn wsX1_fitsTippings (wsV RX1 85 RX7 yX7_at wsX7_at) := goodIn_app (goodIn_of _ (by decide +kernel)) ggX1_fitsTippings_X7_at
set_option maxRecDepth 20000 in
theorem ggX1_fitsTippings_X0_tip : GoodIn wsX1_fitsTippings wsX0_tip := goodIn_r _ [15, 16, 17, 14, 18, 19, 20, 21, 22, 23, 24, 25, 26, 27, 28, 29, 30, 31, 32] (by decide +kernel) (by decide +kernel)
set_option maxRecDepth 20000 in
theorem gX1_fitsTippings_X0_tip : GoodIn wsX1_fitsTippings (va_wsS RX1 72 yX0_tip wsX0_tip) := goodIn_app (goodIn_of _ (by decide +kernel)) ggX1_fitsTippings_X0_tip
theorem dX1_fitsTippings_0 : decode cX1_fitsTippings 0 = .ok (.iconst 0, 1) := by decide +kernel
theorem dX1_fitsTippings_1 : decode cX1_fitsTippings 1 = .ok (.istore_n 3, 1) := by decide +kernel
theorem dX1_fitsTippings_2 : decode cX1_fitsTippings 2 = .ok (.iload_n 3, 1) := by decide +kernel
theorem dX1_fitsTippings_3 : decode cX1_fitsTippings 3 = .ok (.iconst 3, 1) := by decide +kernel
theorem dX1_fitsTippings_4 : decode cX1_fitsTippings 4 = .ok (.iadd, 1) := by decide +kernel
theorem dX1_fitsTippings_5 : decode cX1_fitsTippings 5 = .ok (.aload_n 0, 1) := by decide +kernel
theorem dX1_fitsTippings_6 : decode cX1_fitsTippings 6 = .ok (.invokevirtual 80, 3) := by decide +kernel
theorem dX1_fitsTippings_9 : decode cX1_fitsTippings 9 = .ok (.if_icmp .ge 48, 3) := by decide +kernel
theorem dX1_fitsTippings_12 : decode cX1_fitsTippings 12 = .ok (.aload_n 0, 1) := by decide +kernel
theorem dX1_fitsTippings_13 : decode cX1_fitsTippings 13 = .ok (.iload_n 3, 1) := by decide +kernel
theorem dX1_fitsTippings_14 : decode cX1_fitsTippings 14 = .ok (.invokevirtual 85, 3) := by decide +kernel
theorem dX1_fitsTippings_17 : decode cX1_fitsTippings 17 = .ok (.iload_n 1, 1) := by decide +kernel
theorem dX1_fitsTippings_18 : decode cX1_fitsTippings 18 = .ok (.if_icmp .ne 33, 3) := by decide +kernel
theorem dX1_fitsTippings_21 : decode cX1_fitsTippings 21 = .ok (.iload_n 2, 1) := by decide +kernel
theorem dX1_fitsTippings_22 : decode cX1_fitsTippings 22 = .ok (.aload_n 0, 1) := by decide +kernel
theorem dX1_fitsTippings_23 : decode cX1_fitsTippings 23 = .ok (.iload_n 3, 1) := by decide +kernel
theorem dX1_fitsTippings_24 : decode cX1_fitsTippings 24 = .ok (.iconst 1, 1) := by decide +kernel
theorem dX1_fitsTippings_25 : decode cX1_fitsTippings 25 = .ok (.iadd, 1) := by decide +kernel
theorem dX1_fitsTippings_26 : decode cX1_fitsTippings 26 = .ok (.invokevirtual 85, 3) := by decide +kernel
theorem dX1_fitsTippings_29 : decode cX1_fitsTippings 29 = .ok (.aload_n 0, 1) := by decide +kernel
theorem dX1_fitsTippings_30 : decode cX1_fitsTippings 30 = .ok (.iload_n 3, 1) := by decide +kernel
theorem dX1_fitsTippings_31 : decode cX1_fitsTippings 31 = .ok (.iconst 2, 1) := by decide +kernel
theorem dX1_fitsTippings_32 : decode cX1_fitsTippings 32 = .ok (.iadd, 1) := by decide +kernel
theorem dX1_fitsTippings_33 : decode cX1_fitsTippings 33 = .ok (.invokevirtual 85, 3) := by decide +kernel
theorem dX1_fitsTippings_36 : decode cX1_fitsTippings 36 = .ok (.invokestatic 72, 3) := by decide +kernel
theorem dX1_fitsTippings_39 : decode cX1_fitsTippings 39 = .ok (.aload_n 0, 1) := by decide +kernel
theorem dX1_fitsTippings_40 : decode cX1_fitsTippings 40 = .ok (.iload_n 3, 1) := by decide +kernel
theorem dX1_fitsTippings_41 : decode cX1_fitsTippings 41 = .ok (.iconst 3, 1) := by decide +kernel
theorem dX1_fitsTippings_42 : decode cX1_fitsTippings 42 = .ok (.iadd, 1) := by decide +kernel
theorem dX1_fitsTippings_43 : decode cX1_fitsTippings 43 = .ok (.invokevirtual 85, 3) := by decide +kernel
theorem dX1_fitsTippings_46 : decode cX1_fitsTippings 46 = .ok (.if_icmp .eq 5, 3) := by decide +kernel
theorem dX1_fitsTippings_49 : decode cX1_fitsTippings 49 = .ok (.iconst 0, 1) := by decide +kernel
theorem dX1_fitsTippings_50 : decode cX1_fitsTippings 50 = .ok (.ireturn, 1) := by decide +kernel
theorem dX1_fitsTippings_51 : decode cX1_fitsTippings 51 = .ok (.iinc 3 4, 3) := by decide +kernel
theorem dX1_fitsTippings_54 : decode cX1_fitsTippings 54 = .ok (.goto (-52), 3) := by decide +kernel
theorem dX1_fitsTippings_57 : decode cX1_fitsTippings 57 = .ok (.iconst 1, 1) := by decide +kernel
theorem dX1_fitsTippings_58 : decode cX1_fitsTippings 58 = .ok (.ireturn, 1) := by decide +kernel
set_option maxRecDepth 20000 in
theorem ggX2_behind_X2_fadingBehind : GoodIn wsX2_behind wsX2_fadingBehind := goodIn_r _ [8] (by decide +kernel) (by decide +kernel)
set_option maxRecDepth 20000 in
theorem gX2_behind_X2_fadingBehind : GoodIn wsX2_behind (va_wsS RX2 9 yX2_fadingBehind wsX2_fadingBehind) := goodIn_app (goodIn_of _ (by decide +kernel)) ggX2_behind_X2_fadingBehind
theorem dX2_behind_0 : decode cX2_behind 0 = .ok (.iload_n 0, 1) := by decide +kernel
theorem dX2_behind_1 : decode cX2_behind 1 = .ok (.tableswitch 71 1 5 #[35, 71, 71, 41, 51], 35) := by decide +kernel
theorem dX2_behind_36 : decode cX2_behind 36 = .ok (.iload_n 1, 1) := by decide +kernel
theorem dX2_behind_37 : decode cX2_behind 37 = .ok (.iload_n 2, 1) := by decide +kernel
theorem dX2_behind_38 : decode cX2_behind 38 = .ok (.invokestatic 9, 3) := by decide +kernel
theorem dX2_behind_41 : decode cX2_behind 41 = .ok (.ireturn, 1) := by decide +kernel
theorem dX2_behind_42 : decode cX2_behind 42 = .ok (.iload_n 1, 1) := by decide +kernel
theorem dX2_behind_43 : decode cX2_behind 43 = .ok (.iload_n 2, 1) := by decide +kernel
theorem dX2_behind_44 : decode cX2_behind 44 = .ok (.invokestatic 9, 3) := by decide +kernel
theorem dX2_behind_47 : decode cX2_behind 47 = .ok (.iload_n 2, 1) := by decide +kernel
theorem dX2_behind_48 : decode cX2_behind 48 = .ok (.invokestatic 9, 3) := by decide +kernel
theorem dX2_behind_51 : decode cX2_behind 51 = .ok (.ireturn, 1) := by decide +kernel
theorem dX2_behind_52 : decode cX2_behind 52 = .ok (.iload_n 2, 1) := by decide +kernel
theorem dX2_behind_53 : decode cX2_behind 53 = .ok (.iconst 3, 1) := by decide +kernel
theorem dX2_behind_54 : decode cX2_behind 54 = .ok (.irem, 1) := by decide +kernel
theorem dX2_behind_55 : decode cX2_behind 55 = .ok (.ifCond .ne 15, 3) := by decide +kernel
theorem dX2_behind_58 : decode cX2_behind 58 = .ok (.sipush 250, 3) := by decide +kernel
theorem dX2_behind_61 : decode cX2_behind 61 = .ok (.iload_n 1, 1) := by decide +kernel
theorem dX2_behind_62 : decode cX2_behind 62 = .ok (.iconst 1, 1) := by decide +kernel
theorem dX2_behind_63 : decode cX2_behind 63 = .ok (.iadd, 1) := by decide +kernel
theorem dX2_behind_64 : decode cX2_behind 64 = .ok (.invokestatic 15, 3) := by decide +kernel
theorem dX2_behind_67 : decode cX2_behind 67 = .ok (.goto 4, 3) := by decide +kernel
theorem dX2_behind_70 : decode cX2_behind 70 = .ok (.iload_n 1, 1) := by decide +kernel
theorem dX2_behind_71 : decode cX2_behind 71 = .ok (.ireturn, 1) := by decide +kernel
theorem dX2_behind_72 : decode cX2_behind 72 = .ok (.iload_n 1, 1) := by decide +kernel
theorem dX2_behind_73 : decode cX2_behind 73 = .ok (.ireturn, 1) := by decide +kernel
set_option maxRecDepth 20000 in
theorem ggX2_lends_X2_plainLends : GoodIn wsX2_lends wsX2_plainLends := goodIn_r _ [4] (by decide +kernel) (by decide +kernel)
set_option maxRecDepth 20000 in
theorem gX2_lends_X2_plainLends : GoodIn wsX2_lends (va_wsS RX2 20 yX2_plainLends wsX2_plainLends) := goodIn_app (goodIn_of _ (by decide +kernel)) ggX2_lends_X2_plainLends
theorem dX2_lends_0 : decode cX2_lends 0 = .ok (.iload_n 0, 1) := by decide +kernel
theorem dX2_lends_1 : decode cX2_lends 1 = .ok (.tableswitch 91 0 5 #[39, 39, 91, 45, 71, 45], 39) := by decide +kernel
theorem dX2_lends_40 : decode cX2_lends 40 = .ok (.iload_n 2, 1) := by decide +kernel
theorem dX2_lends_41 : decode cX2_lends 41 = .ok (.iload_n 3, 1) := by decide +kernel
theorem dX2_lends_42 : decode cX2_lends 42 = .ok (.invokestatic 20, 3) := by decide +kernel
theorem dX2_lends_45 : decode cX2_lends 45 = .ok (.ireturn, 1) := by decide +kernel
theorem dX2_lends_46 : decode cX2_lends 46 = .ok (.iload_n 1, 1) := by decide +kernel
theorem dX2_lends_47 : decode cX2_lends 47 = .ok (.bipush 7, 2) := by decide +kernel
theorem dX2_lends_49 : decode cX2_lends 49 = .ok (.irem, 1) := by decide +kernel
theorem dX2_lends_50 : decode cX2_lends 50 = .ok (.ifCond .eq 8, 3) := by decide +kernel
theorem dX2_lends_53 : decode cX2_lends 53 = .ok (.iload_n 3, 1) := by decide +kernel
theorem dX2_lends_54 : decode cX2_lends 54 = .ok (.iconst 5, 1) := by decide +kernel
theorem dX2_lends_55 : decode cX2_lends 55 = .ok (.if_icmp .lt 15, 3) := by decide +kernel
theorem dX2_lends_58 : decode cX2_lends 58 = .ok (.iload_n 2, 1) := by decide +kernel
theorem dX2_lends_59 : decode cX2_lends 59 = .ok (.iload_n 3, 1) := by decide +kernel
theorem dX2_lends_60 : decode cX2_lends 60 = .ok (.invokestatic 20, 3) := by decide +kernel
theorem dX2_lends_63 : decode cX2_lends 63 = .ok (.ifCond .eq 7, 3) := by decide +kernel
theorem dX2_lends_66 : decode cX2_lends 66 = .ok (.iconst 1, 1) := by decide +kernel
theorem dX2_lends_67 : decode cX2_lends 67 = .ok (.goto 4, 3) := by decide +kernel
theorem dX2_lends_70 : decode cX2_lends 70 = .ok (.iconst 0, 1) := by decide +kernel
theorem dX2_lends_71 : decode cX2_lends 71 = .ok (.ireturn, 1) := by decide +kernel
theorem dX2_lends_72 : decode cX2_lends 72 = .ok (.iload_n 2, 1) := by decide +kernel
theorem dX2_lends_73 : decode cX2_lends 73 = .ok (.iload_n 3, 1) := by decide +kernel
theorem dX2_lends_74 : decode cX2_lends 74 = .ok (.invokestatic 20, 3) := by decide +kernel
theorem dX2_lends_77 : decode cX2_lends 77 = .ok (.ifCond .ne 9, 3) := by decide +kernel
theorem dX2_lends_80 : decode cX2_lends 80 = .ok (.iload_n 2, 1) := by decide +kernel
theorem dX2_lends_81 : decode cX2_lends 81 = .ok (.bipush 8, 2) := by decide +kernel
theorem dX2_lends_83 : decode cX2_lends 83 = .ok (.if_icmp .lt 7, 3) := by decide +kernel
theorem dX2_lends_86 : decode cX2_lends 86 = .ok (.iconst 1, 1) := by decide +kernel
theorem dX2_lends_87 : decode cX2_lends 87 = .ok (.goto 4, 3) := by decide +kernel
theorem dX2_lends_90 : decode cX2_lends 90 = .ok (.iconst 0, 1) := by decide +kernel
theorem dX2_lends_91 : decode cX2_lends 91 = .ok (.ireturn, 1) := by decide +kernel
theorem dX2_lends_92 : decode cX2_lends 92 = .ok (.iconst 0, 1) := by decide +kernel
theorem dX2_lends_93 : decode cX2_lends 93 = .ok (.ireturn, 1) := by decide +kernel
set_option maxRecDepth 20000 in
theorem ggX2_leastGift_X2_lends : GoodIn wsX2_leastGift wsX2_lends := goodIn_r _ [4, 5, 6, 3, 7] (by decide +kernel) (by decide +kernel)
set_option maxRecDepth 20000 in
theorem gX2_leastGift_X2_lends : GoodIn wsX2_leastGift (va_wsS RX2 24 yX2_lends wsX2_lends) := goodIn_app (goodIn_of _ (by decide +kernel)) ggX2_leastGift_X2_lends
theorem dX2_leastGift_0 : decode cX2_leastGift 0 = .ok (.iconst 0, 1) := by decide +kernel
theorem dX2_leastGift_1 : decode cX2_leastGift 1 = .ok (.istore_n 3, 1) := by decide +kernel
theorem dX2_leastGift_2 : decode cX2_leastGift 2 = .ok (.iload_n 3, 1) := by decide +kernel
theorem dX2_leastGift_3 : decode cX2_leastGift 3 = .ok (.bipush 9, 2) := by decide +kernel
theorem dX2_leastGift_5 : decode cX2_leastGift 5 = .ok (.if_icmp .gt 21, 3) := by decide +kernel
theorem dX2_leastGift_8 : decode cX2_leastGift 8 = .ok (.iload_n 0, 1) := by decide +kernel
theorem dX2_leastGift_9 : decode cX2_leastGift 9 = .ok (.iload_n 1, 1) := by decide +kernel
theorem dX2_leastGift_10 : decode cX2_leastGift 10 = .ok (.iload_n 2, 1) := by decide +kernel
theorem dX2_leastGift_11 : decode cX2_leastGift 11 = .ok (.iload_n 3, 1) := by decide +kernel
theorem dX2_leastGift_12 : decode cX2_leastGift 12 = .ok (.invokestatic 24, 3) := by decide +kernel
theorem dX2_leastGift_15 : decode cX2_leastGift 15 = .ok (.ifCond .eq 5, 3) := by decide +kernel
theorem dX2_leastGift_18 : decode cX2_leastGift 18 = .ok (.iload_n 3, 1) := by decide +kernel
theorem dX2_leastGift_19 : decode cX2_leastGift 19 = .ok (.ireturn, 1) := by decide +kernel
theorem dX2_leastGift_20 : decode cX2_leastGift 20 = .ok (.iinc 3 1, 3) := by decide +kernel
theorem dX2_leastGift_23 : decode cX2_leastGift 23 = .ok (.goto (-21), 3) := by decide +kernel
theorem dX2_leastGift_26 : decode cX2_leastGift 26 = .ok (.iconst (-1), 1) := by decide +kernel
theorem dX2_leastGift_27 : decode cX2_leastGift 27 = .ok (.ireturn, 1) := by decide +kernel
set_option maxRecDepth 20000 in
theorem ggX2_giftsEnough_X2_lends : GoodIn wsX2_giftsEnough wsX2_lends := goodIn_r _ [4, 5, 6, 3, 7] (by decide +kernel) (by decide +kernel)
set_option maxRecDepth 20000 in
theorem gX2_giftsEnough_X2_lends : GoodIn wsX2_giftsEnough (va_wsS RX2 24 yX2_lends wsX2_lends) := goodIn_app (goodIn_of _ (by decide +kernel)) ggX2_giftsEnough_X2_lends
theorem dX2_giftsEnough_0 : decode cX2_giftsEnough 0 = .ok (.iconst 0, 1) := by decide +kernel
theorem dX2_giftsEnough_1 : decode cX2_giftsEnough 1 = .ok (.istore_n 3, 1) := by decide +kernel
theorem dX2_giftsEnough_2 : decode cX2_giftsEnough 2 = .ok (.iconst 0, 1) := by decide +kernel
theorem dX2_giftsEnough_3 : decode cX2_giftsEnough 3 = .ok (.istore 4, 2) := by decide +kernel
theorem dX2_giftsEnough_5 : decode cX2_giftsEnough 5 = .ok (.iload 4, 2) := by decide +kernel
theorem dX2_giftsEnough_7 : decode cX2_giftsEnough 7 = .ok (.bipush 9, 2) := by decide +kernel
theorem dX2_giftsEnough_9 : decode cX2_giftsEnough 9 = .ok (.if_icmp .gt 27, 3) := by decide +kernel
theorem dX2_giftsEnough_12 : decode cX2_giftsEnough 12 = .ok (.iload_n 0, 1) := by decide +kernel
theorem dX2_giftsEnough_13 : decode cX2_giftsEnough 13 = .ok (.iload_n 1, 1) := by decide +kernel
theorem dX2_giftsEnough_14 : decode cX2_giftsEnough 14 = .ok (.iload_n 2, 1) := by decide +kernel
theorem dX2_giftsEnough_15 : decode cX2_giftsEnough 15 = .ok (.iload 4, 2) := by decide +kernel
theorem dX2_giftsEnough_17 : decode cX2_giftsEnough 17 = .ok (.invokestatic 24, 3) := by decide +kernel
theorem dX2_giftsEnough_20 : decode cX2_giftsEnough 20 = .ok (.ifCond .eq 10, 3) := by decide +kernel
theorem dX2_giftsEnough_23 : decode cX2_giftsEnough 23 = .ok (.iload_n 3, 1) := by decide +kernel
theorem dX2_giftsEnough_24 : decode cX2_giftsEnough 24 = .ok (.iconst 1, 1) := by decide +kernel
theorem dX2_giftsEnough_25 : decode cX2_giftsEnough 25 = .ok (.iload 4, 2) := by decide +kernel
theorem dX2_giftsEnough_27 : decode cX2_giftsEnough 27 = .ok (.ishl, 1) := by decide +kernel
theorem dX2_giftsEnough_28 : decode cX2_giftsEnough 28 = .ok (.ior, 1) := by decide +kernel
theorem dX2_giftsEnough_29 : decode cX2_giftsEnough 29 = .ok (.istore_n 3, 1) := by decide +kernel
theorem dX2_giftsEnough_30 : decode cX2_giftsEnough 30 = .ok (.iinc 4 1, 3) := by decide +kernel
theorem dX2_giftsEnough_33 : decode cX2_giftsEnough 33 = .ok (.goto (-28), 3) := by decide +kernel
theorem dX2_giftsEnough_36 : decode cX2_giftsEnough 36 = .ok (.iload_n 3, 1) := by decide +kernel
theorem dX2_giftsEnough_37 : decode cX2_giftsEnough 37 = .ok (.ireturn, 1) := by decide +kernel
theorem dX2_fadingBehind_0 : decode cX2_fadingBehind 0 = .ok (.iload_n 1, 1) := by decide +kernel
theorem dX2_fadingBehind_1 : decode cX2_fadingBehind 1 = .ok (.iconst 2, 1) := by decide +kernel
theorem dX2_fadingBehind_2 : decode cX2_fadingBehind 2 = .ok (.irem, 1) := by decide +kernel
theorem dX2_fadingBehind_3 : decode cX2_fadingBehind 3 = .ok (.ifCond .ne 14, 3) := by decide +kernel
theorem dX2_fadingBehind_6 : decode cX2_fadingBehind 6 = .ok (.iload_n 0, 1) := by decide +kernel
theorem dX2_fadingBehind_7 : decode cX2_fadingBehind 7 = .ok (.iconst 1, 1) := by decide +kernel
theorem dX2_fadingBehind_8 : decode cX2_fadingBehind 8 = .ok (.if_icmp .le 9, 3) := by decide +kernel
theorem dX2_fadingBehind_11 : decode cX2_fadingBehind 11 = .ok (.iload_n 0, 1) := by decide +kernel
theorem dX2_fadingBehind_12 : decode cX2_fadingBehind 12 = .ok (.iconst 1, 1) := by decide +kernel
theorem dX2_fadingBehind_13 : decode cX2_fadingBehind 13 = .ok (.isub, 1) := by decide +kernel
theorem dX2_fadingBehind_14 : decode cX2_fadingBehind 14 = .ok (.goto 4, 3) := by decide +kernel
theorem dX2_fadingBehind_17 : decode cX2_fadingBehind 17 = .ok (.iload_n 0, 1) := by decide +kernel
theorem dX2_fadingBehind_18 : decode cX2_fadingBehind 18 = .ok (.ireturn, 1) := by decide +kernel
theorem dX2_plainLends_0 : decode cX2_plainLends 0 = .ok (.iload_n 0, 1) := by decide +kernel
theorem dX2_plainLends_1 : decode cX2_plainLends 1 = .ok (.iload_n 1, 1) := by decide +kernel
theorem dX2_plainLends_2 : decode cX2_plainLends 2 = .ok (.iadd, 1) := by decide +kernel
theorem dX2_plainLends_3 : decode cX2_plainLends 3 = .ok (.iconst 5, 1) := by decide +kernel
theorem dX2_plainLends_4 : decode cX2_plainLends 4 = .ok (.if_icmp .lt 7, 3) := by decide +kernel
theorem dX2_plainLends_7 : decode cX2_plainLends 7 = .ok (.iconst 1, 1) := by decide +kernel
theorem dX2_plainLends_8 : decode cX2_plainLends 8 = .ok (.goto 4, 3) := by decide +kernel
theorem dX2_plainLends_11 : decode cX2_plainLends 11 = .ok (.iconst 0, 1) := by decide +kernel
theorem dX2_plainLends_12 : decode cX2_plainLends 12 = .ok (.ireturn, 1) := by decide +kernel
set_option maxRecDepth 20000 in
theorem ggX3_init_X7_init : GoodIn wsX3_init wsX7_init := goodIn_r _ [21, 22, 2, 3, 23, 24, 25, 26, 27, 28, 36, 37] (by decide +kernel) (by decide +kernel)
set_option maxRecDepth 20000 in
theorem gX3_init_X7_init : GoodIn wsX3_init (wsX7_init) := ggX3_init_X7_init
set_option maxRecDepth 20000 in
theorem ggX3_init_X4_init : GoodIn wsX3_init wsX4_init := goodIn_r _ [30, 31, 2, 3, 32, 5, 6, 33, 34, 35, 20, 21, 22, 23, 24, 25, 26, 27, 28, 36, 37, 47, 48, 49, 50] (by decide +kernel) (by decide +kernel)
set_option maxRecDepth 20000 in
theorem gX3_init_X4_init_n43 : GoodIn wsX3_init (wsX4_init) := ggX3_init_X4_init
theorem dX3_init_0 : decode cX3_init 0 = .ok (.aload_n 0, 1) := by decide +kernel
theorem dX3_init_1 : decode cX3_init 1 = .ok (.invokespecial 3, 3) := by decide +kernel
theorem dX3_init_4 : decode cX3_init 4 = .ok (.aload_n 0, 1) := by decide +kernel
theorem dX3_init_5 : decode cX3_init 5 = .ok (.new 9, 3) := by decide +kernel
theorem dX3_init_8 : decode cX3_init 8 = .ok (.dup, 1) := by decide +kernel
theorem dX3_init_9 : decode cX3_init 9 = .ok (.bipush 7, 2) := by decide +kernel
theorem dX3_init_11 : decode cX3_init 11 = .ok (.invokespecial 11, 3) := by decide +kernel
theorem dX3_init_14 : decode cX3_init 14 = .ok (.putfield 14, 3) := by decide +kernel
theorem dX3_init_17 : decode cX3_init 17 = .ok (.aload_n 0, 1) := by decide +kernel
theorem dX3_init_18 : decode cX3_init 18 = .ok (.new 9, 3) := by decide +kernel
theorem dX3_init_21 : decode cX3_init 21 = .ok (.dup, 1) := by decide +kernel
theorem dX3_init_22 : decode cX3_init 22 = .ok (.bipush 7, 2) := by decide +kernel
theorem dX3_init_24 : decode cX3_init 24 = .ok (.invokespecial 11, 3) := by decide +kernel
theorem dX3_init_27 : decode cX3_init 27 = .ok (.putfield 20, 3) := by decide +kernel
theorem dX3_init_30 : decode cX3_init 30 = .ok (.aload_n 0, 1) := by decide +kernel
theorem dX3_init_31 : decode cX3_init 31 = .ok (.new 9, 3) := by decide +kernel
theorem dX3_init_34 : decode cX3_init 34 = .ok (.dup, 1) := by decide +kernel
theorem dX3_init_35 : decode cX3_init 35 = .ok (.bipush 7, 2) := by decide +kernel
theorem dX3_init_37 : decode cX3_init 37 = .ok (.invokespecial 11, 3) := by decide +kernel
theorem dX3_init_40 : decode cX3_init 40 = .ok (.putfield 23, 3) := by decide +kernel
theorem dX3_init_43 : decode cX3_init 43 = .ok (.aload_n 0, 1) := by decide +kernel
theorem dX3_init_44 : decode cX3_init 44 = .ok (.new 9, 3) := by decide +kernel
theorem dX3_init_47 : decode cX3_init 47 = .ok (.dup, 1) := by decide +kernel
theorem dX3_init_48 : decode cX3_init 48 = .ok (.iconst 4, 1) := by decide +kernel
theorem dX3_init_49 : decode cX3_init 49 = .ok (.invokespecial 11, 3) := by decide +kernel
theorem dX3_init_52 : decode cX3_init 52 = .ok (.putfield 26, 3) := by decide +kernel
theorem dX3_init_55 : decode cX3_init 55 = .ok (.aload_n 0, 1) := by decide +kernel
theorem dX3_init_56 : decode cX3_init 56 = .ok (.new 9, 3) := by decide +kernel
theorem dX3_init_59 : decode cX3_init 59 = .ok (.dup, 1) := by decide +kernel
theorem dX3_init_60 : decode cX3_init 60 = .ok (.bipush 18, 2) := by decide +kernel
theorem dX3_init_62 : decode cX3_init 62 = .ok (.invokespecial 11, 3) := by decide +kernel
theorem dX3_init_65 : decode cX3_init 65 = .ok (.putfield 29, 3) := by decide +kernel
theorem dX3_init_68 : decode cX3_init 68 = .ok (.aload_n 0, 1) := by decide +kernel
theorem dX3_init_69 : decode cX3_init 69 = .ok (.new 9, 3) := by decide +kernel
theorem dX3_init_72 : decode cX3_init 72 = .ok (.dup, 1) := by decide +kernel
theorem dX3_init_73 : decode cX3_init 73 = .ok (.bipush 24, 2) := by decide +kernel
theorem dX3_init_75 : decode cX3_init 75 = .ok (.invokespecial 11, 3) := by decide +kernel
theorem dX3_init_78 : decode cX3_init 78 = .ok (.putfield 32, 3) := by decide +kernel
theorem dX3_init_81 : decode cX3_init 81 = .ok (.aload_n 0, 1) := by decide +kernel
theorem dX3_init_82 : decode cX3_init 82 = .ok (.new 9, 3) := by decide +kernel
theorem dX3_init_85 : decode cX3_init 85 = .ok (.dup, 1) := by decide +kernel
theorem dX3_init_86 : decode cX3_init 86 = .ok (.bipush 24, 2) := by decide +kernel
theorem dX3_init_88 : decode cX3_init 88 = .ok (.invokespecial 11, 3) := by decide +kernel
theorem dX3_init_91 : decode cX3_init 91 = .ok (.putfield 35, 3) := by decide +kernel
theorem dX3_init_94 : decode cX3_init 94 = .ok (.aload_n 0, 1) := by decide +kernel
theorem dX3_init_95 : decode cX3_init 95 = .ok (.new 9, 3) := by decide +kernel
theorem dX3_init_98 : decode cX3_init 98 = .ok (.dup, 1) := by decide +kernel
theorem dX3_init_99 : decode cX3_init 99 = .ok (.sipush 128, 3) := by decide +kernel
theorem dX3_init_102 : decode cX3_init 102 = .ok (.invokespecial 11, 3) := by decide +kernel
theorem dX3_init_105 : decode cX3_init 105 = .ok (.putfield 40, 3) := by decide +kernel
theorem dX3_init_108 : decode cX3_init 108 = .ok (.aload_n 0, 1) := by decide +kernel
theorem dX3_init_109 : decode cX3_init 109 = .ok (.new 38, 3) := by decide +kernel
theorem dX3_init_112 : decode cX3_init 112 = .ok (.dup, 1) := by decide +kernel
theorem dX3_init_113 : decode cX3_init 113 = .ok (.invokespecial 43, 3) := by decide +kernel
theorem dX3_init_116 : decode cX3_init 116 = .ok (.putfield 44, 3) := by decide +kernel
theorem dX3_init_119 : decode cX3_init 119 = .ok (.return_, 1) := by decide +kernel
set_option maxRecDepth 20000 in
theorem ggX3_restart_X7_restart : GoodIn wsX3_restart wsX7_restart := goodIn_r _ [14, 15, 35, 36] (by decide +kernel) (by decide +kernel)
set_option maxRecDepth 20000 in
theorem gX3_restart_X7_restart : GoodIn wsX3_restart (wsV RX3 48 RX7 yX7_restart wsX7_restart) := goodIn_app (goodIn_of _ (by decide +kernel)) ggX3_restart_X7_restart
set_option maxRecDepth 20000 in
theorem ggX3_restart_X4_restart : GoodIn wsX3_restart wsX4_restart := goodIn_r _ [20, 21, 22, 23, 24, 25, 11, 12, 13, 14, 15, 37, 38, 39, 40, 35, 36] (by decide +kernel) (by decide +kernel)
set_option maxRecDepth 20000 in
theorem gX3_restart_X4_restart : GoodIn wsX3_restart (wsV RX3 51 RX4 yX4_restart wsX4_restart) := goodIn_app (goodIn_of _ (by decide +kernel)) ggX3_restart_X4_restart
theorem dX3_restart_0 : decode cX3_restart 0 = .ok (.aload_n 0, 1) := by decide +kernel
theorem dX3_restart_1 : decode cX3_restart 1 = .ok (.getfield 14, 3) := by decide +kernel
theorem dX3_restart_4 : decode cX3_restart 4 = .ok (.invokevirtual 48, 3) := by decide +kernel
theorem dX3_restart_7 : decode cX3_restart 7 = .ok (.aload_n 0, 1) := by decide +kernel
theorem dX3_restart_8 : decode cX3_restart 8 = .ok (.getfield 20, 3) := by decide +kernel
theorem dX3_restart_11 : decode cX3_restart 11 = .ok (.invokevirtual 48, 3) := by decide +kernel
theorem dX3_restart_14 : decode cX3_restart 14 = .ok (.aload_n 0, 1) := by decide +kernel
theorem dX3_restart_15 : decode cX3_restart 15 = .ok (.getfield 23, 3) := by decide +kernel
theorem dX3_restart_18 : decode cX3_restart 18 = .ok (.invokevirtual 48, 3) := by decide +kernel
theorem dX3_restart_21 : decode cX3_restart 21 = .ok (.aload_n 0, 1) := by decide +kernel
theorem dX3_restart_22 : decode cX3_restart 22 = .ok (.getfield 26, 3) := by decide +kernel
theorem dX3_restart_25 : decode cX3_restart 25 = .ok (.invokevirtual 48, 3) := by decide +kernel
theorem dX3_restart_28 : decode cX3_restart 28 = .ok (.aload_n 0, 1) := by decide +kernel
theorem dX3_restart_29 : decode cX3_restart 29 = .ok (.getfield 29, 3) := by decide +kernel
theorem dX3_restart_32 : decode cX3_restart 32 = .ok (.invokevirtual 48, 3) := by decide +kernel
theorem dX3_restart_35 : decode cX3_restart 35 = .ok (.aload_n 0, 1) := by decide +kernel
theorem dX3_restart_36 : decode cX3_restart 36 = .ok (.getfield 32, 3) := by decide +kernel
theorem dX3_restart_39 : decode cX3_restart 39 = .ok (.invokevirtual 48, 3) := by decide +kernel
theorem dX3_restart_42 : decode cX3_restart 42 = .ok (.aload_n 0, 1) := by decide +kernel
theorem dX3_restart_43 : decode cX3_restart 43 = .ok (.getfield 35, 3) := by decide +kernel
theorem dX3_restart_46 : decode cX3_restart 46 = .ok (.invokevirtual 48, 3) := by decide +kernel
theorem dX3_restart_49 : decode cX3_restart 49 = .ok (.aload_n 0, 1) := by decide +kernel
theorem dX3_restart_50 : decode cX3_restart 50 = .ok (.getfield 40, 3) := by decide +kernel
theorem dX3_restart_53 : decode cX3_restart 53 = .ok (.invokevirtual 48, 3) := by decide +kernel
theorem dX3_restart_56 : decode cX3_restart 56 = .ok (.aload_n 0, 1) := by decide +kernel
theorem dX3_restart_57 : decode cX3_restart 57 = .ok (.getfield 44, 3) := by decide +kernel
theorem dX3_restart_60 : decode cX3_restart 60 = .ok (.invokevirtual 51, 3) := by decide +kernel
theorem dX3_restart_63 : decode cX3_restart 63 = .ok (.return_, 1) := by decide +kernel
set_option maxRecDepth 20000 in
theorem ggX3_take_X7_take : GoodIn wsX3_take wsX7_take := goodIn_r _ [14, 15, 16, 17, 18, 13, 19, 20, 21, 22, 23, 24, 25, 26, 27, 28, 48, 49] (by decide +kernel) (by decide +kernel)
set_option maxRecDepth 20000 in
theorem gX3_take_X7_take : GoodIn wsX3_take (wsV RX3 52 RX7 yX7_take wsX7_take) := goodIn_app (goodIn_of _ (by decide +kernel)) ggX3_take_X7_take
set_option maxRecDepth 20000 in
theorem ggX3_take_X4_take : GoodIn wsX3_take wsX4_take := goodIn_r _ [33, 34, 35, 36, 37, 38, 11, 12, 13, 14, 15, 16, 17, 18, 19, 20, 21, 22, 23, 24, 25, 26, 27, 28, 50, 51, 52, 53, 48, 49] (by decide +kernel) (by decide +kernel)
set_option maxRecDepth 20000 in
theorem gX3_take_X4_take : GoodIn wsX3_take (wsV RX3 56 RX4 yX4_take wsX4_take) := goodIn_app (goodIn_of _ (by decide +kernel)) ggX3_take_X4_take
theorem dX3_take_0 : decode cX3_take 0 = .ok (.aload_n 0, 1) := by decide +kernel
theorem dX3_take_1 : decode cX3_take 1 = .ok (.getfield 14, 3) := by decide +kernel
theorem dX3_take_4 : decode cX3_take 4 = .ok (.aload_n 1, 1) := by decide +kernel
theorem dX3_take_5 : decode cX3_take 5 = .ok (.getfield 14, 3) := by decide +kernel
theorem dX3_take_8 : decode cX3_take 8 = .ok (.invokevirtual 52, 3) := by decide +kernel
theorem dX3_take_11 : decode cX3_take 11 = .ok (.aload_n 0, 1) := by decide +kernel
theorem dX3_take_12 : decode cX3_take 12 = .ok (.getfield 20, 3) := by decide +kernel
theorem dX3_take_15 : decode cX3_take 15 = .ok (.aload_n 1, 1) := by decide +kernel
theorem dX3_take_16 : decode cX3_take 16 = .ok (.getfield 20, 3) := by decide +kernel
theorem dX3_take_19 : decode cX3_take 19 = .ok (.invokevirtual 52, 3) := by decide +kernel
theorem dX3_take_22 : decode cX3_take 22 = .ok (.aload_n 0, 1) := by decide +kernel
theorem dX3_take_23 : decode cX3_take 23 = .ok (.getfield 23, 3) := by decide +kernel
theorem dX3_take_26 : decode cX3_take 26 = .ok (.aload_n 1, 1) := by decide +kernel
theorem dX3_take_27 : decode cX3_take 27 = .ok (.getfield 23, 3) := by decide +kernel
theorem dX3_take_30 : decode cX3_take 30 = .ok (.invokevirtual 52, 3) := by decide +kernel
theorem dX3_take_33 : decode cX3_take 33 = .ok (.aload_n 0, 1) := by decide +kernel
theorem dX3_take_34 : decode cX3_take 34 = .ok (.getfield 26, 3) := by decide +kernel
theorem dX3_take_37 : decode cX3_take 37 = .ok (.aload_n 1, 1) := by decide +kernel
theorem dX3_take_38 : decode cX3_take 38 = .ok (.getfield 26, 3) := by decide +kernel
theorem dX3_take_41 : decode cX3_take 41 = .ok (.invokevirtual 52, 3) := by decide +kernel
theorem dX3_take_44 : decode cX3_take 44 = .ok (.aload_n 0, 1) := by decide +kernel
theorem dX3_take_45 : decode cX3_take 45 = .ok (.getfield 29, 3) := by decide +kernel
theorem dX3_take_48 : decode cX3_take 48 = .ok (.aload_n 1, 1) := by decide +kernel
theorem dX3_take_49 : decode cX3_take 49 = .ok (.getfield 29, 3) := by decide +kernel
theorem dX3_take_52 : decode cX3_take 52 = .ok (.invokevirtual 52, 3) := by decide +kernel
theorem dX3_take_55 : decode cX3_take 55 = .ok (.aload_n 0, 1) := by decide +kernel
theorem dX3_take_56 : decode cX3_take 56 = .ok (.getfield 32, 3) := by decide +kernel
theorem dX3_take_59 : decode cX3_take 59 = .ok (.aload_n 1, 1) := by decide +kernel
theorem dX3_take_60 : decode cX3_take 60 = .ok (.getfield 32, 3) := by decide +kernel
theorem dX3_take_63 : decode cX3_take 63 = .ok (.invokevirtual 52, 3) := by decide +kernel
theorem dX3_take_66 : decode cX3_take 66 = .ok (.aload_n 0, 1) := by decide +kernel
theorem dX3_take_67 : decode cX3_take 67 = .ok (.getfield 35, 3) := by decide +kernel
theorem dX3_take_70 : decode cX3_take 70 = .ok (.aload_n 1, 1) := by decide +kernel
theorem dX3_take_71 : decode cX3_take 71 = .ok (.getfield 35, 3) := by decide +kernel
theorem dX3_take_74 : decode cX3_take 74 = .ok (.invokevirtual 52, 3) := by decide +kernel
theorem dX3_take_77 : decode cX3_take 77 = .ok (.aload_n 0, 1) := by decide +kernel
theorem dX3_take_78 : decode cX3_take 78 = .ok (.getfield 40, 3) := by decide +kernel
theorem dX3_take_81 : decode cX3_take 81 = .ok (.aload_n 1, 1) := by decide +kernel
theorem dX3_take_82 : decode cX3_take 82 = .ok (.getfield 40, 3) := by decide +kernel
theorem dX3_take_85 : decode cX3_take 85 = .ok (.invokevirtual 52, 3) := by decide +kernel
theorem dX3_take_88 : decode cX3_take 88 = .ok (.aload_n 0, 1) := by decide +kernel
theorem dX3_take_89 : decode cX3_take 89 = .ok (.getfield 44, 3) := by decide +kernel
theorem dX3_take_92 : decode cX3_take 92 = .ok (.aload_n 1, 1) := by decide +kernel
theorem dX3_take_93 : decode cX3_take 93 = .ok (.getfield 44, 3) := by decide +kernel
theorem dX3_take_96 : decode cX3_take 96 = .ok (.invokevirtual 56, 3) := by decide +kernel
theorem dX3_take_99 : decode cX3_take 99 = .ok (.return_, 1) := by decide +kernel
set_option maxRecDepth 20000 in
theorem ggX3_keeperCount_X7_size : GoodIn wsX3_keeperCount wsX7_size := goodIn_r _ [6, 7, 17, 18] (by decide +kernel) (by decide +kernel)
set_option maxRecDepth 20000 in
theorem gX3_keeperCount_X7_size : GoodIn wsX3_keeperCount (wsV RX3 59 RX7 yX7_size wsX7_size) := goodIn_app (goodIn_of _ (by decide +kernel)) ggX3_keeperCount_X7_size
theorem dX3_keeperCount_0 : decode cX3_keeperCount 0 = .ok (.aload_n 0, 1) := by decide +kernel
theorem dX3_keeperCount_1 : decode cX3_keeperCount 1 = .ok (.getfield 14, 3) := by decide +kernel
theorem dX3_keeperCount_4 : decode cX3_keeperCount 4 = .ok (.invokevirtual 59, 3) := by decide +kernel
theorem dX3_keeperCount_7 : decode cX3_keeperCount 7 = .ok (.ireturn, 1) := by decide +kernel
set_option maxRecDepth 20000 in
theorem ggX3_readingCount_X7_size : GoodIn wsX3_readingCount wsX7_size := goodIn_r _ [6, 7, 17, 18] (by decide +kernel) (by decide +kernel)
set_option maxRecDepth 20000 in
theorem gX3_readingCount_X7_size : GoodIn wsX3_readingCount (wsV RX3 59 RX7 yX7_size wsX7_size) := goodIn_app (goodIn_of _ (by decide +kernel)) ggX3_readingCount_X7_size
theorem dX3_readingCount_0 : decode cX3_readingCount 0 = .ok (.aload_n 0, 1) := by decide +kernel
theorem dX3_readingCount_1 : decode cX3_readingCount 1 = .ok (.getfield 29, 3) := by decide +kernel
theorem dX3_readingCount_4 : decode cX3_readingCount 4 = .ok (.invokevirtual 59, 3) := by decide +kernel
theorem dX3_readingCount_7 : decode cX3_readingCount 7 = .ok (.iconst 3, 1) := by decide +kernel
theorem dX3_readingCount_8 : decode cX3_readingCount 8 = .ok (.idiv, 1) := by decide +kernel
theorem dX3_readingCount_9 : decode cX3_readingCount 9 = .ok (.ireturn, 1) := by decide +kernel
set_option maxRecDepth 20000 in
theorem ggX3_noteCount_X7_size : GoodIn wsX3_noteCount wsX7_size := goodIn_r _ [6, 7, 17, 18] (by decide +kernel) (by decide +kernel)
set_option maxRecDepth 20000 in
theorem gX3_noteCount_X7_size : GoodIn wsX3_noteCount (wsV RX3 59 RX7 yX7_size wsX7_size) := goodIn_app (goodIn_of _ (by decide +kernel)) ggX3_noteCount_X7_size
theorem dX3_noteCount_0 : decode cX3_noteCount 0 = .ok (.aload_n 0, 1) := by decide +kernel
theorem dX3_noteCount_1 : decode cX3_noteCount 1 = .ok (.getfield 32, 3) := by decide +kernel
theorem dX3_noteCount_4 : decode cX3_noteCount 4 = .ok (.invokevirtual 59, 3) := by decide +kernel
theorem dX3_noteCount_7 : decode cX3_noteCount 7 = .ok (.iconst 4, 1) := by decide +kernel
theorem dX3_noteCount_8 : decode cX3_noteCount 8 = .ok (.idiv, 1) := by decide +kernel
theorem dX3_noteCount_9 : decode cX3_noteCount 9 = .ok (.ireturn, 1) := by decide +kernel
set_option maxRecDepth 20000 in
theorem ggX3_tippingCount_X7_size : GoodIn wsX3_tippingCount wsX7_size := goodIn_r _ [6, 7, 17, 18] (by decide +kernel) (by decide +kernel)
set_option maxRecDepth 20000 in
theorem gX3_tippingCount_X7_size : GoodIn wsX3_tippingCount (wsV RX3 59 RX7 yX7_size wsX7_size) := goodIn_app (goodIn_of _ (by decide +kernel)) ggX3_tippingCount_X7_size
theorem dX3_tippingCount_0 : decode cX3_tippingCount 0 = .ok (.aload_n 0, 1) := by decide +kernel
theorem dX3_tippingCount_1 : decode cX3_tippingCount 1 = .ok (.getfield 35, 3) := by decide +kernel
theorem dX3_tippingCount_4 : decode cX3_tippingCount 4 = .ok (.invokevirtual 59, 3) := by decide +kernel
theorem dX3_tippingCount_7 : decode cX3_tippingCount 7 = .ok (.iconst 4, 1) := by decide +kernel
theorem dX3_tippingCount_8 : decode cX3_tippingCount 8 = .ok (.idiv, 1) := by decide +kernel
theorem dX3_tippingCount_9 : decode cX3_tippingCount 9 = .ok (.ireturn, 1) := by decide +kernel
set_option maxRecDepth 20000 in
theorem ggX3_undoable_X7_size : GoodIn wsX3_undoable wsX7_size := goodIn_r _ [6, 7, 17, 18] (by decide +kernel) (by decide +kernel)
set_option maxRecDepth 20000 in
theorem gX3_undoable_X7_size : GoodIn wsX3_undoable (wsV RX3 59 RX7 yX7_size wsX7_size) := goodIn_app (goodIn_of _ (by decide +kernel)) ggX3_undoable_X7_size
theorem dX3_undoable_0 : decode cX3_undoable 0 = .ok (.aload_n 0, 1) := by decide +kernel
theorem dX3_undoable_1 : decode cX3_undoable 1 = .ok (.getfield 40, 3) := by decide +kernel
theorem dX3_undoable_4 : decode cX3_undoable 4 = .ok (.invokevirtual 59, 3) := by decide +kernel
theorem dX3_undoable_7 : decode cX3_undoable 7 = .ok (.bipush 16, 2) := by decide +kernel
theorem dX3_undoable_9 : decode cX3_undoable 9 = .ok (.idiv, 1) := by decide +kernel
theorem dX3_undoable_10 : decode cX3_undoable 10 = .ok (.ireturn, 1) := by decide +kernel
set_option maxRecDepth 20000 in
theorem ggX3_allStones_X3_keeperCount : GoodIn wsX3_allStones wsX3_keeperCount := goodIn_r _ [5, 6, 7, 8, 9, 10, 11, 12, 13, 14, 15, 16, 17, 18, 19, 20, 21, 22, 23] (by decide +kernel) (by decide +kernel)
set_option maxRecDepth 20000 in
theorem gX3_allStones_X3_keeperCount : GoodIn wsX3_allStones (wsV RX3 63 RX3 yX3_keeperCount wsX3_keeperCount) := goodIn_app (goodIn_of _ (by decide +kernel)) ggX3_allStones_X3_keeperCount
theorem dX3_allStones_0 : decode cX3_allStones 0 = .ok (.iconst 1, 1) := by decide +kernel
theorem dX3_allStones_1 : decode cX3_allStones 1 = .ok (.aload_n 0, 1) := by decide +kernel
theorem dX3_allStones_2 : decode cX3_allStones 2 = .ok (.invokevirtual 63, 3) := by decide +kernel
theorem dX3_allStones_5 : decode cX3_allStones 5 = .ok (.ishl, 1) := by decide +kernel
theorem dX3_allStones_6 : decode cX3_allStones 6 = .ok (.iconst 1, 1) := by decide +kernel
theorem dX3_allStones_7 : decode cX3_allStones 7 = .ok (.isub, 1) := by decide +kernel
theorem dX3_allStones_8 : decode cX3_allStones 8 = .ok (.ireturn, 1) := by decide +kernel
set_option maxRecDepth 20000 in
theorem ggX3_hasKeeper_X3_keeperCount : GoodIn wsX3_hasKeeper wsX3_keeperCount := goodIn_r _ [5, 6, 7, 8, 9, 10, 11, 12, 16, 17, 18, 19, 20, 21, 22, 23, 24, 25, 26] (by decide +kernel) (by decide +kernel)
set_option maxRecDepth 20000 in
theorem gX3_hasKeeper_X3_keeperCount : GoodIn wsX3_hasKeeper (wsV RX3 63 RX3 yX3_keeperCount wsX3_keeperCount) := goodIn_app (goodIn_of _ (by decide +kernel)) ggX3_hasKeeper_X3_keeperCount
set_option maxRecDepth 20000 in
theorem ggX3_hasKeeper_X11_between : GoodIn wsX3_hasKeeper wsX11_between := goodIn_r _ [15] (by decide +kernel) (by decide +kernel)
set_option maxRecDepth 20000 in
theorem gX3_hasKeeper_X11_between_n66 : GoodIn wsX3_hasKeeper (wsX11_between) := ggX3_hasKeeper_X11_between
theorem dX3_hasKeeper_0 : decode cX3_hasKeeper 0 = .ok (.iload_n 1, 1) := by decide +kernel
theorem dX3_hasKeeper_1 : decode cX3_hasKeeper 1 = .ok (.iconst 0, 1) := by decide +kernel
theorem dX3_hasKeeper_2 : decode cX3_hasKeeper 2 = .ok (.aload_n 0, 1) := by decide +kernel
theorem dX3_hasKeeper_3 : decode cX3_hasKeeper 3 = .ok (.invokevirtual 63, 3) := by decide +kernel
theorem dX3_hasKeeper_6 : decode cX3_hasKeeper 6 = .ok (.iconst 1, 1) := by decide +kernel
theorem dX3_hasKeeper_7 : decode cX3_hasKeeper 7 = .ok (.isub, 1) := by decide +kernel
theorem dX3_hasKeeper_8 : decode cX3_hasKeeper 8 = .ok (.invokestatic 66, 3) := by decide +kernel
theorem dX3_hasKeeper_11 : decode cX3_hasKeeper 11 = .ok (.ireturn, 1) := by decide +kernel
set_option maxRecDepth 20000 in
theorem ggX3_hasBalance_X7_size : GoodIn wsX3_hasBalance wsX7_size := goodIn_r _ [6, 7, 20, 21] (by decide +kernel) (by decide +kernel)
set_option maxRecDepth 20000 in
theorem gX3_hasBalance_X7_size : GoodIn wsX3_hasBalance (wsV RX3 59 RX7 yX7_size wsX7_size) := goodIn_app (goodIn_of _ (by decide +kernel)) ggX3_hasBalance_X7_size
set_option maxRecDepth 20000 in
theorem ggX3_hasBalance_X11_between : GoodIn wsX3_hasBalance wsX11_between := goodIn_r _ [10] (by decide +kernel) (by decide +kernel)
set_option maxRecDepth 20000 in
theorem gX3_hasBalance_X11_between_n66 : GoodIn wsX3_hasBalance (wsX11_between) := ggX3_hasBalance_X11_between
theorem dX3_hasBalance_0 : decode cX3_hasBalance 0 = .ok (.iload_n 1, 1) := by decide +kernel
theorem dX3_hasBalance_1 : decode cX3_hasBalance 1 = .ok (.iconst 0, 1) := by decide +kernel
theorem dX3_hasBalance_2 : decode cX3_hasBalance 2 = .ok (.aload_n 0, 1) := by decide +kernel
theorem dX3_hasBalance_3 : decode cX3_hasBalance 3 = .ok (.getfield 26, 3) := by decide +kernel
theorem dX3_hasBalance_6 : decode cX3_hasBalance 6 = .ok (.invokevirtual 59, 3) := by decide +kernel
theorem dX3_hasBalance_9 : decode cX3_hasBalance 9 = .ok (.iconst 1, 1) := by decide +kernel
theorem dX3_hasBalance_10 : decode cX3_hasBalance 10 = .ok (.isub, 1) := by decide +kernel
theorem dX3_hasBalance_11 : decode cX3_hasBalance 11 = .ok (.invokestatic 66, 3) := by decide +kernel
theorem dX3_hasBalance_14 : decode cX3_hasBalance 14 = .ok (.ireturn, 1) := by decide +kernel
set_option maxRecDepth 20000 in
theorem ggX3_hasStones_X3_allStones : GoodIn wsX3_hasStones wsX3_allStones := goodIn_r _ [5, 6, 7, 8, 4, 9, 10, 11, 12, 13, 14, 15, 16, 20, 21, 22, 23, 24, 25, 26, 27, 28, 29, 30] (by decide +kernel) (by decide +kernel)
set_option maxRecDepth 20000 in
theorem gX3_hasStones_X3_allStones : GoodIn wsX3_hasStones (wsV RX3 70 RX3 yX3_allStones wsX3_allStones) := goodIn_app (goodIn_of _ (by decide +kernel)) ggX3_hasStones_X3_allStones
set_option maxRecDepth 20000 in
theorem ggX3_hasStones_X11_between : GoodIn wsX3_hasStones wsX11_between := goodIn_r _ [19] (by decide +kernel) (by decide +kernel)
set_option maxRecDepth 20000 in
theorem gX3_hasStones_X11_between_n66 : GoodIn wsX3_hasStones (wsX11_between) := ggX3_hasStones_X11_between
theorem dX3_hasStones_0 : decode cX3_hasStones 0 = .ok (.iload_n 1, 1) := by decide +kernel
theorem dX3_hasStones_1 : decode cX3_hasStones 1 = .ok (.iconst 0, 1) := by decide +kernel
theorem dX3_hasStones_2 : decode cX3_hasStones 2 = .ok (.aload_n 0, 1) := by decide +kernel
theorem dX3_hasStones_3 : decode cX3_hasStones 3 = .ok (.invokevirtual 70, 3) := by decide +kernel
theorem dX3_hasStones_6 : decode cX3_hasStones 6 = .ok (.invokestatic 66, 3) := by decide +kernel
theorem dX3_hasStones_9 : decode cX3_hasStones 9 = .ok (.ireturn, 1) := by decide +kernel
set_option maxRecDepth 20000 in
theorem ggX3_canLay_X3_hasStones : GoodIn wsX3_canLay wsX3_hasStones := goodIn_r _ [5, 6, 7, 8, 4, 9, 10, 11, 12, 13, 14, 15, 16, 17, 18, 19, 20, 21, 22, 23, 24, 25, 26, 27, 28, 29, 30, 31, 32, 33, 34] (by decide +kernel) (by decide +kernel)
set_option maxRecDepth 20000 in
theorem gX3_canLay_X3_hasStones : GoodIn wsX3_canLay (wsV RX3 73 RX3 yX3_hasStones wsX3_hasStones) := goodIn_app (goodIn_of _ (by decide +kernel)) ggX3_canLay_X3_hasStones
theorem dX3_canLay_0 : decode cX3_canLay 0 = .ok (.aload_n 0, 1) := by decide +kernel
theorem dX3_canLay_1 : decode cX3_canLay 1 = .ok (.iload_n 1, 1) := by decide +kernel
theorem dX3_canLay_2 : decode cX3_canLay 2 = .ok (.invokevirtual 73, 3) := by decide +kernel
theorem dX3_canLay_5 : decode cX3_canLay 5 = .ok (.ifCond .eq 21, 3) := by decide +kernel
theorem dX3_canLay_8 : decode cX3_canLay 8 = .ok (.aload_n 0, 1) := by decide +kernel
theorem dX3_canLay_9 : decode cX3_canLay 9 = .ok (.iload_n 2, 1) := by decide +kernel
theorem dX3_canLay_10 : decode cX3_canLay 10 = .ok (.invokevirtual 73, 3) := by decide +kernel
theorem dX3_canLay_13 : decode cX3_canLay 13 = .ok (.ifCond .eq 13, 3) := by decide +kernel
theorem dX3_canLay_16 : decode cX3_canLay 16 = .ok (.iload_n 1, 1) := by decide +kernel
theorem dX3_canLay_17 : decode cX3_canLay 17 = .ok (.iload_n 2, 1) := by decide +kernel
theorem dX3_canLay_18 : decode cX3_canLay 18 = .ok (.iand, 1) := by decide +kernel
theorem dX3_canLay_19 : decode cX3_canLay 19 = .ok (.ifCond .ne 7, 3) := by decide +kernel
theorem dX3_canLay_22 : decode cX3_canLay 22 = .ok (.iconst 1, 1) := by decide +kernel
theorem dX3_canLay_23 : decode cX3_canLay 23 = .ok (.goto 4, 3) := by decide +kernel
theorem dX3_canLay_26 : decode cX3_canLay 26 = .ok (.iconst 0, 1) := by decide +kernel
theorem dX3_canLay_27 : decode cX3_canLay 27 = .ok (.ireturn, 1) := by decide +kernel
set_option maxRecDepth 20000 in
theorem ggX3_wouldLend_X7_at : GoodIn wsX3_wouldLend wsX7_at := goodIn_r _ [9, 10, 11, 32, 33] (by decide +kernel) (by decide +kernel)
set_option maxRecDepth 20000 in
theorem gX3_wouldLend_X7_at : GoodIn wsX3_wouldLend (wsV RX3 77 RX7 yX7_at wsX7_at) := goodIn_app (goodIn_of _ (by decide +kernel)) ggX3_wouldLend_X7_at
set_option maxRecDepth 20000 in
theorem ggX3_wouldLend_X2_lends : GoodIn wsX3_wouldLend wsX2_lends := goodIn_r _ [15, 16, 17, 14, 18] (by decide +kernel) (by decide +kernel)
set_option maxRecDepth 20000 in
theorem gX3_wouldLend_X2_lends : GoodIn wsX3_wouldLend (va_wsS RX3 88 yX2_lends wsX2_lends) := goodIn_app (goodIn_of _ (by decide +kernel)) ggX3_wouldLend_X2_lends
theorem dX3_wouldLend_0 : decode cX3_wouldLend 0 = .ok (.aload_n 0, 1) := by decide +kernel
theorem dX3_wouldLend_1 : decode cX3_wouldLend 1 = .ok (.getfield 14, 3) := by decide +kernel
theorem dX3_wouldLend_4 : decode cX3_wouldLend 4 = .ok (.iload_n 1, 1) := by decide +kernel
theorem dX3_wouldLend_5 : decode cX3_wouldLend 5 = .ok (.invokevirtual 77, 3) := by decide +kernel
theorem dX3_wouldLend_8 : decode cX3_wouldLend 8 = .ok (.aload_n 0, 1) := by decide +kernel
theorem dX3_wouldLend_9 : decode cX3_wouldLend 9 = .ok (.getfield 44, 3) := by decide +kernel
theorem dX3_wouldLend_12 : decode cX3_wouldLend 12 = .ok (.getfield 81, 3) := by decide +kernel
theorem dX3_wouldLend_15 : decode cX3_wouldLend 15 = .ok (.aload_n 0, 1) := by decide +kernel
theorem dX3_wouldLend_16 : decode cX3_wouldLend 16 = .ok (.getfield 44, 3) := by decide +kernel
theorem dX3_wouldLend_19 : decode cX3_wouldLend 19 = .ok (.getfield 85, 3) := by decide +kernel
theorem dX3_wouldLend_22 : decode cX3_wouldLend 22 = .ok (.iload_n 1, 1) := by decide +kernel
theorem dX3_wouldLend_23 : decode cX3_wouldLend 23 = .ok (.invokevirtual 77, 3) := by decide +kernel
theorem dX3_wouldLend_26 : decode cX3_wouldLend 26 = .ok (.iload_n 2, 1) := by decide +kernel
theorem dX3_wouldLend_27 : decode cX3_wouldLend 27 = .ok (.invokestatic 88, 3) := by decide +kernel
theorem dX3_wouldLend_30 : decode cX3_wouldLend 30 = .ok (.ireturn, 1) := by decide +kernel
set_option maxRecDepth 20000 in
theorem ggX3_addKeeper_X7_add : GoodIn wsX3_addKeeper wsX7_add := goodIn_r _ [11, 12, 13, 27, 28] (by decide +kernel) (by decide +kernel)
set_option maxRecDepth 20000 in
theorem gX3_addKeeper_X7_add : GoodIn wsX3_addKeeper (wsV RX3 94 RX7 yX7_add wsX7_add) := goodIn_app (goodIn_of _ (by decide +kernel)) ggX3_addKeeper_X7_add
theorem dX3_addKeeper_0 : decode cX3_addKeeper 0 = .ok (.aload_n 0, 1) := by decide +kernel
theorem dX3_addKeeper_1 : decode cX3_addKeeper 1 = .ok (.getfield 14, 3) := by decide +kernel
theorem dX3_addKeeper_4 : decode cX3_addKeeper 4 = .ok (.iload_n 1, 1) := by decide +kernel
theorem dX3_addKeeper_5 : decode cX3_addKeeper 5 = .ok (.invokevirtual 94, 3) := by decide +kernel
theorem dX3_addKeeper_8 : decode cX3_addKeeper 8 = .ok (.aload_n 0, 1) := by decide +kernel
theorem dX3_addKeeper_9 : decode cX3_addKeeper 9 = .ok (.getfield 20, 3) := by decide +kernel
theorem dX3_addKeeper_12 : decode cX3_addKeeper 12 = .ok (.iload_n 2, 1) := by decide +kernel
theorem dX3_addKeeper_13 : decode cX3_addKeeper 13 = .ok (.invokevirtual 94, 3) := by decide +kernel
theorem dX3_addKeeper_16 : decode cX3_addKeeper 16 = .ok (.aload_n 0, 1) := by decide +kernel
theorem dX3_addKeeper_17 : decode cX3_addKeeper 17 = .ok (.getfield 23, 3) := by decide +kernel
theorem dX3_addKeeper_20 : decode cX3_addKeeper 20 = .ok (.iload_n 3, 1) := by decide +kernel
theorem dX3_addKeeper_21 : decode cX3_addKeeper 21 = .ok (.invokevirtual 94, 3) := by decide +kernel
theorem dX3_addKeeper_24 : decode cX3_addKeeper 24 = .ok (.aload_n 0, 1) := by decide +kernel
theorem dX3_addKeeper_25 : decode cX3_addKeeper 25 = .ok (.getfield 44, 3) := by decide +kernel
theorem dX3_addKeeper_28 : decode cX3_addKeeper 28 = .ok (.getfield 97, 3) := by decide +kernel
theorem dX3_addKeeper_31 : decode cX3_addKeeper 31 = .ok (.iload_n 3, 1) := by decide +kernel
theorem dX3_addKeeper_32 : decode cX3_addKeeper 32 = .ok (.invokevirtual 94, 3) := by decide +kernel
theorem dX3_addKeeper_35 : decode cX3_addKeeper 35 = .ok (.aload_n 0, 1) := by decide +kernel
theorem dX3_addKeeper_36 : decode cX3_addKeeper 36 = .ok (.getfield 44, 3) := by decide +kernel
theorem dX3_addKeeper_39 : decode cX3_addKeeper 39 = .ok (.getfield 85, 3) := by decide +kernel
theorem dX3_addKeeper_42 : decode cX3_addKeeper 42 = .ok (.iconst 5, 1) := by decide +kernel
theorem dX3_addKeeper_43 : decode cX3_addKeeper 43 = .ok (.invokevirtual 94, 3) := by decide +kernel
theorem dX3_addKeeper_46 : decode cX3_addKeeper 46 = .ok (.return_, 1) := by decide +kernel
set_option maxRecDepth 20000 in
theorem ggX3_passDays_X4_passDay : GoodIn wsX3_passDays wsX4_passDay := goodIn_r _ [8, 9, 10, 11, 12, 13, 14, 15, 16, 17, 18, 19, 20, 21, 22, 23, 24, 25, 26, 27, 28, 29, 30, 31, 32, 33, 34, 35, 36, 37, 38, 39, 40, 41, 42, 52, 53, 54, 55, 56, 57] (by decide +kernel) (by decide +kernel)
set_option maxRecDepth 20000 in
theorem gX3_passDays_X4_passDay : GoodIn wsX3_passDays (wsV RX3 100 RX4 yX4_passDay wsX4_passDay) := goodIn_app (goodIn_of _ (by decide +kernel)) ggX3_passDays_X4_passDay
theorem dX3_passDays_0 : decode cX3_passDays 0 = .ok (.iconst 0, 1) := by decide +kernel
theorem dX3_passDays_1 : decode cX3_passDays 1 = .ok (.istore_n 2, 1) := by decide +kernel
theorem dX3_passDays_2 : decode cX3_passDays 2 = .ok (.iload_n 2, 1) := by decide +kernel
theorem dX3_passDays_3 : decode cX3_passDays 3 = .ok (.iload_n 1, 1) := by decide +kernel
theorem dX3_passDays_4 : decode cX3_passDays 4 = .ok (.if_icmp .ge 33, 3) := by decide +kernel
theorem dX3_passDays_7 : decode cX3_passDays 7 = .ok (.aload_n 0, 1) := by decide +kernel
theorem dX3_passDays_8 : decode cX3_passDays 8 = .ok (.getfield 44, 3) := by decide +kernel
theorem dX3_passDays_11 : decode cX3_passDays 11 = .ok (.getfield 81, 3) := by decide +kernel
theorem dX3_passDays_14 : decode cX3_passDays 14 = .ok (.sipush 9999, 3) := by decide +kernel
theorem dX3_passDays_17 : decode cX3_passDays 17 = .ok (.if_icmp .ge 20, 3) := by decide +kernel
theorem dX3_passDays_20 : decode cX3_passDays 20 = .ok (.aload_n 0, 1) := by decide +kernel
theorem dX3_passDays_21 : decode cX3_passDays 21 = .ok (.getfield 44, 3) := by decide +kernel
theorem dX3_passDays_24 : decode cX3_passDays 24 = .ok (.aload_n 0, 1) := by decide +kernel
theorem dX3_passDays_25 : decode cX3_passDays 25 = .ok (.getfield 14, 3) := by decide +kernel
theorem dX3_passDays_28 : decode cX3_passDays 28 = .ok (.invokevirtual 100, 3) := by decide +kernel
theorem dX3_passDays_31 : decode cX3_passDays 31 = .ok (.iinc 2 1, 3) := by decide +kernel
theorem dX3_passDays_34 : decode cX3_passDays 34 = .ok (.goto (-32), 3) := by decide +kernel
theorem dX3_passDays_37 : decode cX3_passDays 37 = .ok (.return_, 1) := by decide +kernel
set_option maxRecDepth 20000 in
theorem ggX3_remember_X7_isFull : GoodIn wsX3_remember wsX7_isFull := goodIn_r _ [7, 8, 9, 53, 54] (by decide +kernel) (by decide +kernel)
set_option maxRecDepth 20000 in
theorem gX3_remember_X7_isFull : GoodIn wsX3_remember (wsV RX3 103 RX7 yX7_isFull wsX7_isFull) := goodIn_app (goodIn_of _ (by decide +kernel)) ggX3_remember_X7_isFull
set_option maxRecDepth 20000 in
theorem ggX3_remember_X7_dropFirst : GoodIn wsX3_remember wsX7_dropFirst := goodIn_r _ [13, 14, 15, 16, 17, 8, 18, 19, 20, 6, 21, 9, 22, 23, 24, 25, 26, 27, 28, 29, 53, 54] (by decide +kernel) (by decide +kernel)
set_option maxRecDepth 20000 in
theorem gX3_remember_X7_dropFirst : GoodIn wsX3_remember (wsV RX3 107 RX7 yX7_dropFirst wsX7_dropFirst) := goodIn_app (goodIn_of _ (by decide +kernel)) ggX3_remember_X7_dropFirst
set_option maxRecDepth 20000 in
theorem ggX3_remember_X4_store : GoodIn wsX3_remember wsX4_store := goodIn_r _ [34, 35, 36, 37, 38, 39, 40, 41, 6, 42, 8, 9, 43, 19, 20, 21, 55, 56, 57, 58, 53, 54] (by decide +kernel) (by decide +kernel)
set_option maxRecDepth 20000 in
theorem gX3_remember_X4_store : GoodIn wsX3_remember (wsV RX3 110 RX4 yX4_store wsX4_store) := goodIn_app (goodIn_of _ (by decide +kernel)) ggX3_remember_X4_store
theorem dX3_remember_0 : decode cX3_remember 0 = .ok (.aload_n 0, 1) := by decide +kernel
theorem dX3_remember_1 : decode cX3_remember 1 = .ok (.getfield 40, 3) := by decide +kernel
theorem dX3_remember_4 : decode cX3_remember 4 = .ok (.invokevirtual 103, 3) := by decide +kernel
theorem dX3_remember_7 : decode cX3_remember 7 = .ok (.ifCond .eq 12, 3) := by decide +kernel
theorem dX3_remember_10 : decode cX3_remember 10 = .ok (.aload_n 0, 1) := by decide +kernel
theorem dX3_remember_11 : decode cX3_remember 11 = .ok (.getfield 40, 3) := by decide +kernel
theorem dX3_remember_14 : decode cX3_remember 14 = .ok (.bipush 16, 2) := by decide +kernel
theorem dX3_remember_16 : decode cX3_remember 16 = .ok (.invokevirtual 107, 3) := by decide +kernel
theorem dX3_remember_19 : decode cX3_remember 19 = .ok (.aload_n 0, 1) := by decide +kernel
theorem dX3_remember_20 : decode cX3_remember 20 = .ok (.getfield 44, 3) := by decide +kernel
theorem dX3_remember_23 : decode cX3_remember 23 = .ok (.aload_n 0, 1) := by decide +kernel
theorem dX3_remember_24 : decode cX3_remember 24 = .ok (.getfield 40, 3) := by decide +kernel
theorem dX3_remember_27 : decode cX3_remember 27 = .ok (.invokevirtual 110, 3) := by decide +kernel
theorem dX3_remember_30 : decode cX3_remember 30 = .ok (.return_, 1) := by decide +kernel
set_option maxRecDepth 20000 in
theorem ggX3_toldOf_X7_at : GoodIn wsX3_toldOf wsX7_at := goodIn_r _ [11, 12, 13, 36, 37] (by decide +kernel) (by decide +kernel)
set_option maxRecDepth 20000 in
theorem gX3_toldOf_X7_at : GoodIn wsX3_toldOf (wsV RX3 77 RX7 yX7_at wsX7_at) := goodIn_app (goodIn_of _ (by decide +kernel)) ggX3_toldOf_X7_at
set_option maxRecDepth 20000 in
theorem ggX3_toldOf_X4_isLent : GoodIn wsX3_toldOf wsX4_isLent := goodIn_r _ [18, 19, 20, 21, 22, 32, 33, 34, 35] (by decide +kernel) (by decide +kernel)
set_option maxRecDepth 20000 in
theorem gX3_toldOf_X4_isLent : GoodIn wsX3_toldOf (wsV RX3 113 RX4 yX4_isLent wsX4_isLent) := goodIn_app (goodIn_of _ (by decide +kernel)) ggX3_toldOf_X4_isLent
theorem dX3_toldOf_0 : decode cX3_toldOf 0 = .ok (.iload_n 2, 1) := by decide +kernel
theorem dX3_toldOf_1 : decode cX3_toldOf 1 = .ok (.tableswitch 86 0 4 #[35, 44, 53, 65, 74], 35) := by decide +kernel
theorem dX3_toldOf_36 : decode cX3_toldOf 36 = .ok (.aload_n 0, 1) := by decide +kernel
theorem dX3_toldOf_37 : decode cX3_toldOf 37 = .ok (.getfield 14, 3) := by decide +kernel
theorem dX3_toldOf_40 : decode cX3_toldOf 40 = .ok (.iload_n 1, 1) := by decide +kernel
theorem dX3_toldOf_41 : decode cX3_toldOf 41 = .ok (.invokevirtual 77, 3) := by decide +kernel
theorem dX3_toldOf_44 : decode cX3_toldOf 44 = .ok (.ireturn, 1) := by decide +kernel
theorem dX3_toldOf_45 : decode cX3_toldOf 45 = .ok (.aload_n 0, 1) := by decide +kernel
theorem dX3_toldOf_46 : decode cX3_toldOf 46 = .ok (.getfield 20, 3) := by decide +kernel
theorem dX3_toldOf_49 : decode cX3_toldOf 49 = .ok (.iload_n 1, 1) := by decide +kernel
theorem dX3_toldOf_50 : decode cX3_toldOf 50 = .ok (.invokevirtual 77, 3) := by decide +kernel
theorem dX3_toldOf_53 : decode cX3_toldOf 53 = .ok (.ireturn, 1) := by decide +kernel
theorem dX3_toldOf_54 : decode cX3_toldOf 54 = .ok (.aload_n 0, 1) := by decide +kernel
theorem dX3_toldOf_55 : decode cX3_toldOf 55 = .ok (.getfield 44, 3) := by decide +kernel
theorem dX3_toldOf_58 : decode cX3_toldOf 58 = .ok (.getfield 97, 3) := by decide +kernel
theorem dX3_toldOf_61 : decode cX3_toldOf 61 = .ok (.iload_n 1, 1) := by decide +kernel
theorem dX3_toldOf_62 : decode cX3_toldOf 62 = .ok (.invokevirtual 77, 3) := by decide +kernel
theorem dX3_toldOf_65 : decode cX3_toldOf 65 = .ok (.ireturn, 1) := by decide +kernel
theorem dX3_toldOf_66 : decode cX3_toldOf 66 = .ok (.aload_n 0, 1) := by decide +kernel
theorem dX3_toldOf_67 : decode cX3_toldOf 67 = .ok (.getfield 23, 3) := by decide +kernel
theorem dX3_toldOf_70 : decode cX3_toldOf 70 = .ok (.iload_n 1, 1) := by decide +kernel
theorem dX3_toldOf_71 : decode cX3_toldOf 71 = .ok (.invokevirtual 77, 3) := by decide +kernel
theorem dX3_toldOf_74 : decode cX3_toldOf 74 = .ok (.ireturn, 1) := by decide +kernel
theorem dX3_toldOf_75 : decode cX3_toldOf 75 = .ok (.aload_n 0, 1) := by decide +kernel
theorem dX3_toldOf_76 : decode cX3_toldOf 76 = .ok (.getfield 44, 3) := by decide +kernel
theorem dX3_toldOf_79 : decode cX3_toldOf 79 = .ok (.getfield 85, 3) := by decide +kernel
theorem dX3_toldOf_82 : decode cX3_toldOf 82 = .ok (.iload_n 1, 1) := by decide +kernel
theorem dX3_toldOf_83 : decode cX3_toldOf 83 = .ok (.invokevirtual 77, 3) := by decide +kernel
theorem dX3_toldOf_86 : decode cX3_toldOf 86 = .ok (.ireturn, 1) := by decide +kernel
theorem dX3_toldOf_87 : decode cX3_toldOf 87 = .ok (.aload_n 0, 1) := by decide +kernel
theorem dX3_toldOf_88 : decode cX3_toldOf 88 = .ok (.getfield 44, 3) := by decide +kernel
theorem dX3_toldOf_91 : decode cX3_toldOf 91 = .ok (.iload_n 1, 1) := by decide +kernel
theorem dX3_toldOf_92 : decode cX3_toldOf 92 = .ok (.invokevirtual 113, 3) := by decide +kernel
theorem dX3_toldOf_95 : decode cX3_toldOf 95 = .ok (.ifCond .eq 7, 3) := by decide +kernel
theorem dX3_toldOf_98 : decode cX3_toldOf 98 = .ok (.iconst 1, 1) := by decide +kernel
theorem dX3_toldOf_99 : decode cX3_toldOf 99 = .ok (.goto 4, 3) := by decide +kernel
theorem dX3_toldOf_102 : decode cX3_toldOf 102 = .ok (.iconst 0, 1) := by decide +kernel
theorem dX3_toldOf_103 : decode cX3_toldOf 103 = .ok (.ireturn, 1) := by decide +kernel
set_option maxRecDepth 20000 in
theorem ggX4_init_X7_init : GoodIn wsX4_init wsX7_init := goodIn_r _ [11, 12, 2, 3, 13, 14, 15, 16, 17, 18, 19, 20] (by decide +kernel) (by decide +kernel)
set_option maxRecDepth 20000 in
theorem gX4_init_X7_init : GoodIn wsX4_init (wsX7_init) := ggX4_init_X7_init
theorem dX4_init_0 : decode cX4_init 0 = .ok (.aload_n 0, 1) := by decide +kernel
theorem dX4_init_1 : decode cX4_init 1 = .ok (.invokespecial 3, 3) := by decide +kernel
theorem dX4_init_4 : decode cX4_init 4 = .ok (.aload_n 0, 1) := by decide +kernel
theorem dX4_init_5 : decode cX4_init 5 = .ok (.new 9, 3) := by decide +kernel
theorem dX4_init_8 : decode cX4_init 8 = .ok (.dup, 1) := by decide +kernel
theorem dX4_init_9 : decode cX4_init 9 = .ok (.bipush 7, 2) := by decide +kernel
theorem dX4_init_11 : decode cX4_init 11 = .ok (.invokespecial 11, 3) := by decide +kernel
theorem dX4_init_14 : decode cX4_init 14 = .ok (.putfield 14, 3) := by decide +kernel
theorem dX4_init_17 : decode cX4_init 17 = .ok (.aload_n 0, 1) := by decide +kernel
theorem dX4_init_18 : decode cX4_init 18 = .ok (.new 9, 3) := by decide +kernel
theorem dX4_init_21 : decode cX4_init 21 = .ok (.dup, 1) := by decide +kernel
theorem dX4_init_22 : decode cX4_init 22 = .ok (.bipush 7, 2) := by decide +kernel
theorem dX4_init_24 : decode cX4_init 24 = .ok (.invokespecial 11, 3) := by decide +kernel
theorem dX4_init_27 : decode cX4_init 27 = .ok (.putfield 20, 3) := by decide +kernel
theorem dX4_init_30 : decode cX4_init 30 = .ok (.return_, 1) := by decide +kernel
set_option maxRecDepth 20000 in
theorem ggX4_restart_X7_restart : GoodIn wsX4_restart wsX7_restart := goodIn_r _ [9, 10, 15, 16] (by decide +kernel) (by decide +kernel)
set_option maxRecDepth 20000 in
theorem gX4_restart_X7_restart : GoodIn wsX4_restart (wsV RX4 30 RX7 yX7_restart wsX7_restart) := goodIn_app (goodIn_of _ (by decide +kernel)) ggX4_restart_X7_restart
theorem dX4_restart_0 : decode cX4_restart 0 = .ok (.aload_n 0, 1) := by decide +kernel
theorem dX4_restart_1 : decode cX4_restart 1 = .ok (.iconst 0, 1) := by decide +kernel
theorem dX4_restart_2 : decode cX4_restart 2 = .ok (.putfield 23, 3) := by decide +kernel
theorem dX4_restart_5 : decode cX4_restart 5 = .ok (.aload_n 0, 1) := by decide +kernel
theorem dX4_restart_6 : decode cX4_restart 6 = .ok (.iconst 0, 1) := by decide +kernel
theorem dX4_restart_7 : decode cX4_restart 7 = .ok (.putfield 27, 3) := by decide +kernel
theorem dX4_restart_10 : decode cX4_restart 10 = .ok (.aload_n 0, 1) := by decide +kernel
theorem dX4_restart_11 : decode cX4_restart 11 = .ok (.getfield 14, 3) := by decide +kernel
theorem dX4_restart_14 : decode cX4_restart 14 = .ok (.invokevirtual 30, 3) := by decide +kernel
theorem dX4_restart_17 : decode cX4_restart 17 = .ok (.aload_n 0, 1) := by decide +kernel
theorem dX4_restart_18 : decode cX4_restart 18 = .ok (.getfield 20, 3) := by decide +kernel
theorem dX4_restart_21 : decode cX4_restart 21 = .ok (.invokevirtual 30, 3) := by decide +kernel
theorem dX4_restart_24 : decode cX4_restart 24 = .ok (.return_, 1) := by decide +kernel
set_option maxRecDepth 20000 in
theorem ggX4_take_X7_take : GoodIn wsX4_take wsX7_take := goodIn_r _ [9, 10, 11, 12, 13, 8, 14, 15, 16, 17, 18, 19, 20, 21, 22, 23, 28, 29] (by decide +kernel) (by decide +kernel)
set_option maxRecDepth 20000 in
theorem gX4_take_X7_take : GoodIn wsX4_take (wsV RX4 33 RX7 yX7_take wsX7_take) := goodIn_app (goodIn_of _ (by decide +kernel)) ggX4_take_X7_take
theorem dX4_take_0 : decode cX4_take 0 = .ok (.aload_n 0, 1) := by decide +kernel
theorem dX4_take_1 : decode cX4_take 1 = .ok (.aload_n 1, 1) := by decide +kernel
theorem dX4_take_2 : decode cX4_take 2 = .ok (.getfield 23, 3) := by decide +kernel
theorem dX4_take_5 : decode cX4_take 5 = .ok (.putfield 23, 3) := by decide +kernel
theorem dX4_take_8 : decode cX4_take 8 = .ok (.aload_n 0, 1) := by decide +kernel
theorem dX4_take_9 : decode cX4_take 9 = .ok (.aload_n 1, 1) := by decide +kernel
theorem dX4_take_10 : decode cX4_take 10 = .ok (.getfield 27, 3) := by decide +kernel
theorem dX4_take_13 : decode cX4_take 13 = .ok (.putfield 27, 3) := by decide +kernel
theorem dX4_take_16 : decode cX4_take 16 = .ok (.aload_n 0, 1) := by decide +kernel
theorem dX4_take_17 : decode cX4_take 17 = .ok (.getfield 14, 3) := by decide +kernel
theorem dX4_take_20 : decode cX4_take 20 = .ok (.aload_n 1, 1) := by decide +kernel
theorem dX4_take_21 : decode cX4_take 21 = .ok (.getfield 14, 3) := by decide +kernel
theorem dX4_take_24 : decode cX4_take 24 = .ok (.invokevirtual 33, 3) := by decide +kernel
theorem dX4_take_27 : decode cX4_take 27 = .ok (.aload_n 0, 1) := by decide +kernel
theorem dX4_take_28 : decode cX4_take 28 = .ok (.getfield 20, 3) := by decide +kernel
theorem dX4_take_31 : decode cX4_take 31 = .ok (.aload_n 1, 1) := by decide +kernel
theorem dX4_take_32 : decode cX4_take 32 = .ok (.getfield 20, 3) := by decide +kernel
theorem dX4_take_35 : decode cX4_take 35 = .ok (.invokevirtual 33, 3) := by decide +kernel
theorem dX4_take_38 : decode cX4_take 38 = .ok (.return_, 1) := by decide +kernel
set_option maxRecDepth 20000 in
theorem ggX4_isLent_X11_hasBit : GoodIn wsX4_isLent wsX11_hasBit := goodIn_r _ [4] (by decide +kernel) (by decide +kernel)
set_option maxRecDepth 20000 in
theorem gX4_isLent_X11_hasBit_n37 : GoodIn wsX4_isLent (wsX11_hasBit) := ggX4_isLent_X11_hasBit
theorem dX4_isLent_0 : decode cX4_isLent 0 = .ok (.aload_n 0, 1) := by decide +kernel
theorem dX4_isLent_1 : decode cX4_isLent 1 = .ok (.getfield 27, 3) := by decide +kernel
theorem dX4_isLent_4 : decode cX4_isLent 4 = .ok (.iload_n 1, 1) := by decide +kernel
theorem dX4_isLent_5 : decode cX4_isLent 5 = .ok (.invokestatic 37, 3) := by decide +kernel
theorem dX4_isLent_8 : decode cX4_isLent 8 = .ok (.ireturn, 1) := by decide +kernel
set_option maxRecDepth 20000 in
theorem ggX4_bringGift_X7_at : GoodIn wsX4_bringGift wsX7_at := goodIn_r _ [15, 16, 17, 33, 34] (by decide +kernel) (by decide +kernel)
set_option maxRecDepth 20000 in
theorem gX4_bringGift_X7_at : GoodIn wsX4_bringGift (wsV RX4 41 RX7 yX7_at wsX7_at) := goodIn_app (goodIn_of _ (by decide +kernel)) ggX4_bringGift_X7_at
set_option maxRecDepth 20000 in
theorem ggX4_bringGift_X2_lends : GoodIn wsX4_bringGift wsX2_lends := goodIn_r _ [21, 22, 23, 20, 24] (by decide +kernel) (by decide +kernel)
set_option maxRecDepth 20000 in
theorem gX4_bringGift_X2_lends : GoodIn wsX4_bringGift (va_wsS RX4 45 yX2_lends wsX2_lends) := goodIn_app (goodIn_of _ (by decide +kernel)) ggX4_bringGift_X2_lends
set_option maxRecDepth 20000 in
theorem ggX4_bringGift_X7_put : GoodIn wsX4_bringGift wsX7_put := goodIn_r _ [28, 16, 17, 33, 34] (by decide +kernel) (by decide +kernel)
set_option maxRecDepth 20000 in
theorem gX4_bringGift_X7_put : GoodIn wsX4_bringGift (wsV RX4 60 RX7 yX7_put wsX7_put) := goodIn_app (goodIn_of _ (by decide +kernel)) ggX4_bringGift_X7_put
theorem dX4_bringGift_0 : decode cX4_bringGift 0 = .ok (.aload_n 0, 1) := by decide +kernel
theorem dX4_bringGift_1 : decode cX4_bringGift 1 = .ok (.getfield 20, 3) := by decide +kernel
theorem dX4_bringGift_4 : decode cX4_bringGift 4 = .ok (.iload_n 1, 1) := by decide +kernel
theorem dX4_bringGift_5 : decode cX4_bringGift 5 = .ok (.invokevirtual 41, 3) := by decide +kernel
theorem dX4_bringGift_8 : decode cX4_bringGift 8 = .ok (.istore 4, 2) := by decide +kernel
theorem dX4_bringGift_10 : decode cX4_bringGift 10 = .ok (.iload_n 2, 1) := by decide +kernel
theorem dX4_bringGift_11 : decode cX4_bringGift 11 = .ok (.aload_n 0, 1) := by decide +kernel
theorem dX4_bringGift_12 : decode cX4_bringGift 12 = .ok (.getfield 23, 3) := by decide +kernel
theorem dX4_bringGift_15 : decode cX4_bringGift 15 = .ok (.iload 4, 2) := by decide +kernel
theorem dX4_bringGift_17 : decode cX4_bringGift 17 = .ok (.iload_n 3, 1) := by decide +kernel
theorem dX4_bringGift_18 : decode cX4_bringGift 18 = .ok (.invokestatic 45, 3) := by decide +kernel
theorem dX4_bringGift_21 : decode cX4_bringGift 21 = .ok (.istore 5, 2) := by decide +kernel
theorem dX4_bringGift_23 : decode cX4_bringGift 23 = .ok (.iload 5, 2) := by decide +kernel
theorem dX4_bringGift_25 : decode cX4_bringGift 25 = .ok (.ifCond .eq 15, 3) := by decide +kernel
theorem dX4_bringGift_28 : decode cX4_bringGift 28 = .ok (.aload_n 0, 1) := by decide +kernel
theorem dX4_bringGift_29 : decode cX4_bringGift 29 = .ok (.dup, 1) := by decide +kernel
theorem dX4_bringGift_30 : decode cX4_bringGift 30 = .ok (.getfield 27, 3) := by decide +kernel
theorem dX4_bringGift_33 : decode cX4_bringGift 33 = .ok (.iconst 1, 1) := by decide +kernel
theorem dX4_bringGift_34 : decode cX4_bringGift 34 = .ok (.iload_n 1, 1) := by decide +kernel
theorem dX4_bringGift_35 : decode cX4_bringGift 35 = .ok (.ishl, 1) := by decide +kernel
theorem dX4_bringGift_36 : decode cX4_bringGift 36 = .ok (.ior, 1) := by decide +kernel
theorem dX4_bringGift_37 : decode cX4_bringGift 37 = .ok (.putfield 27, 3) := by decide +kernel
theorem dX4_bringGift_40 : decode cX4_bringGift 40 = .ok (.aload_n 0, 1) := by decide +kernel
theorem dX4_bringGift_41 : decode cX4_bringGift 41 = .ok (.getfield 20, 3) := by decide +kernel
theorem dX4_bringGift_44 : decode cX4_bringGift 44 = .ok (.iload_n 1, 1) := by decide +kernel
theorem dX4_bringGift_45 : decode cX4_bringGift 45 = .ok (.iload 5, 2) := by decide +kernel
theorem dX4_bringGift_47 : decode cX4_bringGift 47 = .ok (.ifCond .eq 17, 3) := by decide +kernel
theorem dX4_bringGift_50 : decode cX4_bringGift 50 = .ok (.iload 4, 2) := by decide +kernel
theorem dX4_bringGift_52 : decode cX4_bringGift 52 = .ok (.iload_n 3, 1) := by decide +kernel
theorem dX4_bringGift_53 : decode cX4_bringGift 53 = .ok (.iconst 3, 1) := by decide +kernel
theorem dX4_bringGift_54 : decode cX4_bringGift 54 = .ok (.idiv, 1) := by decide +kernel
theorem dX4_bringGift_55 : decode cX4_bringGift 55 = .ok (.iadd, 1) := by decide +kernel
theorem dX4_bringGift_56 : decode cX4_bringGift 56 = .ok (.bipush 9, 2) := by decide +kernel
theorem dX4_bringGift_58 : decode cX4_bringGift 58 = .ok (.invokestatic 51, 3) := by decide +kernel
theorem dX4_bringGift_61 : decode cX4_bringGift 61 = .ok (.goto 11, 3) := by decide +kernel
theorem dX4_bringGift_64 : decode cX4_bringGift 64 = .ok (.iload 4, 2) := by decide +kernel
theorem dX4_bringGift_66 : decode cX4_bringGift 66 = .ok (.iconst 1, 1) := by decide +kernel
theorem dX4_bringGift_67 : decode cX4_bringGift 67 = .ok (.isub, 1) := by decide +kernel
theorem dX4_bringGift_68 : decode cX4_bringGift 68 = .ok (.iconst 0, 1) := by decide +kernel
theorem dX4_bringGift_69 : decode cX4_bringGift 69 = .ok (.invokestatic 57, 3) := by decide +kernel
theorem dX4_bringGift_72 : decode cX4_bringGift 72 = .ok (.invokevirtual 60, 3) := by decide +kernel
theorem dX4_bringGift_75 : decode cX4_bringGift 75 = .ok (.iload 5, 2) := by decide +kernel
theorem dX4_bringGift_77 : decode cX4_bringGift 77 = .ok (.ireturn, 1) := by decide +kernel
set_option maxRecDepth 20000 in
theorem ggX4_passDay_X7_size : GoodIn wsX4_passDay wsX7_size := goodIn_r _ [9, 10, 39, 40] (by decide +kernel) (by decide +kernel)
set_option maxRecDepth 20000 in
theorem gX4_passDay_X7_size : GoodIn wsX4_passDay (wsV RX4 64 RX7 yX7_size wsX7_size) := goodIn_app (goodIn_of _ (by decide +kernel)) ggX4_passDay_X7_size
set_option maxRecDepth 20000 in
theorem ggX4_passDay_X7_at : GoodIn wsX4_passDay wsX7_at := goodIn_r _ [14, 10, 15, 39, 40] (by decide +kernel) (by decide +kernel)
set_option maxRecDepth 20000 in
theorem gX4_passDay_X7_at : GoodIn wsX4_passDay (wsV RX4 41 RX7 yX7_at wsX7_at) := goodIn_app (goodIn_of _ (by decide +kernel)) ggX4_passDay_X7_at
set_option maxRecDepth 20000 in
theorem ggX4_passDay_X2_behind : GoodIn wsX4_passDay wsX2_behind := goodIn_r _ [19, 20, 21, 22, 23, 24, 25, 18, 26] (by decide +kernel) (by decide +kernel)
set_option maxRecDepth 20000 in
theorem gX4_passDay_X2_behind : GoodIn wsX4_passDay (va_wsS RX4 68 yX2_behind wsX2_behind) := goodIn_app (goodIn_of _ (by decide +kernel)) ggX4_passDay_X2_behind
set_option maxRecDepth 20000 in
theorem ggX4_passDay_X7_put : GoodIn wsX4_passDay wsX7_put := goodIn_r _ [30, 10, 15, 39, 40] (by decide +kernel) (by decide +kernel)
set_option maxRecDepth 20000 in
theorem gX4_passDay_X7_put : GoodIn wsX4_passDay (wsV RX4 60 RX7 yX7_put wsX7_put) := goodIn_app (goodIn_of _ (by decide +kernel)) ggX4_passDay_X7_put
set_option maxRecDepth 20000 in
theorem ggX4_passDay_J6_compare_7cf53 : GoodIn wsX4_passDay wsJ6_compare_7cf53 := goodIn_r _ [34] (by decide +kernel) (by decide +kernel)
set_option maxRecDepth 20000 in
theorem gX4_passDay_J6_compare_7cf53 : GoodIn wsX4_passDay (va_wsS RX4 72 yJ6_compare_7cf53 wsJ6_compare_7cf53) := goodIn_app (goodIn_of _ (by decide +kernel)) ggX4_passDay_J6_compare_7cf53
theorem dX4_passDay_0 : decode cX4_passDay 0 = .ok (.iconst 0, 1) := by decide +kernel
theorem dX4_passDay_1 : decode cX4_passDay 1 = .ok (.istore_n 2, 1) := by decide +kernel
theorem dX4_passDay_2 : decode cX4_passDay 2 = .ok (.iload_n 2, 1) := by decide +kernel
theorem dX4_passDay_3 : decode cX4_passDay 3 = .ok (.aload_n 0, 1) := by decide +kernel
theorem dX4_passDay_4 : decode cX4_passDay 4 = .ok (.getfield 14, 3) := by decide +kernel
theorem dX4_passDay_7 : decode cX4_passDay 7 = .ok (.invokevirtual 64, 3) := by decide +kernel
theorem dX4_passDay_10 : decode cX4_passDay 10 = .ok (.if_icmp .ge 66, 3) := by decide +kernel
theorem dX4_passDay_13 : decode cX4_passDay 13 = .ok (.aload_n 0, 1) := by decide +kernel
theorem dX4_passDay_14 : decode cX4_passDay 14 = .ok (.getfield 14, 3) := by decide +kernel
theorem dX4_passDay_17 : decode cX4_passDay 17 = .ok (.iload_n 2, 1) := by decide +kernel
theorem dX4_passDay_18 : decode cX4_passDay 18 = .ok (.aload_n 1, 1) := by decide +kernel
theorem dX4_passDay_19 : decode cX4_passDay 19 = .ok (.iload_n 2, 1) := by decide +kernel
theorem dX4_passDay_20 : decode cX4_passDay 20 = .ok (.invokevirtual 41, 3) := by decide +kernel
theorem dX4_passDay_23 : decode cX4_passDay 23 = .ok (.aload_n 0, 1) := by decide +kernel
theorem dX4_passDay_24 : decode cX4_passDay 24 = .ok (.getfield 14, 3) := by decide +kernel
theorem dX4_passDay_27 : decode cX4_passDay 27 = .ok (.iload_n 2, 1) := by decide +kernel
theorem dX4_passDay_28 : decode cX4_passDay 28 = .ok (.invokevirtual 41, 3) := by decide +kernel
theorem dX4_passDay_31 : decode cX4_passDay 31 = .ok (.aload_n 0, 1) := by decide +kernel
theorem dX4_passDay_32 : decode cX4_passDay 32 = .ok (.getfield 23, 3) := by decide +kernel
theorem dX4_passDay_35 : decode cX4_passDay 35 = .ok (.invokestatic 68, 3) := by decide +kernel
theorem dX4_passDay_38 : decode cX4_passDay 38 = .ok (.invokevirtual 60, 3) := by decide +kernel
theorem dX4_passDay_41 : decode cX4_passDay 41 = .ok (.aload_n 0, 1) := by decide +kernel
theorem dX4_passDay_42 : decode cX4_passDay 42 = .ok (.getfield 20, 3) := by decide +kernel
theorem dX4_passDay_45 : decode cX4_passDay 45 = .ok (.iload_n 2, 1) := by decide +kernel
theorem dX4_passDay_46 : decode cX4_passDay 46 = .ok (.aload_n 0, 1) := by decide +kernel
theorem dX4_passDay_47 : decode cX4_passDay 47 = .ok (.getfield 20, 3) := by decide +kernel
theorem dX4_passDay_50 : decode cX4_passDay 50 = .ok (.iload_n 2, 1) := by decide +kernel
theorem dX4_passDay_51 : decode cX4_passDay 51 = .ok (.invokevirtual 41, 3) := by decide +kernel
theorem dX4_passDay_54 : decode cX4_passDay 54 = .ok (.iconst 5, 1) := by decide +kernel
theorem dX4_passDay_55 : decode cX4_passDay 55 = .ok (.aload_n 0, 1) := by decide +kernel
theorem dX4_passDay_56 : decode cX4_passDay 56 = .ok (.getfield 20, 3) := by decide +kernel
theorem dX4_passDay_59 : decode cX4_passDay 59 = .ok (.iload_n 2, 1) := by decide +kernel
theorem dX4_passDay_60 : decode cX4_passDay 60 = .ok (.invokevirtual 41, 3) := by decide +kernel
theorem dX4_passDay_63 : decode cX4_passDay 63 = .ok (.invokestatic 72, 3) := by decide +kernel
theorem dX4_passDay_66 : decode cX4_passDay 66 = .ok (.iadd, 1) := by decide +kernel
theorem dX4_passDay_67 : decode cX4_passDay 67 = .ok (.invokevirtual 60, 3) := by decide +kernel
theorem dX4_passDay_70 : decode cX4_passDay 70 = .ok (.iinc 2 1, 3) := by decide +kernel
theorem dX4_passDay_73 : decode cX4_passDay 73 = .ok (.goto (-71), 3) := by decide +kernel
theorem dX4_passDay_76 : decode cX4_passDay 76 = .ok (.aload_n 0, 1) := by decide +kernel
theorem dX4_passDay_77 : decode cX4_passDay 77 = .ok (.iconst 0, 1) := by decide +kernel
theorem dX4_passDay_78 : decode cX4_passDay 78 = .ok (.putfield 27, 3) := by decide +kernel
theorem dX4_passDay_81 : decode cX4_passDay 81 = .ok (.aload_n 0, 1) := by decide +kernel
theorem dX4_passDay_82 : decode cX4_passDay 82 = .ok (.dup, 1) := by decide +kernel
theorem dX4_passDay_83 : decode cX4_passDay 83 = .ok (.getfield 23, 3) := by decide +kernel
theorem dX4_passDay_86 : decode cX4_passDay 86 = .ok (.iconst 1, 1) := by decide +kernel
theorem dX4_passDay_87 : decode cX4_passDay 87 = .ok (.iadd, 1) := by decide +kernel
theorem dX4_passDay_88 : decode cX4_passDay 88 = .ok (.putfield 23, 3) := by decide +kernel
theorem dX4_passDay_91 : decode cX4_passDay 91 = .ok (.return_, 1) := by decide +kernel
set_option maxRecDepth 20000 in
theorem ggX4_store_X7_add : GoodIn wsX4_store wsX7_add := goodIn_r _ [9, 10, 11, 20, 21] (by decide +kernel) (by decide +kernel)
set_option maxRecDepth 20000 in
theorem gX4_store_X7_add : GoodIn wsX4_store (wsV RX4 77 RX7 yX7_add wsX7_add) := goodIn_app (goodIn_of _ (by decide +kernel)) ggX4_store_X7_add
set_option maxRecDepth 20000 in
theorem ggX4_store_X7_at : GoodIn wsX4_store wsX7_at := goodIn_r _ [15, 10, 11, 20, 21] (by decide +kernel) (by decide +kernel)
set_option maxRecDepth 20000 in
theorem gX4_store_X7_at : GoodIn wsX4_store (wsV RX4 41 RX7 yX7_at wsX7_at) := goodIn_app (goodIn_of _ (by decide +kernel)) ggX4_store_X7_at
theorem dX4_store_0 : decode cX4_store 0 = .ok (.aload_n 1, 1) := by decide +kernel
theorem dX4_store_1 : decode cX4_store 1 = .ok (.aload_n 0, 1) := by decide +kernel
theorem dX4_store_2 : decode cX4_store 2 = .ok (.getfield 23, 3) := by decide +kernel
theorem dX4_store_5 : decode cX4_store 5 = .ok (.invokevirtual 77, 3) := by decide +kernel
theorem dX4_store_8 : decode cX4_store 8 = .ok (.aload_n 1, 1) := by decide +kernel
theorem dX4_store_9 : decode cX4_store 9 = .ok (.aload_n 0, 1) := by decide +kernel
theorem dX4_store_10 : decode cX4_store 10 = .ok (.getfield 27, 3) := by decide +kernel
theorem dX4_store_13 : decode cX4_store 13 = .ok (.invokevirtual 77, 3) := by decide +kernel
theorem dX4_store_16 : decode cX4_store 16 = .ok (.iconst 0, 1) := by decide +kernel
theorem dX4_store_17 : decode cX4_store 17 = .ok (.istore_n 2, 1) := by decide +kernel
theorem dX4_store_18 : decode cX4_store 18 = .ok (.iload_n 2, 1) := by decide +kernel
theorem dX4_store_19 : decode cX4_store 19 = .ok (.bipush 7, 2) := by decide +kernel
theorem dX4_store_21 : decode cX4_store 21 = .ok (.if_icmp .ge 33, 3) := by decide +kernel
theorem dX4_store_24 : decode cX4_store 24 = .ok (.aload_n 1, 1) := by decide +kernel
theorem dX4_store_25 : decode cX4_store 25 = .ok (.aload_n 0, 1) := by decide +kernel
theorem dX4_store_26 : decode cX4_store 26 = .ok (.getfield 14, 3) := by decide +kernel
theorem dX4_store_29 : decode cX4_store 29 = .ok (.iload_n 2, 1) := by decide +kernel
theorem dX4_store_30 : decode cX4_store 30 = .ok (.invokevirtual 41, 3) := by decide +kernel
theorem dX4_store_33 : decode cX4_store 33 = .ok (.invokevirtual 77, 3) := by decide +kernel
theorem dX4_store_36 : decode cX4_store 36 = .ok (.aload_n 1, 1) := by decide +kernel
theorem dX4_store_37 : decode cX4_store 37 = .ok (.aload_n 0, 1) := by decide +kernel
theorem dX4_store_38 : decode cX4_store 38 = .ok (.getfield 20, 3) := by decide +kernel
theorem dX4_store_41 : decode cX4_store 41 = .ok (.iload_n 2, 1) := by decide +kernel
theorem dX4_store_42 : decode cX4_store 42 = .ok (.invokevirtual 41, 3) := by decide +kernel
theorem dX4_store_45 : decode cX4_store 45 = .ok (.invokevirtual 77, 3) := by decide +kernel
theorem dX4_store_48 : decode cX4_store 48 = .ok (.iinc 2 1, 3) := by decide +kernel
theorem dX4_store_51 : decode cX4_store 51 = .ok (.goto (-33), 3) := by decide +kernel
theorem dX4_store_54 : decode cX4_store 54 = .ok (.return_, 1) := by decide +kernel
set_option maxRecDepth 20000 in
theorem ggX4_restore_X7_size : GoodIn wsX4_restore wsX7_size := goodIn_r _ [9, 10, 32, 33] (by decide +kernel) (by decide +kernel)
set_option maxRecDepth 20000 in
theorem gX4_restore_X7_size : GoodIn wsX4_restore (wsV RX4 64 RX7 yX7_size wsX7_size) := goodIn_app (goodIn_of _ (by decide +kernel)) ggX4_restore_X7_size
set_option maxRecDepth 20000 in
theorem ggX4_restore_X7_at : GoodIn wsX4_restore wsX7_at := goodIn_r _ [14, 10, 15, 32, 33] (by decide +kernel) (by decide +kernel)
set_option maxRecDepth 20000 in
theorem gX4_restore_X7_at : GoodIn wsX4_restore (wsV RX4 41 RX7 yX7_at wsX7_at) := goodIn_app (goodIn_of _ (by decide +kernel)) ggX4_restore_X7_at
set_option maxRecDepth 20000 in
theorem ggX4_restore_X7_put : GoodIn wsX4_restore wsX7_put := goodIn_r _ [19, 10, 15, 32, 33] (by decide +kernel) (by decide +kernel)
set_option maxRecDepth 20000 in
theorem gX4_restore_X7_put : GoodIn wsX4_restore (wsV RX4 60 RX7 yX7_put wsX7_put) := goodIn_app (goodIn_of _ (by decide +kernel)) ggX4_restore_X7_put
set_option maxRecDepth 20000 in
theorem ggX4_restore_X7_dropLast : GoodIn wsX4_restore wsX7_dropLast := goodIn_r _ [23, 10, 24, 25, 26, 27, 32, 33] (by decide +kernel) (by decide +kernel)
set_option maxRecDepth 20000 in
theorem gX4_restore_X7_dropLast : GoodIn wsX4_restore (wsV RX4 80 RX7 yX7_dropLast wsX7_dropLast) := goodIn_app (goodIn_of _ (by decide +kernel)) ggX4_restore_X7_dropLast
theorem dX4_restore_0 : decode cX4_restore 0 = .ok (.aload_n 1, 1) := by decide +kernel
theorem dX4_restore_1 : decode cX4_restore 1 = .ok (.invokevirtual 64, 3) := by decide +kernel
theorem dX4_restore_4 : decode cX4_restore 4 = .ok (.bipush 16, 2) := by decide +kernel
theorem dX4_restore_6 : decode cX4_restore 6 = .ok (.isub, 1) := by decide +kernel
theorem dX4_restore_7 : decode cX4_restore 7 = .ok (.istore_n 2, 1) := by decide +kernel
theorem dX4_restore_8 : decode cX4_restore 8 = .ok (.aload_n 0, 1) := by decide +kernel
theorem dX4_restore_9 : decode cX4_restore 9 = .ok (.aload_n 1, 1) := by decide +kernel
theorem dX4_restore_10 : decode cX4_restore 10 = .ok (.iload_n 2, 1) := by decide +kernel
theorem dX4_restore_11 : decode cX4_restore 11 = .ok (.invokevirtual 41, 3) := by decide +kernel
theorem dX4_restore_14 : decode cX4_restore 14 = .ok (.putfield 23, 3) := by decide +kernel
theorem dX4_restore_17 : decode cX4_restore 17 = .ok (.aload_n 0, 1) := by decide +kernel
theorem dX4_restore_18 : decode cX4_restore 18 = .ok (.aload_n 1, 1) := by decide +kernel
theorem dX4_restore_19 : decode cX4_restore 19 = .ok (.iload_n 2, 1) := by decide +kernel
theorem dX4_restore_20 : decode cX4_restore 20 = .ok (.iconst 1, 1) := by decide +kernel
theorem dX4_restore_21 : decode cX4_restore 21 = .ok (.iadd, 1) := by decide +kernel
theorem dX4_restore_22 : decode cX4_restore 22 = .ok (.invokevirtual 41, 3) := by decide +kernel
theorem dX4_restore_25 : decode cX4_restore 25 = .ok (.putfield 27, 3) := by decide +kernel
theorem dX4_restore_28 : decode cX4_restore 28 = .ok (.iconst 0, 1) := by decide +kernel
theorem dX4_restore_29 : decode cX4_restore 29 = .ok (.istore_n 3, 1) := by decide +kernel
theorem dX4_restore_30 : decode cX4_restore 30 = .ok (.iload_n 3, 1) := by decide +kernel
theorem dX4_restore_31 : decode cX4_restore 31 = .ok (.bipush 7, 2) := by decide +kernel
theorem dX4_restore_33 : decode cX4_restore 33 = .ok (.if_icmp .ge 47, 3) := by decide +kernel
theorem dX4_restore_36 : decode cX4_restore 36 = .ok (.aload_n 0, 1) := by decide +kernel
theorem dX4_restore_37 : decode cX4_restore 37 = .ok (.getfield 14, 3) := by decide +kernel
theorem dX4_restore_40 : decode cX4_restore 40 = .ok (.iload_n 3, 1) := by decide +kernel
theorem dX4_restore_41 : decode cX4_restore 41 = .ok (.aload_n 1, 1) := by decide +kernel
theorem dX4_restore_42 : decode cX4_restore 42 = .ok (.iload_n 2, 1) := by decide +kernel
theorem dX4_restore_43 : decode cX4_restore 43 = .ok (.iconst 2, 1) := by decide +kernel
theorem dX4_restore_44 : decode cX4_restore 44 = .ok (.iadd, 1) := by decide +kernel
theorem dX4_restore_45 : decode cX4_restore 45 = .ok (.iconst 2, 1) := by decide +kernel
theorem dX4_restore_46 : decode cX4_restore 46 = .ok (.iload_n 3, 1) := by decide +kernel
theorem dX4_restore_47 : decode cX4_restore 47 = .ok (.imul, 1) := by decide +kernel
theorem dX4_restore_48 : decode cX4_restore 48 = .ok (.iadd, 1) := by decide +kernel
theorem dX4_restore_49 : decode cX4_restore 49 = .ok (.invokevirtual 41, 3) := by decide +kernel
theorem dX4_restore_52 : decode cX4_restore 52 = .ok (.invokevirtual 60, 3) := by decide +kernel
theorem dX4_restore_55 : decode cX4_restore 55 = .ok (.aload_n 0, 1) := by decide +kernel
theorem dX4_restore_56 : decode cX4_restore 56 = .ok (.getfield 20, 3) := by decide +kernel
theorem dX4_restore_59 : decode cX4_restore 59 = .ok (.iload_n 3, 1) := by decide +kernel
theorem dX4_restore_60 : decode cX4_restore 60 = .ok (.aload_n 1, 1) := by decide +kernel
theorem dX4_restore_61 : decode cX4_restore 61 = .ok (.iload_n 2, 1) := by decide +kernel
theorem dX4_restore_62 : decode cX4_restore 62 = .ok (.iconst 3, 1) := by decide +kernel
theorem dX4_restore_63 : decode cX4_restore 63 = .ok (.iadd, 1) := by decide +kernel
theorem dX4_restore_64 : decode cX4_restore 64 = .ok (.iconst 2, 1) := by decide +kernel
theorem dX4_restore_65 : decode cX4_restore 65 = .ok (.iload_n 3, 1) := by decide +kernel
theorem dX4_restore_66 : decode cX4_restore 66 = .ok (.imul, 1) := by decide +kernel
theorem dX4_restore_67 : decode cX4_restore 67 = .ok (.iadd, 1) := by decide +kernel
theorem dX4_restore_68 : decode cX4_restore 68 = .ok (.invokevirtual 41, 3) := by decide +kernel
theorem dX4_restore_71 : decode cX4_restore 71 = .ok (.invokevirtual 60, 3) := by decide +kernel
theorem dX4_restore_74 : decode cX4_restore 74 = .ok (.iinc 3 1, 3) := by decide +kernel
theorem dX4_restore_77 : decode cX4_restore 77 = .ok (.goto (-47), 3) := by decide +kernel
theorem dX4_restore_80 : decode cX4_restore 80 = .ok (.aload_n 1, 1) := by decide +kernel
theorem dX4_restore_81 : decode cX4_restore 81 = .ok (.bipush 16, 2) := by decide +kernel
theorem dX4_restore_83 : decode cX4_restore 83 = .ok (.invokevirtual 80, 3) := by decide +kernel
theorem dX4_restore_86 : decode cX4_restore 86 = .ok (.return_, 1) := by decide +kernel
set_option maxRecDepth 20000 in
theorem ggX5_init_X7_init : GoodIn wsX5_init wsX7_init := goodIn_r _ [10, 11, 2, 3, 12, 13, 14, 15, 16, 17, 18, 19] (by decide +kernel) (by decide +kernel)
set_option maxRecDepth 20000 in
theorem gX5_init_X7_init : GoodIn wsX5_init (wsX7_init) := ggX5_init_X7_init
theorem dX5_init_0 : decode cX5_init 0 = .ok (.aload_n 0, 1) := by decide +kernel
theorem dX5_init_1 : decode cX5_init 1 = .ok (.invokespecial 3, 3) := by decide +kernel
theorem dX5_init_4 : decode cX5_init 4 = .ok (.aload_n 0, 1) := by decide +kernel
theorem dX5_init_5 : decode cX5_init 5 = .ok (.new 9, 3) := by decide +kernel
theorem dX5_init_8 : decode cX5_init 8 = .ok (.dup, 1) := by decide +kernel
theorem dX5_init_9 : decode cX5_init 9 = .ok (.bipush 7, 2) := by decide +kernel
theorem dX5_init_11 : decode cX5_init 11 = .ok (.invokespecial 11, 3) := by decide +kernel
theorem dX5_init_14 : decode cX5_init 14 = .ok (.putfield 14, 3) := by decide +kernel
theorem dX5_init_17 : decode cX5_init 17 = .ok (.return_, 1) := by decide +kernel
set_option maxRecDepth 20000 in
theorem ggX5_weigh_X5_layNothing : GoodIn wsX5_weigh wsX5_layNothing := goodIn_r _ [7, 8, 9, 10, 2, 11, 12, 13, 14, 15, 16, 17, 18, 19, 20, 21, 22, 70, 71, 72, 73, 74, 75, 76, 77, 78, 79, 80, 81] (by decide +kernel) (by decide +kernel)
set_option maxRecDepth 20000 in
theorem gX5_weigh_X5_layNothing : GoodIn wsX5_weigh (wsV RX5 24 RX5 yX5_layNothing wsX5_layNothing) := goodIn_app (goodIn_of _ (by decide +kernel)) ggX5_weigh_X5_layNothing
set_option maxRecDepth 20000 in
theorem ggX5_weigh_X5_layNext : GoodIn wsX5_weigh wsX5_layNext := goodIn_r _ [26, 8, 27, 28, 29, 30, 31, 32, 33, 34, 35, 36, 37, 38, 15, 39, 17, 40, 41, 42, 43, 44, 45, 46, 22, 47, 48, 49, 6, 50, 9, 10, 2, 11, 51, 52, 53, 54, 55, 56, 57, 70, 71, 72, 73, 74, 75, 76, 77, 78, 79, 82, 83, 84, 85, 86, 87, 88, 89, 90, 91, 92, 93, 94, 80, 81] (by decide +kernel) (by decide +kernel)
set_option maxRecDepth 20000 in
theorem gX5_weigh_X5_layNext : GoodIn wsX5_weigh (wsV RX5 27 RX5 yX5_layNext wsX5_layNext) := goodIn_app (goodIn_of _ (by decide +kernel)) ggX5_weigh_X5_layNext
set_option maxRecDepth 20000 in
theorem ggX5_weigh_X5_keepWay : GoodIn wsX5_weigh wsX5_keepWay := goodIn_r _ [61, 1, 9, 62, 10, 63, 11, 64, 65, 66, 67, 68, 69, 70, 71, 72, 73, 74, 75, 76, 77, 78, 79] (by decide +kernel) (by decide +kernel)
set_option maxRecDepth 20000 in
theorem gX5_weigh_X5_keepWay : GoodIn wsX5_weigh (wsV RX5 35 RX5 yX5_keepWay wsX5_keepWay) := goodIn_app (goodIn_of _ (by decide +kernel)) ggX5_weigh_X5_keepWay
theorem dX5_weigh_0 : decode cX5_weigh 0 = .ok (.aload_n 0, 1) := by decide +kernel
theorem dX5_weigh_1 : decode cX5_weigh 1 = .ok (.iconst 0, 1) := by decide +kernel
theorem dX5_weigh_2 : decode cX5_weigh 2 = .ok (.putfield 20, 3) := by decide +kernel
theorem dX5_weigh_5 : decode cX5_weigh 5 = .ok (.aload_n 0, 1) := by decide +kernel
theorem dX5_weigh_6 : decode cX5_weigh 6 = .ok (.invokevirtual 24, 3) := by decide +kernel
theorem dX5_weigh_9 : decode cX5_weigh 9 = .ok (.iconst 0, 1) := by decide +kernel
theorem dX5_weigh_10 : decode cX5_weigh 10 = .ok (.istore 4, 2) := by decide +kernel
theorem dX5_weigh_12 : decode cX5_weigh 12 = .ok (.iload 4, 2) := by decide +kernel
theorem dX5_weigh_14 : decode cX5_weigh 14 = .ok (.sipush 2187, 3) := by decide +kernel
theorem dX5_weigh_17 : decode cX5_weigh 17 = .ok (.if_icmp .ge 30, 3) := by decide +kernel
theorem dX5_weigh_20 : decode cX5_weigh 20 = .ok (.aload_n 0, 1) := by decide +kernel
theorem dX5_weigh_21 : decode cX5_weigh 21 = .ok (.aload_n 1, 1) := by decide +kernel
theorem dX5_weigh_22 : decode cX5_weigh 22 = .ok (.iload_n 3, 1) := by decide +kernel
theorem dX5_weigh_23 : decode cX5_weigh 23 = .ok (.invokevirtual 27, 3) := by decide +kernel
theorem dX5_weigh_26 : decode cX5_weigh 26 = .ok (.ifCond .eq 21, 3) := by decide +kernel
theorem dX5_weigh_29 : decode cX5_weigh 29 = .ok (.aload_n 0, 1) := by decide +kernel
theorem dX5_weigh_30 : decode cX5_weigh 30 = .ok (.getfield 31, 3) := by decide +kernel
theorem dX5_weigh_33 : decode cX5_weigh 33 = .ok (.iload_n 2, 1) := by decide +kernel
theorem dX5_weigh_34 : decode cX5_weigh 34 = .ok (.if_icmp .ne 7, 3) := by decide +kernel
theorem dX5_weigh_37 : decode cX5_weigh 37 = .ok (.aload_n 0, 1) := by decide +kernel
theorem dX5_weigh_38 : decode cX5_weigh 38 = .ok (.invokevirtual 35, 3) := by decide +kernel
theorem dX5_weigh_41 : decode cX5_weigh 41 = .ok (.iinc 4 1, 3) := by decide +kernel
theorem dX5_weigh_44 : decode cX5_weigh 44 = .ok (.goto (-32), 3) := by decide +kernel
theorem dX5_weigh_47 : decode cX5_weigh 47 = .ok (.return_, 1) := by decide +kernel
set_option maxRecDepth 20000 in
theorem ggX5_layNothing_X7_restart : GoodIn wsX5_layNothing wsX7_restart := goodIn_r _ [10, 11, 27, 28] (by decide +kernel) (by decide +kernel)
set_option maxRecDepth 20000 in
theorem gX5_layNothing_X7_restart : GoodIn wsX5_layNothing (wsV RX5 38 RX7 yX7_restart wsX7_restart) := goodIn_app (goodIn_of _ (by decide +kernel)) ggX5_layNothing_X7_restart
set_option maxRecDepth 20000 in
theorem ggX5_layNothing_X7_add : GoodIn wsX5_layNothing wsX7_add := goodIn_r _ [15, 11, 16, 27, 28] (by decide +kernel) (by decide +kernel)
set_option maxRecDepth 20000 in
theorem gX5_layNothing_X7_add : GoodIn wsX5_layNothing (wsV RX5 41 RX7 yX7_add wsX7_add) := goodIn_app (goodIn_of _ (by decide +kernel)) ggX5_layNothing_X7_add
theorem dX5_layNothing_0 : decode cX5_layNothing 0 = .ok (.aload_n 0, 1) := by decide +kernel
theorem dX5_layNothing_1 : decode cX5_layNothing 1 = .ok (.getfield 14, 3) := by decide +kernel
theorem dX5_layNothing_4 : decode cX5_layNothing 4 = .ok (.invokevirtual 38, 3) := by decide +kernel
theorem dX5_layNothing_7 : decode cX5_layNothing 7 = .ok (.iconst 0, 1) := by decide +kernel
theorem dX5_layNothing_8 : decode cX5_layNothing 8 = .ok (.istore_n 1, 1) := by decide +kernel
theorem dX5_layNothing_9 : decode cX5_layNothing 9 = .ok (.iload_n 1, 1) := by decide +kernel
theorem dX5_layNothing_10 : decode cX5_layNothing 10 = .ok (.bipush 7, 2) := by decide +kernel
theorem dX5_layNothing_12 : decode cX5_layNothing 12 = .ok (.if_icmp .ge 17, 3) := by decide +kernel
theorem dX5_layNothing_15 : decode cX5_layNothing 15 = .ok (.aload_n 0, 1) := by decide +kernel
theorem dX5_layNothing_16 : decode cX5_layNothing 16 = .ok (.getfield 14, 3) := by decide +kernel
theorem dX5_layNothing_19 : decode cX5_layNothing 19 = .ok (.iconst 0, 1) := by decide +kernel
theorem dX5_layNothing_20 : decode cX5_layNothing 20 = .ok (.invokevirtual 41, 3) := by decide +kernel
theorem dX5_layNothing_23 : decode cX5_layNothing 23 = .ok (.iinc 1 1, 3) := by decide +kernel
theorem dX5_layNothing_26 : decode cX5_layNothing 26 = .ok (.goto (-17), 3) := by decide +kernel
theorem dX5_layNothing_29 : decode cX5_layNothing 29 = .ok (.aload_n 0, 1) := by decide +kernel
theorem dX5_layNothing_30 : decode cX5_layNothing 30 = .ok (.iconst 0, 1) := by decide +kernel
theorem dX5_layNothing_31 : decode cX5_layNothing 31 = .ok (.putfield 44, 3) := by decide +kernel
theorem dX5_layNothing_34 : decode cX5_layNothing 34 = .ok (.aload_n 0, 1) := by decide +kernel
theorem dX5_layNothing_35 : decode cX5_layNothing 35 = .ok (.iconst 0, 1) := by decide +kernel
theorem dX5_layNothing_36 : decode cX5_layNothing 36 = .ok (.putfield 47, 3) := by decide +kernel
theorem dX5_layNothing_39 : decode cX5_layNothing 39 = .ok (.aload_n 0, 1) := by decide +kernel
theorem dX5_layNothing_40 : decode cX5_layNothing 40 = .ok (.iconst 0, 1) := by decide +kernel
theorem dX5_layNothing_41 : decode cX5_layNothing 41 = .ok (.putfield 31, 3) := by decide +kernel
theorem dX5_layNothing_44 : decode cX5_layNothing 44 = .ok (.aload_n 0, 1) := by decide +kernel
theorem dX5_layNothing_45 : decode cX5_layNothing 45 = .ok (.iconst 0, 1) := by decide +kernel
theorem dX5_layNothing_46 : decode cX5_layNothing 46 = .ok (.putfield 50, 3) := by decide +kernel
theorem dX5_layNothing_49 : decode cX5_layNothing 49 = .ok (.return_, 1) := by decide +kernel
theorem dX5_keepWay_0 : decode cX5_keepWay 0 = .ok (.aload_n 0, 1) := by decide +kernel
theorem dX5_keepWay_1 : decode cX5_keepWay 1 = .ok (.getfield 20, 3) := by decide +kernel
theorem dX5_keepWay_4 : decode cX5_keepWay 4 = .ok (.ifCond .eq 14, 3) := by decide +kernel
theorem dX5_keepWay_7 : decode cX5_keepWay 7 = .ok (.aload_n 0, 1) := by decide +kernel
theorem dX5_keepWay_8 : decode cX5_keepWay 8 = .ok (.getfield 44, 3) := by decide +kernel
theorem dX5_keepWay_11 : decode cX5_keepWay 11 = .ok (.aload_n 0, 1) := by decide +kernel
theorem dX5_keepWay_12 : decode cX5_keepWay 12 = .ok (.getfield 53, 3) := by decide +kernel
theorem dX5_keepWay_15 : decode cX5_keepWay 15 = .ok (.if_icmp .ge 27, 3) := by decide +kernel
theorem dX5_keepWay_18 : decode cX5_keepWay 18 = .ok (.aload_n 0, 1) := by decide +kernel
theorem dX5_keepWay_19 : decode cX5_keepWay 19 = .ok (.aload_n 0, 1) := by decide +kernel
theorem dX5_keepWay_20 : decode cX5_keepWay 20 = .ok (.getfield 44, 3) := by decide +kernel
theorem dX5_keepWay_23 : decode cX5_keepWay 23 = .ok (.putfield 53, 3) := by decide +kernel
theorem dX5_keepWay_26 : decode cX5_keepWay 26 = .ok (.aload_n 0, 1) := by decide +kernel
theorem dX5_keepWay_27 : decode cX5_keepWay 27 = .ok (.aload_n 0, 1) := by decide +kernel
theorem dX5_keepWay_28 : decode cX5_keepWay 28 = .ok (.getfield 47, 3) := by decide +kernel
theorem dX5_keepWay_31 : decode cX5_keepWay 31 = .ok (.putfield 56, 3) := by decide +kernel
theorem dX5_keepWay_34 : decode cX5_keepWay 34 = .ok (.aload_n 0, 1) := by decide +kernel
theorem dX5_keepWay_35 : decode cX5_keepWay 35 = .ok (.aload_n 0, 1) := by decide +kernel
theorem dX5_keepWay_36 : decode cX5_keepWay 36 = .ok (.getfield 50, 3) := by decide +kernel
theorem dX5_keepWay_39 : decode cX5_keepWay 39 = .ok (.putfield 59, 3) := by decide +kernel
theorem dX5_keepWay_42 : decode cX5_keepWay 42 = .ok (.aload_n 0, 1) := by decide +kernel
theorem dX5_keepWay_43 : decode cX5_keepWay 43 = .ok (.aload_n 0, 1) := by decide +kernel
theorem dX5_keepWay_44 : decode cX5_keepWay 44 = .ok (.getfield 20, 3) := by decide +kernel
theorem dX5_keepWay_47 : decode cX5_keepWay 47 = .ok (.ifCond .eq 17, 3) := by decide +kernel
theorem dX5_keepWay_50 : decode cX5_keepWay 50 = .ok (.aload_n 0, 1) := by decide +kernel
theorem dX5_keepWay_51 : decode cX5_keepWay 51 = .ok (.getfield 62, 3) := by decide +kernel
theorem dX5_keepWay_54 : decode cX5_keepWay 54 = .ok (.aload_n 0, 1) := by decide +kernel
theorem dX5_keepWay_55 : decode cX5_keepWay 55 = .ok (.getfield 50, 3) := by decide +kernel
theorem dX5_keepWay_58 : decode cX5_keepWay 58 = .ok (.invokestatic 65, 3) := by decide +kernel
theorem dX5_keepWay_61 : decode cX5_keepWay 61 = .ok (.goto 7, 3) := by decide +kernel
theorem dX5_keepWay_64 : decode cX5_keepWay 64 = .ok (.aload_n 0, 1) := by decide +kernel
theorem dX5_keepWay_65 : decode cX5_keepWay 65 = .ok (.getfield 50, 3) := by decide +kernel
theorem dX5_keepWay_68 : decode cX5_keepWay 68 = .ok (.putfield 62, 3) := by decide +kernel
theorem dX5_keepWay_71 : decode cX5_keepWay 71 = .ok (.aload_n 0, 1) := by decide +kernel
theorem dX5_keepWay_72 : decode cX5_keepWay 72 = .ok (.iconst 1, 1) := by decide +kernel
theorem dX5_keepWay_73 : decode cX5_keepWay 73 = .ok (.putfield 20, 3) := by decide +kernel
theorem dX5_keepWay_76 : decode cX5_keepWay 76 = .ok (.return_, 1) := by decide +kernel
set_option maxRecDepth 20000 in
theorem ggX5_layNext_X3_keeperCount : GoodIn wsX5_layNext wsX3_keeperCount := goodIn_r _ [9, 10, 11, 12, 13, 14, 15, 16, 51, 52, 53, 54, 55, 56, 57, 58, 59, 64, 65] (by decide +kernel) (by decide +kernel)
set_option maxRecDepth 20000 in
theorem gX5_layNext_X3_keeperCount : GoodIn wsX5_layNext (wsV RX5 71 RX3 yX3_keeperCount wsX3_keeperCount) := goodIn_app (goodIn_of _ (by decide +kernel)) ggX5_layNext_X3_keeperCount
set_option maxRecDepth 20000 in
theorem ggX5_layNext_X11_hasBit : GoodIn wsX5_layNext wsX11_hasBit := goodIn_r _ [19] (by decide +kernel) (by decide +kernel)
set_option maxRecDepth 20000 in
theorem gX5_layNext_X11_hasBit_n77 : GoodIn wsX5_layNext (wsX11_hasBit) := ggX5_layNext_X11_hasBit
set_option maxRecDepth 20000 in
theorem ggX5_layNext_X7_at : GoodIn wsX5_layNext wsX7_at := goodIn_r _ [23, 16, 24, 64, 65] (by decide +kernel) (by decide +kernel)
set_option maxRecDepth 20000 in
theorem gX5_layNext_X7_at : GoodIn wsX5_layNext (wsV RX5 81 RX7 yX7_at wsX7_at) := goodIn_app (goodIn_of _ (by decide +kernel)) ggX5_layNext_X7_at
set_option maxRecDepth 20000 in
theorem ggX5_layNext_X5_move : GoodIn wsX5_layNext wsX5_move := goodIn_r _ [29, 1, 30, 31, 32, 33, 20, 21, 22, 14, 23, 16, 24, 34, 35, 28, 36, 37, 38, 39, 40, 41, 42, 43, 44, 45, 46, 47, 48, 49, 50, 64, 65] (by decide +kernel) (by decide +kernel)
set_option maxRecDepth 20000 in
theorem gX5_layNext_X5_move : GoodIn wsX5_layNext (wsV RX5 97 RX5 yX5_move wsX5_move) := goodIn_app (goodIn_of _ (by decide +kernel)) ggX5_layNext_X5_move
theorem dX5_layNext_0 : decode cX5_layNext 0 = .ok (.iconst 1, 1) := by decide +kernel
theorem dX5_layNext_1 : decode cX5_layNext 1 = .ok (.istore_n 3, 1) := by decide +kernel
theorem dX5_layNext_2 : decode cX5_layNext 2 = .ok (.iconst 0, 1) := by decide +kernel
theorem dX5_layNext_3 : decode cX5_layNext 3 = .ok (.istore 4, 2) := by decide +kernel
theorem dX5_layNext_5 : decode cX5_layNext 5 = .ok (.iload 4, 2) := by decide +kernel
theorem dX5_layNext_7 : decode cX5_layNext 7 = .ok (.aload_n 1, 1) := by decide +kernel
theorem dX5_layNext_8 : decode cX5_layNext 8 = .ok (.invokevirtual 71, 3) := by decide +kernel
theorem dX5_layNext_11 : decode cX5_layNext 11 = .ok (.if_icmp .ge 77, 3) := by decide +kernel
theorem dX5_layNext_14 : decode cX5_layNext 14 = .ok (.iload_n 2, 1) := by decide +kernel
theorem dX5_layNext_15 : decode cX5_layNext 15 = .ok (.iload 4, 2) := by decide +kernel
theorem dX5_layNext_17 : decode cX5_layNext 17 = .ok (.invokestatic 77, 3) := by decide +kernel
theorem dX5_layNext_20 : decode cX5_layNext 20 = .ok (.ifCond .eq 58, 3) := by decide +kernel
theorem dX5_layNext_23 : decode cX5_layNext 23 = .ok (.aload_n 0, 1) := by decide +kernel
theorem dX5_layNext_24 : decode cX5_layNext 24 = .ok (.getfield 14, 3) := by decide +kernel
theorem dX5_layNext_27 : decode cX5_layNext 27 = .ok (.iload 4, 2) := by decide +kernel
theorem dX5_layNext_29 : decode cX5_layNext 29 = .ok (.invokevirtual 81, 3) := by decide +kernel
theorem dX5_layNext_32 : decode cX5_layNext 32 = .ok (.iconst 2, 1) := by decide +kernel
theorem dX5_layNext_33 : decode cX5_layNext 33 = .ok (.if_icmp .ne 7, 3) := by decide +kernel
theorem dX5_layNext_36 : decode cX5_layNext 36 = .ok (.iconst 1, 1) := by decide +kernel
theorem dX5_layNext_37 : decode cX5_layNext 37 = .ok (.goto 4, 3) := by decide +kernel
theorem dX5_layNext_40 : decode cX5_layNext 40 = .ok (.iconst 0, 1) := by decide +kernel
theorem dX5_layNext_41 : decode cX5_layNext 41 = .ok (.istore 5, 2) := by decide +kernel
theorem dX5_layNext_43 : decode cX5_layNext 43 = .ok (.aload_n 0, 1) := by decide +kernel
theorem dX5_layNext_44 : decode cX5_layNext 44 = .ok (.iload 4, 2) := by decide +kernel
theorem dX5_layNext_46 : decode cX5_layNext 46 = .ok (.iload_n 3, 1) := by decide +kernel
theorem dX5_layNext_47 : decode cX5_layNext 47 = .ok (.aload_n 1, 1) := by decide +kernel
theorem dX5_layNext_48 : decode cX5_layNext 48 = .ok (.getfield 85, 3) := by decide +kernel
theorem dX5_layNext_51 : decode cX5_layNext 51 = .ok (.iload 4, 2) := by decide +kernel
theorem dX5_layNext_53 : decode cX5_layNext 53 = .ok (.invokevirtual 81, 3) := by decide +kernel
theorem dX5_layNext_56 : decode cX5_layNext 56 = .ok (.aload_n 1, 1) := by decide +kernel
theorem dX5_layNext_57 : decode cX5_layNext 57 = .ok (.getfield 88, 3) := by decide +kernel
theorem dX5_layNext_60 : decode cX5_layNext 60 = .ok (.getfield 92, 3) := by decide +kernel
theorem dX5_layNext_63 : decode cX5_layNext 63 = .ok (.iload 4, 2) := by decide +kernel
theorem dX5_layNext_65 : decode cX5_layNext 65 = .ok (.invokevirtual 81, 3) := by decide +kernel
theorem dX5_layNext_68 : decode cX5_layNext 68 = .ok (.invokevirtual 97, 3) := by decide +kernel
theorem dX5_layNext_71 : decode cX5_layNext 71 = .ok (.iload 5, 2) := by decide +kernel
theorem dX5_layNext_73 : decode cX5_layNext 73 = .ok (.ifCond .ne 5, 3) := by decide +kernel
theorem dX5_layNext_76 : decode cX5_layNext 76 = .ok (.iconst 1, 1) := by decide +kernel
theorem dX5_layNext_77 : decode cX5_layNext 77 = .ok (.ireturn, 1) := by decide +kernel
theorem dX5_layNext_78 : decode cX5_layNext 78 = .ok (.iload_n 3, 1) := by decide +kernel
theorem dX5_layNext_79 : decode cX5_layNext 79 = .ok (.iconst 3, 1) := by decide +kernel
theorem dX5_layNext_80 : decode cX5_layNext 80 = .ok (.imul, 1) := by decide +kernel
theorem dX5_layNext_81 : decode cX5_layNext 81 = .ok (.istore_n 3, 1) := by decide +kernel
theorem dX5_layNext_82 : decode cX5_layNext 82 = .ok (.iinc 4 1, 3) := by decide +kernel
theorem dX5_layNext_85 : decode cX5_layNext 85 = .ok (.goto (-80), 3) := by decide +kernel
theorem dX5_layNext_88 : decode cX5_layNext 88 = .ok (.iconst 0, 1) := by decide +kernel
theorem dX5_layNext_89 : decode cX5_layNext 89 = .ok (.ireturn, 1) := by decide +kernel
set_option maxRecDepth 20000 in
theorem ggX5_move_X7_at : GoodIn wsX5_move wsX7_at := goodIn_r _ [10, 11, 12, 31, 32] (by decide +kernel) (by decide +kernel)
set_option maxRecDepth 20000 in
theorem gX5_move_X7_at : GoodIn wsX5_move (wsV RX5 81 RX7 yX7_at wsX7_at) := goodIn_app (goodIn_of _ (by decide +kernel)) ggX5_move_X7_at
set_option maxRecDepth 20000 in
theorem ggX5_move_X5_pullOf : GoodIn wsX5_move wsX5_pullOf := goodIn_r _ [16] (by decide +kernel) (by decide +kernel)
set_option maxRecDepth 20000 in
theorem gX5_move_X5_pullOf : GoodIn wsX5_move (va_wsS RX5 101 yX5_pullOf wsX5_pullOf) := goodIn_app (goodIn_of _ (by decide +kernel)) ggX5_move_X5_pullOf
set_option maxRecDepth 20000 in
theorem ggX5_move_X7_put : GoodIn wsX5_move wsX7_put := goodIn_r _ [20, 11, 12, 31, 32] (by decide +kernel) (by decide +kernel)
set_option maxRecDepth 20000 in
theorem gX5_move_X7_put : GoodIn wsX5_move (wsV RX5 104 RX7 yX7_put wsX7_put) := goodIn_app (goodIn_of _ (by decide +kernel)) ggX5_move_X7_put
theorem dX5_move_0 : decode cX5_move 0 = .ok (.aload_n 0, 1) := by decide +kernel
theorem dX5_move_1 : decode cX5_move 1 = .ok (.getfield 14, 3) := by decide +kernel
theorem dX5_move_4 : decode cX5_move 4 = .ok (.iload_n 1, 1) := by decide +kernel
theorem dX5_move_5 : decode cX5_move 5 = .ok (.invokevirtual 81, 3) := by decide +kernel
theorem dX5_move_8 : decode cX5_move 8 = .ok (.istore 5, 2) := by decide +kernel
theorem dX5_move_10 : decode cX5_move 10 = .ok (.iload 5, 2) := by decide +kernel
theorem dX5_move_12 : decode cX5_move 12 = .ok (.ifCond .ne 7, 3) := by decide +kernel
theorem dX5_move_15 : decode cX5_move 15 = .ok (.iconst 1, 1) := by decide +kernel
theorem dX5_move_16 : decode cX5_move 16 = .ok (.goto 14, 3) := by decide +kernel
theorem dX5_move_19 : decode cX5_move 19 = .ok (.iload 5, 2) := by decide +kernel
theorem dX5_move_21 : decode cX5_move 21 = .ok (.iconst 1, 1) := by decide +kernel
theorem dX5_move_22 : decode cX5_move 22 = .ok (.if_icmp .ne 7, 3) := by decide +kernel
theorem dX5_move_25 : decode cX5_move 25 = .ok (.iconst 2, 1) := by decide +kernel
theorem dX5_move_26 : decode cX5_move 26 = .ok (.goto 4, 3) := by decide +kernel
theorem dX5_move_29 : decode cX5_move 29 = .ok (.iconst 0, 1) := by decide +kernel
theorem dX5_move_30 : decode cX5_move 30 = .ok (.istore 6, 2) := by decide +kernel
theorem dX5_move_32 : decode cX5_move 32 = .ok (.iload 6, 2) := by decide +kernel
theorem dX5_move_34 : decode cX5_move 34 = .ok (.invokestatic 101, 3) := by decide +kernel
theorem dX5_move_37 : decode cX5_move 37 = .ok (.iload 5, 2) := by decide +kernel
theorem dX5_move_39 : decode cX5_move 39 = .ok (.invokestatic 101, 3) := by decide +kernel
theorem dX5_move_42 : decode cX5_move 42 = .ok (.isub, 1) := by decide +kernel
theorem dX5_move_43 : decode cX5_move 43 = .ok (.istore 7, 2) := by decide +kernel
theorem dX5_move_45 : decode cX5_move 45 = .ok (.aload_n 0, 1) := by decide +kernel
theorem dX5_move_46 : decode cX5_move 46 = .ok (.getfield 14, 3) := by decide +kernel
theorem dX5_move_49 : decode cX5_move 49 = .ok (.iload_n 1, 1) := by decide +kernel
theorem dX5_move_50 : decode cX5_move 50 = .ok (.iload 6, 2) := by decide +kernel
theorem dX5_move_52 : decode cX5_move 52 = .ok (.invokevirtual 104, 3) := by decide +kernel
theorem dX5_move_55 : decode cX5_move 55 = .ok (.aload_n 0, 1) := by decide +kernel
theorem dX5_move_56 : decode cX5_move 56 = .ok (.dup, 1) := by decide +kernel
theorem dX5_move_57 : decode cX5_move 57 = .ok (.getfield 44, 3) := by decide +kernel
theorem dX5_move_60 : decode cX5_move 60 = .ok (.iload 5, 2) := by decide +kernel
theorem dX5_move_62 : decode cX5_move 62 = .ok (.ifCond .ne 7, 3) := by decide +kernel
theorem dX5_move_65 : decode cX5_move 65 = .ok (.iconst 1, 1) := by decide +kernel
theorem dX5_move_66 : decode cX5_move 66 = .ok (.goto 13, 3) := by decide +kernel
theorem dX5_move_69 : decode cX5_move 69 = .ok (.iload 6, 2) := by decide +kernel
theorem dX5_move_71 : decode cX5_move 71 = .ok (.ifCond .ne 7, 3) := by decide +kernel
theorem dX5_move_74 : decode cX5_move 74 = .ok (.iconst (-1), 1) := by decide +kernel
theorem dX5_move_75 : decode cX5_move 75 = .ok (.goto 4, 3) := by decide +kernel
theorem dX5_move_78 : decode cX5_move 78 = .ok (.iconst 0, 1) := by decide +kernel
theorem dX5_move_79 : decode cX5_move 79 = .ok (.iadd, 1) := by decide +kernel
theorem dX5_move_80 : decode cX5_move 80 = .ok (.putfield 44, 3) := by decide +kernel
theorem dX5_move_83 : decode cX5_move 83 = .ok (.aload_n 0, 1) := by decide +kernel
theorem dX5_move_84 : decode cX5_move 84 = .ok (.dup, 1) := by decide +kernel
theorem dX5_move_85 : decode cX5_move 85 = .ok (.getfield 47, 3) := by decide +kernel
theorem dX5_move_88 : decode cX5_move 88 = .ok (.iload_n 2, 1) := by decide +kernel
theorem dX5_move_89 : decode cX5_move 89 = .ok (.iload 6, 2) := by decide +kernel
theorem dX5_move_91 : decode cX5_move 91 = .ok (.iload 5, 2) := by decide +kernel
theorem dX5_move_93 : decode cX5_move 93 = .ok (.isub, 1) := by decide +kernel
theorem dX5_move_94 : decode cX5_move 94 = .ok (.imul, 1) := by decide +kernel
theorem dX5_move_95 : decode cX5_move 95 = .ok (.iadd, 1) := by decide +kernel
theorem dX5_move_96 : decode cX5_move 96 = .ok (.putfield 47, 3) := by decide +kernel
theorem dX5_move_99 : decode cX5_move 99 = .ok (.aload_n 0, 1) := by decide +kernel
theorem dX5_move_100 : decode cX5_move 100 = .ok (.dup, 1) := by decide +kernel
theorem dX5_move_101 : decode cX5_move 101 = .ok (.getfield 31, 3) := by decide +kernel
theorem dX5_move_104 : decode cX5_move 104 = .ok (.iload 7, 2) := by decide +kernel
theorem dX5_move_106 : decode cX5_move 106 = .ok (.iload_n 3, 1) := by decide +kernel
theorem dX5_move_107 : decode cX5_move 107 = .ok (.imul, 1) := by decide +kernel
theorem dX5_move_108 : decode cX5_move 108 = .ok (.iadd, 1) := by decide +kernel
theorem dX5_move_109 : decode cX5_move 109 = .ok (.putfield 31, 3) := by decide +kernel
theorem dX5_move_112 : decode cX5_move 112 = .ok (.aload_n 0, 1) := by decide +kernel
theorem dX5_move_113 : decode cX5_move 113 = .ok (.dup, 1) := by decide +kernel
theorem dX5_move_114 : decode cX5_move 114 = .ok (.getfield 50, 3) := by decide +kernel
theorem dX5_move_117 : decode cX5_move 117 = .ok (.iload 7, 2) := by decide +kernel
theorem dX5_move_119 : decode cX5_move 119 = .ok (.iload 4, 2) := by decide +kernel
theorem dX5_move_121 : decode cX5_move 121 = .ok (.imul, 1) := by decide +kernel
theorem dX5_move_122 : decode cX5_move 122 = .ok (.iadd, 1) := by decide +kernel
theorem dX5_move_123 : decode cX5_move 123 = .ok (.putfield 50, 3) := by decide +kernel
theorem dX5_move_126 : decode cX5_move 126 = .ok (.return_, 1) := by decide +kernel
theorem dX5_pullOf_0 : decode cX5_pullOf 0 = .ok (.iload_n 0, 1) := by decide +kernel
theorem dX5_pullOf_1 : decode cX5_pullOf 1 = .ok (.iconst 1, 1) := by decide +kernel
theorem dX5_pullOf_2 : decode cX5_pullOf 2 = .ok (.if_icmp .ne 7, 3) := by decide +kernel
theorem dX5_pullOf_5 : decode cX5_pullOf 5 = .ok (.iconst (-1), 1) := by decide +kernel
theorem dX5_pullOf_6 : decode cX5_pullOf 6 = .ok (.goto 13, 3) := by decide +kernel
theorem dX5_pullOf_9 : decode cX5_pullOf 9 = .ok (.iload_n 0, 1) := by decide +kernel
theorem dX5_pullOf_10 : decode cX5_pullOf 10 = .ok (.iconst 2, 1) := by decide +kernel
theorem dX5_pullOf_11 : decode cX5_pullOf 11 = .ok (.if_icmp .ne 7, 3) := by decide +kernel
theorem dX5_pullOf_14 : decode cX5_pullOf 14 = .ok (.iconst 1, 1) := by decide +kernel
theorem dX5_pullOf_15 : decode cX5_pullOf 15 = .ok (.goto 4, 3) := by decide +kernel
theorem dX5_pullOf_18 : decode cX5_pullOf 18 = .ok (.iconst 0, 1) := by decide +kernel
theorem dX5_pullOf_19 : decode cX5_pullOf 19 = .ok (.ireturn, 1) := by decide +kernel
set_option maxRecDepth 20000 in
theorem ggX6_init_X7_init : GoodIn wsX6_init wsX7_init := goodIn_r _ [11, 12, 2, 3, 13, 14, 15, 16, 17, 18, 19, 20] (by decide +kernel) (by decide +kernel)
set_option maxRecDepth 20000 in
theorem gX6_init_X7_init : GoodIn wsX6_init (wsX7_init) := ggX6_init_X7_init
theorem dX6_init_0 : decode cX6_init 0 = .ok (.aload_n 0, 1) := by decide +kernel
theorem dX6_init_1 : decode cX6_init 1 = .ok (.invokespecial 3, 3) := by decide +kernel
theorem dX6_init_4 : decode cX6_init 4 = .ok (.aload_n 0, 1) := by decide +kernel
theorem dX6_init_5 : decode cX6_init 5 = .ok (.new 9, 3) := by decide +kernel
theorem dX6_init_8 : decode cX6_init 8 = .ok (.dup, 1) := by decide +kernel
theorem dX6_init_9 : decode cX6_init 9 = .ok (.bipush 14, 2) := by decide +kernel
theorem dX6_init_11 : decode cX6_init 11 = .ok (.invokespecial 13, 3) := by decide +kernel
theorem dX6_init_14 : decode cX6_init 14 = .ok (.putfield 16, 3) := by decide +kernel
theorem dX6_init_17 : decode cX6_init 17 = .ok (.aload_n 0, 1) := by decide +kernel
theorem dX6_init_18 : decode cX6_init 18 = .ok (.new 9, 3) := by decide +kernel
theorem dX6_init_21 : decode cX6_init 21 = .ok (.dup, 1) := by decide +kernel
theorem dX6_init_22 : decode cX6_init 22 = .ok (.bipush 14, 2) := by decide +kernel
theorem dX6_init_24 : decode cX6_init 24 = .ok (.invokespecial 13, 3) := by decide +kernel
theorem dX6_init_27 : decode cX6_init 27 = .ok (.putfield 20, 3) := by decide +kernel
theorem dX6_init_30 : decode cX6_init 30 = .ok (.return_, 1) := by decide +kernel
set_option maxRecDepth 20000 in
theorem ggX6_restart_X7_restart : GoodIn wsX6_restart wsX7_restart := goodIn_r _ [8, 9, 13, 14] (by decide +kernel) (by decide +kernel)
set_option maxRecDepth 20000 in
theorem gX6_restart_X7_restart : GoodIn wsX6_restart (wsV RX6 23 RX7 yX7_restart wsX7_restart) := goodIn_app (goodIn_of _ (by decide +kernel)) ggX6_restart_X7_restart
theorem dX6_restart_0 : decode cX6_restart 0 = .ok (.aload_n 0, 1) := by decide +kernel
theorem dX6_restart_1 : decode cX6_restart 1 = .ok (.getfield 16, 3) := by decide +kernel
theorem dX6_restart_4 : decode cX6_restart 4 = .ok (.invokevirtual 23, 3) := by decide +kernel
theorem dX6_restart_7 : decode cX6_restart 7 = .ok (.aload_n 0, 1) := by decide +kernel
theorem dX6_restart_8 : decode cX6_restart 8 = .ok (.getfield 20, 3) := by decide +kernel
theorem dX6_restart_11 : decode cX6_restart 11 = .ok (.invokevirtual 23, 3) := by decide +kernel
theorem dX6_restart_14 : decode cX6_restart 14 = .ok (.aload_n 0, 1) := by decide +kernel
theorem dX6_restart_15 : decode cX6_restart 15 = .ok (.iconst 0, 1) := by decide +kernel
theorem dX6_restart_16 : decode cX6_restart 16 = .ok (.putfield 26, 3) := by decide +kernel
theorem dX6_restart_19 : decode cX6_restart 19 = .ok (.return_, 1) := by decide +kernel
set_option maxRecDepth 20000 in
theorem ggX6_add_X6_placeOf : GoodIn wsX6_add wsX6_placeOf := goodIn_r _ [11, 12, 1, 13, 14, 15, 16, 17, 18, 19, 20, 21, 22, 23, 24, 25, 26, 27, 32, 33, 34, 35, 36] (by decide +kernel) (by decide +kernel)
set_option maxRecDepth 20000 in
theorem gX6_add_X6_placeOf : GoodIn wsX6_add (wsV RX6 30 RX6 yX6_placeOf wsX6_placeOf) := goodIn_app (goodIn_of _ (by decide +kernel)) ggX6_add_X6_placeOf
set_option maxRecDepth 20000 in
theorem ggX6_add_X7_at : GoodIn wsX6_add wsX7_at := goodIn_r _ [22, 18, 23, 35, 36] (by decide +kernel) (by decide +kernel)
set_option maxRecDepth 20000 in
theorem gX6_add_X7_at : GoodIn wsX6_add (wsV RX6 34 RX7 yX7_at wsX7_at) := goodIn_app (goodIn_of _ (by decide +kernel)) ggX6_add_X7_at
set_option maxRecDepth 20000 in
theorem ggX6_add_X7_put : GoodIn wsX6_add wsX7_put := goodIn_r _ [31, 18, 23, 35, 36] (by decide +kernel) (by decide +kernel)
set_option maxRecDepth 20000 in
theorem gX6_add_X7_put : GoodIn wsX6_add (wsV RX6 37 RX7 yX7_put wsX7_put) := goodIn_app (goodIn_of _ (by decide +kernel)) ggX6_add_X7_put
theorem dX6_add_0 : decode cX6_add 0 = .ok (.aload_n 0, 1) := by decide +kernel
theorem dX6_add_1 : decode cX6_add 1 = .ok (.iload_n 1, 1) := by decide +kernel
theorem dX6_add_2 : decode cX6_add 2 = .ok (.invokevirtual 30, 3) := by decide +kernel
theorem dX6_add_5 : decode cX6_add 5 = .ok (.istore_n 2, 1) := by decide +kernel
theorem dX6_add_6 : decode cX6_add 6 = .ok (.aload_n 0, 1) := by decide +kernel
theorem dX6_add_7 : decode cX6_add 7 = .ok (.getfield 20, 3) := by decide +kernel
theorem dX6_add_10 : decode cX6_add 10 = .ok (.iload_n 2, 1) := by decide +kernel
theorem dX6_add_11 : decode cX6_add 11 = .ok (.aload_n 0, 1) := by decide +kernel
theorem dX6_add_12 : decode cX6_add 12 = .ok (.getfield 20, 3) := by decide +kernel
theorem dX6_add_15 : decode cX6_add 15 = .ok (.iload_n 2, 1) := by decide +kernel
theorem dX6_add_16 : decode cX6_add 16 = .ok (.invokevirtual 34, 3) := by decide +kernel
theorem dX6_add_19 : decode cX6_add 19 = .ok (.iconst 1, 1) := by decide +kernel
theorem dX6_add_20 : decode cX6_add 20 = .ok (.iadd, 1) := by decide +kernel
theorem dX6_add_21 : decode cX6_add 21 = .ok (.invokevirtual 37, 3) := by decide +kernel
theorem dX6_add_24 : decode cX6_add 24 = .ok (.aload_n 0, 1) := by decide +kernel
theorem dX6_add_25 : decode cX6_add 25 = .ok (.aload_n 0, 1) := by decide +kernel
theorem dX6_add_26 : decode cX6_add 26 = .ok (.getfield 26, 3) := by decide +kernel
theorem dX6_add_29 : decode cX6_add 29 = .ok (.aload_n 0, 1) := by decide +kernel
theorem dX6_add_30 : decode cX6_add 30 = .ok (.getfield 20, 3) := by decide +kernel
theorem dX6_add_33 : decode cX6_add 33 = .ok (.iload_n 2, 1) := by decide +kernel
theorem dX6_add_34 : decode cX6_add 34 = .ok (.invokevirtual 34, 3) := by decide +kernel
theorem dX6_add_37 : decode cX6_add 37 = .ok (.invokestatic 41, 3) := by decide +kernel
theorem dX6_add_40 : decode cX6_add 40 = .ok (.putfield 26, 3) := by decide +kernel
theorem dX6_add_43 : decode cX6_add 43 = .ok (.return_, 1) := by decide +kernel
theorem dX6_greatestPart_0 : decode cX6_greatestPart 0 = .ok (.aload_n 0, 1) := by decide +kernel
theorem dX6_greatestPart_1 : decode cX6_greatestPart 1 = .ok (.getfield 26, 3) := by decide +kernel
theorem dX6_greatestPart_4 : decode cX6_greatestPart 4 = .ok (.ireturn, 1) := by decide +kernel
set_option maxRecDepth 20000 in
theorem ggX6_placeOf_X7_size : GoodIn wsX6_placeOf wsX7_size := goodIn_r _ [7, 8, 21, 22] (by decide +kernel) (by decide +kernel)
set_option maxRecDepth 20000 in
theorem gX6_placeOf_X7_size : GoodIn wsX6_placeOf (wsV RX6 47 RX7 yX7_size wsX7_size) := goodIn_app (goodIn_of _ (by decide +kernel)) ggX6_placeOf_X7_size
set_option maxRecDepth 20000 in
theorem ggX6_placeOf_X7_at : GoodIn wsX6_placeOf wsX7_at := goodIn_r _ [12, 8, 13, 21, 22] (by decide +kernel) (by decide +kernel)
set_option maxRecDepth 20000 in
theorem gX6_placeOf_X7_at : GoodIn wsX6_placeOf (wsV RX6 34 RX7 yX7_at wsX7_at) := goodIn_app (goodIn_of _ (by decide +kernel)) ggX6_placeOf_X7_at
set_option maxRecDepth 20000 in
theorem ggX6_placeOf_X7_add : GoodIn wsX6_placeOf wsX7_add := goodIn_r _ [17, 8, 13, 21, 22] (by decide +kernel) (by decide +kernel)
set_option maxRecDepth 20000 in
theorem gX6_placeOf_X7_add : GoodIn wsX6_placeOf (wsV RX6 51 RX7 yX7_add wsX7_add) := goodIn_app (goodIn_of _ (by decide +kernel)) ggX6_placeOf_X7_add
theorem dX6_placeOf_0 : decode cX6_placeOf 0 = .ok (.iconst 0, 1) := by decide +kernel
theorem dX6_placeOf_1 : decode cX6_placeOf 1 = .ok (.istore_n 2, 1) := by decide +kernel
theorem dX6_placeOf_2 : decode cX6_placeOf 2 = .ok (.iload_n 2, 1) := by decide +kernel
theorem dX6_placeOf_3 : decode cX6_placeOf 3 = .ok (.aload_n 0, 1) := by decide +kernel
theorem dX6_placeOf_4 : decode cX6_placeOf 4 = .ok (.getfield 16, 3) := by decide +kernel
theorem dX6_placeOf_7 : decode cX6_placeOf 7 = .ok (.invokevirtual 47, 3) := by decide +kernel
theorem dX6_placeOf_10 : decode cX6_placeOf 10 = .ok (.if_icmp .ge 23, 3) := by decide +kernel
theorem dX6_placeOf_13 : decode cX6_placeOf 13 = .ok (.aload_n 0, 1) := by decide +kernel
theorem dX6_placeOf_14 : decode cX6_placeOf 14 = .ok (.getfield 16, 3) := by decide +kernel
theorem dX6_placeOf_17 : decode cX6_placeOf 17 = .ok (.iload_n 2, 1) := by decide +kernel
theorem dX6_placeOf_18 : decode cX6_placeOf 18 = .ok (.invokevirtual 34, 3) := by decide +kernel
theorem dX6_placeOf_21 : decode cX6_placeOf 21 = .ok (.iload_n 1, 1) := by decide +kernel
theorem dX6_placeOf_22 : decode cX6_placeOf 22 = .ok (.if_icmp .ne 5, 3) := by decide +kernel
theorem dX6_placeOf_25 : decode cX6_placeOf 25 = .ok (.iload_n 2, 1) := by decide +kernel
theorem dX6_placeOf_26 : decode cX6_placeOf 26 = .ok (.ireturn, 1) := by decide +kernel
theorem dX6_placeOf_27 : decode cX6_placeOf 27 = .ok (.iinc 2 1, 3) := by decide +kernel
theorem dX6_placeOf_30 : decode cX6_placeOf 30 = .ok (.goto (-28), 3) := by decide +kernel
theorem dX6_placeOf_33 : decode cX6_placeOf 33 = .ok (.aload_n 0, 1) := by decide +kernel
theorem dX6_placeOf_34 : decode cX6_placeOf 34 = .ok (.getfield 16, 3) := by decide +kernel
theorem dX6_placeOf_37 : decode cX6_placeOf 37 = .ok (.iload_n 1, 1) := by decide +kernel
theorem dX6_placeOf_38 : decode cX6_placeOf 38 = .ok (.invokevirtual 51, 3) := by decide +kernel
theorem dX6_placeOf_41 : decode cX6_placeOf 41 = .ok (.aload_n 0, 1) := by decide +kernel
theorem dX6_placeOf_42 : decode cX6_placeOf 42 = .ok (.getfield 20, 3) := by decide +kernel
theorem dX6_placeOf_45 : decode cX6_placeOf 45 = .ok (.iconst 0, 1) := by decide +kernel
theorem dX6_placeOf_46 : decode cX6_placeOf 46 = .ok (.invokevirtual 51, 3) := by decide +kernel
theorem dX6_placeOf_49 : decode cX6_placeOf 49 = .ok (.aload_n 0, 1) := by decide +kernel
theorem dX6_placeOf_50 : decode cX6_placeOf 50 = .ok (.getfield 16, 3) := by decide +kernel
theorem dX6_placeOf_53 : decode cX6_placeOf 53 = .ok (.invokevirtual 47, 3) := by decide +kernel
theorem dX6_placeOf_56 : decode cX6_placeOf 56 = .ok (.iconst 1, 1) := by decide +kernel
theorem dX6_placeOf_57 : decode cX6_placeOf 57 = .ok (.isub, 1) := by decide +kernel
theorem dX6_placeOf_58 : decode cX6_placeOf 58 = .ok (.ireturn, 1) := by decide +kernel
theorem dX7_init_0 : decode cX7_init 0 = .ok (.aload_n 0, 1) := by decide +kernel
theorem dX7_init_1 : decode cX7_init 1 = .ok (.invokespecial 1, 3) := by decide +kernel
theorem dX7_init_4 : decode cX7_init 4 = .ok (.aload_n 0, 1) := by decide +kernel
theorem dX7_init_5 : decode cX7_init 5 = .ok (.iload_n 1, 1) := by decide +kernel
theorem dX7_init_6 : decode cX7_init 6 = .ok (.iconst 0, 1) := by decide +kernel
theorem dX7_init_7 : decode cX7_init 7 = .ok (.invokestatic 7, 3) := by decide +kernel
theorem dX7_init_10 : decode cX7_init 10 = .ok (.newarray .int, 2) := by decide +kernel
theorem dX7_init_12 : decode cX7_init 12 = .ok (.putfield 13, 3) := by decide +kernel
theorem dX7_init_15 : decode cX7_init 15 = .ok (.return_, 1) := by decide +kernel
theorem dX7_size_0 : decode cX7_size 0 = .ok (.aload_n 0, 1) := by decide +kernel
theorem dX7_size_1 : decode cX7_size 1 = .ok (.getfield 19, 3) := by decide +kernel
theorem dX7_size_4 : decode cX7_size 4 = .ok (.ireturn, 1) := by decide +kernel
theorem dX7_isFull_0 : decode cX7_isFull 0 = .ok (.aload_n 0, 1) := by decide +kernel
theorem dX7_isFull_1 : decode cX7_isFull 1 = .ok (.getfield 19, 3) := by decide +kernel
theorem dX7_isFull_4 : decode cX7_isFull 4 = .ok (.aload_n 0, 1) := by decide +kernel
theorem dX7_isFull_5 : decode cX7_isFull 5 = .ok (.getfield 13, 3) := by decide +kernel
theorem dX7_isFull_8 : decode cX7_isFull 8 = .ok (.arraylength, 1) := by decide +kernel
theorem dX7_isFull_9 : decode cX7_isFull 9 = .ok (.if_icmp .lt 7, 3) := by decide +kernel
theorem dX7_isFull_12 : decode cX7_isFull 12 = .ok (.iconst 1, 1) := by decide +kernel
theorem dX7_isFull_13 : decode cX7_isFull 13 = .ok (.goto 4, 3) := by decide +kernel
theorem dX7_isFull_16 : decode cX7_isFull 16 = .ok (.iconst 0, 1) := by decide +kernel
theorem dX7_isFull_17 : decode cX7_isFull 17 = .ok (.ireturn, 1) := by decide +kernel
theorem dX7_at_0 : decode cX7_at 0 = .ok (.iload_n 1, 1) := by decide +kernel
theorem dX7_at_1 : decode cX7_at 1 = .ok (.ifCond .lt 29, 3) := by decide +kernel
theorem dX7_at_4 : decode cX7_at 4 = .ok (.iload_n 1, 1) := by decide +kernel
theorem dX7_at_5 : decode cX7_at 5 = .ok (.aload_n 0, 1) := by decide +kernel
theorem dX7_at_6 : decode cX7_at 6 = .ok (.getfield 19, 3) := by decide +kernel
theorem dX7_at_9 : decode cX7_at 9 = .ok (.if_icmp .ge 21, 3) := by decide +kernel
theorem dX7_at_12 : decode cX7_at 12 = .ok (.iload_n 1, 1) := by decide +kernel
theorem dX7_at_13 : decode cX7_at 13 = .ok (.aload_n 0, 1) := by decide +kernel
theorem dX7_at_14 : decode cX7_at 14 = .ok (.getfield 13, 3) := by decide +kernel
theorem dX7_at_17 : decode cX7_at 17 = .ok (.arraylength, 1) := by decide +kernel
theorem dX7_at_18 : decode cX7_at 18 = .ok (.if_icmp .ge 12, 3) := by decide +kernel
theorem dX7_at_21 : decode cX7_at 21 = .ok (.aload_n 0, 1) := by decide +kernel
theorem dX7_at_22 : decode cX7_at 22 = .ok (.getfield 13, 3) := by decide +kernel
theorem dX7_at_25 : decode cX7_at 25 = .ok (.iload_n 1, 1) := by decide +kernel
theorem dX7_at_26 : decode cX7_at 26 = .ok (.iaload, 1) := by decide +kernel
theorem dX7_at_27 : decode cX7_at 27 = .ok (.goto 4, 3) := by decide +kernel
theorem dX7_at_30 : decode cX7_at 30 = .ok (.iconst 0, 1) := by decide +kernel
theorem dX7_at_31 : decode cX7_at 31 = .ok (.ireturn, 1) := by decide +kernel
theorem dX7_put_0 : decode cX7_put 0 = .ok (.iload_n 1, 1) := by decide +kernel
theorem dX7_put_1 : decode cX7_put 1 = .ok (.ifCond .lt 27, 3) := by decide +kernel
theorem dX7_put_4 : decode cX7_put 4 = .ok (.iload_n 1, 1) := by decide +kernel
theorem dX7_put_5 : decode cX7_put 5 = .ok (.aload_n 0, 1) := by decide +kernel
theorem dX7_put_6 : decode cX7_put 6 = .ok (.getfield 19, 3) := by decide +kernel
theorem dX7_put_9 : decode cX7_put 9 = .ok (.if_icmp .ge 19, 3) := by decide +kernel
theorem dX7_put_12 : decode cX7_put 12 = .ok (.iload_n 1, 1) := by decide +kernel
theorem dX7_put_13 : decode cX7_put 13 = .ok (.aload_n 0, 1) := by decide +kernel
theorem dX7_put_14 : decode cX7_put 14 = .ok (.getfield 13, 3) := by decide +kernel
theorem dX7_put_17 : decode cX7_put 17 = .ok (.arraylength, 1) := by decide +kernel
theorem dX7_put_18 : decode cX7_put 18 = .ok (.if_icmp .ge 10, 3) := by decide +kernel
theorem dX7_put_21 : decode cX7_put 21 = .ok (.aload_n 0, 1) := by decide +kernel
theorem dX7_put_22 : decode cX7_put 22 = .ok (.getfield 13, 3) := by decide +kernel
theorem dX7_put_25 : decode cX7_put 25 = .ok (.iload_n 1, 1) := by decide +kernel
theorem dX7_put_26 : decode cX7_put 26 = .ok (.iload_n 2, 1) := by decide +kernel
theorem dX7_put_27 : decode cX7_put 27 = .ok (.iastore, 1) := by decide +kernel
theorem dX7_put_28 : decode cX7_put 28 = .ok (.return_, 1) := by decide +kernel
theorem dX7_add_0 : decode cX7_add 0 = .ok (.aload_n 0, 1) := by decide +kernel
theorem dX7_add_1 : decode cX7_add 1 = .ok (.getfield 19, 3) := by decide +kernel
theorem dX7_add_4 : decode cX7_add 4 = .ok (.ifCond .lt 35, 3) := by decide +kernel
theorem dX7_add_7 : decode cX7_add 7 = .ok (.aload_n 0, 1) := by decide +kernel
theorem dX7_add_8 : decode cX7_add 8 = .ok (.getfield 19, 3) := by decide +kernel
theorem dX7_add_11 : decode cX7_add 11 = .ok (.aload_n 0, 1) := by decide +kernel
theorem dX7_add_12 : decode cX7_add 12 = .ok (.getfield 13, 3) := by decide +kernel
theorem dX7_add_15 : decode cX7_add 15 = .ok (.arraylength, 1) := by decide +kernel
theorem dX7_add_16 : decode cX7_add 16 = .ok (.if_icmp .ge 23, 3) := by decide +kernel
theorem dX7_add_19 : decode cX7_add 19 = .ok (.aload_n 0, 1) := by decide +kernel
theorem dX7_add_20 : decode cX7_add 20 = .ok (.getfield 13, 3) := by decide +kernel
theorem dX7_add_23 : decode cX7_add 23 = .ok (.aload_n 0, 1) := by decide +kernel
theorem dX7_add_24 : decode cX7_add 24 = .ok (.getfield 19, 3) := by decide +kernel
theorem dX7_add_27 : decode cX7_add 27 = .ok (.iload_n 1, 1) := by decide +kernel
theorem dX7_add_28 : decode cX7_add 28 = .ok (.iastore, 1) := by decide +kernel
theorem dX7_add_29 : decode cX7_add 29 = .ok (.aload_n 0, 1) := by decide +kernel
theorem dX7_add_30 : decode cX7_add 30 = .ok (.dup, 1) := by decide +kernel
theorem dX7_add_31 : decode cX7_add 31 = .ok (.getfield 19, 3) := by decide +kernel
theorem dX7_add_34 : decode cX7_add 34 = .ok (.iconst 1, 1) := by decide +kernel
theorem dX7_add_35 : decode cX7_add 35 = .ok (.iadd, 1) := by decide +kernel
theorem dX7_add_36 : decode cX7_add 36 = .ok (.putfield 19, 3) := by decide +kernel
theorem dX7_add_39 : decode cX7_add 39 = .ok (.return_, 1) := by decide +kernel
theorem dX7_restart_0 : decode cX7_restart 0 = .ok (.aload_n 0, 1) := by decide +kernel
theorem dX7_restart_1 : decode cX7_restart 1 = .ok (.iconst 0, 1) := by decide +kernel
theorem dX7_restart_2 : decode cX7_restart 2 = .ok (.putfield 19, 3) := by decide +kernel
theorem dX7_restart_5 : decode cX7_restart 5 = .ok (.return_, 1) := by decide +kernel
theorem dX7_useAll_0 : decode cX7_useAll 0 = .ok (.aload_n 0, 1) := by decide +kernel
theorem dX7_useAll_1 : decode cX7_useAll 1 = .ok (.aload_n 0, 1) := by decide +kernel
theorem dX7_useAll_2 : decode cX7_useAll 2 = .ok (.getfield 13, 3) := by decide +kernel
theorem dX7_useAll_5 : decode cX7_useAll 5 = .ok (.arraylength, 1) := by decide +kernel
theorem dX7_useAll_6 : decode cX7_useAll 6 = .ok (.putfield 19, 3) := by decide +kernel
theorem dX7_useAll_9 : decode cX7_useAll 9 = .ok (.return_, 1) := by decide +kernel
theorem dX7_dropLast_0 : decode cX7_dropLast 0 = .ok (.aload_n 0, 1) := by decide +kernel
theorem dX7_dropLast_1 : decode cX7_dropLast 1 = .ok (.aload_n 0, 1) := by decide +kernel
theorem dX7_dropLast_2 : decode cX7_dropLast 2 = .ok (.getfield 19, 3) := by decide +kernel
theorem dX7_dropLast_5 : decode cX7_dropLast 5 = .ok (.iload_n 1, 1) := by decide +kernel
theorem dX7_dropLast_6 : decode cX7_dropLast 6 = .ok (.iconst 0, 1) := by decide +kernel
theorem dX7_dropLast_7 : decode cX7_dropLast 7 = .ok (.invokestatic 7, 3) := by decide +kernel
theorem dX7_dropLast_10 : decode cX7_dropLast 10 = .ok (.isub, 1) := by decide +kernel
theorem dX7_dropLast_11 : decode cX7_dropLast 11 = .ok (.iconst 0, 1) := by decide +kernel
theorem dX7_dropLast_12 : decode cX7_dropLast 12 = .ok (.invokestatic 7, 3) := by decide +kernel
