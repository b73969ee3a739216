theorem dX12_adds_87 : decode cX12_adds 87 = .ok (.iastore, 1) := by decide +kernel
theorem dX12_adds_88 : decode cX12_adds 88 = .ok (.return_, 1) := by decide +kernel
set_option maxRecDepth 20000 in
theorem ggX12_keeper_X12_in : GoodIn wsX12_keeper wsX12_in := goodIn_r _ [8] (by decide +kernel) (by decide +kernel)
set_option maxRecDepth 20000 in
theorem gX12_keeper_X12_in : GoodIn wsX12_keeper (va_wsS RX12 49 yX12_in wsX12_in) := goodIn_app (goodIn_of _ (by decide +kernel)) ggX12_keeper_X12_in
set_option maxRecDepth 20000 in
theorem ggX12_keeper_X12_bad : GoodIn wsX12_keeper wsX12_bad := goodIn_r _ [12, 13, 22, 23, 24, 25, 26, 27, 28, 29, 30, 31, 32, 33, 34, 35, 36, 37, 38, 39, 40, 41] (by decide +kernel) (by decide +kernel)
set_option maxRecDepth 20000 in
theorem gX12_keeper_X12_bad : GoodIn wsX12_keeper (wsV RX12 77 RX12 yX12_bad wsX12_bad) := goodIn_app (goodIn_of _ (by decide +kernel)) ggX12_keeper_X12_bad
set_option maxRecDepth 20000 in
theorem ggX12_keeper_X12_full : GoodIn wsX12_keeper wsX12_full := goodIn_r _ [17, 13, 22, 23, 24, 25, 26, 27, 28, 29, 30, 31, 32, 33, 34, 35, 36, 37, 38, 39, 40, 41] (by decide +kernel) (by decide +kernel)
set_option maxRecDepth 20000 in
theorem gX12_keeper_X12_full : GoodIn wsX12_keeper (wsV RX12 81 RX12 yX12_full wsX12_full) := goodIn_app (goodIn_of _ (by decide +kernel)) ggX12_keeper_X12_full
set_option maxRecDepth 20000 in
theorem ggX12_keeper_X12_adds : GoodIn wsX12_keeper wsX12_adds := goodIn_r _ [21, 4, 22, 23, 24, 25, 26, 27, 28, 29, 30, 31, 32, 33, 34, 35, 36, 37, 38, 39, 40, 41] (by decide +kernel) (by decide +kernel)
set_option maxRecDepth 20000 in
theorem gX12_keeper_X12_adds : GoodIn wsX12_keeper (wsV RX12 85 RX12 yX12_adds wsX12_adds) := goodIn_app (goodIn_of _ (by decide +kernel)) ggX12_keeper_X12_adds
theorem dX12_keeper_0 : decode cX12_keeper 0 = .ok (.iload_n 1, 1) := by decide +kernel
theorem dX12_keeper_1 : decode cX12_keeper 1 = .ok (.i2l, 1) := by decide +kernel
theorem dX12_keeper_2 : decode cX12_keeper 2 = .ok (.lconst 0, 1) := by decide +kernel
theorem dX12_keeper_3 : decode cX12_keeper 3 = .ok (.ldc2_w 71, 3) := by decide +kernel
theorem dX12_keeper_6 : decode cX12_keeper 6 = .ok (.invokestatic 49, 3) := by decide +kernel
theorem dX12_keeper_9 : decode cX12_keeper 9 = .ok (.ifCond .eq 27, 3) := by decide +kernel
theorem dX12_keeper_12 : decode cX12_keeper 12 = .ok (.iload_n 2, 1) := by decide +kernel
theorem dX12_keeper_13 : decode cX12_keeper 13 = .ok (.i2l, 1) := by decide +kernel
theorem dX12_keeper_14 : decode cX12_keeper 14 = .ok (.lconst 0, 1) := by decide +kernel
theorem dX12_keeper_15 : decode cX12_keeper 15 = .ok (.ldc2_w 73, 3) := by decide +kernel
theorem dX12_keeper_18 : decode cX12_keeper 18 = .ok (.invokestatic 49, 3) := by decide +kernel
theorem dX12_keeper_21 : decode cX12_keeper 21 = .ok (.ifCond .eq 15, 3) := by decide +kernel
theorem dX12_keeper_24 : decode cX12_keeper 24 = .ok (.iload_n 3, 1) := by decide +kernel
theorem dX12_keeper_25 : decode cX12_keeper 25 = .ok (.i2l, 1) := by decide +kernel
theorem dX12_keeper_26 : decode cX12_keeper 26 = .ok (.lconst 1, 1) := by decide +kernel
theorem dX12_keeper_27 : decode cX12_keeper 27 = .ok (.ldc2_w 75, 3) := by decide +kernel
theorem dX12_keeper_30 : decode cX12_keeper 30 = .ok (.invokestatic 49, 3) := by decide +kernel
theorem dX12_keeper_33 : decode cX12_keeper 33 = .ok (.ifCond .ne 10, 3) := by decide +kernel
theorem dX12_keeper_36 : decode cX12_keeper 36 = .ok (.aload_n 0, 1) := by decide +kernel
theorem dX12_keeper_37 : decode cX12_keeper 37 = .ok (.bipush (-2), 2) := by decide +kernel
theorem dX12_keeper_39 : decode cX12_keeper 39 = .ok (.invokevirtual 77, 3) := by decide +kernel
theorem dX12_keeper_42 : decode cX12_keeper 42 = .ok (.ireturn, 1) := by decide +kernel
theorem dX12_keeper_43 : decode cX12_keeper 43 = .ok (.aload_n 0, 1) := by decide +kernel
theorem dX12_keeper_44 : decode cX12_keeper 44 = .ok (.getfield 7, 3) := by decide +kernel
theorem dX12_keeper_47 : decode cX12_keeper 47 = .ok (.iconst 0, 1) := by decide +kernel
theorem dX12_keeper_48 : decode cX12_keeper 48 = .ok (.iaload, 1) := by decide +kernel
theorem dX12_keeper_49 : decode cX12_keeper 49 = .ok (.bipush 7, 2) := by decide +kernel
theorem dX12_keeper_51 : decode cX12_keeper 51 = .ok (.if_icmp .ne 8, 3) := by decide +kernel
theorem dX12_keeper_54 : decode cX12_keeper 54 = .ok (.aload_n 0, 1) := by decide +kernel
theorem dX12_keeper_55 : decode cX12_keeper 55 = .ok (.invokevirtual 81, 3) := by decide +kernel
theorem dX12_keeper_58 : decode cX12_keeper 58 = .ok (.ireturn, 1) := by decide +kernel
theorem dX12_keeper_59 : decode cX12_keeper 59 = .ok (.aload_n 0, 1) := by decide +kernel
theorem dX12_keeper_60 : decode cX12_keeper 60 = .ok (.iconst 0, 1) := by decide +kernel
theorem dX12_keeper_61 : decode cX12_keeper 61 = .ok (.iload_n 1, 1) := by decide +kernel
theorem dX12_keeper_62 : decode cX12_keeper 62 = .ok (.iload_n 2, 1) := by decide +kernel
theorem dX12_keeper_63 : decode cX12_keeper 63 = .ok (.iload_n 3, 1) := by decide +kernel
theorem dX12_keeper_64 : decode cX12_keeper 64 = .ok (.invokevirtual 85, 3) := by decide +kernel
theorem dX12_keeper_67 : decode cX12_keeper 67 = .ok (.aload_n 0, 1) := by decide +kernel
theorem dX12_keeper_68 : decode cX12_keeper 68 = .ok (.getfield 7, 3) := by decide +kernel
theorem dX12_keeper_71 : decode cX12_keeper 71 = .ok (.bipush 112, 2) := by decide +kernel
theorem dX12_keeper_73 : decode cX12_keeper 73 = .ok (.iconst 0, 1) := by decide +kernel
theorem dX12_keeper_74 : decode cX12_keeper 74 = .ok (.iastore, 1) := by decide +kernel
theorem dX12_keeper_75 : decode cX12_keeper 75 = .ok (.aload_n 0, 1) := by decide +kernel
theorem dX12_keeper_76 : decode cX12_keeper 76 = .ok (.getfield 7, 3) := by decide +kernel
theorem dX12_keeper_79 : decode cX12_keeper 79 = .ok (.iconst 0, 1) := by decide +kernel
theorem dX12_keeper_80 : decode cX12_keeper 80 = .ok (.iaload, 1) := by decide +kernel
theorem dX12_keeper_81 : decode cX12_keeper 81 = .ok (.iconst 1, 1) := by decide +kernel
theorem dX12_keeper_82 : decode cX12_keeper 82 = .ok (.isub, 1) := by decide +kernel
theorem dX12_keeper_83 : decode cX12_keeper 83 = .ok (.ireturn, 1) := by decide +kernel
set_option maxRecDepth 20000 in
theorem ggX12_held_X12_isKeeper : GoodIn wsX12_held wsX12_isKeeper := goodIn_r _ [7, 2, 8, 9, 6, 10, 16, 17, 18, 19, 20, 21, 22, 23, 24, 25, 26, 27, 28, 29, 30, 31, 32, 33, 34, 35] (by decide +kernel) (by decide +kernel)
set_option maxRecDepth 20000 in
theorem gX12_held_X12_isKeeper : GoodIn wsX12_held (wsV RX12 89 RX12 yX12_isKeeper wsX12_isKeeper) := goodIn_app (goodIn_of _ (by decide +kernel)) ggX12_held_X12_isKeeper
set_option maxRecDepth 20000 in
theorem ggX12_held_X12_in : GoodIn wsX12_held wsX12_in := goodIn_r _ [10] (by decide +kernel) (by decide +kernel)
set_option maxRecDepth 20000 in
theorem gX12_held_X12_in : GoodIn wsX12_held (va_wsS RX12 49 yX12_in wsX12_in) := goodIn_app (goodIn_of _ (by decide +kernel)) ggX12_held_X12_in
set_option maxRecDepth 20000 in
theorem ggX12_held_X12_bad : GoodIn wsX12_held wsX12_bad := goodIn_r _ [14, 15, 16, 17, 18, 19, 20, 21, 22, 23, 24, 25, 26, 27, 28, 29, 30, 31, 32, 33, 34, 35] (by decide +kernel) (by decide +kernel)
set_option maxRecDepth 20000 in
theorem gX12_held_X12_bad : GoodIn wsX12_held (wsV RX12 77 RX12 yX12_bad wsX12_bad) := goodIn_app (goodIn_of _ (by decide +kernel)) ggX12_held_X12_bad
theorem dX12_held_0 : decode cX12_held 0 = .ok (.aload_n 0, 1) := by decide +kernel
theorem dX12_held_1 : decode cX12_held 1 = .ok (.iload_n 1, 1) := by decide +kernel
theorem dX12_held_2 : decode cX12_held 2 = .ok (.invokevirtual 89, 3) := by decide +kernel
theorem dX12_held_5 : decode cX12_held 5 = .ok (.ifCond .eq 15, 3) := by decide +kernel
theorem dX12_held_8 : decode cX12_held 8 = .ok (.iload_n 2, 1) := by decide +kernel
theorem dX12_held_9 : decode cX12_held 9 = .ok (.i2l, 1) := by decide +kernel
theorem dX12_held_10 : decode cX12_held 10 = .ok (.lconst 1, 1) := by decide +kernel
theorem dX12_held_11 : decode cX12_held 11 = .ok (.ldc2_w 75, 3) := by decide +kernel
theorem dX12_held_14 : decode cX12_held 14 = .ok (.invokestatic 49, 3) := by decide +kernel
theorem dX12_held_17 : decode cX12_held 17 = .ok (.ifCond .ne 10, 3) := by decide +kernel
theorem dX12_held_20 : decode cX12_held 20 = .ok (.aload_n 0, 1) := by decide +kernel
theorem dX12_held_21 : decode cX12_held 21 = .ok (.bipush (-2), 2) := by decide +kernel
theorem dX12_held_23 : decode cX12_held 23 = .ok (.invokevirtual 77, 3) := by decide +kernel
theorem dX12_held_26 : decode cX12_held 26 = .ok (.ireturn, 1) := by decide +kernel
theorem dX12_held_27 : decode cX12_held 27 = .ok (.aload_n 0, 1) := by decide +kernel
theorem dX12_held_28 : decode cX12_held 28 = .ok (.getfield 7, 3) := by decide +kernel
theorem dX12_held_31 : decode cX12_held 31 = .ok (.bipush 25, 2) := by decide +kernel
theorem dX12_held_33 : decode cX12_held 33 = .ok (.iload_n 1, 1) := by decide +kernel
theorem dX12_held_34 : decode cX12_held 34 = .ok (.iadd, 1) := by decide +kernel
theorem dX12_held_35 : decode cX12_held 35 = .ok (.iaload, 1) := by decide +kernel
theorem dX12_held_36 : decode cX12_held 36 = .ok (.istore_n 3, 1) := by decide +kernel
theorem dX12_held_37 : decode cX12_held 37 = .ok (.aload_n 0, 1) := by decide +kernel
theorem dX12_held_38 : decode cX12_held 38 = .ok (.getfield 7, 3) := by decide +kernel
theorem dX12_held_41 : decode cX12_held 41 = .ok (.bipush 25, 2) := by decide +kernel
theorem dX12_held_43 : decode cX12_held 43 = .ok (.iload_n 1, 1) := by decide +kernel
theorem dX12_held_44 : decode cX12_held 44 = .ok (.iadd, 1) := by decide +kernel
theorem dX12_held_45 : decode cX12_held 45 = .ok (.iload_n 2, 1) := by decide +kernel
theorem dX12_held_46 : decode cX12_held 46 = .ok (.iastore, 1) := by decide +kernel
theorem dX12_held_47 : decode cX12_held 47 = .ok (.aload_n 0, 1) := by decide +kernel
theorem dX12_held_48 : decode cX12_held 48 = .ok (.getfield 7, 3) := by decide +kernel
theorem dX12_held_51 : decode cX12_held 51 = .ok (.bipush 112, 2) := by decide +kernel
theorem dX12_held_53 : decode cX12_held 53 = .ok (.iconst 0, 1) := by decide +kernel
theorem dX12_held_54 : decode cX12_held 54 = .ok (.iastore, 1) := by decide +kernel
theorem dX12_held_55 : decode cX12_held 55 = .ok (.iload_n 3, 1) := by decide +kernel
theorem dX12_held_56 : decode cX12_held 56 = .ok (.ireturn, 1) := by decide +kernel
set_option maxRecDepth 20000 in
theorem ggX12_balance_X12_in : GoodIn wsX12_balance wsX12_in := goodIn_r _ [6] (by decide +kernel) (by decide +kernel)
set_option maxRecDepth 20000 in
theorem gX12_balance_X12_in : GoodIn wsX12_balance (va_wsS RX12 49 yX12_in wsX12_in) := goodIn_app (goodIn_of _ (by decide +kernel)) ggX12_balance_X12_in
set_option maxRecDepth 20000 in
theorem ggX12_balance_X12_bad : GoodIn wsX12_balance wsX12_bad := goodIn_r _ [10, 11, 16, 17, 18, 19, 20, 21, 22, 23, 24, 25, 26, 27, 28, 29, 30, 31, 32, 33, 34, 35] (by decide +kernel) (by decide +kernel)
set_option maxRecDepth 20000 in
theorem gX12_balance_X12_bad : GoodIn wsX12_balance (wsV RX12 77 RX12 yX12_bad wsX12_bad) := goodIn_app (goodIn_of _ (by decide +kernel)) ggX12_balance_X12_bad
set_option maxRecDepth 20000 in
theorem ggX12_balance_X12_full : GoodIn wsX12_balance wsX12_full := goodIn_r _ [15, 11, 16, 17, 18, 19, 20, 21, 22, 23, 24, 25, 26, 27, 28, 29, 30, 31, 32, 33, 34, 35] (by decide +kernel) (by decide +kernel)
set_option maxRecDepth 20000 in
theorem gX12_balance_X12_full : GoodIn wsX12_balance (wsV RX12 81 RX12 yX12_full wsX12_full) := goodIn_app (goodIn_of _ (by decide +kernel)) ggX12_balance_X12_full
theorem dX12_balance_0 : decode cX12_balance 0 = .ok (.iload_n 1, 1) := by decide +kernel
theorem dX12_balance_1 : decode cX12_balance 1 = .ok (.i2l, 1) := by decide +kernel
theorem dX12_balance_2 : decode cX12_balance 2 = .ok (.lconst 0, 1) := by decide +kernel
theorem dX12_balance_3 : decode cX12_balance 3 = .ok (.ldc2_w 71, 3) := by decide +kernel
theorem dX12_balance_6 : decode cX12_balance 6 = .ok (.invokestatic 49, 3) := by decide +kernel
theorem dX12_balance_9 : decode cX12_balance 9 = .ok (.ifCond .ne 10, 3) := by decide +kernel
theorem dX12_balance_12 : decode cX12_balance 12 = .ok (.aload_n 0, 1) := by decide +kernel
theorem dX12_balance_13 : decode cX12_balance 13 = .ok (.bipush (-2), 2) := by decide +kernel
theorem dX12_balance_15 : decode cX12_balance 15 = .ok (.invokevirtual 77, 3) := by decide +kernel
theorem dX12_balance_18 : decode cX12_balance 18 = .ok (.ireturn, 1) := by decide +kernel
theorem dX12_balance_19 : decode cX12_balance 19 = .ok (.aload_n 0, 1) := by decide +kernel
theorem dX12_balance_20 : decode cX12_balance 20 = .ok (.getfield 7, 3) := by decide +kernel
theorem dX12_balance_23 : decode cX12_balance 23 = .ok (.iconst 1, 1) := by decide +kernel
theorem dX12_balance_24 : decode cX12_balance 24 = .ok (.iaload, 1) := by decide +kernel
theorem dX12_balance_25 : decode cX12_balance 25 = .ok (.iconst 4, 1) := by decide +kernel
theorem dX12_balance_26 : decode cX12_balance 26 = .ok (.if_icmp .ne 8, 3) := by decide +kernel
theorem dX12_balance_29 : decode cX12_balance 29 = .ok (.aload_n 0, 1) := by decide +kernel
theorem dX12_balance_30 : decode cX12_balance 30 = .ok (.invokevirtual 81, 3) := by decide +kernel
theorem dX12_balance_33 : decode cX12_balance 33 = .ok (.ireturn, 1) := by decide +kernel
theorem dX12_balance_34 : decode cX12_balance 34 = .ok (.aload_n 0, 1) := by decide +kernel
theorem dX12_balance_35 : decode cX12_balance 35 = .ok (.getfield 7, 3) := by decide +kernel
theorem dX12_balance_38 : decode cX12_balance 38 = .ok (.bipush 39, 2) := by decide +kernel
theorem dX12_balance_40 : decode cX12_balance 40 = .ok (.aload_n 0, 1) := by decide +kernel
theorem dX12_balance_41 : decode cX12_balance 41 = .ok (.getfield 7, 3) := by decide +kernel
theorem dX12_balance_44 : decode cX12_balance 44 = .ok (.iconst 1, 1) := by decide +kernel
theorem dX12_balance_45 : decode cX12_balance 45 = .ok (.iaload, 1) := by decide +kernel
theorem dX12_balance_46 : decode cX12_balance 46 = .ok (.iadd, 1) := by decide +kernel
theorem dX12_balance_47 : decode cX12_balance 47 = .ok (.iload_n 1, 1) := by decide +kernel
theorem dX12_balance_48 : decode cX12_balance 48 = .ok (.iastore, 1) := by decide +kernel
theorem dX12_balance_49 : decode cX12_balance 49 = .ok (.aload_n 0, 1) := by decide +kernel
theorem dX12_balance_50 : decode cX12_balance 50 = .ok (.getfield 7, 3) := by decide +kernel
theorem dX12_balance_53 : decode cX12_balance 53 = .ok (.iconst 1, 1) := by decide +kernel
theorem dX12_balance_54 : decode cX12_balance 54 = .ok (.dup2, 1) := by decide +kernel
theorem dX12_balance_55 : decode cX12_balance 55 = .ok (.iaload, 1) := by decide +kernel
theorem dX12_balance_56 : decode cX12_balance 56 = .ok (.iconst 1, 1) := by decide +kernel
theorem dX12_balance_57 : decode cX12_balance 57 = .ok (.iadd, 1) := by decide +kernel
theorem dX12_balance_58 : decode cX12_balance 58 = .ok (.iastore, 1) := by decide +kernel
theorem dX12_balance_59 : decode cX12_balance 59 = .ok (.aload_n 0, 1) := by decide +kernel
theorem dX12_balance_60 : decode cX12_balance 60 = .ok (.getfield 7, 3) := by decide +kernel
theorem dX12_balance_63 : decode cX12_balance 63 = .ok (.bipush 112, 2) := by decide +kernel
theorem dX12_balance_65 : decode cX12_balance 65 = .ok (.iconst 0, 1) := by decide +kernel
theorem dX12_balance_66 : decode cX12_balance 66 = .ok (.iastore, 1) := by decide +kernel
theorem dX12_balance_67 : decode cX12_balance 67 = .ok (.aload_n 0, 1) := by decide +kernel
theorem dX12_balance_68 : decode cX12_balance 68 = .ok (.getfield 7, 3) := by decide +kernel
theorem dX12_balance_71 : decode cX12_balance 71 = .ok (.iconst 1, 1) := by decide +kernel
theorem dX12_balance_72 : decode cX12_balance 72 = .ok (.iaload, 1) := by decide +kernel
theorem dX12_balance_73 : decode cX12_balance 73 = .ok (.iconst 1, 1) := by decide +kernel
theorem dX12_balance_74 : decode cX12_balance 74 = .ok (.isub, 1) := by decide +kernel
theorem dX12_balance_75 : decode cX12_balance 75 = .ok (.ireturn, 1) := by decide +kernel
set_option maxRecDepth 20000 in
theorem ggX12_type_X12_in : GoodIn wsX12_type wsX12_in := goodIn_r _ [7] (by decide +kernel) (by decide +kernel)
set_option maxRecDepth 20000 in
theorem gX12_type_X12_in : GoodIn wsX12_type (va_wsS RX12 49 yX12_in wsX12_in) := goodIn_app (goodIn_of _ (by decide +kernel)) ggX12_type_X12_in
set_option maxRecDepth 20000 in
theorem ggX12_type_X12_bad : GoodIn wsX12_type wsX12_bad := goodIn_r _ [11, 12, 17, 18, 19, 20, 21, 22, 23, 24, 25, 26, 27, 28, 29, 30, 31, 32, 33, 34, 35, 36] (by decide +kernel) (by decide +kernel)
set_option maxRecDepth 20000 in
theorem gX12_type_X12_bad : GoodIn wsX12_type (wsV RX12 77 RX12 yX12_bad wsX12_bad) := goodIn_app (goodIn_of _ (by decide +kernel)) ggX12_type_X12_bad
set_option maxRecDepth 20000 in
theorem ggX12_type_X12_full : GoodIn wsX12_type wsX12_full := goodIn_r _ [16, 12, 17, 18, 19, 20, 21, 22, 23, 24, 25, 26, 27, 28, 29, 30, 31, 32, 33, 34, 35, 36] (by decide +kernel) (by decide +kernel)
set_option maxRecDepth 20000 in
theorem gX12_type_X12_full : GoodIn wsX12_type (wsV RX12 81 RX12 yX12_full wsX12_full) := goodIn_app (goodIn_of _ (by decide +kernel)) ggX12_type_X12_full
theorem dX12_type_0 : decode cX12_type 0 = .ok (.iload_n 1, 1) := by decide +kernel
theorem dX12_type_1 : decode cX12_type 1 = .ok (.i2l, 1) := by decide +kernel
theorem dX12_type_2 : decode cX12_type 2 = .ok (.lconst 0, 1) := by decide +kernel
theorem dX12_type_3 : decode cX12_type 3 = .ok (.ldc2_w 93, 3) := by decide +kernel
theorem dX12_type_6 : decode cX12_type 6 = .ok (.invokestatic 49, 3) := by decide +kernel
theorem dX12_type_9 : decode cX12_type 9 = .ok (.ifCond .ne 10, 3) := by decide +kernel
theorem dX12_type_12 : decode cX12_type 12 = .ok (.aload_n 0, 1) := by decide +kernel
theorem dX12_type_13 : decode cX12_type 13 = .ok (.bipush (-2), 2) := by decide +kernel
theorem dX12_type_15 : decode cX12_type 15 = .ok (.invokevirtual 77, 3) := by decide +kernel
theorem dX12_type_18 : decode cX12_type 18 = .ok (.ireturn, 1) := by decide +kernel
theorem dX12_type_19 : decode cX12_type 19 = .ok (.aload_n 0, 1) := by decide +kernel
theorem dX12_type_20 : decode cX12_type 20 = .ok (.getfield 45, 3) := by decide +kernel
theorem dX12_type_23 : decode cX12_type 23 = .ok (.sipush 150, 3) := by decide +kernel
theorem dX12_type_26 : decode cX12_type 26 = .ok (.if_icmp .ne 8, 3) := by decide +kernel
theorem dX12_type_29 : decode cX12_type 29 = .ok (.aload_n 0, 1) := by decide +kernel
theorem dX12_type_30 : decode cX12_type 30 = .ok (.invokevirtual 81, 3) := by decide +kernel
theorem dX12_type_33 : decode cX12_type 33 = .ok (.ireturn, 1) := by decide +kernel
theorem dX12_type_34 : decode cX12_type 34 = .ok (.aload_n 0, 1) := by decide +kernel
theorem dX12_type_35 : decode cX12_type 35 = .ok (.getfield 17, 3) := by decide +kernel
theorem dX12_type_38 : decode cX12_type 38 = .ok (.aload_n 0, 1) := by decide +kernel
theorem dX12_type_39 : decode cX12_type 39 = .ok (.getfield 45, 3) := by decide +kernel
theorem dX12_type_42 : decode cX12_type 42 = .ok (.iload_n 1, 1) := by decide +kernel
theorem dX12_type_43 : decode cX12_type 43 = .ok (.iastore, 1) := by decide +kernel
theorem dX12_type_44 : decode cX12_type 44 = .ok (.aload_n 0, 1) := by decide +kernel
theorem dX12_type_45 : decode cX12_type 45 = .ok (.dup, 1) := by decide +kernel
theorem dX12_type_46 : decode cX12_type 46 = .ok (.getfield 45, 3) := by decide +kernel
theorem dX12_type_49 : decode cX12_type 49 = .ok (.iconst 1, 1) := by decide +kernel
theorem dX12_type_50 : decode cX12_type 50 = .ok (.iadd, 1) := by decide +kernel
theorem dX12_type_51 : decode cX12_type 51 = .ok (.putfield 45, 3) := by decide +kernel
theorem dX12_type_54 : decode cX12_type 54 = .ok (.aload_n 0, 1) := by decide +kernel
theorem dX12_type_55 : decode cX12_type 55 = .ok (.getfield 45, 3) := by decide +kernel
theorem dX12_type_58 : decode cX12_type 58 = .ok (.ireturn, 1) := by decide +kernel
theorem dX12_clear_0 : decode cX12_clear 0 = .ok (.aload_n 0, 1) := by decide +kernel
theorem dX12_clear_1 : decode cX12_clear 1 = .ok (.getfield 45, 3) := by decide +kernel
theorem dX12_clear_4 : decode cX12_clear 4 = .ok (.istore_n 1, 1) := by decide +kernel
theorem dX12_clear_5 : decode cX12_clear 5 = .ok (.aload_n 0, 1) := by decide +kernel
theorem dX12_clear_6 : decode cX12_clear 6 = .ok (.iconst 0, 1) := by decide +kernel
theorem dX12_clear_7 : decode cX12_clear 7 = .ok (.putfield 45, 3) := by decide +kernel
theorem dX12_clear_10 : decode cX12_clear 10 = .ok (.iload_n 1, 1) := by decide +kernel
theorem dX12_clear_11 : decode cX12_clear 11 = .ok (.ireturn, 1) := by decide +kernel
theorem dX12_byteAt_0 : decode cX12_byteAt 0 = .ok (.iload_n 1, 1) := by decide +kernel
theorem dX12_byteAt_1 : decode cX12_byteAt 1 = .ok (.aload_n 0, 1) := by decide +kernel
theorem dX12_byteAt_2 : decode cX12_byteAt 2 = .ok (.getfield 45, 3) := by decide +kernel
theorem dX12_byteAt_5 : decode cX12_byteAt 5 = .ok (.if_icmp .ge 12, 3) := by decide +kernel
theorem dX12_byteAt_8 : decode cX12_byteAt 8 = .ok (.aload_n 0, 1) := by decide +kernel
theorem dX12_byteAt_9 : decode cX12_byteAt 9 = .ok (.getfield 17, 3) := by decide +kernel
theorem dX12_byteAt_12 : decode cX12_byteAt 12 = .ok (.iload_n 1, 1) := by decide +kernel
theorem dX12_byteAt_13 : decode cX12_byteAt 13 = .ok (.iaload, 1) := by decide +kernel
theorem dX12_byteAt_14 : decode cX12_byteAt 14 = .ok (.goto 4, 3) := by decide +kernel
theorem dX12_byteAt_17 : decode cX12_byteAt 17 = .ok (.iconst (-1), 1) := by decide +kernel
theorem dX12_byteAt_18 : decode cX12_byteAt 18 = .ok (.ireturn, 1) := by decide +kernel
set_option maxRecDepth 20000 in
theorem ggX12_blanks_X12_byteAt : GoodIn wsX12_blanks wsX12_byteAt := goodIn_r _ [7, 8, 9, 10, 11, 12, 13, 14, 15, 16, 17, 18, 19, 20, 21, 22, 23, 24, 25, 26, 27, 28, 29] (by decide +kernel) (by decide +kernel)
set_option maxRecDepth 20000 in
theorem gX12_blanks_X12_byteAt : GoodIn wsX12_blanks (wsV RX12 98 RX12 yX12_byteAt wsX12_byteAt) := goodIn_app (goodIn_of _ (by decide +kernel)) ggX12_blanks_X12_byteAt
theorem dX12_blanks_0 : decode cX12_blanks 0 = .ok (.aload_n 0, 1) := by decide +kernel
theorem dX12_blanks_1 : decode cX12_blanks 1 = .ok (.aload_n 0, 1) := by decide +kernel
theorem dX12_blanks_2 : decode cX12_blanks 2 = .ok (.getfield 95, 3) := by decide +kernel
theorem dX12_blanks_5 : decode cX12_blanks 5 = .ok (.invokevirtual 98, 3) := by decide +kernel
theorem dX12_blanks_8 : decode cX12_blanks 8 = .ok (.bipush 32, 2) := by decide +kernel
theorem dX12_blanks_10 : decode cX12_blanks 10 = .ok (.if_icmp .ne 16, 3) := by decide +kernel
theorem dX12_blanks_13 : decode cX12_blanks 13 = .ok (.aload_n 0, 1) := by decide +kernel
theorem dX12_blanks_14 : decode cX12_blanks 14 = .ok (.dup, 1) := by decide +kernel
theorem dX12_blanks_15 : decode cX12_blanks 15 = .ok (.getfield 95, 3) := by decide +kernel
theorem dX12_blanks_18 : decode cX12_blanks 18 = .ok (.iconst 1, 1) := by decide +kernel
theorem dX12_blanks_19 : decode cX12_blanks 19 = .ok (.iadd, 1) := by decide +kernel
theorem dX12_blanks_20 : decode cX12_blanks 20 = .ok (.putfield 95, 3) := by decide +kernel
theorem dX12_blanks_23 : decode cX12_blanks 23 = .ok (.goto (-23), 3) := by decide +kernel
theorem dX12_blanks_26 : decode cX12_blanks 26 = .ok (.aload_n 0, 1) := by decide +kernel
theorem dX12_blanks_27 : decode cX12_blanks 27 = .ok (.aload_n 0, 1) := by decide +kernel
theorem dX12_blanks_28 : decode cX12_blanks 28 = .ok (.getfield 95, 3) := by decide +kernel
theorem dX12_blanks_31 : decode cX12_blanks 31 = .ok (.putfield 101, 3) := by decide +kernel
theorem dX12_blanks_34 : decode cX12_blanks 34 = .ok (.return_, 1) := by decide +kernel
set_option maxRecDepth 20000 in
theorem ggX12_takesWord_X12_blanks : GoodIn wsX12_takesWord wsX12_blanks := goodIn_r _ [8, 1, 9, 10, 11, 12, 7, 13, 14, 15, 19, 20, 21, 22, 23, 24, 25, 26, 27, 28, 29, 30, 31, 32, 33, 34, 35, 36, 37, 38] (by decide +kernel) (by decide +kernel)
set_option maxRecDepth 20000 in
theorem gX12_takesWord_X12_blanks : GoodIn wsX12_takesWord (wsV RX12 104 RX12 yX12_blanks wsX12_blanks) := goodIn_app (goodIn_of _ (by decide +kernel)) ggX12_takesWord_X12_blanks
set_option maxRecDepth 20000 in
theorem ggX12_takesWord_X12_byteAt : GoodIn wsX12_takesWord wsX12_byteAt := goodIn_r _ [13, 14, 15, 19, 20, 21, 22, 23, 24, 25, 26, 27, 28, 29, 30, 31, 32, 33, 34, 35, 36, 37, 38] (by decide +kernel) (by decide +kernel)
set_option maxRecDepth 20000 in
theorem gX12_takesWord_X12_byteAt : GoodIn wsX12_takesWord (wsV RX12 98 RX12 yX12_byteAt wsX12_byteAt) := goodIn_app (goodIn_of _ (by decide +kernel)) ggX12_takesWord_X12_byteAt
set_option maxRecDepth 20000 in
theorem ggX12_takesWord_X12_in : GoodIn wsX12_takesWord wsX12_in := goodIn_r _ [18] (by decide +kernel) (by decide +kernel)
set_option maxRecDepth 20000 in
theorem gX12_takesWord_X12_in : GoodIn wsX12_takesWord (va_wsS RX12 49 yX12_in wsX12_in) := goodIn_app (goodIn_of _ (by decide +kernel)) ggX12_takesWord_X12_in
theorem dX12_takesWord_0 : decode cX12_takesWord 0 = .ok (.aload_n 0, 1) := by decide +kernel
theorem dX12_takesWord_1 : decode cX12_takesWord 1 = .ok (.invokevirtual 104, 3) := by decide +kernel
theorem dX12_takesWord_4 : decode cX12_takesWord 4 = .ok (.aload_n 0, 1) := by decide +kernel
theorem dX12_takesWord_5 : decode cX12_takesWord 5 = .ok (.aload_n 0, 1) := by decide +kernel
theorem dX12_takesWord_6 : decode cX12_takesWord 6 = .ok (.getfield 95, 3) := by decide +kernel
theorem dX12_takesWord_9 : decode cX12_takesWord 9 = .ok (.invokevirtual 98, 3) := by decide +kernel
theorem dX12_takesWord_12 : decode cX12_takesWord 12 = .ok (.i2l, 1) := by decide +kernel
theorem dX12_takesWord_13 : decode cX12_takesWord 13 = .ok (.ldc2_w 107, 3) := by decide +kernel
theorem dX12_takesWord_16 : decode cX12_takesWord 16 = .ok (.ldc2_w 109, 3) := by decide +kernel
theorem dX12_takesWord_19 : decode cX12_takesWord 19 = .ok (.invokestatic 49, 3) := by decide +kernel
theorem dX12_takesWord_22 : decode cX12_takesWord 22 = .ok (.ifCond .eq 16, 3) := by decide +kernel
theorem dX12_takesWord_25 : decode cX12_takesWord 25 = .ok (.aload_n 0, 1) := by decide +kernel
theorem dX12_takesWord_26 : decode cX12_takesWord 26 = .ok (.dup, 1) := by decide +kernel
theorem dX12_takesWord_27 : decode cX12_takesWord 27 = .ok (.getfield 95, 3) := by decide +kernel
theorem dX12_takesWord_30 : decode cX12_takesWord 30 = .ok (.iconst 1, 1) := by decide +kernel
theorem dX12_takesWord_31 : decode cX12_takesWord 31 = .ok (.iadd, 1) := by decide +kernel
theorem dX12_takesWord_32 : decode cX12_takesWord 32 = .ok (.putfield 95, 3) := by decide +kernel
theorem dX12_takesWord_35 : decode cX12_takesWord 35 = .ok (.goto (-31), 3) := by decide +kernel
theorem dX12_takesWord_38 : decode cX12_takesWord 38 = .ok (.return_, 1) := by decide +kernel
set_option maxRecDepth 20000 in
theorem ggX12_isWord_X12_isLetter : GoodIn wsX12_isWord wsX12_isLetter := goodIn_r _ [7, 8, 2, 9, 10, 11, 12, 13, 14, 15, 16, 17, 18, 19, 20, 21, 22, 23, 24, 25, 26, 27, 28] (by decide +kernel) (by decide +kernel)
set_option maxRecDepth 20000 in
theorem gX12_isWord_X12_isLetter : GoodIn wsX12_isWord (wsV RX12 111 RX12 yX12_isLetter wsX12_isLetter) := goodIn_app (goodIn_of _ (by decide +kernel)) ggX12_isWord_X12_isLetter
theorem dX12_isWord_0 : decode cX12_isWord 0 = .ok (.aload_n 0, 1) := by decide +kernel
theorem dX12_isWord_1 : decode cX12_isWord 1 = .ok (.getfield 95, 3) := by decide +kernel
theorem dX12_isWord_4 : decode cX12_isWord 4 = .ok (.aload_n 0, 1) := by decide +kernel
theorem dX12_isWord_5 : decode cX12_isWord 5 = .ok (.getfield 101, 3) := by decide +kernel
theorem dX12_isWord_8 : decode cX12_isWord 8 = .ok (.isub, 1) := by decide +kernel
theorem dX12_isWord_9 : decode cX12_isWord 9 = .ok (.istore 8, 2) := by decide +kernel
theorem dX12_isWord_11 : decode cX12_isWord 11 = .ok (.aload_n 0, 1) := by decide +kernel
theorem dX12_isWord_12 : decode cX12_isWord 12 = .ok (.iconst 0, 1) := by decide +kernel
theorem dX12_isWord_13 : decode cX12_isWord 13 = .ok (.iload_n 1, 1) := by decide +kernel
theorem dX12_isWord_14 : decode cX12_isWord 14 = .ok (.iload 8, 2) := by decide +kernel
theorem dX12_isWord_16 : decode cX12_isWord 16 = .ok (.invokevirtual 111, 3) := by decide +kernel
theorem dX12_isWord_19 : decode cX12_isWord 19 = .ok (.ifCond .eq 85, 3) := by decide +kernel
theorem dX12_isWord_22 : decode cX12_isWord 22 = .ok (.aload_n 0, 1) := by decide +kernel
theorem dX12_isWord_23 : decode cX12_isWord 23 = .ok (.iconst 1, 1) := by decide +kernel
theorem dX12_isWord_24 : decode cX12_isWord 24 = .ok (.iload_n 2, 1) := by decide +kernel
theorem dX12_isWord_25 : decode cX12_isWord 25 = .ok (.iload 8, 2) := by decide +kernel
theorem dX12_isWord_27 : decode cX12_isWord 27 = .ok (.invokevirtual 111, 3) := by decide +kernel
theorem dX12_isWord_30 : decode cX12_isWord 30 = .ok (.ifCond .eq 74, 3) := by decide +kernel
theorem dX12_isWord_33 : decode cX12_isWord 33 = .ok (.aload_n 0, 1) := by decide +kernel
theorem dX12_isWord_34 : decode cX12_isWord 34 = .ok (.iconst 2, 1) := by decide +kernel
theorem dX12_isWord_35 : decode cX12_isWord 35 = .ok (.iload_n 3, 1) := by decide +kernel
theorem dX12_isWord_36 : decode cX12_isWord 36 = .ok (.iload 8, 2) := by decide +kernel
theorem dX12_isWord_38 : decode cX12_isWord 38 = .ok (.invokevirtual 111, 3) := by decide +kernel
theorem dX12_isWord_41 : decode cX12_isWord 41 = .ok (.ifCond .eq 63, 3) := by decide +kernel
theorem dX12_isWord_44 : decode cX12_isWord 44 = .ok (.aload_n 0, 1) := by decide +kernel
theorem dX12_isWord_45 : decode cX12_isWord 45 = .ok (.iconst 3, 1) := by decide +kernel
theorem dX12_isWord_46 : decode cX12_isWord 46 = .ok (.iload 4, 2) := by decide +kernel
theorem dX12_isWord_48 : decode cX12_isWord 48 = .ok (.iload 8, 2) := by decide +kernel
theorem dX12_isWord_50 : decode cX12_isWord 50 = .ok (.invokevirtual 111, 3) := by decide +kernel
theorem dX12_isWord_53 : decode cX12_isWord 53 = .ok (.ifCond .eq 51, 3) := by decide +kernel
theorem dX12_isWord_56 : decode cX12_isWord 56 = .ok (.aload_n 0, 1) := by decide +kernel
theorem dX12_isWord_57 : decode cX12_isWord 57 = .ok (.iconst 4, 1) := by decide +kernel
theorem dX12_isWord_58 : decode cX12_isWord 58 = .ok (.iload 5, 2) := by decide +kernel
theorem dX12_isWord_60 : decode cX12_isWord 60 = .ok (.iload 8, 2) := by decide +kernel
theorem dX12_isWord_62 : decode cX12_isWord 62 = .ok (.invokevirtual 111, 3) := by decide +kernel
theorem dX12_isWord_65 : decode cX12_isWord 65 = .ok (.ifCond .eq 39, 3) := by decide +kernel
theorem dX12_isWord_68 : decode cX12_isWord 68 = .ok (.aload_n 0, 1) := by decide +kernel
theorem dX12_isWord_69 : decode cX12_isWord 69 = .ok (.iconst 5, 1) := by decide +kernel
theorem dX12_isWord_70 : decode cX12_isWord 70 = .ok (.iload 6, 2) := by decide +kernel
theorem dX12_isWord_72 : decode cX12_isWord 72 = .ok (.iload 8, 2) := by decide +kernel
theorem dX12_isWord_74 : decode cX12_isWord 74 = .ok (.invokevirtual 111, 3) := by decide +kernel
theorem dX12_isWord_77 : decode cX12_isWord 77 = .ok (.ifCond .eq 27, 3) := by decide +kernel
theorem dX12_isWord_80 : decode cX12_isWord 80 = .ok (.aload_n 0, 1) := by decide +kernel
theorem dX12_isWord_81 : decode cX12_isWord 81 = .ok (.bipush 6, 2) := by decide +kernel
theorem dX12_isWord_83 : decode cX12_isWord 83 = .ok (.iload 7, 2) := by decide +kernel
theorem dX12_isWord_85 : decode cX12_isWord 85 = .ok (.iload 8, 2) := by decide +kernel
theorem dX12_isWord_87 : decode cX12_isWord 87 = .ok (.invokevirtual 111, 3) := by decide +kernel
theorem dX12_isWord_90 : decode cX12_isWord 90 = .ok (.ifCond .eq 14, 3) := by decide +kernel
theorem dX12_isWord_93 : decode cX12_isWord 93 = .ok (.iload 8, 2) := by decide +kernel
theorem dX12_isWord_95 : decode cX12_isWord 95 = .ok (.bipush 8, 2) := by decide +kernel
theorem dX12_isWord_97 : decode cX12_isWord 97 = .ok (.if_icmp .ge 7, 3) := by decide +kernel
theorem dX12_isWord_100 : decode cX12_isWord 100 = .ok (.iconst 1, 1) := by decide +kernel
theorem dX12_isWord_101 : decode cX12_isWord 101 = .ok (.goto 4, 3) := by decide +kernel
theorem dX12_isWord_104 : decode cX12_isWord 104 = .ok (.iconst 0, 1) := by decide +kernel
theorem dX12_isWord_105 : decode cX12_isWord 105 = .ok (.ireturn, 1) := by decide +kernel
theorem dX12_isLetter_0 : decode cX12_isLetter 0 = .ok (.iload_n 2, 1) := by decide +kernel
theorem dX12_isLetter_1 : decode cX12_isLetter 1 = .ok (.ifCond .ne 16, 3) := by decide +kernel
theorem dX12_isLetter_4 : decode cX12_isLetter 4 = .ok (.iload_n 3, 1) := by decide +kernel
theorem dX12_isLetter_5 : decode cX12_isLetter 5 = .ok (.iload_n 1, 1) := by decide +kernel
theorem dX12_isLetter_6 : decode cX12_isLetter 6 = .ok (.if_icmp .gt 7, 3) := by decide +kernel
theorem dX12_isLetter_9 : decode cX12_isLetter 9 = .ok (.iconst 1, 1) := by decide +kernel
theorem dX12_isLetter_10 : decode cX12_isLetter 10 = .ok (.goto 32, 3) := by decide +kernel
theorem dX12_isLetter_13 : decode cX12_isLetter 13 = .ok (.iconst 0, 1) := by decide +kernel
theorem dX12_isLetter_14 : decode cX12_isLetter 14 = .ok (.goto 28, 3) := by decide +kernel
theorem dX12_isLetter_17 : decode cX12_isLetter 17 = .ok (.iload_n 3, 1) := by decide +kernel
theorem dX12_isLetter_18 : decode cX12_isLetter 18 = .ok (.iload_n 1, 1) := by decide +kernel
theorem dX12_isLetter_19 : decode cX12_isLetter 19 = .ok (.if_icmp .le 22, 3) := by decide +kernel
theorem dX12_isLetter_22 : decode cX12_isLetter 22 = .ok (.aload_n 0, 1) := by decide +kernel
theorem dX12_isLetter_23 : decode cX12_isLetter 23 = .ok (.getfield 17, 3) := by decide +kernel
theorem dX12_isLetter_26 : decode cX12_isLetter 26 = .ok (.aload_n 0, 1) := by decide +kernel
theorem dX12_isLetter_27 : decode cX12_isLetter 27 = .ok (.getfield 101, 3) := by decide +kernel
theorem dX12_isLetter_30 : decode cX12_isLetter 30 = .ok (.iload_n 1, 1) := by decide +kernel
theorem dX12_isLetter_31 : decode cX12_isLetter 31 = .ok (.iadd, 1) := by decide +kernel
theorem dX12_isLetter_32 : decode cX12_isLetter 32 = .ok (.iaload, 1) := by decide +kernel
theorem dX12_isLetter_33 : decode cX12_isLetter 33 = .ok (.iload_n 2, 1) := by decide +kernel
theorem dX12_isLetter_34 : decode cX12_isLetter 34 = .ok (.if_icmp .ne 7, 3) := by decide +kernel
theorem dX12_isLetter_37 : decode cX12_isLetter 37 = .ok (.iconst 1, 1) := by decide +kernel
theorem dX12_isLetter_38 : decode cX12_isLetter 38 = .ok (.goto 4, 3) := by decide +kernel
theorem dX12_isLetter_41 : decode cX12_isLetter 41 = .ok (.iconst 0, 1) := by decide +kernel
theorem dX12_isLetter_42 : decode cX12_isLetter 42 = .ok (.ireturn, 1) := by decide +kernel
set_option maxRecDepth 20000 in
theorem ggX12_wordOf_X12_isWord : GoodIn wsX12_wordOf wsX12_isWord := goodIn_r _ [5, 6, 7, 8, 9, 10, 4, 11, 12, 13, 14, 15, 16, 17, 18, 19, 20, 21, 22, 23, 24, 25, 26, 27, 28, 29, 30, 31, 32] (by decide +kernel) (by decide +kernel)
set_option maxRecDepth 20000 in
theorem gX12_wordOf_X12_isWord : GoodIn wsX12_wordOf (wsV RX12 115 RX12 yX12_isWord wsX12_isWord) := goodIn_app (goodIn_of _ (by decide +kernel)) ggX12_wordOf_X12_isWord
theorem dX12_wordOf_0 : decode cX12_wordOf 0 = .ok (.aload_n 0, 1) := by decide +kernel
theorem dX12_wordOf_1 : decode cX12_wordOf 1 = .ok (.bipush 109, 2) := by decide +kernel
theorem dX12_wordOf_3 : decode cX12_wordOf 3 = .ok (.bipush 97, 2) := by decide +kernel
theorem dX12_wordOf_5 : decode cX12_wordOf 5 = .ok (.bipush 114, 2) := by decide +kernel
theorem dX12_wordOf_7 : decode cX12_wordOf 7 = .ok (.bipush 107, 2) := by decide +kernel
theorem dX12_wordOf_9 : decode cX12_wordOf 9 = .ok (.bipush 101, 2) := by decide +kernel
theorem dX12_wordOf_11 : decode cX12_wordOf 11 = .ok (.bipush 116, 2) := by decide +kernel
theorem dX12_wordOf_13 : decode cX12_wordOf 13 = .ok (.iconst 0, 1) := by decide +kernel
theorem dX12_wordOf_14 : decode cX12_wordOf 14 = .ok (.invokevirtual 115, 3) := by decide +kernel
theorem dX12_wordOf_17 : decode cX12_wordOf 17 = .ok (.ifCond .eq 7, 3) := by decide +kernel
theorem dX12_wordOf_20 : decode cX12_wordOf 20 = .ok (.iconst 1, 1) := by decide +kernel
theorem dX12_wordOf_21 : decode cX12_wordOf 21 = .ok (.goto 97, 3) := by decide +kernel
theorem dX12_wordOf_24 : decode cX12_wordOf 24 = .ok (.aload_n 0, 1) := by decide +kernel
theorem dX12_wordOf_25 : decode cX12_wordOf 25 = .ok (.bipush 107, 2) := by decide +kernel
theorem dX12_wordOf_27 : decode cX12_wordOf 27 = .ok (.bipush 101, 2) := by decide +kernel
theorem dX12_wordOf_29 : decode cX12_wordOf 29 = .ok (.bipush 101, 2) := by decide +kernel
theorem dX12_wordOf_31 : decode cX12_wordOf 31 = .ok (.bipush 112, 2) := by decide +kernel
theorem dX12_wordOf_33 : decode cX12_wordOf 33 = .ok (.bipush 101, 2) := by decide +kernel
theorem dX12_wordOf_35 : decode cX12_wordOf 35 = .ok (.bipush 114, 2) := by decide +kernel
theorem dX12_wordOf_37 : decode cX12_wordOf 37 = .ok (.iconst 0, 1) := by decide +kernel
theorem dX12_wordOf_38 : decode cX12_wordOf 38 = .ok (.invokevirtual 115, 3) := by decide +kernel
theorem dX12_wordOf_41 : decode cX12_wordOf 41 = .ok (.ifCond .eq 7, 3) := by decide +kernel
theorem dX12_wordOf_44 : decode cX12_wordOf 44 = .ok (.iconst 2, 1) := by decide +kernel
theorem dX12_wordOf_45 : decode cX12_wordOf 45 = .ok (.goto 73, 3) := by decide +kernel
theorem dX12_wordOf_48 : decode cX12_wordOf 48 = .ok (.aload_n 0, 1) := by decide +kernel
theorem dX12_wordOf_49 : decode cX12_wordOf 49 = .ok (.bipush 109, 2) := by decide +kernel
theorem dX12_wordOf_51 : decode cX12_wordOf 51 = .ok (.bipush 111, 2) := by decide +kernel
theorem dX12_wordOf_53 : decode cX12_wordOf 53 = .ok (.bipush 111, 2) := by decide +kernel
theorem dX12_wordOf_55 : decode cX12_wordOf 55 = .ok (.bipush 100, 2) := by decide +kernel
theorem dX12_wordOf_57 : decode cX12_wordOf 57 = .ok (.iconst 0, 1) := by decide +kernel
theorem dX12_wordOf_58 : decode cX12_wordOf 58 = .ok (.iconst 0, 1) := by decide +kernel
theorem dX12_wordOf_59 : decode cX12_wordOf 59 = .ok (.iconst 0, 1) := by decide +kernel
theorem dX12_wordOf_60 : decode cX12_wordOf 60 = .ok (.invokevirtual 115, 3) := by decide +kernel
theorem dX12_wordOf_63 : decode cX12_wordOf 63 = .ok (.ifCond .eq 7, 3) := by decide +kernel
theorem dX12_wordOf_66 : decode cX12_wordOf 66 = .ok (.iconst 3, 1) := by decide +kernel
theorem dX12_wordOf_67 : decode cX12_wordOf 67 = .ok (.goto 51, 3) := by decide +kernel
theorem dX12_wordOf_70 : decode cX12_wordOf 70 = .ok (.aload_n 0, 1) := by decide +kernel
theorem dX12_wordOf_71 : decode cX12_wordOf 71 = .ok (.bipush 98, 2) := by decide +kernel
theorem dX12_wordOf_73 : decode cX12_wordOf 73 = .ok (.bipush 97, 2) := by decide +kernel
theorem dX12_wordOf_75 : decode cX12_wordOf 75 = .ok (.bipush 108, 2) := by decide +kernel
theorem dX12_wordOf_77 : decode cX12_wordOf 77 = .ok (.bipush 97, 2) := by decide +kernel
theorem dX12_wordOf_79 : decode cX12_wordOf 79 = .ok (.bipush 110, 2) := by decide +kernel
theorem dX12_wordOf_81 : decode cX12_wordOf 81 = .ok (.bipush 99, 2) := by decide +kernel
theorem dX12_wordOf_83 : decode cX12_wordOf 83 = .ok (.bipush 101, 2) := by decide +kernel
theorem dX12_wordOf_85 : decode cX12_wordOf 85 = .ok (.invokevirtual 115, 3) := by decide +kernel
theorem dX12_wordOf_88 : decode cX12_wordOf 88 = .ok (.ifCond .eq 7, 3) := by decide +kernel
theorem dX12_wordOf_91 : decode cX12_wordOf 91 = .ok (.iconst 4, 1) := by decide +kernel
theorem dX12_wordOf_92 : decode cX12_wordOf 92 = .ok (.goto 26, 3) := by decide +kernel
theorem dX12_wordOf_95 : decode cX12_wordOf 95 = .ok (.aload_n 0, 1) := by decide +kernel
theorem dX12_wordOf_96 : decode cX12_wordOf 96 = .ok (.bipush 100, 2) := by decide +kernel
theorem dX12_wordOf_98 : decode cX12_wordOf 98 = .ok (.bipush 97, 2) := by decide +kernel
theorem dX12_wordOf_100 : decode cX12_wordOf 100 = .ok (.bipush 121, 2) := by decide +kernel
theorem dX12_wordOf_102 : decode cX12_wordOf 102 = .ok (.bipush 115, 2) := by decide +kernel
theorem dX12_wordOf_104 : decode cX12_wordOf 104 = .ok (.iconst 0, 1) := by decide +kernel
theorem dX12_wordOf_105 : decode cX12_wordOf 105 = .ok (.iconst 0, 1) := by decide +kernel
theorem dX12_wordOf_106 : decode cX12_wordOf 106 = .ok (.iconst 0, 1) := by decide +kernel
theorem dX12_wordOf_107 : decode cX12_wordOf 107 = .ok (.invokevirtual 115, 3) := by decide +kernel
theorem dX12_wordOf_110 : decode cX12_wordOf 110 = .ok (.ifCond .eq 7, 3) := by decide +kernel
theorem dX12_wordOf_113 : decode cX12_wordOf 113 = .ok (.iconst 5, 1) := by decide +kernel
theorem dX12_wordOf_114 : decode cX12_wordOf 114 = .ok (.goto 4, 3) := by decide +kernel
theorem dX12_wordOf_117 : decode cX12_wordOf 117 = .ok (.iconst 0, 1) := by decide +kernel
theorem dX12_wordOf_118 : decode cX12_wordOf 118 = .ok (.ireturn, 1) := by decide +kernel
set_option maxRecDepth 20000 in
theorem ggX12_takesNumber_X12_blanks : GoodIn wsX12_takesNumber wsX12_blanks := goodIn_r _ [11, 2, 5, 12, 13, 14, 10, 15, 16, 17, 21, 22, 23, 24, 25, 26, 27, 28, 29, 30, 31, 32, 33, 34, 35, 36, 37, 38, 39, 40] (by decide +kernel) (by decide +kernel)
set_option maxRecDepth 20000 in
theorem gX12_takesNumber_X12_blanks : GoodIn wsX12_takesNumber (wsV RX12 104 RX12 yX12_blanks wsX12_blanks) := goodIn_app (goodIn_of _ (by decide +kernel)) ggX12_takesNumber_X12_blanks
set_option maxRecDepth 20000 in
theorem ggX12_takesNumber_X12_byteAt : GoodIn wsX12_takesNumber wsX12_byteAt := goodIn_r _ [15, 16, 17, 21, 22, 23, 24, 25, 26, 27, 28, 29, 30, 31, 32, 33, 34, 35, 36, 37, 38, 39, 40] (by decide +kernel) (by decide +kernel)
set_option maxRecDepth 20000 in
theorem gX12_takesNumber_X12_byteAt : GoodIn wsX12_takesNumber (wsV RX12 98 RX12 yX12_byteAt wsX12_byteAt) := goodIn_app (goodIn_of _ (by decide +kernel)) ggX12_takesNumber_X12_byteAt
set_option maxRecDepth 20000 in
theorem ggX12_takesNumber_X12_in : GoodIn wsX12_takesNumber wsX12_in := goodIn_r _ [20] (by decide +kernel) (by decide +kernel)
set_option maxRecDepth 20000 in
theorem gX12_takesNumber_X12_in : GoodIn wsX12_takesNumber (va_wsS RX12 49 yX12_in wsX12_in) := goodIn_app (goodIn_of _ (by decide +kernel)) ggX12_takesNumber_X12_in
theorem dX12_takesNumber_0 : decode cX12_takesNumber 0 = .ok (.aload_n 0, 1) := by decide +kernel
theorem dX12_takesNumber_1 : decode cX12_takesNumber 1 = .ok (.invokevirtual 104, 3) := by decide +kernel
theorem dX12_takesNumber_4 : decode cX12_takesNumber 4 = .ok (.aload_n 0, 1) := by decide +kernel
theorem dX12_takesNumber_5 : decode cX12_takesNumber 5 = .ok (.iconst 0, 1) := by decide +kernel
theorem dX12_takesNumber_6 : decode cX12_takesNumber 6 = .ok (.putfield 119, 3) := by decide +kernel
theorem dX12_takesNumber_9 : decode cX12_takesNumber 9 = .ok (.aload_n 0, 1) := by decide +kernel
theorem dX12_takesNumber_10 : decode cX12_takesNumber 10 = .ok (.aload_n 0, 1) := by decide +kernel
theorem dX12_takesNumber_11 : decode cX12_takesNumber 11 = .ok (.getfield 95, 3) := by decide +kernel
theorem dX12_takesNumber_14 : decode cX12_takesNumber 14 = .ok (.invokevirtual 98, 3) := by decide +kernel
theorem dX12_takesNumber_17 : decode cX12_takesNumber 17 = .ok (.i2l, 1) := by decide +kernel
theorem dX12_takesNumber_18 : decode cX12_takesNumber 18 = .ok (.ldc2_w 122, 3) := by decide +kernel
theorem dX12_takesNumber_21 : decode cX12_takesNumber 21 = .ok (.ldc2_w 124, 3) := by decide +kernel
theorem dX12_takesNumber_24 : decode cX12_takesNumber 24 = .ok (.invokestatic 49, 3) := by decide +kernel
theorem dX12_takesNumber_27 : decode cX12_takesNumber 27 = .ok (.ifCond .eq 59, 3) := by decide +kernel
theorem dX12_takesNumber_30 : decode cX12_takesNumber 30 = .ok (.aload_n 0, 1) := by decide +kernel
theorem dX12_takesNumber_31 : decode cX12_takesNumber 31 = .ok (.aload_n 0, 1) := by decide +kernel
theorem dX12_takesNumber_32 : decode cX12_takesNumber 32 = .ok (.getfield 95, 3) := by decide +kernel
theorem dX12_takesNumber_35 : decode cX12_takesNumber 35 = .ok (.aload_n 0, 1) := by decide +kernel
theorem dX12_takesNumber_36 : decode cX12_takesNumber 36 = .ok (.getfield 101, 3) := by decide +kernel
theorem dX12_takesNumber_39 : decode cX12_takesNumber 39 = .ok (.isub, 1) := by decide +kernel
theorem dX12_takesNumber_40 : decode cX12_takesNumber 40 = .ok (.iconst 2, 1) := by decide +kernel
theorem dX12_takesNumber_41 : decode cX12_takesNumber 41 = .ok (.if_icmp .ge 25, 3) := by decide +kernel
theorem dX12_takesNumber_44 : decode cX12_takesNumber 44 = .ok (.bipush 10, 2) := by decide +kernel
theorem dX12_takesNumber_46 : decode cX12_takesNumber 46 = .ok (.aload_n 0, 1) := by decide +kernel
theorem dX12_takesNumber_47 : decode cX12_takesNumber 47 = .ok (.getfield 119, 3) := by decide +kernel
theorem dX12_takesNumber_50 : decode cX12_takesNumber 50 = .ok (.imul, 1) := by decide +kernel
theorem dX12_takesNumber_51 : decode cX12_takesNumber 51 = .ok (.aload_n 0, 1) := by decide +kernel
theorem dX12_takesNumber_52 : decode cX12_takesNumber 52 = .ok (.aload_n 0, 1) := by decide +kernel
theorem dX12_takesNumber_53 : decode cX12_takesNumber 53 = .ok (.getfield 95, 3) := by decide +kernel
theorem dX12_takesNumber_56 : decode cX12_takesNumber 56 = .ok (.invokevirtual 98, 3) := by decide +kernel
theorem dX12_takesNumber_59 : decode cX12_takesNumber 59 = .ok (.iadd, 1) := by decide +kernel
theorem dX12_takesNumber_60 : decode cX12_takesNumber 60 = .ok (.bipush 48, 2) := by decide +kernel
theorem dX12_takesNumber_62 : decode cX12_takesNumber 62 = .ok (.isub, 1) := by decide +kernel
theorem dX12_takesNumber_63 : decode cX12_takesNumber 63 = .ok (.goto 7, 3) := by decide +kernel
theorem dX12_takesNumber_66 : decode cX12_takesNumber 66 = .ok (.aload_n 0, 1) := by decide +kernel
theorem dX12_takesNumber_67 : decode cX12_takesNumber 67 = .ok (.getfield 119, 3) := by decide +kernel
theorem dX12_takesNumber_70 : decode cX12_takesNumber 70 = .ok (.putfield 119, 3) := by decide +kernel
theorem dX12_takesNumber_73 : decode cX12_takesNumber 73 = .ok (.aload_n 0, 1) := by decide +kernel
theorem dX12_takesNumber_74 : decode cX12_takesNumber 74 = .ok (.dup, 1) := by decide +kernel
theorem dX12_takesNumber_75 : decode cX12_takesNumber 75 = .ok (.getfield 95, 3) := by decide +kernel
theorem dX12_takesNumber_78 : decode cX12_takesNumber 78 = .ok (.iconst 1, 1) := by decide +kernel
theorem dX12_takesNumber_79 : decode cX12_takesNumber 79 = .ok (.iadd, 1) := by decide +kernel
theorem dX12_takesNumber_80 : decode cX12_takesNumber 80 = .ok (.putfield 95, 3) := by decide +kernel
theorem dX12_takesNumber_83 : decode cX12_takesNumber 83 = .ok (.goto (-74), 3) := by decide +kernel
theorem dX12_takesNumber_86 : decode cX12_takesNumber 86 = .ok (.aload_n 0, 1) := by decide +kernel
theorem dX12_takesNumber_87 : decode cX12_takesNumber 87 = .ok (.getfield 95, 3) := by decide +kernel
theorem dX12_takesNumber_90 : decode cX12_takesNumber 90 = .ok (.aload_n 0, 1) := by decide +kernel
theorem dX12_takesNumber_91 : decode cX12_takesNumber 91 = .ok (.getfield 101, 3) := by decide +kernel
theorem dX12_takesNumber_94 : decode cX12_takesNumber 94 = .ok (.isub, 1) := by decide +kernel
theorem dX12_takesNumber_95 : decode cX12_takesNumber 95 = .ok (.i2l, 1) := by decide +kernel
theorem dX12_takesNumber_96 : decode cX12_takesNumber 96 = .ok (.lconst 1, 1) := by decide +kernel
theorem dX12_takesNumber_97 : decode cX12_takesNumber 97 = .ok (.ldc2_w 59, 3) := by decide +kernel
theorem dX12_takesNumber_100 : decode cX12_takesNumber 100 = .ok (.invokestatic 49, 3) := by decide +kernel
theorem dX12_takesNumber_103 : decode cX12_takesNumber 103 = .ok (.ifCond .eq 22, 3) := by decide +kernel
theorem dX12_takesNumber_106 : decode cX12_takesNumber 106 = .ok (.aload_n 0, 1) := by decide +kernel
theorem dX12_takesNumber_107 : decode cX12_takesNumber 107 = .ok (.getfield 119, 3) := by decide +kernel
theorem dX12_takesNumber_110 : decode cX12_takesNumber 110 = .ok (.i2l, 1) := by decide +kernel
theorem dX12_takesNumber_111 : decode cX12_takesNumber 111 = .ok (.iload_n 1, 1) := by decide +kernel
theorem dX12_takesNumber_112 : decode cX12_takesNumber 112 = .ok (.i2l, 1) := by decide +kernel
theorem dX12_takesNumber_113 : decode cX12_takesNumber 113 = .ok (.iload_n 2, 1) := by decide +kernel
theorem dX12_takesNumber_114 : decode cX12_takesNumber 114 = .ok (.i2l, 1) := by decide +kernel
theorem dX12_takesNumber_115 : decode cX12_takesNumber 115 = .ok (.invokestatic 49, 3) := by decide +kernel
theorem dX12_takesNumber_118 : decode cX12_takesNumber 118 = .ok (.ifCond .eq 7, 3) := by decide +kernel
theorem dX12_takesNumber_121 : decode cX12_takesNumber 121 = .ok (.iconst 1, 1) := by decide +kernel
theorem dX12_takesNumber_122 : decode cX12_takesNumber 122 = .ok (.goto 4, 3) := by decide +kernel
theorem dX12_takesNumber_125 : decode cX12_takesNumber 125 = .ok (.iconst 0, 1) := by decide +kernel
theorem dX12_takesNumber_126 : decode cX12_takesNumber 126 = .ok (.ireturn, 1) := by decide +kernel
set_option maxRecDepth 20000 in
theorem ggX12_takesEnd_X12_blanks : GoodIn wsX12_takesEnd wsX12_blanks := goodIn_r _ [7, 1, 2, 8, 9, 10, 6, 11, 12, 13, 14, 15, 16, 17, 18, 19, 20, 21, 22, 23, 24, 25, 26, 27, 28, 29, 30, 31, 32, 33] (by decide +kernel) (by decide +kernel)
set_option maxRecDepth 20000 in
theorem gX12_takesEnd_X12_blanks : GoodIn wsX12_takesEnd (wsV RX12 104 RX12 yX12_blanks wsX12_blanks) := goodIn_app (goodIn_of _ (by decide +kernel)) ggX12_takesEnd_X12_blanks
set_option maxRecDepth 20000 in
theorem ggX12_takesEnd_X12_byteAt : GoodIn wsX12_takesEnd wsX12_byteAt := goodIn_r _ [11, 12, 13, 14, 15, 16, 17, 18, 19, 20, 21, 22, 23, 24, 25, 26, 27, 28, 29, 30, 31, 32, 33] (by decide +kernel) (by decide +kernel)
set_option maxRecDepth 20000 in
theorem gX12_takesEnd_X12_byteAt : GoodIn wsX12_takesEnd (wsV RX12 98 RX12 yX12_byteAt wsX12_byteAt) := goodIn_app (goodIn_of _ (by decide +kernel)) ggX12_takesEnd_X12_byteAt
theorem dX12_takesEnd_0 : decode cX12_takesEnd 0 = .ok (.aload_n 0, 1) := by decide +kernel
theorem dX12_takesEnd_1 : decode cX12_takesEnd 1 = .ok (.invokevirtual 104, 3) := by decide +kernel
theorem dX12_takesEnd_4 : decode cX12_takesEnd 4 = .ok (.aload_n 0, 1) := by decide +kernel
theorem dX12_takesEnd_5 : decode cX12_takesEnd 5 = .ok (.dup, 1) := by decide +kernel
theorem dX12_takesEnd_6 : decode cX12_takesEnd 6 = .ok (.getfield 95, 3) := by decide +kernel
theorem dX12_takesEnd_9 : decode cX12_takesEnd 9 = .ok (.iconst 1, 1) := by decide +kernel
theorem dX12_takesEnd_10 : decode cX12_takesEnd 10 = .ok (.iadd, 1) := by decide +kernel
theorem dX12_takesEnd_11 : decode cX12_takesEnd 11 = .ok (.putfield 95, 3) := by decide +kernel
theorem dX12_takesEnd_14 : decode cX12_takesEnd 14 = .ok (.aload_n 0, 1) := by decide +kernel
theorem dX12_takesEnd_15 : decode cX12_takesEnd 15 = .ok (.aload_n 0, 1) := by decide +kernel
theorem dX12_takesEnd_16 : decode cX12_takesEnd 16 = .ok (.getfield 101, 3) := by decide +kernel
theorem dX12_takesEnd_19 : decode cX12_takesEnd 19 = .ok (.invokevirtual 98, 3) := by decide +kernel
theorem dX12_takesEnd_22 : decode cX12_takesEnd 22 = .ok (.bipush 59, 2) := by decide +kernel
theorem dX12_takesEnd_24 : decode cX12_takesEnd 24 = .ok (.if_icmp .ne 7, 3) := by decide +kernel
theorem dX12_takesEnd_27 : decode cX12_takesEnd 27 = .ok (.iconst 1, 1) := by decide +kernel
theorem dX12_takesEnd_28 : decode cX12_takesEnd 28 = .ok (.goto 4, 3) := by decide +kernel
theorem dX12_takesEnd_31 : decode cX12_takesEnd 31 = .ok (.iconst 0, 1) := by decide +kernel
theorem dX12_takesEnd_32 : decode cX12_takesEnd 32 = .ok (.ireturn, 1) := by decide +kernel
set_option maxRecDepth 20000 in
theorem ggX12_readsKeeper_X12_takesNumber : GoodIn wsX12_readsKeeper wsX12_takesNumber := goodIn_r _ [7, 2, 8, 9, 10, 11, 12, 13, 14, 15, 6, 16, 17, 18, 19, 20, 21, 22, 23, 24, 25, 30, 31, 32, 33, 34, 35, 36, 37, 38, 39, 40, 41, 42, 43, 44, 45, 46, 47, 48, 49] (by decide +kernel) (by decide +kernel)
set_option maxRecDepth 20000 in
theorem gX12_readsKeeper_X12_takesNumber : GoodIn wsX12_readsKeeper (wsV RX12 126 RX12 yX12_takesNumber wsX12_takesNumber) := goodIn_app (goodIn_of _ (by decide +kernel)) ggX12_readsKeeper_X12_takesNumber
set_option maxRecDepth 20000 in
theorem ggX12_readsKeeper_X12_adds : GoodIn wsX12_readsKeeper wsX12_adds := goodIn_r _ [29, 1, 30, 31, 32, 33, 34, 35, 36, 37, 38, 39, 40, 41, 42, 43, 44, 45, 46, 47, 48, 49] (by decide +kernel) (by decide +kernel)
set_option maxRecDepth 20000 in
theorem gX12_readsKeeper_X12_adds : GoodIn wsX12_readsKeeper (wsV RX12 85 RX12 yX12_adds wsX12_adds) := goodIn_app (goodIn_of _ (by decide +kernel)) ggX12_readsKeeper_X12_adds
theorem dX12_readsKeeper_0 : decode cX12_readsKeeper 0 = .ok (.aload_n 0, 1) := by decide +kernel
theorem dX12_readsKeeper_1 : decode cX12_readsKeeper 1 = .ok (.getfield 7, 3) := by decide +kernel
theorem dX12_readsKeeper_4 : decode cX12_readsKeeper 4 = .ok (.sipush 723, 3) := by decide +kernel
theorem dX12_readsKeeper_7 : decode cX12_readsKeeper 7 = .ok (.iaload, 1) := by decide +kernel
theorem dX12_readsKeeper_8 : decode cX12_readsKeeper 8 = .ok (.bipush 7, 2) := by decide +kernel
theorem dX12_readsKeeper_10 : decode cX12_readsKeeper 10 = .ok (.if_icmp .eq 12, 3) := by decide +kernel
theorem dX12_readsKeeper_13 : decode cX12_readsKeeper 13 = .ok (.aload_n 0, 1) := by decide +kernel
theorem dX12_readsKeeper_14 : decode cX12_readsKeeper 14 = .ok (.iconst 0, 1) := by decide +kernel
theorem dX12_readsKeeper_15 : decode cX12_readsKeeper 15 = .ok (.iconst 5, 1) := by decide +kernel
theorem dX12_readsKeeper_16 : decode cX12_readsKeeper 16 = .ok (.invokevirtual 126, 3) := by decide +kernel
theorem dX12_readsKeeper_19 : decode cX12_readsKeeper 19 = .ok (.ifCond .ne 5, 3) := by decide +kernel
theorem dX12_readsKeeper_22 : decode cX12_readsKeeper 22 = .ok (.iconst 0, 1) := by decide +kernel
theorem dX12_readsKeeper_23 : decode cX12_readsKeeper 23 = .ok (.ireturn, 1) := by decide +kernel
theorem dX12_readsKeeper_24 : decode cX12_readsKeeper 24 = .ok (.aload_n 0, 1) := by decide +kernel
theorem dX12_readsKeeper_25 : decode cX12_readsKeeper 25 = .ok (.getfield 119, 3) := by decide +kernel
theorem dX12_readsKeeper_28 : decode cX12_readsKeeper 28 = .ok (.istore_n 1, 1) := by decide +kernel
theorem dX12_readsKeeper_29 : decode cX12_readsKeeper 29 = .ok (.aload_n 0, 1) := by decide +kernel
theorem dX12_readsKeeper_30 : decode cX12_readsKeeper 30 = .ok (.iconst 0, 1) := by decide +kernel
theorem dX12_readsKeeper_31 : decode cX12_readsKeeper 31 = .ok (.bipush 11, 2) := by decide +kernel
theorem dX12_readsKeeper_33 : decode cX12_readsKeeper 33 = .ok (.invokevirtual 126, 3) := by decide +kernel
theorem dX12_readsKeeper_36 : decode cX12_readsKeeper 36 = .ok (.ifCond .ne 5, 3) := by decide +kernel
theorem dX12_readsKeeper_39 : decode cX12_readsKeeper 39 = .ok (.iconst 0, 1) := by decide +kernel
theorem dX12_readsKeeper_40 : decode cX12_readsKeeper 40 = .ok (.ireturn, 1) := by decide +kernel
theorem dX12_readsKeeper_41 : decode cX12_readsKeeper 41 = .ok (.aload_n 0, 1) := by decide +kernel
theorem dX12_readsKeeper_42 : decode cX12_readsKeeper 42 = .ok (.getfield 119, 3) := by decide +kernel
theorem dX12_readsKeeper_45 : decode cX12_readsKeeper 45 = .ok (.istore_n 2, 1) := by decide +kernel
theorem dX12_readsKeeper_46 : decode cX12_readsKeeper 46 = .ok (.aload_n 0, 1) := by decide +kernel
theorem dX12_readsKeeper_47 : decode cX12_readsKeeper 47 = .ok (.iconst 1, 1) := by decide +kernel
theorem dX12_readsKeeper_48 : decode cX12_readsKeeper 48 = .ok (.bipush 99, 2) := by decide +kernel
theorem dX12_readsKeeper_50 : decode cX12_readsKeeper 50 = .ok (.invokevirtual 126, 3) := by decide +kernel
theorem dX12_readsKeeper_53 : decode cX12_readsKeeper 53 = .ok (.ifCond .ne 5, 3) := by decide +kernel
theorem dX12_readsKeeper_56 : decode cX12_readsKeeper 56 = .ok (.iconst 0, 1) := by decide +kernel
theorem dX12_readsKeeper_57 : decode cX12_readsKeeper 57 = .ok (.ireturn, 1) := by decide +kernel
theorem dX12_readsKeeper_58 : decode cX12_readsKeeper 58 = .ok (.aload_n 0, 1) := by decide +kernel
theorem dX12_readsKeeper_59 : decode cX12_readsKeeper 59 = .ok (.sipush 723, 3) := by decide +kernel
theorem dX12_readsKeeper_62 : decode cX12_readsKeeper 62 = .ok (.iload_n 1, 1) := by decide +kernel
theorem dX12_readsKeeper_63 : decode cX12_readsKeeper 63 = .ok (.iload_n 2, 1) := by decide +kernel
theorem dX12_readsKeeper_64 : decode cX12_readsKeeper 64 = .ok (.aload_n 0, 1) := by decide +kernel
theorem dX12_readsKeeper_65 : decode cX12_readsKeeper 65 = .ok (.getfield 119, 3) := by decide +kernel
theorem dX12_readsKeeper_68 : decode cX12_readsKeeper 68 = .ok (.invokevirtual 85, 3) := by decide +kernel
theorem dX12_readsKeeper_71 : decode cX12_readsKeeper 71 = .ok (.iconst 1, 1) := by decide +kernel
theorem dX12_readsKeeper_72 : decode cX12_readsKeeper 72 = .ok (.ireturn, 1) := by decide +kernel
set_option maxRecDepth 20000 in
theorem ggX12_readsMood_X12_takesNumber : GoodIn wsX12_readsMood wsX12_takesNumber := goodIn_r _ [7, 2, 8, 9, 10, 11, 12, 13, 14, 15, 6, 16, 17, 18, 19, 20, 21, 22, 23, 24, 25, 26, 27, 28, 29, 30, 31, 32, 33, 34, 35, 36, 37, 38, 39, 40, 41, 42, 43, 44, 45] (by decide +kernel) (by decide +kernel)
set_option maxRecDepth 20000 in
theorem gX12_readsMood_X12_takesNumber : GoodIn wsX12_readsMood (wsV RX12 126 RX12 yX12_takesNumber wsX12_takesNumber) := goodIn_app (goodIn_of _ (by decide +kernel)) ggX12_readsMood_X12_takesNumber
theorem dX12_readsMood_0 : decode cX12_readsMood 0 = .ok (.aload_n 0, 1) := by decide +kernel
theorem dX12_readsMood_1 : decode cX12_readsMood 1 = .ok (.iconst 0, 1) := by decide +kernel
theorem dX12_readsMood_2 : decode cX12_readsMood 2 = .ok (.aload_n 0, 1) := by decide +kernel
theorem dX12_readsMood_3 : decode cX12_readsMood 3 = .ok (.getfield 7, 3) := by decide +kernel
theorem dX12_readsMood_6 : decode cX12_readsMood 6 = .ok (.sipush 723, 3) := by decide +kernel
theorem dX12_readsMood_9 : decode cX12_readsMood 9 = .ok (.iaload, 1) := by decide +kernel
theorem dX12_readsMood_10 : decode cX12_readsMood 10 = .ok (.iconst 1, 1) := by decide +kernel
theorem dX12_readsMood_11 : decode cX12_readsMood 11 = .ok (.isub, 1) := by decide +kernel
theorem dX12_readsMood_12 : decode cX12_readsMood 12 = .ok (.invokevirtual 126, 3) := by decide +kernel
theorem dX12_readsMood_15 : decode cX12_readsMood 15 = .ok (.ifCond .ne 5, 3) := by decide +kernel
theorem dX12_readsMood_18 : decode cX12_readsMood 18 = .ok (.iconst 0, 1) := by decide +kernel
theorem dX12_readsMood_19 : decode cX12_readsMood 19 = .ok (.ireturn, 1) := by decide +kernel
theorem dX12_readsMood_20 : decode cX12_readsMood 20 = .ok (.aload_n 0, 1) := by decide +kernel
theorem dX12_readsMood_21 : decode cX12_readsMood 21 = .ok (.getfield 119, 3) := by decide +kernel
theorem dX12_readsMood_24 : decode cX12_readsMood 24 = .ok (.istore_n 1, 1) := by decide +kernel
theorem dX12_readsMood_25 : decode cX12_readsMood 25 = .ok (.aload_n 0, 1) := by decide +kernel
theorem dX12_readsMood_26 : decode cX12_readsMood 26 = .ok (.iconst 0, 1) := by decide +kernel
theorem dX12_readsMood_27 : decode cX12_readsMood 27 = .ok (.bipush 9, 2) := by decide +kernel
theorem dX12_readsMood_29 : decode cX12_readsMood 29 = .ok (.invokevirtual 126, 3) := by decide +kernel
theorem dX12_readsMood_32 : decode cX12_readsMood 32 = .ok (.ifCond .ne 5, 3) := by decide +kernel
theorem dX12_readsMood_35 : decode cX12_readsMood 35 = .ok (.iconst 0, 1) := by decide +kernel
theorem dX12_readsMood_36 : decode cX12_readsMood 36 = .ok (.ireturn, 1) := by decide +kernel
theorem dX12_readsMood_37 : decode cX12_readsMood 37 = .ok (.aload_n 0, 1) := by decide +kernel
theorem dX12_readsMood_38 : decode cX12_readsMood 38 = .ok (.getfield 7, 3) := by decide +kernel
theorem dX12_readsMood_41 : decode cX12_readsMood 41 = .ok (.sipush 755, 3) := by decide +kernel
theorem dX12_readsMood_44 : decode cX12_readsMood 44 = .ok (.iload_n 1, 1) := by decide +kernel
theorem dX12_readsMood_45 : decode cX12_readsMood 45 = .ok (.iadd, 1) := by decide +kernel
theorem dX12_readsMood_46 : decode cX12_readsMood 46 = .ok (.aload_n 0, 1) := by decide +kernel
theorem dX12_readsMood_47 : decode cX12_readsMood 47 = .ok (.getfield 119, 3) := by decide +kernel
theorem dX12_readsMood_50 : decode cX12_readsMood 50 = .ok (.iastore, 1) := by decide +kernel
theorem dX12_readsMood_51 : decode cX12_readsMood 51 = .ok (.iconst 1, 1) := by decide +kernel
theorem dX12_readsMood_52 : decode cX12_readsMood 52 = .ok (.ireturn, 1) := by decide +kernel
set_option maxRecDepth 20000 in
theorem ggX12_readsBalance_X12_takesNumber : GoodIn wsX12_readsBalance wsX12_takesNumber := goodIn_r _ [7, 2, 8, 9, 10, 11, 12, 13, 14, 15, 6, 16, 17, 18, 19, 20, 21, 22, 23, 24, 25, 26, 27, 28, 29, 30, 31, 32, 33, 34, 35, 36, 37, 38, 39, 40, 41, 42, 43, 44, 45] (by decide +kernel) (by decide +kernel)
set_option maxRecDepth 20000 in
theorem gX12_readsBalance_X12_takesNumber : GoodIn wsX12_readsBalance (wsV RX12 126 RX12 yX12_takesNumber wsX12_takesNumber) := goodIn_app (goodIn_of _ (by decide +kernel)) ggX12_readsBalance_X12_takesNumber
theorem dX12_readsBalance_0 : decode cX12_readsBalance 0 = .ok (.aload_n 0, 1) := by decide +kernel
theorem dX12_readsBalance_1 : decode cX12_readsBalance 1 = .ok (.getfield 7, 3) := by decide +kernel
theorem dX12_readsBalance_4 : decode cX12_readsBalance 4 = .ok (.sipush 724, 3) := by decide +kernel
theorem dX12_readsBalance_7 : decode cX12_readsBalance 7 = .ok (.iaload, 1) := by decide +kernel
theorem dX12_readsBalance_8 : decode cX12_readsBalance 8 = .ok (.iconst 4, 1) := by decide +kernel
theorem dX12_readsBalance_9 : decode cX12_readsBalance 9 = .ok (.if_icmp .eq 12, 3) := by decide +kernel
theorem dX12_readsBalance_12 : decode cX12_readsBalance 12 = .ok (.aload_n 0, 1) := by decide +kernel
theorem dX12_readsBalance_13 : decode cX12_readsBalance 13 = .ok (.iconst 0, 1) := by decide +kernel
theorem dX12_readsBalance_14 : decode cX12_readsBalance 14 = .ok (.iconst 5, 1) := by decide +kernel
theorem dX12_readsBalance_15 : decode cX12_readsBalance 15 = .ok (.invokevirtual 126, 3) := by decide +kernel
theorem dX12_readsBalance_18 : decode cX12_readsBalance 18 = .ok (.ifCond .ne 5, 3) := by decide +kernel
theorem dX12_readsBalance_21 : decode cX12_readsBalance 21 = .ok (.iconst 0, 1) := by decide +kernel
theorem dX12_readsBalance_22 : decode cX12_readsBalance 22 = .ok (.ireturn, 1) := by decide +kernel
theorem dX12_readsBalance_23 : decode cX12_readsBalance 23 = .ok (.aload_n 0, 1) := by decide +kernel
theorem dX12_readsBalance_24 : decode cX12_readsBalance 24 = .ok (.getfield 7, 3) := by decide +kernel
theorem dX12_readsBalance_27 : decode cX12_readsBalance 27 = .ok (.sipush 762, 3) := by decide +kernel
theorem dX12_readsBalance_30 : decode cX12_readsBalance 30 = .ok (.aload_n 0, 1) := by decide +kernel
theorem dX12_readsBalance_31 : decode cX12_readsBalance 31 = .ok (.getfield 7, 3) := by decide +kernel
theorem dX12_readsBalance_34 : decode cX12_readsBalance 34 = .ok (.sipush 724, 3) := by decide +kernel
theorem dX12_readsBalance_37 : decode cX12_readsBalance 37 = .ok (.iaload, 1) := by decide +kernel
theorem dX12_readsBalance_38 : decode cX12_readsBalance 38 = .ok (.iadd, 1) := by decide +kernel
theorem dX12_readsBalance_39 : decode cX12_readsBalance 39 = .ok (.aload_n 0, 1) := by decide +kernel
theorem dX12_readsBalance_40 : decode cX12_readsBalance 40 = .ok (.getfield 119, 3) := by decide +kernel
theorem dX12_readsBalance_43 : decode cX12_readsBalance 43 = .ok (.iastore, 1) := by decide +kernel
theorem dX12_readsBalance_44 : decode cX12_readsBalance 44 = .ok (.aload_n 0, 1) := by decide +kernel
theorem dX12_readsBalance_45 : decode cX12_readsBalance 45 = .ok (.getfield 7, 3) := by decide +kernel
theorem dX12_readsBalance_48 : decode cX12_readsBalance 48 = .ok (.sipush 724, 3) := by decide +kernel
theorem dX12_readsBalance_51 : decode cX12_readsBalance 51 = .ok (.dup2, 1) := by decide +kernel
theorem dX12_readsBalance_52 : decode cX12_readsBalance 52 = .ok (.iaload, 1) := by decide +kernel
theorem dX12_readsBalance_53 : decode cX12_readsBalance 53 = .ok (.iconst 1, 1) := by decide +kernel
theorem dX12_readsBalance_54 : decode cX12_readsBalance 54 = .ok (.iadd, 1) := by decide +kernel
theorem dX12_readsBalance_55 : decode cX12_readsBalance 55 = .ok (.iastore, 1) := by decide +kernel
theorem dX12_readsBalance_56 : decode cX12_readsBalance 56 = .ok (.iconst 1, 1) := by decide +kernel
theorem dX12_readsBalance_57 : decode cX12_readsBalance 57 = .ok (.ireturn, 1) := by decide +kernel
set_option maxRecDepth 20000 in
theorem ggX12_readsDays_X12_takesNumber : GoodIn wsX12_readsDays wsX12_takesNumber := goodIn_r _ [6, 1, 7, 8, 9, 10, 11, 12, 13, 14, 5, 15, 16, 17, 18, 19, 20, 21, 22, 23, 24, 36, 37, 38, 39, 40, 41, 42, 43, 44, 45, 46, 47, 48, 49, 50, 51, 52, 53, 54, 55] (by decide +kernel) (by decide +kernel)
set_option maxRecDepth 20000 in
theorem gX12_readsDays_X12_takesNumber : GoodIn wsX12_readsDays (wsV RX12 126 RX12 yX12_takesNumber wsX12_takesNumber) := goodIn_app (goodIn_of _ (by decide +kernel)) ggX12_readsDays_X12_takesNumber
set_option maxRecDepth 20000 in
theorem ggX12_readsDays_X12_passes : GoodIn wsX12_readsDays wsX12_passes := goodIn_r _ [28, 29, 30, 31, 5, 32, 33, 34, 35, 36, 37, 38, 39, 40, 41, 42, 43, 44, 45, 46, 47, 48, 49, 50, 51, 52, 53, 54, 55] (by decide +kernel) (by decide +kernel)
set_option maxRecDepth 20000 in
theorem gX12_readsDays_X12_passes : GoodIn wsX12_readsDays (wsV RX12 130 RX12 yX12_passes wsX12_passes) := goodIn_app (goodIn_of _ (by decide +kernel)) ggX12_readsDays_X12_passes
theorem dX12_readsDays_0 : decode cX12_readsDays 0 = .ok (.aload_n 0, 1) := by decide +kernel
theorem dX12_readsDays_1 : decode cX12_readsDays 1 = .ok (.iconst 1, 1) := by decide +kernel
theorem dX12_readsDays_2 : decode cX12_readsDays 2 = .ok (.bipush 99, 2) := by decide +kernel
theorem dX12_readsDays_4 : decode cX12_readsDays 4 = .ok (.invokevirtual 126, 3) := by decide +kernel
theorem dX12_readsDays_7 : decode cX12_readsDays 7 = .ok (.ifCond .ne 5, 3) := by decide +kernel
theorem dX12_readsDays_10 : decode cX12_readsDays 10 = .ok (.iconst 0, 1) := by decide +kernel
theorem dX12_readsDays_11 : decode cX12_readsDays 11 = .ok (.ireturn, 1) := by decide +kernel
theorem dX12_readsDays_12 : decode cX12_readsDays 12 = .ok (.iconst 0, 1) := by decide +kernel
theorem dX12_readsDays_13 : decode cX12_readsDays 13 = .ok (.istore_n 1, 1) := by decide +kernel
theorem dX12_readsDays_14 : decode cX12_readsDays 14 = .ok (.iload_n 1, 1) := by decide +kernel
theorem dX12_readsDays_15 : decode cX12_readsDays 15 = .ok (.aload_n 0, 1) := by decide +kernel
theorem dX12_readsDays_16 : decode cX12_readsDays 16 = .ok (.getfield 119, 3) := by decide +kernel
theorem dX12_readsDays_19 : decode cX12_readsDays 19 = .ok (.if_icmp .ge 16, 3) := by decide +kernel
theorem dX12_readsDays_22 : decode cX12_readsDays 22 = .ok (.aload_n 0, 1) := by decide +kernel
theorem dX12_readsDays_23 : decode cX12_readsDays 23 = .ok (.sipush 723, 3) := by decide +kernel
theorem dX12_readsDays_26 : decode cX12_readsDays 26 = .ok (.invokevirtual 130, 3) := by decide +kernel
theorem dX12_readsDays_29 : decode cX12_readsDays 29 = .ok (.iinc 1 1, 3) := by decide +kernel
theorem dX12_readsDays_32 : decode cX12_readsDays 32 = .ok (.goto (-18), 3) := by decide +kernel
theorem dX12_readsDays_35 : decode cX12_readsDays 35 = .ok (.iconst 1, 1) := by decide +kernel
theorem dX12_readsDays_36 : decode cX12_readsDays 36 = .ok (.ireturn, 1) := by decide +kernel
set_option maxRecDepth 20000 in
theorem ggX12_readsItem_X12_takesWord : GoodIn wsX12_readsItem wsX12_takesWord := goodIn_r _ [5, 6, 7, 8, 9, 10, 11, 4, 12, 13, 14, 15, 16, 17, 18, 19, 20, 21, 22, 78, 79, 80, 81, 82, 83, 84, 85, 86, 87, 88, 89, 90, 91, 92, 93, 94, 95, 96, 97] (by decide +kernel) (by decide +kernel)
set_option maxRecDepth 20000 in
theorem gX12_readsItem_X12_takesWord : GoodIn wsX12_readsItem (wsV RX12 133 RX12 yX12_takesWord wsX12_takesWord) := goodIn_app (goodIn_of _ (by decide +kernel)) ggX12_readsItem_X12_takesWord
set_option maxRecDepth 20000 in
theorem ggX12_readsItem_X12_wordOf : GoodIn wsX12_readsItem wsX12_wordOf := goodIn_r _ [26, 27, 28, 29, 4, 30, 6, 13, 31, 32, 33, 34, 19, 78, 79, 80, 81, 82, 83, 84, 85, 86, 87, 88, 89, 90, 91, 92, 93, 94, 95, 96, 97] (by decide +kernel) (by decide +kernel)
set_option maxRecDepth 20000 in
theorem gX12_readsItem_X12_wordOf : GoodIn wsX12_readsItem (wsV RX12 136 RX12 yX12_wordOf wsX12_wordOf) := goodIn_app (goodIn_of _ (by decide +kernel)) ggX12_readsItem_X12_wordOf
set_option maxRecDepth 20000 in
theorem ggX12_readsItem_X12_readsKeeper : GoodIn wsX12_readsItem wsX12_readsKeeper := goodIn_r _ [38, 39, 40, 41, 42, 43, 4, 44, 6, 45, 46, 13, 47, 9, 10, 11, 12, 14, 15, 16, 17, 18, 19, 20, 21, 22, 48, 49, 50, 51, 78, 79, 80, 81, 82, 83, 84, 85, 86, 87, 88, 89, 90, 91, 92, 93, 94, 95, 96, 97] (by decide +kernel) (by decide +kernel)
set_option maxRecDepth 20000 in
theorem gX12_readsItem_X12_readsKeeper : GoodIn wsX12_readsItem (wsV RX12 139 RX12 yX12_readsKeeper wsX12_readsKeeper) := goodIn_app (goodIn_of _ (by decide +kernel)) ggX12_readsItem_X12_readsKeeper
set_option maxRecDepth 20000 in
theorem ggX12_readsItem_X12_readsMood : GoodIn wsX12_readsItem wsX12_readsMood := goodIn_r _ [55, 39, 40, 41, 42, 43, 4, 44, 6, 45, 46, 13, 47, 9, 10, 11, 12, 14, 15, 16, 17, 18, 19, 20, 21, 22, 78, 79, 80, 81, 82, 83, 84, 85, 86, 87, 88, 89, 90, 91, 92, 93, 94, 95, 96, 97] (by decide +kernel) (by decide +kernel)
set_option maxRecDepth 20000 in
theorem gX12_readsItem_X12_readsMood : GoodIn wsX12_readsItem (wsV RX12 143 RX12 yX12_readsMood wsX12_readsMood) := goodIn_app (goodIn_of _ (by decide +kernel)) ggX12_readsItem_X12_readsMood
set_option maxRecDepth 20000 in
theorem ggX12_readsItem_X12_readsBalance : GoodIn wsX12_readsItem wsX12_readsBalance := goodIn_r _ [59, 39, 40, 41, 42, 43, 4, 44, 6, 45, 46, 13, 47, 9, 10, 11, 12, 14, 15, 16, 17, 18, 19, 20, 21, 22, 78, 79, 80, 81, 82, 83, 84, 85, 86, 87, 88, 89, 90, 91, 92, 93, 94, 95, 96, 97] (by decide +kernel) (by decide +kernel)
set_option maxRecDepth 20000 in
theorem gX12_readsItem_X12_readsBalance : GoodIn wsX12_readsItem (wsV RX12 146 RX12 yX12_readsBalance wsX12_readsBalance) := goodIn_app (goodIn_of _ (by decide +kernel)) ggX12_readsItem_X12_readsBalance
set_option maxRecDepth 20000 in
theorem ggX12_readsItem_X12_readsDays : GoodIn wsX12_readsItem wsX12_readsDays := goodIn_r _ [63, 40, 41, 42, 43, 4, 44, 6, 45, 46, 13, 47, 9, 10, 11, 12, 14, 15, 16, 17, 18, 19, 20, 21, 22, 64, 65, 66, 67, 39, 68, 69, 70, 71, 72, 73, 78, 79, 80, 81, 82, 83, 84, 85, 86, 87, 88, 89, 90, 91, 92, 93, 94, 95, 96, 97] (by decide +kernel) (by decide +kernel)
set_option maxRecDepth 20000 in
theorem gX12_readsItem_X12_readsDays : GoodIn wsX12_readsItem (wsV RX12 149 RX12 yX12_readsDays wsX12_readsDays) := goodIn_app (goodIn_of _ (by decide +kernel)) ggX12_readsItem_X12_readsDays
set_option maxRecDepth 20000 in
theorem ggX12_readsItem_X12_takesEnd : GoodIn wsX12_readsItem wsX12_takesEnd := goodIn_r _ [77, 6, 13, 9, 10, 11, 4, 12, 14, 15, 16, 17, 18, 19, 78, 79, 80, 81, 82, 83, 84, 85, 86, 87, 88, 89, 90, 91, 92, 93, 94, 95, 96, 97] (by decide +kernel) (by decide +kernel)
set_option maxRecDepth 20000 in
theorem gX12_readsItem_X12_takesEnd : GoodIn wsX12_readsItem (wsV RX12 152 RX12 yX12_takesEnd wsX12_takesEnd) := goodIn_app (goodIn_of _ (by decide +kernel)) ggX12_readsItem_X12_takesEnd
theorem dX12_readsItem_0 : decode cX12_readsItem 0 = .ok (.aload_n 0, 1) := by decide +kernel
theorem dX12_readsItem_1 : decode cX12_readsItem 1 = .ok (.invokevirtual 133, 3) := by decide +kernel
theorem dX12_readsItem_4 : decode cX12_readsItem 4 = .ok (.aload_n 0, 1) := by decide +kernel
theorem dX12_readsItem_5 : decode cX12_readsItem 5 = .ok (.invokevirtual 136, 3) := by decide +kernel
theorem dX12_readsItem_8 : decode cX12_readsItem 8 = .ok (.istore_n 2, 1) := by decide +kernel
theorem dX12_readsItem_9 : decode cX12_readsItem 9 = .ok (.iload_n 1, 1) := by decide +kernel
theorem dX12_readsItem_10 : decode cX12_readsItem 10 = .ok (.iload_n 2, 1) := by decide +kernel
theorem dX12_readsItem_11 : decode cX12_readsItem 11 = .ok (.iconst 1, 1) := by decide +kernel
theorem dX12_readsItem_12 : decode cX12_readsItem 12 = .ok (.if_icmp .ne 7, 3) := by decide +kernel
theorem dX12_readsItem_15 : decode cX12_readsItem 15 = .ok (.iconst 1, 1) := by decide +kernel
theorem dX12_readsItem_16 : decode cX12_readsItem 16 = .ok (.goto 4, 3) := by decide +kernel
theorem dX12_readsItem_19 : decode cX12_readsItem 19 = .ok (.iconst 0, 1) := by decide +kernel
theorem dX12_readsItem_20 : decode cX12_readsItem 20 = .ok (.if_icmp .eq 5, 3) := by decide +kernel
theorem dX12_readsItem_23 : decode cX12_readsItem 23 = .ok (.iconst 0, 1) := by decide +kernel
theorem dX12_readsItem_24 : decode cX12_readsItem 24 = .ok (.ireturn, 1) := by decide +kernel
theorem dX12_readsItem_25 : decode cX12_readsItem 25 = .ok (.iload_n 2, 1) := by decide +kernel
theorem dX12_readsItem_26 : decode cX12_readsItem 26 = .ok (.iconst 1, 1) := by decide +kernel
theorem dX12_readsItem_27 : decode cX12_readsItem 27 = .ok (.if_icmp .eq 60, 3) := by decide +kernel
theorem dX12_readsItem_30 : decode cX12_readsItem 30 = .ok (.iload_n 2, 1) := by decide +kernel
theorem dX12_readsItem_31 : decode cX12_readsItem 31 = .ok (.iconst 2, 1) := by decide +kernel
theorem dX12_readsItem_32 : decode cX12_readsItem 32 = .ok (.if_icmp .ne 13, 3) := by decide +kernel
theorem dX12_readsItem_35 : decode cX12_readsItem 35 = .ok (.aload_n 0, 1) := by decide +kernel
theorem dX12_readsItem_36 : decode cX12_readsItem 36 = .ok (.invokevirtual 139, 3) := by decide +kernel
theorem dX12_readsItem_39 : decode cX12_readsItem 39 = .ok (.ifCond .eq 52, 3) := by decide +kernel
theorem dX12_readsItem_42 : decode cX12_readsItem 42 = .ok (.goto 45, 3) := by decide +kernel
theorem dX12_readsItem_45 : decode cX12_readsItem 45 = .ok (.iload_n 2, 1) := by decide +kernel
theorem dX12_readsItem_46 : decode cX12_readsItem 46 = .ok (.iconst 3, 1) := by decide +kernel
theorem dX12_readsItem_47 : decode cX12_readsItem 47 = .ok (.if_icmp .ne 13, 3) := by decide +kernel
theorem dX12_readsItem_50 : decode cX12_readsItem 50 = .ok (.aload_n 0, 1) := by decide +kernel
theorem dX12_readsItem_51 : decode cX12_readsItem 51 = .ok (.invokevirtual 143, 3) := by decide +kernel
theorem dX12_readsItem_54 : decode cX12_readsItem 54 = .ok (.ifCond .eq 37, 3) := by decide +kernel
theorem dX12_readsItem_57 : decode cX12_readsItem 57 = .ok (.goto 30, 3) := by decide +kernel
theorem dX12_readsItem_60 : decode cX12_readsItem 60 = .ok (.iload_n 2, 1) := by decide +kernel
theorem dX12_readsItem_61 : decode cX12_readsItem 61 = .ok (.iconst 4, 1) := by decide +kernel
theorem dX12_readsItem_62 : decode cX12_readsItem 62 = .ok (.if_icmp .ne 13, 3) := by decide +kernel
theorem dX12_readsItem_65 : decode cX12_readsItem 65 = .ok (.aload_n 0, 1) := by decide +kernel
theorem dX12_readsItem_66 : decode cX12_readsItem 66 = .ok (.invokevirtual 146, 3) := by decide +kernel
theorem dX12_readsItem_69 : decode cX12_readsItem 69 = .ok (.ifCond .eq 22, 3) := by decide +kernel
theorem dX12_readsItem_72 : decode cX12_readsItem 72 = .ok (.goto 15, 3) := by decide +kernel
theorem dX12_readsItem_75 : decode cX12_readsItem 75 = .ok (.iload_n 2, 1) := by decide +kernel
theorem dX12_readsItem_76 : decode cX12_readsItem 76 = .ok (.iconst 5, 1) := by decide +kernel
theorem dX12_readsItem_77 : decode cX12_readsItem 77 = .ok (.if_icmp .ne 14, 3) := by decide +kernel
theorem dX12_readsItem_80 : decode cX12_readsItem 80 = .ok (.aload_n 0, 1) := by decide +kernel
theorem dX12_readsItem_81 : decode cX12_readsItem 81 = .ok (.invokevirtual 149, 3) := by decide +kernel
theorem dX12_readsItem_84 : decode cX12_readsItem 84 = .ok (.ifCond .eq 7, 3) := by decide +kernel
theorem dX12_readsItem_87 : decode cX12_readsItem 87 = .ok (.iconst 1, 1) := by decide +kernel
theorem dX12_readsItem_88 : decode cX12_readsItem 88 = .ok (.goto 4, 3) := by decide +kernel
theorem dX12_readsItem_91 : decode cX12_readsItem 91 = .ok (.iconst 0, 1) := by decide +kernel
theorem dX12_readsItem_92 : decode cX12_readsItem 92 = .ok (.istore_n 3, 1) := by decide +kernel
theorem dX12_readsItem_93 : decode cX12_readsItem 93 = .ok (.iload_n 3, 1) := by decide +kernel
theorem dX12_readsItem_94 : decode cX12_readsItem 94 = .ok (.ifCond .eq 14, 3) := by decide +kernel
theorem dX12_readsItem_97 : decode cX12_readsItem 97 = .ok (.aload_n 0, 1) := by decide +kernel
theorem dX12_readsItem_98 : decode cX12_readsItem 98 = .ok (.invokevirtual 152, 3) := by decide +kernel
theorem dX12_readsItem_101 : decode cX12_readsItem 101 = .ok (.ifCond .eq 7, 3) := by decide +kernel
theorem dX12_readsItem_104 : decode cX12_readsItem 104 = .ok (.iconst 1, 1) := by decide +kernel
theorem dX12_readsItem_105 : decode cX12_readsItem 105 = .ok (.goto 4, 3) := by decide +kernel
theorem dX12_readsItem_108 : decode cX12_readsItem 108 = .ok (.iconst 0, 1) := by decide +kernel
theorem dX12_readsItem_109 : decode cX12_readsItem 109 = .ok (.ireturn, 1) := by decide +kernel
set_option maxRecDepth 20000 in
theorem ggX12_read_X12_empties : GoodIn wsX12_read wsX12_empties := goodIn_r _ [8, 9, 90, 91, 92, 93, 94, 95, 96, 97, 98, 99, 100, 101, 102, 103, 104, 105, 106, 107, 108, 109] (by decide +kernel) (by decide +kernel)
set_option maxRecDepth 20000 in
theorem gX12_read_X12_empties : GoodIn wsX12_read (wsV RX12 67 RX12 yX12_empties wsX12_empties) := goodIn_app (goodIn_of _ (by decide +kernel)) ggX12_read_X12_empties
set_option maxRecDepth 20000 in
theorem ggX12_read_X12_blanks : GoodIn wsX12_read wsX12_blanks := goodIn_r _ [13, 1, 2, 14, 15, 16, 7, 17, 3, 18, 90, 91, 92, 93, 94, 95, 96, 97, 98, 99, 100, 101, 102, 103, 104, 105, 106, 107, 108, 109] (by decide +kernel) (by decide +kernel)
set_option maxRecDepth 20000 in
theorem gX12_read_X12_blanks : GoodIn wsX12_read (wsV RX12 104 RX12 yX12_blanks wsX12_blanks) := goodIn_app (goodIn_of _ (by decide +kernel)) ggX12_read_X12_blanks
set_option maxRecDepth 20000 in
theorem ggX12_read_X12_readsItem : GoodIn wsX12_read wsX12_readsItem := goodIn_r _ [22, 23, 24, 25, 7, 26, 1, 27, 28, 10, 11, 12, 13, 2, 14, 15, 16, 17, 3, 18, 29, 30, 31, 32, 33, 34, 35, 36, 37, 38, 39, 40, 41, 42, 43, 44, 45, 46, 47, 9, 48, 49, 50, 51, 52, 53, 54, 55, 56, 57, 58, 59, 60, 61, 62, 63, 64, 65, 66, 67, 68, 69, 70, 71, 72, 73, 74, 75, 76, 77, 78, 79, 80, 81, 82, 83, 84, 85, 90, 91, 92, 93, 94, 95, 96, 97, 98, 99, 100, 101, 102, 103, 104, 105, 106, 107, 108, 109] (by decide +kernel) (by decide +kernel)
set_option maxRecDepth 20000 in
theorem gX12_read_X12_readsItem : GoodIn wsX12_read (wsV RX12 155 RX12 yX12_readsItem wsX12_readsItem) := goodIn_app (goodIn_of _ (by decide +kernel)) ggX12_read_X12_readsItem
set_option maxRecDepth 20000 in
theorem ggX12_read_X12_copy : GoodIn wsX12_read wsX12_copy := goodIn_r _ [89, 9, 90, 91, 92, 93, 94, 95, 96, 97, 98, 99, 100, 101, 102, 103, 104, 105, 106, 107, 108, 109] (by decide +kernel) (by decide +kernel)
set_option maxRecDepth 20000 in
theorem gX12_read_X12_copy : GoodIn wsX12_read (wsV RX12 159 RX12 yX12_copy wsX12_copy) := goodIn_app (goodIn_of _ (by decide +kernel)) ggX12_read_X12_copy
theorem dX12_read_0 : decode cX12_read 0 = .ok (.aload_n 0, 1) := by decide +kernel
theorem dX12_read_1 : decode cX12_read 1 = .ok (.sipush 723, 3) := by decide +kernel
theorem dX12_read_4 : decode cX12_read 4 = .ok (.invokevirtual 67, 3) := by decide +kernel
theorem dX12_read_7 : decode cX12_read 7 = .ok (.aload_n 0, 1) := by decide +kernel
theorem dX12_read_8 : decode cX12_read 8 = .ok (.iconst 0, 1) := by decide +kernel
theorem dX12_read_9 : decode cX12_read 9 = .ok (.putfield 95, 3) := by decide +kernel
theorem dX12_read_12 : decode cX12_read 12 = .ok (.iconst 0, 1) := by decide +kernel
theorem dX12_read_13 : decode cX12_read 13 = .ok (.istore_n 1, 1) := by decide +kernel
theorem dX12_read_14 : decode cX12_read 14 = .ok (.aload_n 0, 1) := by decide +kernel
theorem dX12_read_15 : decode cX12_read 15 = .ok (.invokevirtual 104, 3) := by decide +kernel
theorem dX12_read_18 : decode cX12_read 18 = .ok (.iconst 1, 1) := by decide +kernel
theorem dX12_read_19 : decode cX12_read 19 = .ok (.istore_n 2, 1) := by decide +kernel
theorem dX12_read_20 : decode cX12_read 20 = .ok (.iload_n 2, 1) := by decide +kernel
theorem dX12_read_21 : decode cX12_read 21 = .ok (.ifCond .eq 46, 3) := by decide +kernel
theorem dX12_read_24 : decode cX12_read 24 = .ok (.aload_n 0, 1) := by decide +kernel
theorem dX12_read_25 : decode cX12_read 25 = .ok (.getfield 101, 3) := by decide +kernel
theorem dX12_read_28 : decode cX12_read 28 = .ok (.aload_n 0, 1) := by decide +kernel
theorem dX12_read_29 : decode cX12_read 29 = .ok (.getfield 45, 3) := by decide +kernel
theorem dX12_read_32 : decode cX12_read 32 = .ok (.if_icmp .lt 7, 3) := by decide +kernel
theorem dX12_read_35 : decode cX12_read 35 = .ok (.iload_n 1, 1) := by decide +kernel
theorem dX12_read_36 : decode cX12_read 36 = .ok (.ifCond .ne 31, 3) := by decide +kernel
theorem dX12_read_39 : decode cX12_read 39 = .ok (.aload_n 0, 1) := by decide +kernel
theorem dX12_read_40 : decode cX12_read 40 = .ok (.iload_n 1, 1) := by decide +kernel
theorem dX12_read_41 : decode cX12_read 41 = .ok (.ifCond .ne 7, 3) := by decide +kernel
theorem dX12_read_44 : decode cX12_read 44 = .ok (.iconst 1, 1) := by decide +kernel
theorem dX12_read_45 : decode cX12_read 45 = .ok (.goto 4, 3) := by decide +kernel
theorem dX12_read_48 : decode cX12_read 48 = .ok (.iconst 0, 1) := by decide +kernel
theorem dX12_read_49 : decode cX12_read 49 = .ok (.invokevirtual 155, 3) := by decide +kernel
theorem dX12_read_52 : decode cX12_read 52 = .ok (.istore_n 2, 1) := by decide +kernel
theorem dX12_read_53 : decode cX12_read 53 = .ok (.iinc 1 1, 3) := by decide +kernel
theorem dX12_read_56 : decode cX12_read 56 = .ok (.iload_n 2, 1) := by decide +kernel
theorem dX12_read_57 : decode cX12_read 57 = .ok (.ifCond .eq (-37), 3) := by decide +kernel
theorem dX12_read_60 : decode cX12_read 60 = .ok (.aload_n 0, 1) := by decide +kernel
theorem dX12_read_61 : decode cX12_read 61 = .ok (.invokevirtual 104, 3) := by decide +kernel
theorem dX12_read_64 : decode cX12_read 64 = .ok (.goto (-44), 3) := by decide +kernel
theorem dX12_read_67 : decode cX12_read 67 = .ok (.iload_n 2, 1) := by decide +kernel
theorem dX12_read_68 : decode cX12_read 68 = .ok (.ifCond .ne 11, 3) := by decide +kernel
theorem dX12_read_71 : decode cX12_read 71 = .ok (.bipush (-10), 2) := by decide +kernel
theorem dX12_read_73 : decode cX12_read 73 = .ok (.aload_n 0, 1) := by decide +kernel
theorem dX12_read_74 : decode cX12_read 74 = .ok (.getfield 101, 3) := by decide +kernel
theorem dX12_read_77 : decode cX12_read 77 = .ok (.isub, 1) := by decide +kernel
theorem dX12_read_78 : decode cX12_read 78 = .ok (.ireturn, 1) := by decide +kernel
theorem dX12_read_79 : decode cX12_read 79 = .ok (.aload_n 0, 1) := by decide +kernel
theorem dX12_read_80 : decode cX12_read 80 = .ok (.sipush 723, 3) := by decide +kernel
theorem dX12_read_83 : decode cX12_read 83 = .ok (.iconst 0, 1) := by decide +kernel
theorem dX12_read_84 : decode cX12_read 84 = .ok (.invokevirtual 159, 3) := by decide +kernel
theorem dX12_read_87 : decode cX12_read 87 = .ok (.iload_n 1, 1) := by decide +kernel
theorem dX12_read_88 : decode cX12_read 88 = .ok (.ireturn, 1) := by decide +kernel
set_option maxRecDepth 20000 in
theorem ggX12_passes_X12_goes : GoodIn wsX12_passes wsX12_goes := goodIn_r _ [5, 6, 7, 4, 8] (by decide +kernel) (by decide +kernel)
set_option maxRecDepth 20000 in
theorem gX12_passes_X12_goes : GoodIn wsX12_passes (va_wsS RX12 163 yX12_goes wsX12_goes) := goodIn_app (goodIn_of _ (by decide +kernel)) ggX12_passes_X12_goes
theorem dX12_passes_0 : decode cX12_passes 0 = .ok (.aload_n 0, 1) := by decide +kernel
theorem dX12_passes_1 : decode cX12_passes 1 = .ok (.getfield 7, 3) := by decide +kernel
theorem dX12_passes_4 : decode cX12_passes 4 = .ok (.iload_n 1, 1) := by decide +kernel
theorem dX12_passes_5 : decode cX12_passes 5 = .ok (.iconst 2, 1) := by decide +kernel
theorem dX12_passes_6 : decode cX12_passes 6 = .ok (.iadd, 1) := by decide +kernel
theorem dX12_passes_7 : decode cX12_passes 7 = .ok (.iaload, 1) := by decide +kernel
theorem dX12_passes_8 : decode cX12_passes 8 = .ok (.sipush 9999, 3) := by decide +kernel
theorem dX12_passes_11 : decode cX12_passes 11 = .ok (.if_icmp .ne 4, 3) := by decide +kernel
theorem dX12_passes_14 : decode cX12_passes 14 = .ok (.return_, 1) := by decide +kernel
theorem dX12_passes_15 : decode cX12_passes 15 = .ok (.iconst 0, 1) := by decide +kernel
theorem dX12_passes_16 : decode cX12_passes 16 = .ok (.istore_n 2, 1) := by decide +kernel
theorem dX12_passes_17 : decode cX12_passes 17 = .ok (.iload_n 2, 1) := by decide +kernel
theorem dX12_passes_18 : decode cX12_passes 18 = .ok (.aload_n 0, 1) := by decide +kernel
theorem dX12_passes_19 : decode cX12_passes 19 = .ok (.getfield 7, 3) := by decide +kernel
theorem dX12_passes_22 : decode cX12_passes 22 = .ok (.iload_n 1, 1) := by decide +kernel
theorem dX12_passes_23 : decode cX12_passes 23 = .ok (.iconst 0, 1) := by decide +kernel
theorem dX12_passes_24 : decode cX12_passes 24 = .ok (.iadd, 1) := by decide +kernel
theorem dX12_passes_25 : decode cX12_passes 25 = .ok (.iaload, 1) := by decide +kernel
theorem dX12_passes_26 : decode cX12_passes 26 = .ok (.if_icmp .ge 98, 3) := by decide +kernel
theorem dX12_passes_29 : decode cX12_passes 29 = .ok (.aload_n 0, 1) := by decide +kernel
theorem dX12_passes_30 : decode cX12_passes 30 = .ok (.getfield 7, 3) := by decide +kernel
theorem dX12_passes_33 : decode cX12_passes 33 = .ok (.iload_n 1, 1) := by decide +kernel
theorem dX12_passes_34 : decode cX12_passes 34 = .ok (.bipush 32, 2) := by decide +kernel
theorem dX12_passes_36 : decode cX12_passes 36 = .ok (.iadd, 1) := by decide +kernel
theorem dX12_passes_37 : decode cX12_passes 37 = .ok (.iload_n 2, 1) := by decide +kernel
theorem dX12_passes_38 : decode cX12_passes 38 = .ok (.iadd, 1) := by decide +kernel
theorem dX12_passes_39 : decode cX12_passes 39 = .ok (.iaload, 1) := by decide +kernel
theorem dX12_passes_40 : decode cX12_passes 40 = .ok (.istore_n 3, 1) := by decide +kernel
theorem dX12_passes_41 : decode cX12_passes 41 = .ok (.aload_n 0, 1) := by decide +kernel
theorem dX12_passes_42 : decode cX12_passes 42 = .ok (.getfield 7, 3) := by decide +kernel
theorem dX12_passes_45 : decode cX12_passes 45 = .ok (.iload_n 1, 1) := by decide +kernel
theorem dX12_passes_46 : decode cX12_passes 46 = .ok (.bipush 18, 2) := by decide +kernel
theorem dX12_passes_48 : decode cX12_passes 48 = .ok (.iadd, 1) := by decide +kernel
theorem dX12_passes_49 : decode cX12_passes 49 = .ok (.iload_n 2, 1) := by decide +kernel
theorem dX12_passes_50 : decode cX12_passes 50 = .ok (.iadd, 1) := by decide +kernel
theorem dX12_passes_51 : decode cX12_passes 51 = .ok (.aload_n 0, 1) := by decide +kernel
theorem dX12_passes_52 : decode cX12_passes 52 = .ok (.getfield 7, 3) := by decide +kernel
theorem dX12_passes_55 : decode cX12_passes 55 = .ok (.iload_n 1, 1) := by decide +kernel
theorem dX12_passes_56 : decode cX12_passes 56 = .ok (.iconst 4, 1) := by decide +kernel
theorem dX12_passes_57 : decode cX12_passes 57 = .ok (.iadd, 1) := by decide +kernel
theorem dX12_passes_58 : decode cX12_passes 58 = .ok (.iload_n 2, 1) := by decide +kernel
theorem dX12_passes_59 : decode cX12_passes 59 = .ok (.iadd, 1) := by decide +kernel
theorem dX12_passes_60 : decode cX12_passes 60 = .ok (.iaload, 1) := by decide +kernel
theorem dX12_passes_61 : decode cX12_passes 61 = .ok (.aload_n 0, 1) := by decide +kernel
theorem dX12_passes_62 : decode cX12_passes 62 = .ok (.getfield 7, 3) := by decide +kernel
theorem dX12_passes_65 : decode cX12_passes 65 = .ok (.iload_n 1, 1) := by decide +kernel
theorem dX12_passes_66 : decode cX12_passes 66 = .ok (.bipush 18, 2) := by decide +kernel
theorem dX12_passes_68 : decode cX12_passes 68 = .ok (.iadd, 1) := by decide +kernel
theorem dX12_passes_69 : decode cX12_passes 69 = .ok (.iload_n 2, 1) := by decide +kernel
theorem dX12_passes_70 : decode cX12_passes 70 = .ok (.iadd, 1) := by decide +kernel
theorem dX12_passes_71 : decode cX12_passes 71 = .ok (.iaload, 1) := by decide +kernel
theorem dX12_passes_72 : decode cX12_passes 72 = .ok (.aload_n 0, 1) := by decide +kernel
theorem dX12_passes_73 : decode cX12_passes 73 = .ok (.getfield 7, 3) := by decide +kernel
theorem dX12_passes_76 : decode cX12_passes 76 = .ok (.iload_n 1, 1) := by decide +kernel
theorem dX12_passes_77 : decode cX12_passes 77 = .ok (.iconst 2, 1) := by decide +kernel
theorem dX12_passes_78 : decode cX12_passes 78 = .ok (.iadd, 1) := by decide +kernel
theorem dX12_passes_79 : decode cX12_passes 79 = .ok (.iaload, 1) := by decide +kernel
theorem dX12_passes_80 : decode cX12_passes 80 = .ok (.invokestatic 163, 3) := by decide +kernel
theorem dX12_passes_83 : decode cX12_passes 83 = .ok (.iastore, 1) := by decide +kernel
theorem dX12_passes_84 : decode cX12_passes 84 = .ok (.aload_n 0, 1) := by decide +kernel
theorem dX12_passes_85 : decode cX12_passes 85 = .ok (.getfield 7, 3) := by decide +kernel
theorem dX12_passes_88 : decode cX12_passes 88 = .ok (.iload_n 1, 1) := by decide +kernel
theorem dX12_passes_89 : decode cX12_passes 89 = .ok (.bipush 32, 2) := by decide +kernel
theorem dX12_passes_91 : decode cX12_passes 91 = .ok (.iadd, 1) := by decide +kernel
theorem dX12_passes_92 : decode cX12_passes 92 = .ok (.iload_n 2, 1) := by decide +kernel
theorem dX12_passes_93 : decode cX12_passes 93 = .ok (.iadd, 1) := by decide +kernel
theorem dX12_passes_94 : decode cX12_passes 94 = .ok (.iload_n 3, 1) := by decide +kernel
theorem dX12_passes_95 : decode cX12_passes 95 = .ok (.iconst 5, 1) := by decide +kernel
theorem dX12_passes_96 : decode cX12_passes 96 = .ok (.if_icmp .le 9, 3) := by decide +kernel
theorem dX12_passes_99 : decode cX12_passes 99 = .ok (.iload_n 3, 1) := by decide +kernel
theorem dX12_passes_100 : decode cX12_passes 100 = .ok (.iconst 1, 1) := by decide +kernel
theorem dX12_passes_101 : decode cX12_passes 101 = .ok (.isub, 1) := by decide +kernel
theorem dX12_passes_102 : decode cX12_passes 102 = .ok (.goto 15, 3) := by decide +kernel
theorem dX12_passes_105 : decode cX12_passes 105 = .ok (.iload_n 3, 1) := by decide +kernel
theorem dX12_passes_106 : decode cX12_passes 106 = .ok (.iconst 5, 1) := by decide +kernel
theorem dX12_passes_107 : decode cX12_passes 107 = .ok (.if_icmp .ge 9, 3) := by decide +kernel
theorem dX12_passes_110 : decode cX12_passes 110 = .ok (.iload_n 3, 1) := by decide +kernel
theorem dX12_passes_111 : decode cX12_passes 111 = .ok (.iconst 1, 1) := by decide +kernel
theorem dX12_passes_112 : decode cX12_passes 112 = .ok (.iadd, 1) := by decide +kernel
theorem dX12_passes_113 : decode cX12_passes 113 = .ok (.goto 4, 3) := by decide +kernel
theorem dX12_passes_116 : decode cX12_passes 116 = .ok (.iconst 5, 1) := by decide +kernel
theorem dX12_passes_117 : decode cX12_passes 117 = .ok (.iastore, 1) := by decide +kernel
theorem dX12_passes_118 : decode cX12_passes 118 = .ok (.iinc 2 1, 3) := by decide +kernel
theorem dX12_passes_121 : decode cX12_passes 121 = .ok (.goto (-104), 3) := by decide +kernel
theorem dX12_passes_124 : decode cX12_passes 124 = .ok (.aload_n 0, 1) := by decide +kernel
theorem dX12_passes_125 : decode cX12_passes 125 = .ok (.getfield 7, 3) := by decide +kernel
theorem dX12_passes_128 : decode cX12_passes 128 = .ok (.iload_n 1, 1) := by decide +kernel
theorem dX12_passes_129 : decode cX12_passes 129 = .ok (.iconst 3, 1) := by decide +kernel
theorem dX12_passes_130 : decode cX12_passes 130 = .ok (.iadd, 1) := by decide +kernel
theorem dX12_passes_131 : decode cX12_passes 131 = .ok (.iconst 0, 1) := by decide +kernel
theorem dX12_passes_132 : decode cX12_passes 132 = .ok (.iastore, 1) := by decide +kernel
theorem dX12_passes_133 : decode cX12_passes 133 = .ok (.aload_n 0, 1) := by decide +kernel
theorem dX12_passes_134 : decode cX12_passes 134 = .ok (.getfield 7, 3) := by decide +kernel
theorem dX12_passes_137 : decode cX12_passes 137 = .ok (.iload_n 1, 1) := by decide +kernel
theorem dX12_passes_138 : decode cX12_passes 138 = .ok (.iconst 2, 1) := by decide +kernel
theorem dX12_passes_139 : decode cX12_passes 139 = .ok (.iadd, 1) := by decide +kernel
theorem dX12_passes_140 : decode cX12_passes 140 = .ok (.dup2, 1) := by decide +kernel
theorem dX12_passes_141 : decode cX12_passes 141 = .ok (.iaload, 1) := by decide +kernel
theorem dX12_passes_142 : decode cX12_passes 142 = .ok (.iconst 1, 1) := by decide +kernel
theorem dX12_passes_143 : decode cX12_passes 143 = .ok (.iadd, 1) := by decide +kernel
theorem dX12_passes_144 : decode cX12_passes 144 = .ok (.iastore, 1) := by decide +kernel
theorem dX12_passes_145 : decode cX12_passes 145 = .ok (.return_, 1) := by decide +kernel
theorem dX12_minds_0 : decode cX12_minds 0 = .ok (.aload_n 0, 1) := by decide +kernel
theorem dX12_minds_1 : decode cX12_minds 1 = .ok (.getfield 7, 3) := by decide +kernel
theorem dX12_minds_4 : decode cX12_minds 4 = .ok (.bipush 112, 2) := by decide +kernel
theorem dX12_minds_6 : decode cX12_minds 6 = .ok (.iaload, 1) := by decide +kernel
theorem dX12_minds_7 : decode cX12_minds 7 = .ok (.bipush 8, 2) := by decide +kernel
theorem dX12_minds_9 : decode cX12_minds 9 = .ok (.if_icmp .ne 49, 3) := by decide +kernel
theorem dX12_minds_12 : decode cX12_minds 12 = .ok (.iconst 0, 1) := by decide +kernel
theorem dX12_minds_13 : decode cX12_minds 13 = .ok (.istore_n 1, 1) := by decide +kernel
theorem dX12_minds_14 : decode cX12_minds 14 = .ok (.iload_n 1, 1) := by decide +kernel
theorem dX12_minds_15 : decode cX12_minds 15 = .ok (.bipush 112, 2) := by decide +kernel
theorem dX12_minds_17 : decode cX12_minds 17 = .ok (.if_icmp .ge 30, 3) := by decide +kernel
theorem dX12_minds_20 : decode cX12_minds 20 = .ok (.aload_n 0, 1) := by decide +kernel
theorem dX12_minds_21 : decode cX12_minds 21 = .ok (.getfield 7, 3) := by decide +kernel
theorem dX12_minds_24 : decode cX12_minds 24 = .ok (.bipush 113, 2) := by decide +kernel
theorem dX12_minds_26 : decode cX12_minds 26 = .ok (.iload_n 1, 1) := by decide +kernel
theorem dX12_minds_27 : decode cX12_minds 27 = .ok (.iadd, 1) := by decide +kernel
theorem dX12_minds_28 : decode cX12_minds 28 = .ok (.aload_n 0, 1) := by decide +kernel
theorem dX12_minds_29 : decode cX12_minds 29 = .ok (.getfield 7, 3) := by decide +kernel
theorem dX12_minds_32 : decode cX12_minds 32 = .ok (.bipush 113, 2) := by decide +kernel
theorem dX12_minds_34 : decode cX12_minds 34 = .ok (.iload_n 1, 1) := by decide +kernel
theorem dX12_minds_35 : decode cX12_minds 35 = .ok (.iadd, 1) := by decide +kernel
theorem dX12_minds_36 : decode cX12_minds 36 = .ok (.bipush 16, 2) := by decide +kernel
theorem dX12_minds_38 : decode cX12_minds 38 = .ok (.iadd, 1) := by decide +kernel
theorem dX12_minds_39 : decode cX12_minds 39 = .ok (.iaload, 1) := by decide +kernel
theorem dX12_minds_40 : decode cX12_minds 40 = .ok (.iastore, 1) := by decide +kernel
theorem dX12_minds_41 : decode cX12_minds 41 = .ok (.iinc 1 1, 3) := by decide +kernel
theorem dX12_minds_44 : decode cX12_minds 44 = .ok (.goto (-30), 3) := by decide +kernel
theorem dX12_minds_47 : decode cX12_minds 47 = .ok (.aload_n 0, 1) := by decide +kernel
theorem dX12_minds_48 : decode cX12_minds 48 = .ok (.getfield 7, 3) := by decide +kernel
theorem dX12_minds_51 : decode cX12_minds 51 = .ok (.bipush 112, 2) := by decide +kernel
theorem dX12_minds_53 : decode cX12_minds 53 = .ok (.dup2, 1) := by decide +kernel
theorem dX12_minds_54 : decode cX12_minds 54 = .ok (.iaload, 1) := by decide +kernel
theorem dX12_minds_55 : decode cX12_minds 55 = .ok (.iconst 1, 1) := by decide +kernel
theorem dX12_minds_56 : decode cX12_minds 56 = .ok (.isub, 1) := by decide +kernel
theorem dX12_minds_57 : decode cX12_minds 57 = .ok (.iastore, 1) := by decide +kernel
theorem dX12_minds_58 : decode cX12_minds 58 = .ok (.bipush 113, 2) := by decide +kernel
theorem dX12_minds_60 : decode cX12_minds 60 = .ok (.bipush 16, 2) := by decide +kernel
theorem dX12_minds_62 : decode cX12_minds 62 = .ok (.aload_n 0, 1) := by decide +kernel
theorem dX12_minds_63 : decode cX12_minds 63 = .ok (.getfield 7, 3) := by decide +kernel
theorem dX12_minds_66 : decode cX12_minds 66 = .ok (.bipush 112, 2) := by decide +kernel
theorem dX12_minds_68 : decode cX12_minds 68 = .ok (.iaload, 1) := by decide +kernel
theorem dX12_minds_69 : decode cX12_minds 69 = .ok (.imul, 1) := by decide +kernel
theorem dX12_minds_70 : decode cX12_minds 70 = .ok (.iadd, 1) := by decide +kernel
theorem dX12_minds_71 : decode cX12_minds 71 = .ok (.istore_n 1, 1) := by decide +kernel
theorem dX12_minds_72 : decode cX12_minds 72 = .ok (.iconst 0, 1) := by decide +kernel
theorem dX12_minds_73 : decode cX12_minds 73 = .ok (.istore_n 2, 1) := by decide +kernel
theorem dX12_minds_74 : decode cX12_minds 74 = .ok (.iload_n 2, 1) := by decide +kernel
theorem dX12_minds_75 : decode cX12_minds 75 = .ok (.bipush 7, 2) := by decide +kernel
theorem dX12_minds_77 : decode cX12_minds 77 = .ok (.if_icmp .ge 46, 3) := by decide +kernel
theorem dX12_minds_80 : decode cX12_minds 80 = .ok (.aload_n 0, 1) := by decide +kernel
theorem dX12_minds_81 : decode cX12_minds 81 = .ok (.getfield 7, 3) := by decide +kernel
theorem dX12_minds_84 : decode cX12_minds 84 = .ok (.iload_n 1, 1) := by decide +kernel
theorem dX12_minds_85 : decode cX12_minds 85 = .ok (.iload_n 2, 1) := by decide +kernel
theorem dX12_minds_86 : decode cX12_minds 86 = .ok (.iadd, 1) := by decide +kernel
theorem dX12_minds_87 : decode cX12_minds 87 = .ok (.aload_n 0, 1) := by decide +kernel
theorem dX12_minds_88 : decode cX12_minds 88 = .ok (.getfield 7, 3) := by decide +kernel
theorem dX12_minds_91 : decode cX12_minds 91 = .ok (.bipush 18, 2) := by decide +kernel
theorem dX12_minds_93 : decode cX12_minds 93 = .ok (.iload_n 2, 1) := by decide +kernel
theorem dX12_minds_94 : decode cX12_minds 94 = .ok (.iadd, 1) := by decide +kernel
theorem dX12_minds_95 : decode cX12_minds 95 = .ok (.iaload, 1) := by decide +kernel
theorem dX12_minds_96 : decode cX12_minds 96 = .ok (.iastore, 1) := by decide +kernel
theorem dX12_minds_97 : decode cX12_minds 97 = .ok (.aload_n 0, 1) := by decide +kernel
theorem dX12_minds_98 : decode cX12_minds 98 = .ok (.getfield 7, 3) := by decide +kernel
theorem dX12_minds_101 : decode cX12_minds 101 = .ok (.iload_n 1, 1) := by decide +kernel
theorem dX12_minds_102 : decode cX12_minds 102 = .ok (.bipush 7, 2) := by decide +kernel
theorem dX12_minds_104 : decode cX12_minds 104 = .ok (.iadd, 1) := by decide +kernel
theorem dX12_minds_105 : decode cX12_minds 105 = .ok (.iload_n 2, 1) := by decide +kernel
theorem dX12_minds_106 : decode cX12_minds 106 = .ok (.iadd, 1) := by decide +kernel
theorem dX12_minds_107 : decode cX12_minds 107 = .ok (.aload_n 0, 1) := by decide +kernel
theorem dX12_minds_108 : decode cX12_minds 108 = .ok (.getfield 7, 3) := by decide +kernel
theorem dX12_minds_111 : decode cX12_minds 111 = .ok (.bipush 32, 2) := by decide +kernel
theorem dX12_minds_113 : decode cX12_minds 113 = .ok (.iload_n 2, 1) := by decide +kernel
theorem dX12_minds_114 : decode cX12_minds 114 = .ok (.iadd, 1) := by decide +kernel
theorem dX12_minds_115 : decode cX12_minds 115 = .ok (.iaload, 1) := by decide +kernel
theorem dX12_minds_116 : decode cX12_minds 116 = .ok (.iastore, 1) := by decide +kernel
theorem dX12_minds_117 : decode cX12_minds 117 = .ok (.iinc 2 1, 3) := by decide +kernel
theorem dX12_minds_120 : decode cX12_minds 120 = .ok (.goto (-46), 3) := by decide +kernel
theorem dX12_minds_123 : decode cX12_minds 123 = .ok (.aload_n 0, 1) := by decide +kernel
theorem dX12_minds_124 : decode cX12_minds 124 = .ok (.getfield 7, 3) := by decide +kernel
theorem dX12_minds_127 : decode cX12_minds 127 = .ok (.iload_n 1, 1) := by decide +kernel
theorem dX12_minds_128 : decode cX12_minds 128 = .ok (.bipush 14, 2) := by decide +kernel
theorem dX12_minds_130 : decode cX12_minds 130 = .ok (.iadd, 1) := by decide +kernel
theorem dX12_minds_131 : decode cX12_minds 131 = .ok (.aload_n 0, 1) := by decide +kernel
theorem dX12_minds_132 : decode cX12_minds 132 = .ok (.getfield 7, 3) := by decide +kernel
theorem dX12_minds_135 : decode cX12_minds 135 = .ok (.iconst 3, 1) := by decide +kernel
theorem dX12_minds_136 : decode cX12_minds 136 = .ok (.iaload, 1) := by decide +kernel
theorem dX12_minds_137 : decode cX12_minds 137 = .ok (.iastore, 1) := by decide +kernel
theorem dX12_minds_138 : decode cX12_minds 138 = .ok (.aload_n 0, 1) := by decide +kernel
theorem dX12_minds_139 : decode cX12_minds 139 = .ok (.getfield 7, 3) := by decide +kernel
theorem dX12_minds_142 : decode cX12_minds 142 = .ok (.iload_n 1, 1) := by decide +kernel
theorem dX12_minds_143 : decode cX12_minds 143 = .ok (.bipush 15, 2) := by decide +kernel
theorem dX12_minds_145 : decode cX12_minds 145 = .ok (.iadd, 1) := by decide +kernel
theorem dX12_minds_146 : decode cX12_minds 146 = .ok (.aload_n 0, 1) := by decide +kernel
theorem dX12_minds_147 : decode cX12_minds 147 = .ok (.getfield 7, 3) := by decide +kernel
theorem dX12_minds_150 : decode cX12_minds 150 = .ok (.iconst 2, 1) := by decide +kernel
theorem dX12_minds_151 : decode cX12_minds 151 = .ok (.iaload, 1) := by decide +kernel
theorem dX12_minds_152 : decode cX12_minds 152 = .ok (.iastore, 1) := by decide +kernel
theorem dX12_minds_153 : decode cX12_minds 153 = .ok (.aload_n 0, 1) := by decide +kernel
theorem dX12_minds_154 : decode cX12_minds 154 = .ok (.getfield 7, 3) := by decide +kernel
theorem dX12_minds_157 : decode cX12_minds 157 = .ok (.bipush 112, 2) := by decide +kernel
theorem dX12_minds_159 : decode cX12_minds 159 = .ok (.dup2, 1) := by decide +kernel
theorem dX12_minds_160 : decode cX12_minds 160 = .ok (.iaload, 1) := by decide +kernel
theorem dX12_minds_161 : decode cX12_minds 161 = .ok (.iconst 1, 1) := by decide +kernel
theorem dX12_minds_162 : decode cX12_minds 162 = .ok (.iadd, 1) := by decide +kernel
theorem dX12_minds_163 : decode cX12_minds 163 = .ok (.iastore, 1) := by decide +kernel
theorem dX12_minds_164 : decode cX12_minds 164 = .ok (.return_, 1) := by decide +kernel
theorem dX12_allStones_0 : decode cX12_allStones 0 = .ok (.iconst 0, 1) := by decide +kernel
theorem dX12_allStones_1 : decode cX12_allStones 1 = .ok (.istore_n 1, 1) := by decide +kernel
theorem dX12_allStones_2 : decode cX12_allStones 2 = .ok (.iconst 0, 1) := by decide +kernel
theorem dX12_allStones_3 : decode cX12_allStones 3 = .ok (.istore_n 2, 1) := by decide +kernel
theorem dX12_allStones_4 : decode cX12_allStones 4 = .ok (.iload_n 2, 1) := by decide +kernel
theorem dX12_allStones_5 : decode cX12_allStones 5 = .ok (.aload_n 0, 1) := by decide +kernel
theorem dX12_allStones_6 : decode cX12_allStones 6 = .ok (.getfield 7, 3) := by decide +kernel
theorem dX12_allStones_9 : decode cX12_allStones 9 = .ok (.iconst 0, 1) := by decide +kernel
theorem dX12_allStones_10 : decode cX12_allStones 10 = .ok (.iaload, 1) := by decide +kernel
theorem dX12_allStones_11 : decode cX12_allStones 11 = .ok (.if_icmp .ge 21, 3) := by decide +kernel
theorem dX12_allStones_14 : decode cX12_allStones 14 = .ok (.iload_n 1, 1) := by decide +kernel
theorem dX12_allStones_15 : decode cX12_allStones 15 = .ok (.aload_n 0, 1) := by decide +kernel
theorem dX12_allStones_16 : decode cX12_allStones 16 = .ok (.getfield 7, 3) := by decide +kernel
theorem dX12_allStones_19 : decode cX12_allStones 19 = .ok (.bipush 18, 2) := by decide +kernel
theorem dX12_allStones_21 : decode cX12_allStones 21 = .ok (.iload_n 2, 1) := by decide +kernel
theorem dX12_allStones_22 : decode cX12_allStones 22 = .ok (.iadd, 1) := by decide +kernel
theorem dX12_allStones_23 : decode cX12_allStones 23 = .ok (.iaload, 1) := by decide +kernel
theorem dX12_allStones_24 : decode cX12_allStones 24 = .ok (.iadd, 1) := by decide +kernel
theorem dX12_allStones_25 : decode cX12_allStones 25 = .ok (.istore_n 1, 1) := by decide +kernel
theorem dX12_allStones_26 : decode cX12_allStones 26 = .ok (.iinc 2 1, 3) := by decide +kernel
theorem dX12_allStones_29 : decode cX12_allStones 29 = .ok (.goto (-25), 3) := by decide +kernel
theorem dX12_allStones_32 : decode cX12_allStones 32 = .ok (.iload_n 1, 1) := by decide +kernel
theorem dX12_allStones_33 : decode cX12_allStones 33 = .ok (.ireturn, 1) := by decide +kernel
set_option maxRecDepth 20000 in
theorem ggX12_wouldLend_X12_lends : GoodIn wsX12_wouldLend wsX12_lends := goodIn_r _ [5] (by decide +kernel) (by decide +kernel)
set_option maxRecDepth 20000 in
theorem gX12_wouldLend_X12_lends : GoodIn wsX12_wouldLend (va_wsS RX12 167 yX12_lends wsX12_lends) := goodIn_app (goodIn_of _ (by decide +kernel)) ggX12_wouldLend_X12_lends
theorem dX12_wouldLend_0 : decode cX12_wouldLend 0 = .ok (.aload_n 0, 1) := by decide +kernel
theorem dX12_wouldLend_1 : decode cX12_wouldLend 1 = .ok (.getfield 7, 3) := by decide +kernel
theorem dX12_wouldLend_4 : decode cX12_wouldLend 4 = .ok (.iconst 4, 1) := by decide +kernel
theorem dX12_wouldLend_5 : decode cX12_wouldLend 5 = .ok (.iload_n 1, 1) := by decide +kernel
theorem dX12_wouldLend_6 : decode cX12_wouldLend 6 = .ok (.iadd, 1) := by decide +kernel
theorem dX12_wouldLend_7 : decode cX12_wouldLend 7 = .ok (.iaload, 1) := by decide +kernel
theorem dX12_wouldLend_8 : decode cX12_wouldLend 8 = .ok (.aload_n 0, 1) := by decide +kernel
theorem dX12_wouldLend_9 : decode cX12_wouldLend 9 = .ok (.getfield 7, 3) := by decide +kernel
theorem dX12_wouldLend_12 : decode cX12_wouldLend 12 = .ok (.iconst 2, 1) := by decide +kernel
theorem dX12_wouldLend_13 : decode cX12_wouldLend 13 = .ok (.iaload, 1) := by decide +kernel
theorem dX12_wouldLend_14 : decode cX12_wouldLend 14 = .ok (.aload_n 0, 1) := by decide +kernel
theorem dX12_wouldLend_15 : decode cX12_wouldLend 15 = .ok (.getfield 7, 3) := by decide +kernel
theorem dX12_wouldLend_18 : decode cX12_wouldLend 18 = .ok (.bipush 32, 2) := by decide +kernel
theorem dX12_wouldLend_20 : decode cX12_wouldLend 20 = .ok (.iload_n 1, 1) := by decide +kernel
theorem dX12_wouldLend_21 : decode cX12_wouldLend 21 = .ok (.iadd, 1) := by decide +kernel
theorem dX12_wouldLend_22 : decode cX12_wouldLend 22 = .ok (.iaload, 1) := by decide +kernel
theorem dX12_wouldLend_23 : decode cX12_wouldLend 23 = .ok (.iload_n 2, 1) := by decide +kernel
theorem dX12_wouldLend_24 : decode cX12_wouldLend 24 = .ok (.invokestatic 167, 3) := by decide +kernel
theorem dX12_wouldLend_27 : decode cX12_wouldLend 27 = .ok (.ireturn, 1) := by decide +kernel
theorem dX12_moodBehind_0 : decode cX12_moodBehind 0 = .ok (.iload_n 2, 1) := by decide +kernel
theorem dX12_moodBehind_1 : decode cX12_moodBehind 1 = .ok (.ifCond .eq 26, 3) := by decide +kernel
theorem dX12_moodBehind_4 : decode cX12_moodBehind 4 = .ok (.iload_n 0, 1) := by decide +kernel
theorem dX12_moodBehind_5 : decode cX12_moodBehind 5 = .ok (.iload_n 1, 1) := by decide +kernel
theorem dX12_moodBehind_6 : decode cX12_moodBehind 6 = .ok (.iconst 3, 1) := by decide +kernel
theorem dX12_moodBehind_7 : decode cX12_moodBehind 7 = .ok (.idiv, 1) := by decide +kernel
theorem dX12_moodBehind_8 : decode cX12_moodBehind 8 = .ok (.iadd, 1) := by decide +kernel
theorem dX12_moodBehind_9 : decode cX12_moodBehind 9 = .ok (.bipush 9, 2) := by decide +kernel
theorem dX12_moodBehind_11 : decode cX12_moodBehind 11 = .ok (.if_icmp .le 8, 3) := by decide +kernel
theorem dX12_moodBehind_14 : decode cX12_moodBehind 14 = .ok (.bipush 9, 2) := by decide +kernel
theorem dX12_moodBehind_16 : decode cX12_moodBehind 16 = .ok (.goto 22, 3) := by decide +kernel
theorem dX12_moodBehind_19 : decode cX12_moodBehind 19 = .ok (.iload_n 0, 1) := by decide +kernel
theorem dX12_moodBehind_20 : decode cX12_moodBehind 20 = .ok (.iload_n 1, 1) := by decide +kernel
theorem dX12_moodBehind_21 : decode cX12_moodBehind 21 = .ok (.iconst 3, 1) := by decide +kernel
theorem dX12_moodBehind_22 : decode cX12_moodBehind 22 = .ok (.idiv, 1) := by decide +kernel
theorem dX12_moodBehind_23 : decode cX12_moodBehind 23 = .ok (.iadd, 1) := by decide +kernel
theorem dX12_moodBehind_24 : decode cX12_moodBehind 24 = .ok (.goto 14, 3) := by decide +kernel
theorem dX12_moodBehind_27 : decode cX12_moodBehind 27 = .ok (.iload_n 0, 1) := by decide +kernel
theorem dX12_moodBehind_28 : decode cX12_moodBehind 28 = .ok (.ifCond .ne 7, 3) := by decide +kernel
theorem dX12_moodBehind_31 : decode cX12_moodBehind 31 = .ok (.iconst 0, 1) := by decide +kernel
theorem dX12_moodBehind_32 : decode cX12_moodBehind 32 = .ok (.goto 6, 3) := by decide +kernel
theorem dX12_moodBehind_35 : decode cX12_moodBehind 35 = .ok (.iload_n 0, 1) := by decide +kernel
theorem dX12_moodBehind_36 : decode cX12_moodBehind 36 = .ok (.iconst 1, 1) := by decide +kernel
theorem dX12_moodBehind_37 : decode cX12_moodBehind 37 = .ok (.isub, 1) := by decide +kernel
theorem dX12_moodBehind_38 : decode cX12_moodBehind 38 = .ok (.ireturn, 1) := by decide +kernel
set_option maxRecDepth 20000 in
theorem ggX12_visit_X12_isKeeper : GoodIn wsX12_visit wsX12_isKeeper := goodIn_r _ [7, 2, 8, 9, 6, 10, 37, 38, 39, 40, 41, 42, 43, 44, 45, 46, 47, 48, 49, 50, 51, 52, 53, 54, 55, 56] (by decide +kernel) (by decide +kernel)
set_option maxRecDepth 20000 in
theorem gX12_visit_X12_isKeeper : GoodIn wsX12_visit (wsV RX12 89 RX12 yX12_isKeeper wsX12_isKeeper) := goodIn_app (goodIn_of _ (by decide +kernel)) ggX12_visit_X12_isKeeper
set_option maxRecDepth 20000 in
theorem ggX12_visit_X12_in : GoodIn wsX12_visit wsX12_in := goodIn_r _ [10] (by decide +kernel) (by decide +kernel)
set_option maxRecDepth 20000 in
theorem gX12_visit_X12_in : GoodIn wsX12_visit (va_wsS RX12 49 yX12_in wsX12_in) := goodIn_app (goodIn_of _ (by decide +kernel)) ggX12_visit_X12_in
set_option maxRecDepth 20000 in
theorem ggX12_visit_X12_bad : GoodIn wsX12_visit wsX12_bad := goodIn_r _ [14, 15, 37, 38, 39, 40, 41, 42, 43, 44, 45, 46, 47, 48, 49, 50, 51, 52, 53, 54, 55, 56] (by decide +kernel) (by decide +kernel)
set_option maxRecDepth 20000 in
theorem gX12_visit_X12_bad : GoodIn wsX12_visit (wsV RX12 77 RX12 yX12_bad wsX12_bad) := goodIn_app (goodIn_of _ (by decide +kernel)) ggX12_visit_X12_bad
set_option maxRecDepth 20000 in
theorem ggX12_visit_X12_has : GoodIn wsX12_visit wsX12_has := goodIn_r _ [18] (by decide +kernel) (by decide +kernel)
set_option maxRecDepth 20000 in
theorem gX12_visit_X12_has : GoodIn wsX12_visit (va_wsS RX12 173 yX12_has wsX12_has) := goodIn_app (goodIn_of _ (by decide +kernel)) ggX12_visit_X12_has
set_option maxRecDepth 20000 in
theorem ggX12_visit_X12_no : GoodIn wsX12_visit wsX12_no := goodIn_r _ [22, 15, 37, 38, 39, 40, 41, 42, 43, 44, 45, 46, 47, 48, 49, 50, 51, 52, 53, 54, 55, 56] (by decide +kernel) (by decide +kernel)
set_option maxRecDepth 20000 in
theorem gX12_visit_X12_no : GoodIn wsX12_visit (wsV RX12 176 RX12 yX12_no wsX12_no) := goodIn_app (goodIn_of _ (by decide +kernel)) ggX12_visit_X12_no
set_option maxRecDepth 20000 in
theorem ggX12_visit_X12_wouldLend : GoodIn wsX12_visit wsX12_wouldLend := goodIn_r _ [26, 2, 27, 28, 6, 29, 37, 38, 39, 40, 41, 42, 43, 44, 45, 46, 47, 48, 49, 50, 51, 52, 53, 54, 55, 56] (by decide +kernel) (by decide +kernel)
set_option maxRecDepth 20000 in
theorem gX12_visit_X12_wouldLend : GoodIn wsX12_visit (wsV RX12 179 RX12 yX12_wouldLend wsX12_wouldLend) := goodIn_app (goodIn_of _ (by decide +kernel)) ggX12_visit_X12_wouldLend
set_option maxRecDepth 20000 in
theorem ggX12_visit_X12_minds : GoodIn wsX12_visit wsX12_minds := goodIn_r _ [33, 2, 37, 38, 39, 40, 41, 42, 43, 44, 45, 46, 47, 48, 49, 50, 51, 52, 53, 54, 55, 56] (by decide +kernel) (by decide +kernel)
set_option maxRecDepth 20000 in
theorem gX12_visit_X12_minds : GoodIn wsX12_visit (wsV RX12 182 RX12 yX12_minds wsX12_minds) := goodIn_app (goodIn_of _ (by decide +kernel)) ggX12_visit_X12_minds
set_option maxRecDepth 20000 in
theorem ggX12_visit_X12_moodBehind : GoodIn wsX12_visit wsX12_moodBehind := goodIn_r _ [36] (by decide +kernel) (by decide +kernel)
set_option maxRecDepth 20000 in
theorem gX12_visit_X12_moodBehind : GoodIn wsX12_visit (va_wsS RX12 185 yX12_moodBehind wsX12_moodBehind) := goodIn_app (goodIn_of _ (by decide +kernel)) ggX12_visit_X12_moodBehind
theorem dX12_visit_0 : decode cX12_visit 0 = .ok (.aload_n 0, 1) := by decide +kernel
theorem dX12_visit_1 : decode cX12_visit 1 = .ok (.iload_n 1, 1) := by decide +kernel
theorem dX12_visit_2 : decode cX12_visit 2 = .ok (.invokevirtual 89, 3) := by decide +kernel
theorem dX12_visit_5 : decode cX12_visit 5 = .ok (.ifCond .eq 15, 3) := by decide +kernel
theorem dX12_visit_8 : decode cX12_visit 8 = .ok (.iload_n 2, 1) := by decide +kernel
theorem dX12_visit_9 : decode cX12_visit 9 = .ok (.i2l, 1) := by decide +kernel
theorem dX12_visit_10 : decode cX12_visit 10 = .ok (.lconst 0, 1) := by decide +kernel
theorem dX12_visit_11 : decode cX12_visit 11 = .ok (.ldc2_w 171, 3) := by decide +kernel
theorem dX12_visit_14 : decode cX12_visit 14 = .ok (.invokestatic 49, 3) := by decide +kernel
theorem dX12_visit_17 : decode cX12_visit 17 = .ok (.ifCond .ne 10, 3) := by decide +kernel
theorem dX12_visit_20 : decode cX12_visit 20 = .ok (.aload_n 0, 1) := by decide +kernel
theorem dX12_visit_21 : decode cX12_visit 21 = .ok (.bipush (-2), 2) := by decide +kernel
theorem dX12_visit_23 : decode cX12_visit 23 = .ok (.invokevirtual 77, 3) := by decide +kernel
theorem dX12_visit_26 : decode cX12_visit 26 = .ok (.ireturn, 1) := by decide +kernel
theorem dX12_visit_27 : decode cX12_visit 27 = .ok (.aload_n 0, 1) := by decide +kernel
theorem dX12_visit_28 : decode cX12_visit 28 = .ok (.getfield 7, 3) := by decide +kernel
theorem dX12_visit_31 : decode cX12_visit 31 = .ok (.iconst 3, 1) := by decide +kernel
theorem dX12_visit_32 : decode cX12_visit 32 = .ok (.iaload, 1) := by decide +kernel
theorem dX12_visit_33 : decode cX12_visit 33 = .ok (.iload_n 1, 1) := by decide +kernel
theorem dX12_visit_34 : decode cX12_visit 34 = .ok (.invokestatic 173, 3) := by decide +kernel
theorem dX12_visit_37 : decode cX12_visit 37 = .ok (.ifCond .eq 8, 3) := by decide +kernel
theorem dX12_visit_40 : decode cX12_visit 40 = .ok (.aload_n 0, 1) := by decide +kernel
theorem dX12_visit_41 : decode cX12_visit 41 = .ok (.invokevirtual 176, 3) := by decide +kernel
theorem dX12_visit_44 : decode cX12_visit 44 = .ok (.ireturn, 1) := by decide +kernel
theorem dX12_visit_45 : decode cX12_visit 45 = .ok (.aload_n 0, 1) := by decide +kernel
theorem dX12_visit_46 : decode cX12_visit 46 = .ok (.iload_n 1, 1) := by decide +kernel
theorem dX12_visit_47 : decode cX12_visit 47 = .ok (.iload_n 2, 1) := by decide +kernel
theorem dX12_visit_48 : decode cX12_visit 48 = .ok (.invokevirtual 179, 3) := by decide +kernel
theorem dX12_visit_51 : decode cX12_visit 51 = .ok (.istore_n 3, 1) := by decide +kernel
theorem dX12_visit_52 : decode cX12_visit 52 = .ok (.aload_n 0, 1) := by decide +kernel
theorem dX12_visit_53 : decode cX12_visit 53 = .ok (.invokevirtual 182, 3) := by decide +kernel
theorem dX12_visit_56 : decode cX12_visit 56 = .ok (.aload_n 0, 1) := by decide +kernel
theorem dX12_visit_57 : decode cX12_visit 57 = .ok (.getfield 7, 3) := by decide +kernel
theorem dX12_visit_60 : decode cX12_visit 60 = .ok (.bipush 32, 2) := by decide +kernel
theorem dX12_visit_62 : decode cX12_visit 62 = .ok (.iload_n 1, 1) := by decide +kernel
theorem dX12_visit_63 : decode cX12_visit 63 = .ok (.iadd, 1) := by decide +kernel
theorem dX12_visit_64 : decode cX12_visit 64 = .ok (.aload_n 0, 1) := by decide +kernel
theorem dX12_visit_65 : decode cX12_visit 65 = .ok (.getfield 7, 3) := by decide +kernel
theorem dX12_visit_68 : decode cX12_visit 68 = .ok (.bipush 32, 2) := by decide +kernel
theorem dX12_visit_70 : decode cX12_visit 70 = .ok (.iload_n 1, 1) := by decide +kernel
theorem dX12_visit_71 : decode cX12_visit 71 = .ok (.iadd, 1) := by decide +kernel
theorem dX12_visit_72 : decode cX12_visit 72 = .ok (.iaload, 1) := by decide +kernel
theorem dX12_visit_73 : decode cX12_visit 73 = .ok (.iload_n 2, 1) := by decide +kernel
theorem dX12_visit_74 : decode cX12_visit 74 = .ok (.iload_n 3, 1) := by decide +kernel
theorem dX12_visit_75 : decode cX12_visit 75 = .ok (.invokestatic 185, 3) := by decide +kernel
theorem dX12_visit_78 : decode cX12_visit 78 = .ok (.iastore, 1) := by decide +kernel
theorem dX12_visit_79 : decode cX12_visit 79 = .ok (.aload_n 0, 1) := by decide +kernel
theorem dX12_visit_80 : decode cX12_visit 80 = .ok (.getfield 7, 3) := by decide +kernel
theorem dX12_visit_83 : decode cX12_visit 83 = .ok (.iconst 3, 1) := by decide +kernel
theorem dX12_visit_84 : decode cX12_visit 84 = .ok (.dup2, 1) := by decide +kernel
theorem dX12_visit_85 : decode cX12_visit 85 = .ok (.iaload, 1) := by decide +kernel
theorem dX12_visit_86 : decode cX12_visit 86 = .ok (.iload_n 3, 1) := by decide +kernel
theorem dX12_visit_87 : decode cX12_visit 87 = .ok (.ifCond .eq 9, 3) := by decide +kernel
theorem dX12_visit_90 : decode cX12_visit 90 = .ok (.iconst 1, 1) := by decide +kernel
theorem dX12_visit_91 : decode cX12_visit 91 = .ok (.iload_n 1, 1) := by decide +kernel
theorem dX12_visit_92 : decode cX12_visit 92 = .ok (.ishl, 1) := by decide +kernel
theorem dX12_visit_93 : decode cX12_visit 93 = .ok (.goto 4, 3) := by decide +kernel
theorem dX12_visit_96 : decode cX12_visit 96 = .ok (.iconst 0, 1) := by decide +kernel
theorem dX12_visit_97 : decode cX12_visit 97 = .ok (.ior, 1) := by decide +kernel
theorem dX12_visit_98 : decode cX12_visit 98 = .ok (.iastore, 1) := by decide +kernel
theorem dX12_visit_99 : decode cX12_visit 99 = .ok (.iload_n 3, 1) := by decide +kernel
theorem dX12_visit_100 : decode cX12_visit 100 = .ok (.ifCond .eq 7, 3) := by decide +kernel
theorem dX12_visit_103 : decode cX12_visit 103 = .ok (.iconst 1, 1) := by decide +kernel
theorem dX12_visit_104 : decode cX12_visit 104 = .ok (.goto 4, 3) := by decide +kernel
theorem dX12_visit_107 : decode cX12_visit 107 = .ok (.iconst 0, 1) := by decide +kernel
theorem dX12_visit_108 : decode cX12_visit 108 = .ok (.ireturn, 1) := by decide +kernel
set_option maxRecDepth 20000 in
theorem ggX12_day_X12_in : GoodIn wsX12_day wsX12_in := goodIn_r _ [5] (by decide +kernel) (by decide +kernel)
set_option maxRecDepth 20000 in
theorem gX12_day_X12_in : GoodIn wsX12_day (va_wsS RX12 49 yX12_in wsX12_in) := goodIn_app (goodIn_of _ (by decide +kernel)) ggX12_day_X12_in
set_option maxRecDepth 20000 in
theorem ggX12_day_X12_bad : GoodIn wsX12_day wsX12_bad := goodIn_r _ [9, 10, 30, 31, 32, 33, 34, 35, 36, 37, 38, 39, 40, 41, 42, 43, 44, 45, 46, 47, 48, 49] (by decide +kernel) (by decide +kernel)
set_option maxRecDepth 20000 in
theorem gX12_day_X12_bad : GoodIn wsX12_day (wsV RX12 77 RX12 yX12_bad wsX12_bad) := goodIn_app (goodIn_of _ (by decide +kernel)) ggX12_day_X12_bad
set_option maxRecDepth 20000 in
theorem ggX12_day_X12_minds : GoodIn wsX12_day wsX12_minds := goodIn_r _ [14, 15, 30, 31, 32, 33, 34, 35, 36, 37, 38, 39, 40, 41, 42, 43, 44, 45, 46, 47, 48, 49] (by decide +kernel) (by decide +kernel)
set_option maxRecDepth 20000 in
theorem gX12_day_X12_minds : GoodIn wsX12_day (wsV RX12 182 RX12 yX12_minds wsX12_minds) := goodIn_app (goodIn_of _ (by decide +kernel)) ggX12_day_X12_minds
set_option maxRecDepth 20000 in
theorem ggX12_day_X12_passes : GoodIn wsX12_day wsX12_passes := goodIn_r _ [19, 15, 20, 21, 4, 22, 23, 24, 25, 30, 31, 32, 33, 34, 35, 36, 37, 38, 39, 40, 41, 42, 43, 44, 45, 46, 47, 48, 49] (by decide +kernel) (by decide +kernel)
set_option maxRecDepth 20000 in
theorem gX12_day_X12_passes : GoodIn wsX12_day (wsV RX12 130 RX12 yX12_passes wsX12_passes) := goodIn_app (goodIn_of _ (by decide +kernel)) ggX12_day_X12_passes
set_option maxRecDepth 20000 in
theorem ggX12_day_X12_allStones : GoodIn wsX12_day wsX12_allStones := goodIn_r _ [29, 15, 30, 31, 32, 33, 34, 35, 36, 37, 38, 39, 40, 41, 42, 43, 44, 45, 46, 47, 48, 49] (by decide +kernel) (by decide +kernel)
set_option maxRecDepth 20000 in
theorem gX12_day_X12_allStones : GoodIn wsX12_day (wsV RX12 191 RX12 yX12_allStones wsX12_allStones) := goodIn_app (goodIn_of _ (by decide +kernel)) ggX12_day_X12_allStones
theorem dX12_day_0 : decode cX12_day 0 = .ok (.iload_n 1, 1) := by decide +kernel
theorem dX12_day_1 : decode cX12_day 1 = .ok (.i2l, 1) := by decide +kernel
theorem dX12_day_2 : decode cX12_day 2 = .ok (.lconst 1, 1) := by decide +kernel
theorem dX12_day_3 : decode cX12_day 3 = .ok (.ldc2_w 189, 3) := by decide +kernel
theorem dX12_day_6 : decode cX12_day 6 = .ok (.invokestatic 49, 3) := by decide +kernel
theorem dX12_day_9 : decode cX12_day 9 = .ok (.ifCond .ne 10, 3) := by decide +kernel
theorem dX12_day_12 : decode cX12_day 12 = .ok (.aload_n 0, 1) := by decide +kernel
theorem dX12_day_13 : decode cX12_day 13 = .ok (.bipush (-2), 2) := by decide +kernel
theorem dX12_day_15 : decode cX12_day 15 = .ok (.invokevirtual 77, 3) := by decide +kernel
theorem dX12_day_18 : decode cX12_day 18 = .ok (.ireturn, 1) := by decide +kernel
theorem dX12_day_19 : decode cX12_day 19 = .ok (.aload_n 0, 1) := by decide +kernel
theorem dX12_day_20 : decode cX12_day 20 = .ok (.invokevirtual 182, 3) := by decide +kernel
theorem dX12_day_23 : decode cX12_day 23 = .ok (.iconst 0, 1) := by decide +kernel
theorem dX12_day_24 : decode cX12_day 24 = .ok (.istore_n 2, 1) := by decide +kernel
theorem dX12_day_25 : decode cX12_day 25 = .ok (.iload_n 2, 1) := by decide +kernel
theorem dX12_day_26 : decode cX12_day 26 = .ok (.iload_n 1, 1) := by decide +kernel
theorem dX12_day_27 : decode cX12_day 27 = .ok (.if_icmp .ge 14, 3) := by decide +kernel
theorem dX12_day_30 : decode cX12_day 30 = .ok (.aload_n 0, 1) := by decide +kernel
theorem dX12_day_31 : decode cX12_day 31 = .ok (.iconst 0, 1) := by decide +kernel
theorem dX12_day_32 : decode cX12_day 32 = .ok (.invokevirtual 130, 3) := by decide +kernel
theorem dX12_day_35 : decode cX12_day 35 = .ok (.iinc 2 1, 3) := by decide +kernel
theorem dX12_day_38 : decode cX12_day 38 = .ok (.goto (-13), 3) := by decide +kernel
theorem dX12_day_41 : decode cX12_day 41 = .ok (.aload_n 0, 1) := by decide +kernel
theorem dX12_day_42 : decode cX12_day 42 = .ok (.invokevirtual 191, 3) := by decide +kernel
theorem dX12_day_45 : decode cX12_day 45 = .ok (.ireturn, 1) := by decide +kernel
set_option maxRecDepth 20000 in
theorem ggX12_undo_X12_no : GoodIn wsX12_undo wsX12_no := goodIn_r _ [6, 7, 8, 9, 10, 11, 12, 13, 14, 15, 16, 17, 18, 19, 20, 21, 22, 23, 24, 25, 26, 27] (by decide +kernel) (by decide +kernel)
set_option maxRecDepth 20000 in
theorem gX12_undo_X12_no : GoodIn wsX12_undo (wsV RX12 176 RX12 yX12_no wsX12_no) := goodIn_app (goodIn_of _ (by decide +kernel)) ggX12_undo_X12_no
theorem dX12_undo_0 : decode cX12_undo 0 = .ok (.aload_n 0, 1) := by decide +kernel
theorem dX12_undo_1 : decode cX12_undo 1 = .ok (.getfield 7, 3) := by decide +kernel
theorem dX12_undo_4 : decode cX12_undo 4 = .ok (.bipush 112, 2) := by decide +kernel
theorem dX12_undo_6 : decode cX12_undo 6 = .ok (.iaload, 1) := by decide +kernel
theorem dX12_undo_7 : decode cX12_undo 7 = .ok (.ifCond .ne 8, 3) := by decide +kernel
theorem dX12_undo_10 : decode cX12_undo 10 = .ok (.aload_n 0, 1) := by decide +kernel
theorem dX12_undo_11 : decode cX12_undo 11 = .ok (.invokevirtual 176, 3) := by decide +kernel
theorem dX12_undo_14 : decode cX12_undo 14 = .ok (.ireturn, 1) := by decide +kernel
theorem dX12_undo_15 : decode cX12_undo 15 = .ok (.aload_n 0, 1) := by decide +kernel
theorem dX12_undo_16 : decode cX12_undo 16 = .ok (.getfield 7, 3) := by decide +kernel
theorem dX12_undo_19 : decode cX12_undo 19 = .ok (.bipush 112, 2) := by decide +kernel
theorem dX12_undo_21 : decode cX12_undo 21 = .ok (.dup2, 1) := by decide +kernel
theorem dX12_undo_22 : decode cX12_undo 22 = .ok (.iaload, 1) := by decide +kernel
theorem dX12_undo_23 : decode cX12_undo 23 = .ok (.iconst 1, 1) := by decide +kernel
theorem dX12_undo_24 : decode cX12_undo 24 = .ok (.isub, 1) := by decide +kernel
theorem dX12_undo_25 : decode cX12_undo 25 = .ok (.iastore, 1) := by decide +kernel
theorem dX12_undo_26 : decode cX12_undo 26 = .ok (.bipush 113, 2) := by decide +kernel
theorem dX12_undo_28 : decode cX12_undo 28 = .ok (.bipush 16, 2) := by decide +kernel
theorem dX12_undo_30 : decode cX12_undo 30 = .ok (.aload_n 0, 1) := by decide +kernel
theorem dX12_undo_31 : decode cX12_undo 31 = .ok (.getfield 7, 3) := by decide +kernel
theorem dX12_undo_34 : decode cX12_undo 34 = .ok (.bipush 112, 2) := by decide +kernel
theorem dX12_undo_36 : decode cX12_undo 36 = .ok (.iaload, 1) := by decide +kernel
theorem dX12_undo_37 : decode cX12_undo 37 = .ok (.imul, 1) := by decide +kernel
theorem dX12_undo_38 : decode cX12_undo 38 = .ok (.iadd, 1) := by decide +kernel
theorem dX12_undo_39 : decode cX12_undo 39 = .ok (.istore_n 1, 1) := by decide +kernel
theorem dX12_undo_40 : decode cX12_undo 40 = .ok (.iconst 0, 1) := by decide +kernel
theorem dX12_undo_41 : decode cX12_undo 41 = .ok (.istore_n 2, 1) := by decide +kernel
theorem dX12_undo_42 : decode cX12_undo 42 = .ok (.iload_n 2, 1) := by decide +kernel
theorem dX12_undo_43 : decode cX12_undo 43 = .ok (.bipush 7, 2) := by decide +kernel
theorem dX12_undo_45 : decode cX12_undo 45 = .ok (.if_icmp .ge 46, 3) := by decide +kernel
theorem dX12_undo_48 : decode cX12_undo 48 = .ok (.aload_n 0, 1) := by decide +kernel
theorem dX12_undo_49 : decode cX12_undo 49 = .ok (.getfield 7, 3) := by decide +kernel
theorem dX12_undo_52 : decode cX12_undo 52 = .ok (.bipush 18, 2) := by decide +kernel
theorem dX12_undo_54 : decode cX12_undo 54 = .ok (.iload_n 2, 1) := by decide +kernel
theorem dX12_undo_55 : decode cX12_undo 55 = .ok (.iadd, 1) := by decide +kernel
theorem dX12_undo_56 : decode cX12_undo 56 = .ok (.aload_n 0, 1) := by decide +kernel
theorem dX12_undo_57 : decode cX12_undo 57 = .ok (.getfield 7, 3) := by decide +kernel
theorem dX12_undo_60 : decode cX12_undo 60 = .ok (.iload_n 1, 1) := by decide +kernel
theorem dX12_undo_61 : decode cX12_undo 61 = .ok (.iload_n 2, 1) := by decide +kernel
theorem dX12_undo_62 : decode cX12_undo 62 = .ok (.iadd, 1) := by decide +kernel
theorem dX12_undo_63 : decode cX12_undo 63 = .ok (.iaload, 1) := by decide +kernel
theorem dX12_undo_64 : decode cX12_undo 64 = .ok (.iastore, 1) := by decide +kernel
theorem dX12_undo_65 : decode cX12_undo 65 = .ok (.aload_n 0, 1) := by decide +kernel
theorem dX12_undo_66 : decode cX12_undo 66 = .ok (.getfield 7, 3) := by decide +kernel
theorem dX12_undo_69 : decode cX12_undo 69 = .ok (.bipush 32, 2) := by decide +kernel
theorem dX12_undo_71 : decode cX12_undo 71 = .ok (.iload_n 2, 1) := by decide +kernel
theorem dX12_undo_72 : decode cX12_undo 72 = .ok (.iadd, 1) := by decide +kernel
theorem dX12_undo_73 : decode cX12_undo 73 = .ok (.aload_n 0, 1) := by decide +kernel
theorem dX12_undo_74 : decode cX12_undo 74 = .ok (.getfield 7, 3) := by decide +kernel
theorem dX12_undo_77 : decode cX12_undo 77 = .ok (.iload_n 1, 1) := by decide +kernel
theorem dX12_undo_78 : decode cX12_undo 78 = .ok (.bipush 7, 2) := by decide +kernel
theorem dX12_undo_80 : decode cX12_undo 80 = .ok (.iadd, 1) := by decide +kernel
theorem dX12_undo_81 : decode cX12_undo 81 = .ok (.iload_n 2, 1) := by decide +kernel
theorem dX12_undo_82 : decode cX12_undo 82 = .ok (.iadd, 1) := by decide +kernel
theorem dX12_undo_83 : decode cX12_undo 83 = .ok (.iaload, 1) := by decide +kernel
theorem dX12_undo_84 : decode cX12_undo 84 = .ok (.iastore, 1) := by decide +kernel
theorem dX12_undo_85 : decode cX12_undo 85 = .ok (.iinc 2 1, 3) := by decide +kernel
theorem dX12_undo_88 : decode cX12_undo 88 = .ok (.goto (-46), 3) := by decide +kernel
theorem dX12_undo_91 : decode cX12_undo 91 = .ok (.aload_n 0, 1) := by decide +kernel
theorem dX12_undo_92 : decode cX12_undo 92 = .ok (.getfield 7, 3) := by decide +kernel
theorem dX12_undo_95 : decode cX12_undo 95 = .ok (.iconst 3, 1) := by decide +kernel
theorem dX12_undo_96 : decode cX12_undo 96 = .ok (.aload_n 0, 1) := by decide +kernel
theorem dX12_undo_97 : decode cX12_undo 97 = .ok (.getfield 7, 3) := by decide +kernel
theorem dX12_undo_100 : decode cX12_undo 100 = .ok (.iload_n 1, 1) := by decide +kernel
theorem dX12_undo_101 : decode cX12_undo 101 = .ok (.bipush 14, 2) := by decide +kernel
theorem dX12_undo_103 : decode cX12_undo 103 = .ok (.iadd, 1) := by decide +kernel
theorem dX12_undo_104 : decode cX12_undo 104 = .ok (.iaload, 1) := by decide +kernel
theorem dX12_undo_105 : decode cX12_undo 105 = .ok (.iastore, 1) := by decide +kernel
theorem dX12_undo_106 : decode cX12_undo 106 = .ok (.aload_n 0, 1) := by decide +kernel
theorem dX12_undo_107 : decode cX12_undo 107 = .ok (.getfield 7, 3) := by decide +kernel
theorem dX12_undo_110 : decode cX12_undo 110 = .ok (.iconst 2, 1) := by decide +kernel
theorem dX12_undo_111 : decode cX12_undo 111 = .ok (.aload_n 0, 1) := by decide +kernel
theorem dX12_undo_112 : decode cX12_undo 112 = .ok (.getfield 7, 3) := by decide +kernel
theorem dX12_undo_115 : decode cX12_undo 115 = .ok (.iload_n 1, 1) := by decide +kernel
theorem dX12_undo_116 : decode cX12_undo 116 = .ok (.bipush 15, 2) := by decide +kernel
theorem dX12_undo_118 : decode cX12_undo 118 = .ok (.iadd, 1) := by decide +kernel
theorem dX12_undo_119 : decode cX12_undo 119 = .ok (.iaload, 1) := by decide +kernel
theorem dX12_undo_120 : decode cX12_undo 120 = .ok (.iastore, 1) := by decide +kernel
theorem dX12_undo_121 : decode cX12_undo 121 = .ok (.aload_n 0, 1) := by decide +kernel
theorem dX12_undo_122 : decode cX12_undo 122 = .ok (.getfield 7, 3) := by decide +kernel
theorem dX12_undo_125 : decode cX12_undo 125 = .ok (.iconst 2, 1) := by decide +kernel
theorem dX12_undo_126 : decode cX12_undo 126 = .ok (.iaload, 1) := by decide +kernel
theorem dX12_undo_127 : decode cX12_undo 127 = .ok (.ireturn, 1) := by decide +kernel
theorem dX12_ofKeeper_0 : decode cX12_ofKeeper 0 = .ok (.iload_n 2, 1) := by decide +kernel
theorem dX12_ofKeeper_1 : decode cX12_ofKeeper 1 = .ok (.tableswitch 84 0 4 #[35, 44, 54, 64, 74], 35) := by decide +kernel
theorem dX12_ofKeeper_36 : decode cX12_ofKeeper 36 = .ok (.aload_n 0, 1) := by decide +kernel
theorem dX12_ofKeeper_37 : decode cX12_ofKeeper 37 = .ok (.getfield 7, 3) := by decide +kernel
theorem dX12_ofKeeper_40 : decode cX12_ofKeeper 40 = .ok (.iconst 4, 1) := by decide +kernel
theorem dX12_ofKeeper_41 : decode cX12_ofKeeper 41 = .ok (.iload_n 1, 1) := by decide +kernel
theorem dX12_ofKeeper_42 : decode cX12_ofKeeper 42 = .ok (.iadd, 1) := by decide +kernel
theorem dX12_ofKeeper_43 : decode cX12_ofKeeper 43 = .ok (.iaload, 1) := by decide +kernel
theorem dX12_ofKeeper_44 : decode cX12_ofKeeper 44 = .ok (.ireturn, 1) := by decide +kernel
theorem dX12_ofKeeper_45 : decode cX12_ofKeeper 45 = .ok (.aload_n 0, 1) := by decide +kernel
theorem dX12_ofKeeper_46 : decode cX12_ofKeeper 46 = .ok (.getfield 7, 3) := by decide +kernel
theorem dX12_ofKeeper_49 : decode cX12_ofKeeper 49 = .ok (.bipush 11, 2) := by decide +kernel
theorem dX12_ofKeeper_51 : decode cX12_ofKeeper 51 = .ok (.iload_n 1, 1) := by decide +kernel
theorem dX12_ofKeeper_52 : decode cX12_ofKeeper 52 = .ok (.iadd, 1) := by decide +kernel
theorem dX12_ofKeeper_53 : decode cX12_ofKeeper 53 = .ok (.iaload, 1) := by decide +kernel
theorem dX12_ofKeeper_54 : decode cX12_ofKeeper 54 = .ok (.ireturn, 1) := by decide +kernel
theorem dX12_ofKeeper_55 : decode cX12_ofKeeper 55 = .ok (.aload_n 0, 1) := by decide +kernel
theorem dX12_ofKeeper_56 : decode cX12_ofKeeper 56 = .ok (.getfield 7, 3) := by decide +kernel
theorem dX12_ofKeeper_59 : decode cX12_ofKeeper 59 = .ok (.bipush 18, 2) := by decide +kernel
theorem dX12_ofKeeper_61 : decode cX12_ofKeeper 61 = .ok (.iload_n 1, 1) := by decide +kernel
theorem dX12_ofKeeper_62 : decode cX12_ofKeeper 62 = .ok (.iadd, 1) := by decide +kernel
theorem dX12_ofKeeper_63 : decode cX12_ofKeeper 63 = .ok (.iaload, 1) := by decide +kernel
theorem dX12_ofKeeper_64 : decode cX12_ofKeeper 64 = .ok (.ireturn, 1) := by decide +kernel
theorem dX12_ofKeeper_65 : decode cX12_ofKeeper 65 = .ok (.aload_n 0, 1) := by decide +kernel
theorem dX12_ofKeeper_66 : decode cX12_ofKeeper 66 = .ok (.getfield 7, 3) := by decide +kernel
theorem dX12_ofKeeper_69 : decode cX12_ofKeeper 69 = .ok (.bipush 25, 2) := by decide +kernel
theorem dX12_ofKeeper_71 : decode cX12_ofKeeper 71 = .ok (.iload_n 1, 1) := by decide +kernel
theorem dX12_ofKeeper_72 : decode cX12_ofKeeper 72 = .ok (.iadd, 1) := by decide +kernel
theorem dX12_ofKeeper_73 : decode cX12_ofKeeper 73 = .ok (.iaload, 1) := by decide +kernel
theorem dX12_ofKeeper_74 : decode cX12_ofKeeper 74 = .ok (.ireturn, 1) := by decide +kernel
theorem dX12_ofKeeper_75 : decode cX12_ofKeeper 75 = .ok (.aload_n 0, 1) := by decide +kernel
theorem dX12_ofKeeper_76 : decode cX12_ofKeeper 76 = .ok (.getfield 7, 3) := by decide +kernel
theorem dX12_ofKeeper_79 : decode cX12_ofKeeper 79 = .ok (.bipush 32, 2) := by decide +kernel
theorem dX12_ofKeeper_81 : decode cX12_ofKeeper 81 = .ok (.iload_n 1, 1) := by decide +kernel
theorem dX12_ofKeeper_82 : decode cX12_ofKeeper 82 = .ok (.iadd, 1) := by decide +kernel
theorem dX12_ofKeeper_83 : decode cX12_ofKeeper 83 = .ok (.iaload, 1) := by decide +kernel
theorem dX12_ofKeeper_84 : decode cX12_ofKeeper 84 = .ok (.ireturn, 1) := by decide +kernel
theorem dX12_ofKeeper_85 : decode cX12_ofKeeper 85 = .ok (.aload_n 0, 1) := by decide +kernel
theorem dX12_ofKeeper_86 : decode cX12_ofKeeper 86 = .ok (.getfield 7, 3) := by decide +kernel
theorem dX12_ofKeeper_89 : decode cX12_ofKeeper 89 = .ok (.iconst 3, 1) := by decide +kernel
theorem dX12_ofKeeper_90 : decode cX12_ofKeeper 90 = .ok (.iaload, 1) := by decide +kernel
theorem dX12_ofKeeper_91 : decode cX12_ofKeeper 91 = .ok (.iload_n 1, 1) := by decide +kernel
theorem dX12_ofKeeper_92 : decode cX12_ofKeeper 92 = .ok (.ishr, 1) := by decide +kernel
theorem dX12_ofKeeper_93 : decode cX12_ofKeeper 93 = .ok (.iconst 1, 1) := by decide +kernel
theorem dX12_ofKeeper_94 : decode cX12_ofKeeper 94 = .ok (.iand, 1) := by decide +kernel
theorem dX12_ofKeeper_95 : decode cX12_ofKeeper 95 = .ok (.ireturn, 1) := by decide +kernel
set_option maxRecDepth 20000 in
theorem ggX12_of_X12_isKeeper : GoodIn wsX12_of wsX12_isKeeper := goodIn_r _ [6, 7, 8, 9, 5, 10, 20, 21, 22, 23, 24, 25, 26, 27, 28, 29, 30, 31, 32, 33, 34, 35, 36, 37, 38, 39] (by decide +kernel) (by decide +kernel)
set_option maxRecDepth 20000 in
theorem gX12_of_X12_isKeeper : GoodIn wsX12_of (wsV RX12 89 RX12 yX12_isKeeper wsX12_isKeeper) := goodIn_app (goodIn_of _ (by decide +kernel)) ggX12_of_X12_isKeeper
set_option maxRecDepth 20000 in
theorem ggX12_of_X12_in : GoodIn wsX12_of wsX12_in := goodIn_r _ [10] (by decide +kernel) (by decide +kernel)
set_option maxRecDepth 20000 in
theorem gX12_of_X12_in : GoodIn wsX12_of (va_wsS RX12 49 yX12_in wsX12_in) := goodIn_app (goodIn_of _ (by decide +kernel)) ggX12_of_X12_in
set_option maxRecDepth 20000 in
theorem ggX12_of_X12_ofKeeper : GoodIn wsX12_of wsX12_ofKeeper := goodIn_r _ [14, 7, 20, 21, 22, 23, 24, 25, 26, 27, 28, 29, 30, 31, 32, 33, 34, 35, 36, 37, 38, 39] (by decide +kernel) (by decide +kernel)
set_option maxRecDepth 20000 in
theorem gX12_of_X12_ofKeeper : GoodIn wsX12_of (wsV RX12 194 RX12 yX12_ofKeeper wsX12_ofKeeper) := goodIn_app (goodIn_of _ (by decide +kernel)) ggX12_of_X12_ofKeeper
set_option maxRecDepth 20000 in
theorem ggX12_of_X12_bad : GoodIn wsX12_of wsX12_bad := goodIn_r _ [18, 19, 20, 21, 22, 23, 24, 25, 26, 27, 28, 29, 30, 31, 32, 33, 34, 35, 36, 37, 38, 39] (by decide +kernel) (by decide +kernel)
set_option maxRecDepth 20000 in
theorem gX12_of_X12_bad : GoodIn wsX12_of (wsV RX12 77 RX12 yX12_bad wsX12_bad) := goodIn_app (goodIn_of _ (by decide +kernel)) ggX12_of_X12_bad
theorem dX12_of_0 : decode cX12_of 0 = .ok (.aload_n 0, 1) := by decide +kernel
theorem dX12_of_1 : decode cX12_of 1 = .ok (.iload_n 1, 1) := by decide +kernel
theorem dX12_of_2 : decode cX12_of 2 = .ok (.invokevirtual 89, 3) := by decide +kernel
theorem dX12_of_5 : decode cX12_of 5 = .ok (.ifCond .eq 24, 3) := by decide +kernel
theorem dX12_of_8 : decode cX12_of 8 = .ok (.iload_n 2, 1) := by decide +kernel
theorem dX12_of_9 : decode cX12_of 9 = .ok (.i2l, 1) := by decide +kernel
theorem dX12_of_10 : decode cX12_of 10 = .ok (.lconst 0, 1) := by decide +kernel
theorem dX12_of_11 : decode cX12_of 11 = .ok (.ldc2_w 71, 3) := by decide +kernel
theorem dX12_of_14 : decode cX12_of 14 = .ok (.invokestatic 49, 3) := by decide +kernel
theorem dX12_of_17 : decode cX12_of 17 = .ok (.ifCond .eq 12, 3) := by decide +kernel
theorem dX12_of_20 : decode cX12_of 20 = .ok (.aload_n 0, 1) := by decide +kernel
theorem dX12_of_21 : decode cX12_of 21 = .ok (.iload_n 1, 1) := by decide +kernel
theorem dX12_of_22 : decode cX12_of 22 = .ok (.iload_n 2, 1) := by decide +kernel
theorem dX12_of_23 : decode cX12_of 23 = .ok (.invokevirtual 194, 3) := by decide +kernel
theorem dX12_of_26 : decode cX12_of 26 = .ok (.goto 9, 3) := by decide +kernel
theorem dX12_of_29 : decode cX12_of 29 = .ok (.aload_n 0, 1) := by decide +kernel
theorem dX12_of_30 : decode cX12_of 30 = .ok (.bipush (-2), 2) := by decide +kernel
theorem dX12_of_32 : decode cX12_of 32 = .ok (.invokevirtual 77, 3) := by decide +kernel
theorem dX12_of_35 : decode cX12_of 35 = .ok (.ireturn, 1) := by decide +kernel
set_option maxRecDepth 20000 in
theorem ggX12_thenOf_X12_goes : GoodIn wsX12_thenOf wsX12_goes := goodIn_r _ [5, 6, 7, 4, 8] (by decide +kernel) (by decide +kernel)
set_option maxRecDepth 20000 in
theorem gX12_thenOf_X12_goes : GoodIn wsX12_thenOf (va_wsS RX12 163 yX12_goes wsX12_goes) := goodIn_app (goodIn_of _ (by decide +kernel)) ggX12_thenOf_X12_goes
theorem dX12_thenOf_0 : decode cX12_thenOf 0 = .ok (.aload_n 0, 1) := by decide +kernel
theorem dX12_thenOf_1 : decode cX12_thenOf 1 = .ok (.getfield 7, 3) := by decide +kernel
theorem dX12_thenOf_4 : decode cX12_thenOf 4 = .ok (.bipush 18, 2) := by decide +kernel
theorem dX12_thenOf_6 : decode cX12_thenOf 6 = .ok (.iload_n 1, 1) := by decide +kernel
theorem dX12_thenOf_7 : decode cX12_thenOf 7 = .ok (.iadd, 1) := by decide +kernel
theorem dX12_thenOf_8 : decode cX12_thenOf 8 = .ok (.iaload, 1) := by decide +kernel
theorem dX12_thenOf_9 : decode cX12_thenOf 9 = .ok (.istore_n 3, 1) := by decide +kernel
theorem dX12_thenOf_10 : decode cX12_thenOf 10 = .ok (.iconst 0, 1) := by decide +kernel
theorem dX12_thenOf_11 : decode cX12_thenOf 11 = .ok (.istore 4, 2) := by decide +kernel
theorem dX12_thenOf_13 : decode cX12_thenOf 13 = .ok (.iload 4, 2) := by decide +kernel
theorem dX12_thenOf_15 : decode cX12_thenOf 15 = .ok (.iload_n 2, 1) := by decide +kernel
theorem dX12_thenOf_16 : decode cX12_thenOf 16 = .ok (.if_icmp .ge 31, 3) := by decide +kernel
theorem dX12_thenOf_19 : decode cX12_thenOf 19 = .ok (.aload_n 0, 1) := by decide +kernel
theorem dX12_thenOf_20 : decode cX12_thenOf 20 = .ok (.getfield 7, 3) := by decide +kernel
theorem dX12_thenOf_23 : decode cX12_thenOf 23 = .ok (.iconst 4, 1) := by decide +kernel
theorem dX12_thenOf_24 : decode cX12_thenOf 24 = .ok (.iload_n 1, 1) := by decide +kernel
theorem dX12_thenOf_25 : decode cX12_thenOf 25 = .ok (.iadd, 1) := by decide +kernel
theorem dX12_thenOf_26 : decode cX12_thenOf 26 = .ok (.iaload, 1) := by decide +kernel
theorem dX12_thenOf_27 : decode cX12_thenOf 27 = .ok (.iload_n 3, 1) := by decide +kernel
theorem dX12_thenOf_28 : decode cX12_thenOf 28 = .ok (.aload_n 0, 1) := by decide +kernel
theorem dX12_thenOf_29 : decode cX12_thenOf 29 = .ok (.getfield 7, 3) := by decide +kernel
theorem dX12_thenOf_32 : decode cX12_thenOf 32 = .ok (.iconst 2, 1) := by decide +kernel
theorem dX12_thenOf_33 : decode cX12_thenOf 33 = .ok (.iaload, 1) := by decide +kernel
theorem dX12_thenOf_34 : decode cX12_thenOf 34 = .ok (.iload 4, 2) := by decide +kernel
theorem dX12_thenOf_36 : decode cX12_thenOf 36 = .ok (.iadd, 1) := by decide +kernel
theorem dX12_thenOf_37 : decode cX12_thenOf 37 = .ok (.invokestatic 163, 3) := by decide +kernel
theorem dX12_thenOf_40 : decode cX12_thenOf 40 = .ok (.istore_n 3, 1) := by decide +kernel
theorem dX12_thenOf_41 : decode cX12_thenOf 41 = .ok (.iinc 4 1, 3) := by decide +kernel
theorem dX12_thenOf_44 : decode cX12_thenOf 44 = .ok (.goto (-31), 3) := by decide +kernel
theorem dX12_thenOf_47 : decode cX12_thenOf 47 = .ok (.iload_n 3, 1) := by decide +kernel
theorem dX12_thenOf_48 : decode cX12_thenOf 48 = .ok (.ireturn, 1) := by decide +kernel
set_option maxRecDepth 20000 in
theorem ggX12_then_X12_isKeeper : GoodIn wsX12_then wsX12_isKeeper := goodIn_r _ [6, 7, 8, 9, 5, 10, 26, 27, 28, 29, 30, 31, 32, 33, 34, 35, 36, 37, 38, 39, 40, 41, 42, 43, 44, 45] (by decide +kernel) (by decide +kernel)
set_option maxRecDepth 20000 in
theorem gX12_then_X12_isKeeper : GoodIn wsX12_then (wsV RX12 89 RX12 yX12_isKeeper wsX12_isKeeper) := goodIn_app (goodIn_of _ (by decide +kernel)) ggX12_then_X12_isKeeper
set_option maxRecDepth 20000 in
theorem ggX12_then_X12_in : GoodIn wsX12_then wsX12_in := goodIn_r _ [10] (by decide +kernel) (by decide +kernel)
set_option maxRecDepth 20000 in
theorem gX12_then_X12_in : GoodIn wsX12_then (va_wsS RX12 49 yX12_in wsX12_in) := goodIn_app (goodIn_of _ (by decide +kernel)) ggX12_then_X12_in
set_option maxRecDepth 20000 in
theorem ggX12_then_X12_thenOf : GoodIn wsX12_then wsX12_thenOf := goodIn_r _ [14, 7, 15, 16, 5, 17, 18, 19, 20, 26, 27, 28, 29, 30, 31, 32, 33, 34, 35, 36, 37, 38, 39, 40, 41, 42, 43, 44, 45] (by decide +kernel) (by decide +kernel)
set_option maxRecDepth 20000 in
theorem gX12_then_X12_thenOf : GoodIn wsX12_then (wsV RX12 197 RX12 yX12_thenOf wsX12_thenOf) := goodIn_app (goodIn_of _ (by decide +kernel)) ggX12_then_X12_thenOf
set_option maxRecDepth 20000 in
theorem ggX12_then_X12_bad : GoodIn wsX12_then wsX12_bad := goodIn_r _ [24, 25, 26, 27, 28, 29, 30, 31, 32, 33, 34, 35, 36, 37, 38, 39, 40, 41, 42, 43, 44, 45] (by decide +kernel) (by decide +kernel)
set_option maxRecDepth 20000 in
theorem gX12_then_X12_bad : GoodIn wsX12_then (wsV RX12 77 RX12 yX12_bad wsX12_bad) := goodIn_app (goodIn_of _ (by decide +kernel)) ggX12_then_X12_bad
theorem dX12_then_0 : decode cX12_then 0 = .ok (.aload_n 0, 1) := by decide +kernel
theorem dX12_then_1 : decode cX12_then 1 = .ok (.iload_n 1, 1) := by decide +kernel
theorem dX12_then_2 : decode cX12_then 2 = .ok (.invokevirtual 89, 3) := by decide +kernel
theorem dX12_then_5 : decode cX12_then 5 = .ok (.ifCond .eq 24, 3) := by decide +kernel
theorem dX12_then_8 : decode cX12_then 8 = .ok (.iload_n 2, 1) := by decide +kernel
theorem dX12_then_9 : decode cX12_then 9 = .ok (.i2l, 1) := by decide +kernel
theorem dX12_then_10 : decode cX12_then 10 = .ok (.lconst 0, 1) := by decide +kernel
theorem dX12_then_11 : decode cX12_then 11 = .ok (.ldc2_w 189, 3) := by decide +kernel
theorem dX12_then_14 : decode cX12_then 14 = .ok (.invokestatic 49, 3) := by decide +kernel
theorem dX12_then_17 : decode cX12_then 17 = .ok (.ifCond .eq 12, 3) := by decide +kernel
theorem dX12_then_20 : decode cX12_then 20 = .ok (.aload_n 0, 1) := by decide +kernel
theorem dX12_then_21 : decode cX12_then 21 = .ok (.iload_n 1, 1) := by decide +kernel
theorem dX12_then_22 : decode cX12_then 22 = .ok (.iload_n 2, 1) := by decide +kernel
theorem dX12_then_23 : decode cX12_then 23 = .ok (.invokevirtual 197, 3) := by decide +kernel
theorem dX12_then_26 : decode cX12_then 26 = .ok (.goto 9, 3) := by decide +kernel
theorem dX12_then_29 : decode cX12_then 29 = .ok (.aload_n 0, 1) := by decide +kernel
theorem dX12_then_30 : decode cX12_then 30 = .ok (.bipush (-2), 2) := by decide +kernel
theorem dX12_then_32 : decode cX12_then 32 = .ok (.invokevirtual 77, 3) := by decide +kernel
theorem dX12_then_35 : decode cX12_then 35 = .ok (.ireturn, 1) := by decide +kernel
set_option maxRecDepth 20000 in
theorem ggX12_off_X12_isKeeper : GoodIn wsX12_off wsX12_isKeeper := goodIn_r _ [7, 2, 8, 9, 6, 10, 22, 23, 24, 25, 26, 27, 28, 29, 30, 31, 32, 33, 34, 35, 36, 37, 38, 39, 40, 41] (by decide +kernel) (by decide +kernel)
set_option maxRecDepth 20000 in
theorem gX12_off_X12_isKeeper : GoodIn wsX12_off (wsV RX12 89 RX12 yX12_isKeeper wsX12_isKeeper) := goodIn_app (goodIn_of _ (by decide +kernel)) ggX12_off_X12_isKeeper
set_option maxRecDepth 20000 in
theorem ggX12_off_X12_in : GoodIn wsX12_off wsX12_in := goodIn_r _ [10] (by decide +kernel) (by decide +kernel)
set_option maxRecDepth 20000 in
theorem gX12_off_X12_in : GoodIn wsX12_off (va_wsS RX12 49 yX12_in wsX12_in) := goodIn_app (goodIn_of _ (by decide +kernel)) ggX12_off_X12_in
set_option maxRecDepth 20000 in
theorem ggX12_off_X12_bad : GoodIn wsX12_off wsX12_bad := goodIn_r _ [14, 15, 22, 23, 24, 25, 26, 27, 28, 29, 30, 31, 32, 33, 34, 35, 36, 37, 38, 39, 40, 41] (by decide +kernel) (by decide +kernel)
set_option maxRecDepth 20000 in
theorem gX12_off_X12_bad : GoodIn wsX12_off (wsV RX12 77 RX12 yX12_bad wsX12_bad) := goodIn_app (goodIn_of _ (by decide +kernel)) ggX12_off_X12_bad
set_option maxRecDepth 20000 in
theorem ggX12_off_X12_goes : GoodIn wsX12_off wsX12_goes := goodIn_r _ [18, 19, 20, 6, 21] (by decide +kernel) (by decide +kernel)
set_option maxRecDepth 20000 in
theorem gX12_off_X12_goes : GoodIn wsX12_off (va_wsS RX12 163 yX12_goes wsX12_goes) := goodIn_app (goodIn_of _ (by decide +kernel)) ggX12_off_X12_goes
theorem dX12_off_0 : decode cX12_off 0 = .ok (.aload_n 0, 1) := by decide +kernel
theorem dX12_off_1 : decode cX12_off 1 = .ok (.iload_n 1, 1) := by decide +kernel
theorem dX12_off_2 : decode cX12_off 2 = .ok (.invokevirtual 89, 3) := by decide +kernel
theorem dX12_off_5 : decode cX12_off 5 = .ok (.ifCond .eq 15, 3) := by decide +kernel
theorem dX12_off_8 : decode cX12_off 8 = .ok (.iload_n 2, 1) := by decide +kernel
theorem dX12_off_9 : decode cX12_off 9 = .ok (.i2l, 1) := by decide +kernel
theorem dX12_off_10 : decode cX12_off 10 = .ok (.lconst 1, 1) := by decide +kernel
theorem dX12_off_11 : decode cX12_off 11 = .ok (.ldc2_w 189, 3) := by decide +kernel
theorem dX12_off_14 : decode cX12_off 14 = .ok (.invokestatic 49, 3) := by decide +kernel
theorem dX12_off_17 : decode cX12_off 17 = .ok (.ifCond .ne 10, 3) := by decide +kernel
theorem dX12_off_20 : decode cX12_off 20 = .ok (.aload_n 0, 1) := by decide +kernel
theorem dX12_off_21 : decode cX12_off 21 = .ok (.bipush (-2), 2) := by decide +kernel
theorem dX12_off_23 : decode cX12_off 23 = .ok (.invokevirtual 77, 3) := by decide +kernel
theorem dX12_off_26 : decode cX12_off 26 = .ok (.ireturn, 1) := by decide +kernel
theorem dX12_off_27 : decode cX12_off 27 = .ok (.aload_n 0, 1) := by decide +kernel
theorem dX12_off_28 : decode cX12_off 28 = .ok (.getfield 7, 3) := by decide +kernel
theorem dX12_off_31 : decode cX12_off 31 = .ok (.bipush 18, 2) := by decide +kernel
theorem dX12_off_33 : decode cX12_off 33 = .ok (.iload_n 1, 1) := by decide +kernel
theorem dX12_off_34 : decode cX12_off 34 = .ok (.iadd, 1) := by decide +kernel
theorem dX12_off_35 : decode cX12_off 35 = .ok (.iaload, 1) := by decide +kernel
theorem dX12_off_36 : decode cX12_off 36 = .ok (.istore_n 3, 1) := by decide +kernel
theorem dX12_off_37 : decode cX12_off 37 = .ok (.iconst 0, 1) := by decide +kernel
theorem dX12_off_38 : decode cX12_off 38 = .ok (.istore 4, 2) := by decide +kernel
theorem dX12_off_40 : decode cX12_off 40 = .ok (.iload 4, 2) := by decide +kernel
theorem dX12_off_42 : decode cX12_off 42 = .ok (.bipush 100, 2) := by decide +kernel
theorem dX12_off_44 : decode cX12_off 44 = .ok (.if_icmp .ge 60, 3) := by decide +kernel
theorem dX12_off_47 : decode cX12_off 47 = .ok (.iload_n 3, 1) := by decide +kernel
theorem dX12_off_48 : decode cX12_off 48 = .ok (.aload_n 0, 1) := by decide +kernel
theorem dX12_off_49 : decode cX12_off 49 = .ok (.getfield 7, 3) := by decide +kernel
theorem dX12_off_52 : decode cX12_off 52 = .ok (.bipush 25, 2) := by decide +kernel
theorem dX12_off_54 : decode cX12_off 54 = .ok (.iload_n 1, 1) := by decide +kernel
theorem dX12_off_55 : decode cX12_off 55 = .ok (.iadd, 1) := by decide +kernel
theorem dX12_off_56 : decode cX12_off 56 = .ok (.iaload, 1) := by decide +kernel
theorem dX12_off_57 : decode cX12_off 57 = .ok (.isub, 1) := by decide +kernel
theorem dX12_off_58 : decode cX12_off 58 = .ok (.istore 5, 2) := by decide +kernel
theorem dX12_off_60 : decode cX12_off 60 = .ok (.iload 5, 2) := by decide +kernel
theorem dX12_off_62 : decode cX12_off 62 = .ok (.iload_n 2, 1) := by decide +kernel
theorem dX12_off_63 : decode cX12_off 63 = .ok (.if_icmp .ge 10, 3) := by decide +kernel
theorem dX12_off_66 : decode cX12_off 66 = .ok (.iload 5, 2) := by decide +kernel
theorem dX12_off_68 : decode cX12_off 68 = .ok (.iload_n 2, 1) := by decide +kernel
theorem dX12_off_69 : decode cX12_off 69 = .ok (.ineg, 1) := by decide +kernel
theorem dX12_off_70 : decode cX12_off 70 = .ok (.if_icmp .gt 6, 3) := by decide +kernel
theorem dX12_off_73 : decode cX12_off 73 = .ok (.iload 4, 2) := by decide +kernel
theorem dX12_off_75 : decode cX12_off 75 = .ok (.ireturn, 1) := by decide +kernel
theorem dX12_off_76 : decode cX12_off 76 = .ok (.aload_n 0, 1) := by decide +kernel
theorem dX12_off_77 : decode cX12_off 77 = .ok (.getfield 7, 3) := by decide +kernel
theorem dX12_off_80 : decode cX12_off 80 = .ok (.iconst 4, 1) := by decide +kernel
theorem dX12_off_81 : decode cX12_off 81 = .ok (.iload_n 1, 1) := by decide +kernel
theorem dX12_off_82 : decode cX12_off 82 = .ok (.iadd, 1) := by decide +kernel
theorem dX12_off_83 : decode cX12_off 83 = .ok (.iaload, 1) := by decide +kernel
theorem dX12_off_84 : decode cX12_off 84 = .ok (.iload_n 3, 1) := by decide +kernel
theorem dX12_off_85 : decode cX12_off 85 = .ok (.aload_n 0, 1) := by decide +kernel
theorem dX12_off_86 : decode cX12_off 86 = .ok (.getfield 7, 3) := by decide +kernel
theorem dX12_off_89 : decode cX12_off 89 = .ok (.iconst 2, 1) := by decide +kernel
theorem dX12_off_90 : decode cX12_off 90 = .ok (.iaload, 1) := by decide +kernel
theorem dX12_off_91 : decode cX12_off 91 = .ok (.iload 4, 2) := by decide +kernel
theorem dX12_off_93 : decode cX12_off 93 = .ok (.iadd, 1) := by decide +kernel
theorem dX12_off_94 : decode cX12_off 94 = .ok (.invokestatic 163, 3) := by decide +kernel
theorem dX12_off_97 : decode cX12_off 97 = .ok (.istore_n 3, 1) := by decide +kernel
theorem dX12_off_98 : decode cX12_off 98 = .ok (.iinc 4 1, 3) := by decide +kernel
theorem dX12_off_101 : decode cX12_off 101 = .ok (.goto (-61), 3) := by decide +kernel
theorem dX12_off_104 : decode cX12_off 104 = .ok (.iconst (-1), 1) := by decide +kernel
theorem dX12_off_105 : decode cX12_off 105 = .ok (.ireturn, 1) := by decide +kernel
set_option maxRecDepth 20000 in
theorem ggX12_lays_X12_has : GoodIn wsX12_lays wsX12_has := goodIn_r _ [9] (by decide +kernel) (by decide +kernel)
set_option maxRecDepth 20000 in
theorem gX12_lays_X12_has : GoodIn wsX12_lays (va_wsS RX12 173 yX12_has wsX12_has) := goodIn_app (goodIn_of _ (by decide +kernel)) ggX12_lays_X12_has
theorem dX12_lays_0 : decode cX12_lays 0 = .ok (.aload_n 0, 1) := by decide +kernel
theorem dX12_lays_1 : decode cX12_lays 1 = .ok (.iconst 0, 1) := by decide +kernel
theorem dX12_lays_2 : decode cX12_lays 2 = .ok (.putfield 200, 3) := by decide +kernel
theorem dX12_lays_5 : decode cX12_lays 5 = .ok (.aload_n 0, 1) := by decide +kernel
theorem dX12_lays_6 : decode cX12_lays 6 = .ok (.iconst 1, 1) := by decide +kernel
theorem dX12_lays_7 : decode cX12_lays 7 = .ok (.putfield 203, 3) := by decide +kernel
theorem dX12_lays_10 : decode cX12_lays 10 = .ok (.aload_n 0, 1) := by decide +kernel
theorem dX12_lays_11 : decode cX12_lays 11 = .ok (.iconst 0, 1) := by decide +kernel
theorem dX12_lays_12 : decode cX12_lays 12 = .ok (.putfield 207, 3) := by decide +kernel
theorem dX12_lays_15 : decode cX12_lays 15 = .ok (.aload_n 0, 1) := by decide +kernel
theorem dX12_lays_16 : decode cX12_lays 16 = .ok (.iconst 0, 1) := by decide +kernel
theorem dX12_lays_17 : decode cX12_lays 17 = .ok (.putfield 210, 3) := by decide +kernel
theorem dX12_lays_20 : decode cX12_lays 20 = .ok (.iload_n 1, 1) := by decide +kernel
theorem dX12_lays_21 : decode cX12_lays 21 = .ok (.istore_n 3, 1) := by decide +kernel
theorem dX12_lays_22 : decode cX12_lays 22 = .ok (.iconst 0, 1) := by decide +kernel
theorem dX12_lays_23 : decode cX12_lays 23 = .ok (.istore 4, 2) := by decide +kernel
theorem dX12_lays_25 : decode cX12_lays 25 = .ok (.iload 4, 2) := by decide +kernel
theorem dX12_lays_27 : decode cX12_lays 27 = .ok (.aload_n 0, 1) := by decide +kernel
theorem dX12_lays_28 : decode cX12_lays 28 = .ok (.getfield 7, 3) := by decide +kernel
theorem dX12_lays_31 : decode cX12_lays 31 = .ok (.iconst 0, 1) := by decide +kernel
theorem dX12_lays_32 : decode cX12_lays 32 = .ok (.iaload, 1) := by decide +kernel
theorem dX12_lays_33 : decode cX12_lays 33 = .ok (.if_icmp .ge 143, 3) := by decide +kernel
theorem dX12_lays_36 : decode cX12_lays 36 = .ok (.iload_n 3, 1) := by decide +kernel
theorem dX12_lays_37 : decode cX12_lays 37 = .ok (.iconst 3, 1) := by decide +kernel
theorem dX12_lays_38 : decode cX12_lays 38 = .ok (.irem, 1) := by decide +kernel
theorem dX12_lays_39 : decode cX12_lays 39 = .ok (.istore 5, 2) := by decide +kernel
theorem dX12_lays_41 : decode cX12_lays 41 = .ok (.iload_n 3, 1) := by decide +kernel
theorem dX12_lays_42 : decode cX12_lays 42 = .ok (.iconst 3, 1) := by decide +kernel
theorem dX12_lays_43 : decode cX12_lays 43 = .ok (.idiv, 1) := by decide +kernel
theorem dX12_lays_44 : decode cX12_lays 44 = .ok (.istore_n 3, 1) := by decide +kernel
theorem dX12_lays_45 : decode cX12_lays 45 = .ok (.iload 5, 2) := by decide +kernel
theorem dX12_lays_47 : decode cX12_lays 47 = .ok (.iconst 1, 1) := by decide +kernel
theorem dX12_lays_48 : decode cX12_lays 48 = .ok (.if_icmp .ne 7, 3) := by decide +kernel
theorem dX12_lays_51 : decode cX12_lays 51 = .ok (.iconst (-1), 1) := by decide +kernel
theorem dX12_lays_52 : decode cX12_lays 52 = .ok (.goto 14, 3) := by decide +kernel
theorem dX12_lays_55 : decode cX12_lays 55 = .ok (.iload 5, 2) := by decide +kernel
theorem dX12_lays_57 : decode cX12_lays 57 = .ok (.iconst 2, 1) := by decide +kernel
theorem dX12_lays_58 : decode cX12_lays 58 = .ok (.if_icmp .ne 7, 3) := by decide +kernel
theorem dX12_lays_61 : decode cX12_lays 61 = .ok (.iconst 1, 1) := by decide +kernel
theorem dX12_lays_62 : decode cX12_lays 62 = .ok (.goto 4, 3) := by decide +kernel
theorem dX12_lays_65 : decode cX12_lays 65 = .ok (.iconst 0, 1) := by decide +kernel
theorem dX12_lays_66 : decode cX12_lays 66 = .ok (.istore 6, 2) := by decide +kernel
theorem dX12_lays_68 : decode cX12_lays 68 = .ok (.aload_n 0, 1) := by decide +kernel
theorem dX12_lays_69 : decode cX12_lays 69 = .ok (.dup, 1) := by decide +kernel
theorem dX12_lays_70 : decode cX12_lays 70 = .ok (.getfield 200, 3) := by decide +kernel
theorem dX12_lays_73 : decode cX12_lays 73 = .ok (.iload 5, 2) := by decide +kernel
theorem dX12_lays_75 : decode cX12_lays 75 = .ok (.ifCond .ne 7, 3) := by decide +kernel
theorem dX12_lays_78 : decode cX12_lays 78 = .ok (.iconst 0, 1) := by decide +kernel
theorem dX12_lays_79 : decode cX12_lays 79 = .ok (.goto 4, 3) := by decide +kernel
theorem dX12_lays_82 : decode cX12_lays 82 = .ok (.iconst 1, 1) := by decide +kernel
theorem dX12_lays_83 : decode cX12_lays 83 = .ok (.iadd, 1) := by decide +kernel
theorem dX12_lays_84 : decode cX12_lays 84 = .ok (.putfield 200, 3) := by decide +kernel
theorem dX12_lays_87 : decode cX12_lays 87 = .ok (.aload_n 0, 1) := by decide +kernel
theorem dX12_lays_88 : decode cX12_lays 88 = .ok (.aload_n 0, 1) := by decide +kernel
theorem dX12_lays_89 : decode cX12_lays 89 = .ok (.getfield 203, 3) := by decide +kernel
theorem dX12_lays_92 : decode cX12_lays 92 = .ok (.ifCond .eq 30, 3) := by decide +kernel
theorem dX12_lays_95 : decode cX12_lays 95 = .ok (.iload 5, 2) := by decide +kernel
theorem dX12_lays_97 : decode cX12_lays 97 = .ok (.ifCond .eq 21, 3) := by decide +kernel
theorem dX12_lays_100 : decode cX12_lays 100 = .ok (.iload_n 2, 1) := by decide +kernel
theorem dX12_lays_101 : decode cX12_lays 101 = .ok (.ifCond .eq 17, 3) := by decide +kernel
theorem dX12_lays_104 : decode cX12_lays 104 = .ok (.aload_n 0, 1) := by decide +kernel
theorem dX12_lays_105 : decode cX12_lays 105 = .ok (.getfield 7, 3) := by decide +kernel
theorem dX12_lays_108 : decode cX12_lays 108 = .ok (.iconst 3, 1) := by decide +kernel
theorem dX12_lays_109 : decode cX12_lays 109 = .ok (.iaload, 1) := by decide +kernel
theorem dX12_lays_110 : decode cX12_lays 110 = .ok (.iload 4, 2) := by decide +kernel
theorem dX12_lays_112 : decode cX12_lays 112 = .ok (.invokestatic 173, 3) := by decide +kernel
theorem dX12_lays_115 : decode cX12_lays 115 = .ok (.ifCond .eq 7, 3) := by decide +kernel
theorem dX12_lays_118 : decode cX12_lays 118 = .ok (.iconst 1, 1) := by decide +kernel
theorem dX12_lays_119 : decode cX12_lays 119 = .ok (.goto 4, 3) := by decide +kernel
theorem dX12_lays_122 : decode cX12_lays 122 = .ok (.iconst 0, 1) := by decide +kernel
theorem dX12_lays_123 : decode cX12_lays 123 = .ok (.putfield 203, 3) := by decide +kernel
theorem dX12_lays_126 : decode cX12_lays 126 = .ok (.aload_n 0, 1) := by decide +kernel
theorem dX12_lays_127 : decode cX12_lays 127 = .ok (.dup, 1) := by decide +kernel
theorem dX12_lays_128 : decode cX12_lays 128 = .ok (.getfield 207, 3) := by decide +kernel
theorem dX12_lays_131 : decode cX12_lays 131 = .ok (.iload 6, 2) := by decide +kernel
theorem dX12_lays_133 : decode cX12_lays 133 = .ok (.aload_n 0, 1) := by decide +kernel
theorem dX12_lays_134 : decode cX12_lays 134 = .ok (.getfield 7, 3) := by decide +kernel
theorem dX12_lays_137 : decode cX12_lays 137 = .ok (.bipush 25, 2) := by decide +kernel
theorem dX12_lays_139 : decode cX12_lays 139 = .ok (.iload 4, 2) := by decide +kernel
theorem dX12_lays_141 : decode cX12_lays 141 = .ok (.iadd, 1) := by decide +kernel
theorem dX12_lays_142 : decode cX12_lays 142 = .ok (.iaload, 1) := by decide +kernel
theorem dX12_lays_143 : decode cX12_lays 143 = .ok (.imul, 1) := by decide +kernel
theorem dX12_lays_144 : decode cX12_lays 144 = .ok (.iadd, 1) := by decide +kernel
theorem dX12_lays_145 : decode cX12_lays 145 = .ok (.putfield 207, 3) := by decide +kernel
theorem dX12_lays_148 : decode cX12_lays 148 = .ok (.aload_n 0, 1) := by decide +kernel
theorem dX12_lays_149 : decode cX12_lays 149 = .ok (.dup, 1) := by decide +kernel
theorem dX12_lays_150 : decode cX12_lays 150 = .ok (.getfield 210, 3) := by decide +kernel
theorem dX12_lays_153 : decode cX12_lays 153 = .ok (.iload 6, 2) := by decide +kernel
theorem dX12_lays_155 : decode cX12_lays 155 = .ok (.aload_n 0, 1) := by decide +kernel
theorem dX12_lays_156 : decode cX12_lays 156 = .ok (.getfield 7, 3) := by decide +kernel
theorem dX12_lays_159 : decode cX12_lays 159 = .ok (.bipush 18, 2) := by decide +kernel
theorem dX12_lays_161 : decode cX12_lays 161 = .ok (.iload 4, 2) := by decide +kernel
theorem dX12_lays_163 : decode cX12_lays 163 = .ok (.iadd, 1) := by decide +kernel
theorem dX12_lays_164 : decode cX12_lays 164 = .ok (.iaload, 1) := by decide +kernel
theorem dX12_lays_165 : decode cX12_lays 165 = .ok (.imul, 1) := by decide +kernel
theorem dX12_lays_166 : decode cX12_lays 166 = .ok (.iadd, 1) := by decide +kernel
theorem dX12_lays_167 : decode cX12_lays 167 = .ok (.putfield 210, 3) := by decide +kernel
theorem dX12_lays_170 : decode cX12_lays 170 = .ok (.iinc 4 1, 3) := by decide +kernel
theorem dX12_lays_173 : decode cX12_lays 173 = .ok (.goto (-148), 3) := by decide +kernel
theorem dX12_lays_176 : decode cX12_lays 176 = .ok (.return_, 1) := by decide +kernel
theorem dX12_codes_0 : decode cX12_codes 0 = .ok (.iconst 1, 1) := by decide +kernel
theorem dX12_codes_1 : decode cX12_codes 1 = .ok (.istore_n 1, 1) := by decide +kernel
theorem dX12_codes_2 : decode cX12_codes 2 = .ok (.iconst 0, 1) := by decide +kernel
theorem dX12_codes_3 : decode cX12_codes 3 = .ok (.istore_n 2, 1) := by decide +kernel
theorem dX12_codes_4 : decode cX12_codes 4 = .ok (.iload_n 2, 1) := by decide +kernel
theorem dX12_codes_5 : decode cX12_codes 5 = .ok (.aload_n 0, 1) := by decide +kernel
theorem dX12_codes_6 : decode cX12_codes 6 = .ok (.getfield 7, 3) := by decide +kernel
theorem dX12_codes_9 : decode cX12_codes 9 = .ok (.iconst 0, 1) := by decide +kernel
theorem dX12_codes_10 : decode cX12_codes 10 = .ok (.iaload, 1) := by decide +kernel
theorem dX12_codes_11 : decode cX12_codes 11 = .ok (.if_icmp .ge 13, 3) := by decide +kernel
theorem dX12_codes_14 : decode cX12_codes 14 = .ok (.iload_n 1, 1) := by decide +kernel
theorem dX12_codes_15 : decode cX12_codes 15 = .ok (.iconst 3, 1) := by decide +kernel
theorem dX12_codes_16 : decode cX12_codes 16 = .ok (.imul, 1) := by decide +kernel
theorem dX12_codes_17 : decode cX12_codes 17 = .ok (.istore_n 1, 1) := by decide +kernel
theorem dX12_codes_18 : decode cX12_codes 18 = .ok (.iinc 2 1, 3) := by decide +kernel
theorem dX12_codes_21 : decode cX12_codes 21 = .ok (.goto (-17), 3) := by decide +kernel
theorem dX12_codes_24 : decode cX12_codes 24 = .ok (.iload_n 1, 1) := by decide +kernel
theorem dX12_codes_25 : decode cX12_codes 25 = .ok (.ireturn, 1) := by decide +kernel
set_option maxRecDepth 20000 in
theorem ggX12_load_X12_in : GoodIn wsX12_load wsX12_in := goodIn_r _ [11] (by decide +kernel) (by decide +kernel)
set_option maxRecDepth 20000 in
theorem gX12_load_X12_in : GoodIn wsX12_load (va_wsS RX12 49 yX12_in wsX12_in) := goodIn_app (goodIn_of _ (by decide +kernel)) ggX12_load_X12_in
set_option maxRecDepth 20000 in
theorem ggX12_load_X12_bad : GoodIn wsX12_load wsX12_bad := goodIn_r _ [15, 16, 29, 30, 31, 32, 33, 34, 35, 36, 37, 38, 39, 40, 41, 42, 43, 44, 45, 46, 47, 48] (by decide +kernel) (by decide +kernel)
set_option maxRecDepth 20000 in
theorem gX12_load_X12_bad : GoodIn wsX12_load (wsV RX12 77 RX12 yX12_bad wsX12_bad) := goodIn_app (goodIn_of _ (by decide +kernel)) ggX12_load_X12_bad
set_option maxRecDepth 20000 in
theorem ggX12_load_X12_codes : GoodIn wsX12_load wsX12_codes := goodIn_r _ [20, 21, 29, 30, 31, 32, 33, 34, 35, 36, 37, 38, 39, 40, 41, 42, 43, 44, 45, 46, 47, 48] (by decide +kernel) (by decide +kernel)
set_option maxRecDepth 20000 in
theorem gX12_load_X12_codes : GoodIn wsX12_load (wsV RX12 216 RX12 yX12_codes wsX12_codes) := goodIn_app (goodIn_of _ (by decide +kernel)) ggX12_load_X12_codes
set_option maxRecDepth 20000 in
theorem ggX12_load_X12_lays : GoodIn wsX12_load wsX12_lays := goodIn_r _ [25, 6, 4, 5, 7, 21, 26, 27, 10, 28, 29, 30, 31, 32, 33, 34, 35, 36, 37, 38, 39, 40, 41, 42, 43, 44, 45, 46, 47, 48] (by decide +kernel) (by decide +kernel)
set_option maxRecDepth 20000 in
theorem gX12_load_X12_lays : GoodIn wsX12_load (wsV RX12 219 RX12 yX12_lays wsX12_lays) := goodIn_app (goodIn_of _ (by decide +kernel)) ggX12_load_X12_lays
theorem dX12_load_0 : decode cX12_load 0 = .ok (.iload_n 1, 1) := by decide +kernel
theorem dX12_load_1 : decode cX12_load 1 = .ok (.i2l, 1) := by decide +kernel
theorem dX12_load_2 : decode cX12_load 2 = .ok (.lconst 1, 1) := by decide +kernel
theorem dX12_load_3 : decode cX12_load 3 = .ok (.ldc2_w 213, 3) := by decide +kernel
theorem dX12_load_6 : decode cX12_load 6 = .ok (.invokestatic 49, 3) := by decide +kernel
theorem dX12_load_9 : decode cX12_load 9 = .ok (.ifCond .eq 25, 3) := by decide +kernel
theorem dX12_load_12 : decode cX12_load 12 = .ok (.iload_n 2, 1) := by decide +kernel
theorem dX12_load_13 : decode cX12_load 13 = .ok (.i2l, 1) := by decide +kernel
theorem dX12_load_14 : decode cX12_load 14 = .ok (.lconst 0, 1) := by decide +kernel
theorem dX12_load_15 : decode cX12_load 15 = .ok (.lconst 1, 1) := by decide +kernel
theorem dX12_load_16 : decode cX12_load 16 = .ok (.invokestatic 49, 3) := by decide +kernel
theorem dX12_load_19 : decode cX12_load 19 = .ok (.ifCond .eq 15, 3) := by decide +kernel
theorem dX12_load_22 : decode cX12_load 22 = .ok (.iload_n 3, 1) := by decide +kernel
theorem dX12_load_23 : decode cX12_load 23 = .ok (.i2l, 1) := by decide +kernel
theorem dX12_load_24 : decode cX12_load 24 = .ok (.lconst 0, 1) := by decide +kernel
theorem dX12_load_25 : decode cX12_load 25 = .ok (.ldc2_w 59, 3) := by decide +kernel
theorem dX12_load_28 : decode cX12_load 28 = .ok (.invokestatic 49, 3) := by decide +kernel
theorem dX12_load_31 : decode cX12_load 31 = .ok (.ifCond .ne 11, 3) := by decide +kernel
theorem dX12_load_34 : decode cX12_load 34 = .ok (.aload_n 0, 1) := by decide +kernel
theorem dX12_load_35 : decode cX12_load 35 = .ok (.sipush (-20000), 3) := by decide +kernel
theorem dX12_load_38 : decode cX12_load 38 = .ok (.invokevirtual 77, 3) := by decide +kernel
theorem dX12_load_41 : decode cX12_load 41 = .ok (.ireturn, 1) := by decide +kernel
theorem dX12_load_42 : decode cX12_load 42 = .ok (.iconst (-1), 1) := by decide +kernel
theorem dX12_load_43 : decode cX12_load 43 = .ok (.istore 4, 2) := by decide +kernel
theorem dX12_load_45 : decode cX12_load 45 = .ok (.ldc 215, 2) := by decide +kernel
theorem dX12_load_47 : decode cX12_load 47 = .ok (.istore 5, 2) := by decide +kernel
theorem dX12_load_49 : decode cX12_load 49 = .ok (.iconst 0, 1) := by decide +kernel
theorem dX12_load_50 : decode cX12_load 50 = .ok (.istore 6, 2) := by decide +kernel
theorem dX12_load_52 : decode cX12_load 52 = .ok (.iconst 0, 1) := by decide +kernel
theorem dX12_load_53 : decode cX12_load 53 = .ok (.istore 7, 2) := by decide +kernel
theorem dX12_load_55 : decode cX12_load 55 = .ok (.iload 7, 2) := by decide +kernel
theorem dX12_load_57 : decode cX12_load 57 = .ok (.aload_n 0, 1) := by decide +kernel
theorem dX12_load_58 : decode cX12_load 58 = .ok (.invokevirtual 216, 3) := by decide +kernel
theorem dX12_load_61 : decode cX12_load 61 = .ok (.if_icmp .ge 65, 3) := by decide +kernel
theorem dX12_load_64 : decode cX12_load 64 = .ok (.aload_n 0, 1) := by decide +kernel
theorem dX12_load_65 : decode cX12_load 65 = .ok (.iload 7, 2) := by decide +kernel
theorem dX12_load_67 : decode cX12_load 67 = .ok (.iload_n 2, 1) := by decide +kernel
theorem dX12_load_68 : decode cX12_load 68 = .ok (.iconst 1, 1) := by decide +kernel
theorem dX12_load_69 : decode cX12_load 69 = .ok (.if_icmp .ne 7, 3) := by decide +kernel
theorem dX12_load_72 : decode cX12_load 72 = .ok (.iconst 1, 1) := by decide +kernel
theorem dX12_load_73 : decode cX12_load 73 = .ok (.goto 4, 3) := by decide +kernel
theorem dX12_load_76 : decode cX12_load 76 = .ok (.iconst 0, 1) := by decide +kernel
theorem dX12_load_77 : decode cX12_load 77 = .ok (.invokevirtual 219, 3) := by decide +kernel
theorem dX12_load_80 : decode cX12_load 80 = .ok (.aload_n 0, 1) := by decide +kernel
theorem dX12_load_81 : decode cX12_load 81 = .ok (.getfield 203, 3) := by decide +kernel
theorem dX12_load_84 : decode cX12_load 84 = .ok (.ifCond .eq 36, 3) := by decide +kernel
theorem dX12_load_87 : decode cX12_load 87 = .ok (.aload_n 0, 1) := by decide +kernel
theorem dX12_load_88 : decode cX12_load 88 = .ok (.getfield 207, 3) := by decide +kernel
theorem dX12_load_91 : decode cX12_load 91 = .ok (.iload_n 1, 1) := by decide +kernel
theorem dX12_load_92 : decode cX12_load 92 = .ok (.if_icmp .ne 28, 3) := by decide +kernel
theorem dX12_load_95 : decode cX12_load 95 = .ok (.aload_n 0, 1) := by decide +kernel
theorem dX12_load_96 : decode cX12_load 96 = .ok (.getfield 200, 3) := by decide +kernel
theorem dX12_load_99 : decode cX12_load 99 = .ok (.iload 5, 2) := by decide +kernel
theorem dX12_load_101 : decode cX12_load 101 = .ok (.if_icmp .ge 19, 3) := by decide +kernel
theorem dX12_load_104 : decode cX12_load 104 = .ok (.iload 7, 2) := by decide +kernel
theorem dX12_load_106 : decode cX12_load 106 = .ok (.istore 4, 2) := by decide +kernel
theorem dX12_load_108 : decode cX12_load 108 = .ok (.aload_n 0, 1) := by decide +kernel
theorem dX12_load_109 : decode cX12_load 109 = .ok (.getfield 200, 3) := by decide +kernel
theorem dX12_load_112 : decode cX12_load 112 = .ok (.istore 5, 2) := by decide +kernel
theorem dX12_load_114 : decode cX12_load 114 = .ok (.aload_n 0, 1) := by decide +kernel
theorem dX12_load_115 : decode cX12_load 115 = .ok (.getfield 210, 3) := by decide +kernel
theorem dX12_load_118 : decode cX12_load 118 = .ok (.istore 6, 2) := by decide +kernel
theorem dX12_load_120 : decode cX12_load 120 = .ok (.iinc 7 1, 3) := by decide +kernel
theorem dX12_load_123 : decode cX12_load 123 = .ok (.goto (-68), 3) := by decide +kernel
theorem dX12_load_126 : decode cX12_load 126 = .ok (.iload 4, 2) := by decide +kernel
theorem dX12_load_128 : decode cX12_load 128 = .ok (.iconst (-1), 1) := by decide +kernel
theorem dX12_load_129 : decode cX12_load 129 = .ok (.if_icmp .ne 9, 3) := by decide +kernel
theorem dX12_load_132 : decode cX12_load 132 = .ok (.sipush (-10000), 3) := by decide +kernel
theorem dX12_load_135 : decode cX12_load 135 = .ok (.goto 24, 3) := by decide +kernel
theorem dX12_load_138 : decode cX12_load 138 = .ok (.iload_n 3, 1) := by decide +kernel
theorem dX12_load_139 : decode cX12_load 139 = .ok (.ifCond .ne 8, 3) := by decide +kernel
theorem dX12_load_142 : decode cX12_load 142 = .ok (.iload 5, 2) := by decide +kernel
theorem dX12_load_144 : decode cX12_load 144 = .ok (.goto 15, 3) := by decide +kernel
theorem dX12_load_147 : decode cX12_load 147 = .ok (.iload_n 3, 1) := by decide +kernel
theorem dX12_load_148 : decode cX12_load 148 = .ok (.iconst 1, 1) := by decide +kernel
theorem dX12_load_149 : decode cX12_load 149 = .ok (.if_icmp .ne 8, 3) := by decide +kernel
theorem dX12_load_152 : decode cX12_load 152 = .ok (.iload 4, 2) := by decide +kernel
theorem dX12_load_154 : decode cX12_load 154 = .ok (.goto 5, 3) := by decide +kernel
theorem dX12_load_157 : decode cX12_load 157 = .ok (.iload 6, 2) := by decide +kernel
theorem dX12_load_159 : decode cX12_load 159 = .ok (.ireturn, 1) := by decide +kernel
set_option maxRecDepth 20000 in
theorem ggX12_gain_X12_in : GoodIn wsX12_gain wsX12_in := goodIn_r _ [9] (by decide +kernel) (by decide +kernel)
set_option maxRecDepth 20000 in
theorem gX12_gain_X12_in : GoodIn wsX12_gain (va_wsS RX12 49 yX12_in wsX12_in) := goodIn_app (goodIn_of _ (by decide +kernel)) ggX12_gain_X12_in
set_option maxRecDepth 20000 in
theorem ggX12_gain_X12_bad : GoodIn wsX12_gain wsX12_bad := goodIn_r _ [13, 14, 28, 29, 30, 31, 32, 33, 34, 35, 36, 37, 38, 39, 40, 41, 42, 43, 44, 45, 46, 47] (by decide +kernel) (by decide +kernel)
set_option maxRecDepth 20000 in
theorem gX12_gain_X12_bad : GoodIn wsX12_gain (wsV RX12 77 RX12 yX12_bad wsX12_bad) := goodIn_app (goodIn_of _ (by decide +kernel)) ggX12_gain_X12_bad
set_option maxRecDepth 20000 in
theorem ggX12_gain_X12_codes : GoodIn wsX12_gain wsX12_codes := goodIn_r _ [18, 19, 28, 29, 30, 31, 32, 33, 34, 35, 36, 37, 38, 39, 40, 41, 42, 43, 44, 45, 46, 47] (by decide +kernel) (by decide +kernel)
set_option maxRecDepth 20000 in
theorem gX12_gain_X12_codes : GoodIn wsX12_gain (wsV RX12 216 RX12 yX12_codes wsX12_codes) := goodIn_app (goodIn_of _ (by decide +kernel)) ggX12_gain_X12_codes
set_option maxRecDepth 20000 in
theorem ggX12_gain_X12_lays : GoodIn wsX12_gain wsX12_lays := goodIn_r _ [23, 24, 3, 4, 5, 19, 25, 26, 8, 27, 28, 29, 30, 31, 32, 33, 34, 35, 36, 37, 38, 39, 40, 41, 42, 43, 44, 45, 46, 47] (by decide +kernel) (by decide +kernel)
set_option maxRecDepth 20000 in
theorem gX12_gain_X12_lays : GoodIn wsX12_gain (wsV RX12 219 RX12 yX12_lays wsX12_lays) := goodIn_app (goodIn_of _ (by decide +kernel)) ggX12_gain_X12_lays
theorem dX12_gain_0 : decode cX12_gain 0 = .ok (.iload_n 1, 1) := by decide +kernel
theorem dX12_gain_1 : decode cX12_gain 1 = .ok (.i2l, 1) := by decide +kernel
theorem dX12_gain_2 : decode cX12_gain 2 = .ok (.lconst 1, 1) := by decide +kernel
theorem dX12_gain_3 : decode cX12_gain 3 = .ok (.ldc2_w 213, 3) := by decide +kernel
theorem dX12_gain_6 : decode cX12_gain 6 = .ok (.invokestatic 49, 3) := by decide +kernel
theorem dX12_gain_9 : decode cX12_gain 9 = .ok (.ifCond .eq 13, 3) := by decide +kernel
theorem dX12_gain_12 : decode cX12_gain 12 = .ok (.iload_n 2, 1) := by decide +kernel
theorem dX12_gain_13 : decode cX12_gain 13 = .ok (.i2l, 1) := by decide +kernel
theorem dX12_gain_14 : decode cX12_gain 14 = .ok (.lconst 0, 1) := by decide +kernel
theorem dX12_gain_15 : decode cX12_gain 15 = .ok (.lconst 1, 1) := by decide +kernel
theorem dX12_gain_16 : decode cX12_gain 16 = .ok (.invokestatic 49, 3) := by decide +kernel
theorem dX12_gain_19 : decode cX12_gain 19 = .ok (.ifCond .ne 11, 3) := by decide +kernel
theorem dX12_gain_22 : decode cX12_gain 22 = .ok (.aload_n 0, 1) := by decide +kernel
theorem dX12_gain_23 : decode cX12_gain 23 = .ok (.sipush (-20000), 3) := by decide +kernel
theorem dX12_gain_26 : decode cX12_gain 26 = .ok (.invokevirtual 77, 3) := by decide +kernel
theorem dX12_gain_29 : decode cX12_gain 29 = .ok (.ireturn, 1) := by decide +kernel
theorem dX12_gain_30 : decode cX12_gain 30 = .ok (.ldc 215, 2) := by decide +kernel
theorem dX12_gain_32 : decode cX12_gain 32 = .ok (.istore_n 3, 1) := by decide +kernel
theorem dX12_gain_33 : decode cX12_gain 33 = .ok (.iconst 0, 1) := by decide +kernel
theorem dX12_gain_34 : decode cX12_gain 34 = .ok (.istore 4, 2) := by decide +kernel
theorem dX12_gain_36 : decode cX12_gain 36 = .ok (.iload 4, 2) := by decide +kernel
theorem dX12_gain_38 : decode cX12_gain 38 = .ok (.aload_n 0, 1) := by decide +kernel
theorem dX12_gain_39 : decode cX12_gain 39 = .ok (.invokevirtual 216, 3) := by decide +kernel
theorem dX12_gain_42 : decode cX12_gain 42 = .ok (.if_icmp .ge 57, 3) := by decide +kernel
theorem dX12_gain_45 : decode cX12_gain 45 = .ok (.aload_n 0, 1) := by decide +kernel
theorem dX12_gain_46 : decode cX12_gain 46 = .ok (.iload 4, 2) := by decide +kernel
theorem dX12_gain_48 : decode cX12_gain 48 = .ok (.iload_n 2, 1) := by decide +kernel
theorem dX12_gain_49 : decode cX12_gain 49 = .ok (.iconst 1, 1) := by decide +kernel
theorem dX12_gain_50 : decode cX12_gain 50 = .ok (.if_icmp .ne 7, 3) := by decide +kernel
theorem dX12_gain_53 : decode cX12_gain 53 = .ok (.iconst 1, 1) := by decide +kernel
theorem dX12_gain_54 : decode cX12_gain 54 = .ok (.goto 4, 3) := by decide +kernel
theorem dX12_gain_57 : decode cX12_gain 57 = .ok (.iconst 0, 1) := by decide +kernel
theorem dX12_gain_58 : decode cX12_gain 58 = .ok (.invokevirtual 219, 3) := by decide +kernel
theorem dX12_gain_61 : decode cX12_gain 61 = .ok (.aload_n 0, 1) := by decide +kernel
theorem dX12_gain_62 : decode cX12_gain 62 = .ok (.getfield 203, 3) := by decide +kernel
theorem dX12_gain_65 : decode cX12_gain 65 = .ok (.ifCond .eq 26, 3) := by decide +kernel
theorem dX12_gain_68 : decode cX12_gain 68 = .ok (.aload_n 0, 1) := by decide +kernel
theorem dX12_gain_69 : decode cX12_gain 69 = .ok (.getfield 207, 3) := by decide +kernel
theorem dX12_gain_72 : decode cX12_gain 72 = .ok (.iload_n 1, 1) := by decide +kernel
theorem dX12_gain_73 : decode cX12_gain 73 = .ok (.if_icmp .ne 18, 3) := by decide +kernel
theorem dX12_gain_76 : decode cX12_gain 76 = .ok (.aload_n 0, 1) := by decide +kernel
theorem dX12_gain_77 : decode cX12_gain 77 = .ok (.getfield 210, 3) := by decide +kernel
theorem dX12_gain_80 : decode cX12_gain 80 = .ok (.iload_n 3, 1) := by decide +kernel
theorem dX12_gain_81 : decode cX12_gain 81 = .ok (.if_icmp .ge 10, 3) := by decide +kernel
theorem dX12_gain_84 : decode cX12_gain 84 = .ok (.aload_n 0, 1) := by decide +kernel
theorem dX12_gain_85 : decode cX12_gain 85 = .ok (.getfield 210, 3) := by decide +kernel
theorem dX12_gain_88 : decode cX12_gain 88 = .ok (.goto 4, 3) := by decide +kernel
theorem dX12_gain_91 : decode cX12_gain 91 = .ok (.iload_n 3, 1) := by decide +kernel
theorem dX12_gain_92 : decode cX12_gain 92 = .ok (.istore_n 3, 1) := by decide +kernel
theorem dX12_gain_93 : decode cX12_gain 93 = .ok (.iinc 4 1, 3) := by decide +kernel
theorem dX12_gain_96 : decode cX12_gain 96 = .ok (.goto (-60), 3) := by decide +kernel
theorem dX12_gain_99 : decode cX12_gain 99 = .ok (.iload_n 3, 1) := by decide +kernel
theorem dX12_gain_100 : decode cX12_gain 100 = .ok (.ldc 215, 2) := by decide +kernel
theorem dX12_gain_102 : decode cX12_gain 102 = .ok (.if_icmp .ne 9, 3) := by decide +kernel
theorem dX12_gain_105 : decode cX12_gain 105 = .ok (.sipush (-10000), 3) := by decide +kernel
theorem dX12_gain_108 : decode cX12_gain 108 = .ok (.goto 4, 3) := by decide +kernel
theorem dX12_gain_111 : decode cX12_gain 111 = .ok (.iload_n 3, 1) := by decide +kernel
theorem dX12_gain_112 : decode cX12_gain 112 = .ok (.ireturn, 1) := by decide +kernel
theorem dX12_goesRound_0 : decode cX12_goesRound 0 = .ok (.iload_n 0, 1) := by decide +kernel
theorem dX12_goesRound_1 : decode cX12_goesRound 1 = .ok (.iload_n 1, 1) := by decide +kernel
theorem dX12_goesRound_2 : decode cX12_goesRound 2 = .ok (.if_icmp .ge 9, 3) := by decide +kernel
theorem dX12_goesRound_5 : decode cX12_goesRound 5 = .ok (.iload_n 1, 1) := by decide +kernel
theorem dX12_goesRound_6 : decode cX12_goesRound 6 = .ok (.iload_n 0, 1) := by decide +kernel
theorem dX12_goesRound_7 : decode cX12_goesRound 7 = .ok (.isub, 1) := by decide +kernel
theorem dX12_goesRound_8 : decode cX12_goesRound 8 = .ok (.goto 6, 3) := by decide +kernel
theorem dX12_goesRound_11 : decode cX12_goesRound 11 = .ok (.iload_n 0, 1) := by decide +kernel
theorem dX12_goesRound_12 : decode cX12_goesRound 12 = .ok (.iload_n 1, 1) := by decide +kernel
theorem dX12_goesRound_13 : decode cX12_goesRound 13 = .ok (.isub, 1) := by decide +kernel
theorem dX12_goesRound_14 : decode cX12_goesRound 14 = .ok (.istore_n 2, 1) := by decide +kernel
theorem dX12_goesRound_15 : decode cX12_goesRound 15 = .ok (.iload_n 2, 1) := by decide +kernel
theorem dX12_goesRound_16 : decode cX12_goesRound 16 = .ok (.bipush 6, 2) := by decide +kernel
theorem dX12_goesRound_18 : decode cX12_goesRound 18 = .ok (.if_icmp .le 10, 3) := by decide +kernel
theorem dX12_goesRound_21 : decode cX12_goesRound 21 = .ok (.bipush 12, 2) := by decide +kernel
theorem dX12_goesRound_23 : decode cX12_goesRound 23 = .ok (.iload_n 2, 1) := by decide +kernel
theorem dX12_goesRound_24 : decode cX12_goesRound 24 = .ok (.isub, 1) := by decide +kernel
theorem dX12_goesRound_25 : decode cX12_goesRound 25 = .ok (.goto 4, 3) := by decide +kernel
theorem dX12_goesRound_28 : decode cX12_goesRound 28 = .ok (.iload_n 2, 1) := by decide +kernel
theorem dX12_goesRound_29 : decode cX12_goesRound 29 = .ok (.ireturn, 1) := by decide +kernel
set_option maxRecDepth 20000 in
theorem ggX12_shortest_X12_ones : GoodIn wsX12_shortest wsX12_ones := goodIn_r _ [9] (by decide +kernel) (by decide +kernel)
set_option maxRecDepth 20000 in
theorem gX12_shortest_X12_ones : GoodIn wsX12_shortest (va_wsS RX12 223 yX12_ones wsX12_ones) := goodIn_app (goodIn_of _ (by decide +kernel)) ggX12_shortest_X12_ones
set_option maxRecDepth 20000 in
theorem ggX12_shortest_X12_goesRound : GoodIn wsX12_shortest wsX12_goesRound := goodIn_r _ [12] (by decide +kernel) (by decide +kernel)
set_option maxRecDepth 20000 in
theorem gX12_shortest_X12_goesRound : GoodIn wsX12_shortest (va_wsS RX12 226 yX12_goesRound wsX12_goesRound) := goodIn_app (goodIn_of _ (by decide +kernel)) ggX12_shortest_X12_goesRound
set_option maxRecDepth 20000 in
theorem ggX12_shortest_X12_has : GoodIn wsX12_shortest wsX12_has := goodIn_r _ [15] (by decide +kernel) (by decide +kernel)
set_option maxRecDepth 20000 in
theorem gX12_shortest_X12_has : GoodIn wsX12_shortest (va_wsS RX12 173 yX12_has wsX12_has) := goodIn_app (goodIn_of _ (by decide +kernel)) ggX12_shortest_X12_has
theorem dX12_shortest_0 : decode cX12_shortest 0 = .ok (.iload_n 1, 1) := by decide +kernel
theorem dX12_shortest_1 : decode cX12_shortest 1 = .ok (.invokestatic 223, 3) := by decide +kernel
theorem dX12_shortest_4 : decode cX12_shortest 4 = .ok (.istore_n 2, 1) := by decide +kernel
theorem dX12_shortest_5 : decode cX12_shortest 5 = .ok (.ldc 215, 2) := by decide +kernel
theorem dX12_shortest_7 : decode cX12_shortest 7 = .ok (.istore_n 3, 1) := by decide +kernel
theorem dX12_shortest_8 : decode cX12_shortest 8 = .ok (.iconst 0, 1) := by decide +kernel
theorem dX12_shortest_9 : decode cX12_shortest 9 = .ok (.istore 4, 2) := by decide +kernel
theorem dX12_shortest_11 : decode cX12_shortest 11 = .ok (.aload_n 0, 1) := by decide +kernel
theorem dX12_shortest_12 : decode cX12_shortest 12 = .ok (.getfield 30, 3) := by decide +kernel
theorem dX12_shortest_15 : decode cX12_shortest 15 = .ok (.iconst 0, 1) := by decide +kernel
theorem dX12_shortest_16 : decode cX12_shortest 16 = .ok (.iconst (-1), 1) := by decide +kernel
theorem dX12_shortest_17 : decode cX12_shortest 17 = .ok (.iastore, 1) := by decide +kernel
theorem dX12_shortest_18 : decode cX12_shortest 18 = .ok (.aload_n 0, 1) := by decide +kernel
theorem dX12_shortest_19 : decode cX12_shortest 19 = .ok (.getfield 33, 3) := by decide +kernel
theorem dX12_shortest_22 : decode cX12_shortest 22 = .ok (.iconst 0, 1) := by decide +kernel
theorem dX12_shortest_23 : decode cX12_shortest 23 = .ok (.iconst 0, 1) := by decide +kernel
theorem dX12_shortest_24 : decode cX12_shortest 24 = .ok (.iastore, 1) := by decide +kernel
theorem dX12_shortest_25 : decode cX12_shortest 25 = .ok (.iload 4, 2) := by decide +kernel
theorem dX12_shortest_27 : decode cX12_shortest 27 = .ok (.ifCond .lt 251, 3) := by decide +kernel
theorem dX12_shortest_30 : decode cX12_shortest 30 = .ok (.iconst 0, 1) := by decide +kernel
theorem dX12_shortest_31 : decode cX12_shortest 31 = .ok (.istore 5, 2) := by decide +kernel
theorem dX12_shortest_33 : decode cX12_shortest 33 = .ok (.iconst 0, 1) := by decide +kernel
theorem dX12_shortest_34 : decode cX12_shortest 34 = .ok (.istore 6, 2) := by decide +kernel
theorem dX12_shortest_36 : decode cX12_shortest 36 = .ok (.iload 6, 2) := by decide +kernel
theorem dX12_shortest_38 : decode cX12_shortest 38 = .ok (.iload 4, 2) := by decide +kernel
theorem dX12_shortest_40 : decode cX12_shortest 40 = .ok (.if_icmp .ge 23, 3) := by decide +kernel
theorem dX12_shortest_43 : decode cX12_shortest 43 = .ok (.iload 5, 2) := by decide +kernel
theorem dX12_shortest_45 : decode cX12_shortest 45 = .ok (.iconst 1, 1) := by decide +kernel
theorem dX12_shortest_46 : decode cX12_shortest 46 = .ok (.aload_n 0, 1) := by decide +kernel
theorem dX12_shortest_47 : decode cX12_shortest 47 = .ok (.getfield 30, 3) := by decide +kernel
theorem dX12_shortest_50 : decode cX12_shortest 50 = .ok (.iload 6, 2) := by decide +kernel
theorem dX12_shortest_52 : decode cX12_shortest 52 = .ok (.iaload, 1) := by decide +kernel
theorem dX12_shortest_53 : decode cX12_shortest 53 = .ok (.ishl, 1) := by decide +kernel
theorem dX12_shortest_54 : decode cX12_shortest 54 = .ok (.ior, 1) := by decide +kernel
theorem dX12_shortest_55 : decode cX12_shortest 55 = .ok (.istore 5, 2) := by decide +kernel
theorem dX12_shortest_57 : decode cX12_shortest 57 = .ok (.iinc 6 1, 3) := by decide +kernel
theorem dX12_shortest_60 : decode cX12_shortest 60 = .ok (.goto (-24), 3) := by decide +kernel
theorem dX12_shortest_63 : decode cX12_shortest 63 = .ok (.iload 4, 2) := by decide +kernel
theorem dX12_shortest_65 : decode cX12_shortest 65 = .ok (.ifCond .ne 7, 3) := by decide +kernel
theorem dX12_shortest_68 : decode cX12_shortest 68 = .ok (.iconst 0, 1) := by decide +kernel
theorem dX12_shortest_69 : decode cX12_shortest 69 = .ok (.goto 20, 3) := by decide +kernel
theorem dX12_shortest_72 : decode cX12_shortest 72 = .ok (.aload_n 0, 1) := by decide +kernel
theorem dX12_shortest_73 : decode cX12_shortest 73 = .ok (.getfield 7, 3) := by decide +kernel
theorem dX12_shortest_76 : decode cX12_shortest 76 = .ok (.bipush 11, 2) := by decide +kernel
theorem dX12_shortest_78 : decode cX12_shortest 78 = .ok (.aload_n 0, 1) := by decide +kernel
theorem dX12_shortest_79 : decode cX12_shortest 79 = .ok (.getfield 30, 3) := by decide +kernel
theorem dX12_shortest_82 : decode cX12_shortest 82 = .ok (.iload 4, 2) := by decide +kernel
theorem dX12_shortest_84 : decode cX12_shortest 84 = .ok (.iconst 1, 1) := by decide +kernel
theorem dX12_shortest_85 : decode cX12_shortest 85 = .ok (.isub, 1) := by decide +kernel
theorem dX12_shortest_86 : decode cX12_shortest 86 = .ok (.iaload, 1) := by decide +kernel
theorem dX12_shortest_87 : decode cX12_shortest 87 = .ok (.iadd, 1) := by decide +kernel
theorem dX12_shortest_88 : decode cX12_shortest 88 = .ok (.iaload, 1) := by decide +kernel
theorem dX12_shortest_89 : decode cX12_shortest 89 = .ok (.istore 6, 2) := by decide +kernel
theorem dX12_shortest_91 : decode cX12_shortest 91 = .ok (.iload 4, 2) := by decide +kernel
theorem dX12_shortest_93 : decode cX12_shortest 93 = .ok (.iload_n 2, 1) := by decide +kernel
theorem dX12_shortest_94 : decode cX12_shortest 94 = .ok (.if_icmp .ne 63, 3) := by decide +kernel
theorem dX12_shortest_97 : decode cX12_shortest 97 = .ok (.aload_n 0, 1) := by decide +kernel
theorem dX12_shortest_98 : decode cX12_shortest 98 = .ok (.getfield 33, 3) := by decide +kernel
theorem dX12_shortest_101 : decode cX12_shortest 101 = .ok (.iload 4, 2) := by decide +kernel
theorem dX12_shortest_103 : decode cX12_shortest 103 = .ok (.iaload, 1) := by decide +kernel
theorem dX12_shortest_104 : decode cX12_shortest 104 = .ok (.iload 6, 2) := by decide +kernel
theorem dX12_shortest_106 : decode cX12_shortest 106 = .ok (.iconst 0, 1) := by decide +kernel
theorem dX12_shortest_107 : decode cX12_shortest 107 = .ok (.invokestatic 226, 3) := by decide +kernel
theorem dX12_shortest_110 : decode cX12_shortest 110 = .ok (.iadd, 1) := by decide +kernel
theorem dX12_shortest_111 : decode cX12_shortest 111 = .ok (.istore 7, 2) := by decide +kernel
theorem dX12_shortest_113 : decode cX12_shortest 113 = .ok (.iload 7, 2) := by decide +kernel
theorem dX12_shortest_115 : decode cX12_shortest 115 = .ok (.iload_n 3, 1) := by decide +kernel
theorem dX12_shortest_116 : decode cX12_shortest 116 = .ok (.if_icmp .ge 35, 3) := by decide +kernel
theorem dX12_shortest_119 : decode cX12_shortest 119 = .ok (.iload 7, 2) := by decide +kernel
theorem dX12_shortest_121 : decode cX12_shortest 121 = .ok (.istore_n 3, 1) := by decide +kernel
theorem dX12_shortest_122 : decode cX12_shortest 122 = .ok (.iconst 0, 1) := by decide +kernel
theorem dX12_shortest_123 : decode cX12_shortest 123 = .ok (.istore 8, 2) := by decide +kernel
theorem dX12_shortest_125 : decode cX12_shortest 125 = .ok (.iload 8, 2) := by decide +kernel
theorem dX12_shortest_127 : decode cX12_shortest 127 = .ok (.iload_n 2, 1) := by decide +kernel
theorem dX12_shortest_128 : decode cX12_shortest 128 = .ok (.if_icmp .ge 23, 3) := by decide +kernel
theorem dX12_shortest_131 : decode cX12_shortest 131 = .ok (.aload_n 0, 1) := by decide +kernel
theorem dX12_shortest_132 : decode cX12_shortest 132 = .ok (.getfield 36, 3) := by decide +kernel
theorem dX12_shortest_135 : decode cX12_shortest 135 = .ok (.iload 8, 2) := by decide +kernel
theorem dX12_shortest_137 : decode cX12_shortest 137 = .ok (.aload_n 0, 1) := by decide +kernel
theorem dX12_shortest_138 : decode cX12_shortest 138 = .ok (.getfield 30, 3) := by decide +kernel
theorem dX12_shortest_141 : decode cX12_shortest 141 = .ok (.iload 8, 2) := by decide +kernel
theorem dX12_shortest_143 : decode cX12_shortest 143 = .ok (.iaload, 1) := by decide +kernel
theorem dX12_shortest_144 : decode cX12_shortest 144 = .ok (.iastore, 1) := by decide +kernel
theorem dX12_shortest_145 : decode cX12_shortest 145 = .ok (.iinc 8 1, 3) := by decide +kernel
theorem dX12_shortest_148 : decode cX12_shortest 148 = .ok (.goto (-23), 3) := by decide +kernel
