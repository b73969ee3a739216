theorem dX7_dropLast_15 : decode cX7_dropLast 15 = .ok (.putfield 19, 3) := by decide +kernel
theorem dX7_dropLast_18 : decode cX7_dropLast 18 = .ok (.return_, 1) := by decide +kernel
set_option maxRecDepth 20000 in
theorem ggX7_dropFirst_X7_at : GoodIn wsX7_dropFirst wsX7_at := goodIn_r _ [10, 5, 11, 20, 21] (by decide +kernel) (by decide +kernel)
set_option maxRecDepth 20000 in
theorem gX7_dropFirst_X7_at : GoodIn wsX7_dropFirst (wsV RX7 23 RX7 yX7_at wsX7_at) := goodIn_app (goodIn_of _ (by decide +kernel)) ggX7_dropFirst_X7_at
set_option maxRecDepth 20000 in
theorem ggX7_dropFirst_X7_put : GoodIn wsX7_dropFirst wsX7_put := goodIn_r _ [15, 5, 11, 20, 21] (by decide +kernel) (by decide +kernel)
set_option maxRecDepth 20000 in
theorem gX7_dropFirst_X7_put : GoodIn wsX7_dropFirst (wsV RX7 27 RX7 yX7_put wsX7_put) := goodIn_app (goodIn_of _ (by decide +kernel)) ggX7_dropFirst_X7_put
set_option maxRecDepth 20000 in
theorem ggX7_dropFirst_X7_dropLast : GoodIn wsX7_dropFirst wsX7_dropLast := goodIn_r _ [19, 5, 1, 2, 3, 4, 20, 21] (by decide +kernel) (by decide +kernel)
set_option maxRecDepth 20000 in
theorem gX7_dropFirst_X7_dropLast : GoodIn wsX7_dropFirst (wsV RX7 31 RX7 yX7_dropLast wsX7_dropLast) := goodIn_app (goodIn_of _ (by decide +kernel)) ggX7_dropFirst_X7_dropLast
theorem dX7_dropFirst_0 : decode cX7_dropFirst 0 = .ok (.iload_n 1, 1) := by decide +kernel
theorem dX7_dropFirst_1 : decode cX7_dropFirst 1 = .ok (.iconst 0, 1) := by decide +kernel
theorem dX7_dropFirst_2 : decode cX7_dropFirst 2 = .ok (.invokestatic 7, 3) := by decide +kernel
theorem dX7_dropFirst_5 : decode cX7_dropFirst 5 = .ok (.istore_n 2, 1) := by decide +kernel
theorem dX7_dropFirst_6 : decode cX7_dropFirst 6 = .ok (.iconst 0, 1) := by decide +kernel
theorem dX7_dropFirst_7 : decode cX7_dropFirst 7 = .ok (.istore_n 3, 1) := by decide +kernel
theorem dX7_dropFirst_8 : decode cX7_dropFirst 8 = .ok (.iload_n 3, 1) := by decide +kernel
theorem dX7_dropFirst_9 : decode cX7_dropFirst 9 = .ok (.iload_n 2, 1) := by decide +kernel
theorem dX7_dropFirst_10 : decode cX7_dropFirst 10 = .ok (.iadd, 1) := by decide +kernel
theorem dX7_dropFirst_11 : decode cX7_dropFirst 11 = .ok (.aload_n 0, 1) := by decide +kernel
theorem dX7_dropFirst_12 : decode cX7_dropFirst 12 = .ok (.getfield 19, 3) := by decide +kernel
theorem dX7_dropFirst_15 : decode cX7_dropFirst 15 = .ok (.if_icmp .ge 21, 3) := by decide +kernel
theorem dX7_dropFirst_18 : decode cX7_dropFirst 18 = .ok (.aload_n 0, 1) := by decide +kernel
theorem dX7_dropFirst_19 : decode cX7_dropFirst 19 = .ok (.iload_n 3, 1) := by decide +kernel
theorem dX7_dropFirst_20 : decode cX7_dropFirst 20 = .ok (.aload_n 0, 1) := by decide +kernel
theorem dX7_dropFirst_21 : decode cX7_dropFirst 21 = .ok (.iload_n 3, 1) := by decide +kernel
theorem dX7_dropFirst_22 : decode cX7_dropFirst 22 = .ok (.iload_n 2, 1) := by decide +kernel
theorem dX7_dropFirst_23 : decode cX7_dropFirst 23 = .ok (.iadd, 1) := by decide +kernel
theorem dX7_dropFirst_24 : decode cX7_dropFirst 24 = .ok (.invokevirtual 23, 3) := by decide +kernel
theorem dX7_dropFirst_27 : decode cX7_dropFirst 27 = .ok (.invokevirtual 27, 3) := by decide +kernel
theorem dX7_dropFirst_30 : decode cX7_dropFirst 30 = .ok (.iinc 3 1, 3) := by decide +kernel
theorem dX7_dropFirst_33 : decode cX7_dropFirst 33 = .ok (.goto (-25), 3) := by decide +kernel
theorem dX7_dropFirst_36 : decode cX7_dropFirst 36 = .ok (.aload_n 0, 1) := by decide +kernel
theorem dX7_dropFirst_37 : decode cX7_dropFirst 37 = .ok (.iload_n 2, 1) := by decide +kernel
theorem dX7_dropFirst_38 : decode cX7_dropFirst 38 = .ok (.invokevirtual 31, 3) := by decide +kernel
theorem dX7_dropFirst_41 : decode cX7_dropFirst 41 = .ok (.return_, 1) := by decide +kernel
set_option maxRecDepth 20000 in
theorem ggX7_take_X7_restart : GoodIn wsX7_take wsX7_restart := goodIn_r _ [6, 1, 16, 17] (by decide +kernel) (by decide +kernel)
set_option maxRecDepth 20000 in
theorem gX7_take_X7_restart : GoodIn wsX7_take (wsV RX7 35 RX7 yX7_restart wsX7_restart) := goodIn_app (goodIn_of _ (by decide +kernel)) ggX7_take_X7_restart
set_option maxRecDepth 20000 in
theorem ggX7_take_X7_at : GoodIn wsX7_take wsX7_at := goodIn_r _ [10, 1, 11, 16, 17] (by decide +kernel) (by decide +kernel)
set_option maxRecDepth 20000 in
theorem gX7_take_X7_at : GoodIn wsX7_take (wsV RX7 23 RX7 yX7_at wsX7_at) := goodIn_app (goodIn_of _ (by decide +kernel)) ggX7_take_X7_at
set_option maxRecDepth 20000 in
theorem ggX7_take_X7_add : GoodIn wsX7_take wsX7_add := goodIn_r _ [15, 1, 11, 16, 17] (by decide +kernel) (by decide +kernel)
set_option maxRecDepth 20000 in
theorem gX7_take_X7_add : GoodIn wsX7_take (wsV RX7 38 RX7 yX7_add wsX7_add) := goodIn_app (goodIn_of _ (by decide +kernel)) ggX7_take_X7_add
theorem dX7_take_0 : decode cX7_take 0 = .ok (.aload_n 0, 1) := by decide +kernel
theorem dX7_take_1 : decode cX7_take 1 = .ok (.invokevirtual 35, 3) := by decide +kernel
theorem dX7_take_4 : decode cX7_take 4 = .ok (.iconst 0, 1) := by decide +kernel
theorem dX7_take_5 : decode cX7_take 5 = .ok (.istore_n 2, 1) := by decide +kernel
theorem dX7_take_6 : decode cX7_take 6 = .ok (.iload_n 2, 1) := by decide +kernel
theorem dX7_take_7 : decode cX7_take 7 = .ok (.aload_n 1, 1) := by decide +kernel
theorem dX7_take_8 : decode cX7_take 8 = .ok (.getfield 19, 3) := by decide +kernel
theorem dX7_take_11 : decode cX7_take 11 = .ok (.if_icmp .ge 18, 3) := by decide +kernel
theorem dX7_take_14 : decode cX7_take 14 = .ok (.aload_n 0, 1) := by decide +kernel
theorem dX7_take_15 : decode cX7_take 15 = .ok (.aload_n 1, 1) := by decide +kernel
theorem dX7_take_16 : decode cX7_take 16 = .ok (.iload_n 2, 1) := by decide +kernel
theorem dX7_take_17 : decode cX7_take 17 = .ok (.invokevirtual 23, 3) := by decide +kernel
theorem dX7_take_20 : decode cX7_take 20 = .ok (.invokevirtual 38, 3) := by decide +kernel
theorem dX7_take_23 : decode cX7_take 23 = .ok (.iinc 2 1, 3) := by decide +kernel
theorem dX7_take_26 : decode cX7_take 26 = .ok (.goto (-20), 3) := by decide +kernel
theorem dX7_take_29 : decode cX7_take 29 = .ok (.return_, 1) := by decide +kernel
set_option maxRecDepth 20000 in
theorem ggX7_sumOf_X11_hasBit : GoodIn wsX7_sumOf wsX11_hasBit := goodIn_r _ [4] (by decide +kernel) (by decide +kernel)
set_option maxRecDepth 20000 in
theorem gX7_sumOf_X11_hasBit_n41 : GoodIn wsX7_sumOf (wsX11_hasBit) := ggX7_sumOf_X11_hasBit
set_option maxRecDepth 20000 in
theorem ggX7_sumOf_X7_at : GoodIn wsX7_sumOf wsX7_at := goodIn_r _ [9, 1, 10, 11, 12] (by decide +kernel) (by decide +kernel)
set_option maxRecDepth 20000 in
theorem gX7_sumOf_X7_at : GoodIn wsX7_sumOf (wsV RX7 23 RX7 yX7_at wsX7_at) := goodIn_app (goodIn_of _ (by decide +kernel)) ggX7_sumOf_X7_at
theorem dX7_sumOf_0 : decode cX7_sumOf 0 = .ok (.iconst 0, 1) := by decide +kernel
theorem dX7_sumOf_1 : decode cX7_sumOf 1 = .ok (.istore_n 2, 1) := by decide +kernel
theorem dX7_sumOf_2 : decode cX7_sumOf 2 = .ok (.iconst 0, 1) := by decide +kernel
theorem dX7_sumOf_3 : decode cX7_sumOf 3 = .ok (.istore_n 3, 1) := by decide +kernel
theorem dX7_sumOf_4 : decode cX7_sumOf 4 = .ok (.iload_n 3, 1) := by decide +kernel
theorem dX7_sumOf_5 : decode cX7_sumOf 5 = .ok (.aload_n 0, 1) := by decide +kernel
theorem dX7_sumOf_6 : decode cX7_sumOf 6 = .ok (.getfield 19, 3) := by decide +kernel
theorem dX7_sumOf_9 : decode cX7_sumOf 9 = .ok (.if_icmp .ge 25, 3) := by decide +kernel
theorem dX7_sumOf_12 : decode cX7_sumOf 12 = .ok (.iload_n 1, 1) := by decide +kernel
theorem dX7_sumOf_13 : decode cX7_sumOf 13 = .ok (.iload_n 3, 1) := by decide +kernel
theorem dX7_sumOf_14 : decode cX7_sumOf 14 = .ok (.invokestatic 41, 3) := by decide +kernel
theorem dX7_sumOf_17 : decode cX7_sumOf 17 = .ok (.ifCond .eq 11, 3) := by decide +kernel
theorem dX7_sumOf_20 : decode cX7_sumOf 20 = .ok (.iload_n 2, 1) := by decide +kernel
theorem dX7_sumOf_21 : decode cX7_sumOf 21 = .ok (.aload_n 0, 1) := by decide +kernel
theorem dX7_sumOf_22 : decode cX7_sumOf 22 = .ok (.iload_n 3, 1) := by decide +kernel
theorem dX7_sumOf_23 : decode cX7_sumOf 23 = .ok (.invokevirtual 23, 3) := by decide +kernel
theorem dX7_sumOf_26 : decode cX7_sumOf 26 = .ok (.iadd, 1) := by decide +kernel
theorem dX7_sumOf_27 : decode cX7_sumOf 27 = .ok (.istore_n 2, 1) := by decide +kernel
theorem dX7_sumOf_28 : decode cX7_sumOf 28 = .ok (.iinc 3 1, 3) := by decide +kernel
theorem dX7_sumOf_31 : decode cX7_sumOf 31 = .ok (.goto (-27), 3) := by decide +kernel
theorem dX7_sumOf_34 : decode cX7_sumOf 34 = .ok (.iload_n 2, 1) := by decide +kernel
theorem dX7_sumOf_35 : decode cX7_sumOf 35 = .ok (.ireturn, 1) := by decide +kernel
set_option maxRecDepth 20000 in
theorem ggX7_mixedInto_X7_at : GoodIn wsX7_mixedInto wsX7_at := goodIn_r _ [7, 1, 8, 9, 10] (by decide +kernel) (by decide +kernel)
set_option maxRecDepth 20000 in
theorem gX7_mixedInto_X7_at : GoodIn wsX7_mixedInto (wsV RX7 23 RX7 yX7_at wsX7_at) := goodIn_app (goodIn_of _ (by decide +kernel)) ggX7_mixedInto_X7_at
theorem dX7_mixedInto_0 : decode cX7_mixedInto 0 = .ok (.iconst 0, 1) := by decide +kernel
theorem dX7_mixedInto_1 : decode cX7_mixedInto 1 = .ok (.istore_n 3, 1) := by decide +kernel
theorem dX7_mixedInto_2 : decode cX7_mixedInto 2 = .ok (.iload_n 3, 1) := by decide +kernel
theorem dX7_mixedInto_3 : decode cX7_mixedInto 3 = .ok (.aload_n 0, 1) := by decide +kernel
theorem dX7_mixedInto_4 : decode cX7_mixedInto 4 = .ok (.getfield 19, 3) := by decide +kernel
theorem dX7_mixedInto_7 : decode cX7_mixedInto 7 = .ok (.if_icmp .ge 22, 3) := by decide +kernel
theorem dX7_mixedInto_10 : decode cX7_mixedInto 10 = .ok (.ldc2_w 47, 3) := by decide +kernel
theorem dX7_mixedInto_13 : decode cX7_mixedInto 13 = .ok (.lload_n 1, 1) := by decide +kernel
theorem dX7_mixedInto_14 : decode cX7_mixedInto 14 = .ok (.lmul, 1) := by decide +kernel
theorem dX7_mixedInto_15 : decode cX7_mixedInto 15 = .ok (.aload_n 0, 1) := by decide +kernel
theorem dX7_mixedInto_16 : decode cX7_mixedInto 16 = .ok (.iload_n 3, 1) := by decide +kernel
theorem dX7_mixedInto_17 : decode cX7_mixedInto 17 = .ok (.invokevirtual 23, 3) := by decide +kernel
theorem dX7_mixedInto_20 : decode cX7_mixedInto 20 = .ok (.i2l, 1) := by decide +kernel
theorem dX7_mixedInto_21 : decode cX7_mixedInto 21 = .ok (.ladd, 1) := by decide +kernel
theorem dX7_mixedInto_22 : decode cX7_mixedInto 22 = .ok (.lstore_n 1, 1) := by decide +kernel
theorem dX7_mixedInto_23 : decode cX7_mixedInto 23 = .ok (.iinc 3 1, 3) := by decide +kernel
theorem dX7_mixedInto_26 : decode cX7_mixedInto 26 = .ok (.goto (-24), 3) := by decide +kernel
theorem dX7_mixedInto_29 : decode cX7_mixedInto 29 = .ok (.lload_n 1, 1) := by decide +kernel
theorem dX7_mixedInto_30 : decode cX7_mixedInto 30 = .ok (.lreturn, 1) := by decide +kernel
set_option maxRecDepth 20000 in
theorem ggX8_init_X3_init : GoodIn wsX8_init wsX3_init := goodIn_r _ [14, 15, 2, 3, 16, 9, 10, 17, 18, 19, 20, 21, 22, 23, 24, 25, 26, 27, 28, 29, 30, 31, 32, 33, 34, 35, 36, 37, 38, 39, 40, 41, 42, 43, 44, 45, 65, 66, 47, 48, 49, 50, 51, 52, 53, 54, 55, 67, 68, 69, 70] (by decide +kernel) (by decide +kernel)
set_option maxRecDepth 20000 in
theorem gX8_init_X3_init_n11 : GoodIn wsX8_init (wsX3_init) := ggX8_init_X3_init
set_option maxRecDepth 20000 in
theorem ggX8_init_X7_init : GoodIn wsX8_init wsX7_init := goodIn_r _ [31, 32, 2, 3, 33, 34, 35, 36, 37, 38, 65, 66] (by decide +kernel) (by decide +kernel)
set_option maxRecDepth 20000 in
theorem gX8_init_X7_init : GoodIn wsX8_init (wsX7_init) := ggX8_init_X7_init
theorem dX8_init_0 : decode cX8_init 0 = .ok (.aload_n 0, 1) := by decide +kernel
theorem dX8_init_1 : decode cX8_init 1 = .ok (.invokespecial 3, 3) := by decide +kernel
theorem dX8_init_4 : decode cX8_init 4 = .ok (.aload_n 0, 1) := by decide +kernel
theorem dX8_init_5 : decode cX8_init 5 = .ok (.new 9, 3) := by decide +kernel
theorem dX8_init_8 : decode cX8_init 8 = .ok (.dup, 1) := by decide +kernel
theorem dX8_init_9 : decode cX8_init 9 = .ok (.invokespecial 11, 3) := by decide +kernel
theorem dX8_init_12 : decode cX8_init 12 = .ok (.putfield 12, 3) := by decide +kernel
theorem dX8_init_15 : decode cX8_init 15 = .ok (.aload_n 0, 1) := by decide +kernel
theorem dX8_init_16 : decode cX8_init 16 = .ok (.new 18, 3) := by decide +kernel
theorem dX8_init_19 : decode cX8_init 19 = .ok (.dup, 1) := by decide +kernel
theorem dX8_init_20 : decode cX8_init 20 = .ok (.iconst 3, 1) := by decide +kernel
theorem dX8_init_21 : decode cX8_init 21 = .ok (.invokespecial 20, 3) := by decide +kernel
theorem dX8_init_24 : decode cX8_init 24 = .ok (.putfield 23, 3) := by decide +kernel
theorem dX8_init_27 : decode cX8_init 27 = .ok (.aload_n 0, 1) := by decide +kernel
theorem dX8_init_28 : decode cX8_init 28 = .ok (.aload_n 1, 1) := by decide +kernel
theorem dX8_init_29 : decode cX8_init 29 = .ok (.putfield 27, 3) := by decide +kernel
theorem dX8_init_32 : decode cX8_init 32 = .ok (.return_, 1) := by decide +kernel
set_option maxRecDepth 20000 in
theorem ggX8_readMarket_X3_restart : GoodIn wsX8_readMarket wsX3_restart := goodIn_r _ [10, 11, 12, 13, 14, 15, 16, 17, 18, 19, 20, 21, 22, 23, 24, 25, 26, 27, 28, 29, 30, 31, 32, 33, 34, 35, 220, 221, 222, 223, 224, 225, 226, 227, 228, 229, 230, 231, 232, 233, 234] (by decide +kernel) (by decide +kernel)
set_option maxRecDepth 20000 in
theorem gX8_readMarket_X3_restart : GoodIn wsX8_readMarket (wsV RX8 30 RX3 yX3_restart wsX3_restart) := goodIn_app (goodIn_of _ (by decide +kernel)) ggX8_readMarket_X3_restart
set_option maxRecDepth 20000 in
theorem ggX8_readMarket_X8_step : GoodIn wsX8_readMarket wsX8_step := goodIn_r _ [40, 3, 41, 5, 4, 42, 43, 44, 23, 45, 25, 46, 47, 48, 49, 50, 51, 52, 39, 53, 54, 55, 56, 57, 58, 59, 60, 61, 62, 63, 64, 65, 211, 212, 213, 214, 215, 216, 217, 218, 219, 229, 230] (by decide +kernel) (by decide +kernel)
set_option maxRecDepth 20000 in
theorem gX8_readMarket_X8_step : GoodIn wsX8_readMarket (wsV RX8 40 RX8 yX8_step wsX8_step) := goodIn_app (goodIn_of _ (by decide +kernel)) ggX8_readMarket_X8_step
set_option maxRecDepth 20000 in
theorem ggX8_readMarket_X8_item : GoodIn wsX8_readMarket wsX8_item := goodIn_r _ [69, 70, 71, 4, 65, 72, 73, 74, 39, 75, 76, 77, 78, 79, 3, 5, 41, 80, 81, 82, 83, 84, 85, 86, 87, 88, 89, 90, 91, 46, 47, 48, 23, 49, 25, 50, 92, 93, 94, 95, 96, 97, 98, 99, 100, 101, 102, 103, 104, 105, 106, 107, 108, 109, 110, 111, 112, 113, 114, 115, 116, 117, 118, 119, 120, 121, 122, 123, 124, 125, 126, 127, 128, 129, 130, 131, 132, 2, 1, 133, 134, 135, 136, 137, 138, 36, 37, 38, 40, 42, 43, 44, 45, 51, 52, 53, 54, 55, 56, 57, 58, 59, 60, 61, 62, 63, 64, 139, 21, 22, 24, 140, 141, 142, 143, 144, 145, 146, 147, 148, 149, 150, 151, 152, 153, 154, 155, 156, 9, 157, 158, 159, 160, 161, 11, 162, 163, 164, 165, 166, 211, 212, 213, 214, 215, 216, 217, 218, 219, 229, 230, 220, 221, 222, 223, 224, 225, 226, 227, 228] (by decide +kernel) (by decide +kernel)
set_option maxRecDepth 20000 in
theorem gX8_readMarket_X8_item : GoodIn wsX8_readMarket (wsV RX8 46 RX8 yX8_item wsX8_item) := goodIn_app (goodIn_of _ (by decide +kernel)) ggX8_readMarket_X8_item
set_option maxRecDepth 20000 in
theorem ggX8_readMarket_X8_carryOut : GoodIn wsX8_readMarket wsX8_carryOut := goodIn_r _ [170, 2, 70, 1, 71, 171, 172, 134, 46, 47, 48, 23, 49, 25, 50, 173, 174, 175, 9, 176, 11, 12, 13, 19, 177, 178, 179, 164, 165, 166, 180, 181, 182, 183, 163, 184, 185, 186, 187, 188, 189, 190, 191, 29, 192, 33, 31, 34, 32, 193, 43, 44, 45, 194, 195, 196, 197, 198, 199, 200, 201, 202, 203, 204, 205, 206, 207, 208, 209, 210, 211, 212, 213, 214, 215, 216, 217, 218, 219, 220, 221, 222, 223, 224, 225, 226, 227, 228, 231, 232, 233, 234, 229, 230] (by decide +kernel) (by decide +kernel)
set_option maxRecDepth 20000 in
theorem gX8_readMarket_X8_carryOut : GoodIn wsX8_readMarket (wsV RX8 50 RX8 yX8_carryOut wsX8_carryOut) := goodIn_app (goodIn_of _ (by decide +kernel)) ggX8_readMarket_X8_carryOut
theorem dX8_readMarket_0 : decode cX8_readMarket 0 = .ok (.aload_n 0, 1) := by decide +kernel
theorem dX8_readMarket_1 : decode cX8_readMarket 1 = .ok (.getfield 12, 3) := by decide +kernel
theorem dX8_readMarket_4 : decode cX8_readMarket 4 = .ok (.invokevirtual 30, 3) := by decide +kernel
theorem dX8_readMarket_7 : decode cX8_readMarket 7 = .ok (.aload_n 0, 1) := by decide +kernel
theorem dX8_readMarket_8 : decode cX8_readMarket 8 = .ok (.iconst 0, 1) := by decide +kernel
theorem dX8_readMarket_9 : decode cX8_readMarket 9 = .ok (.putfield 33, 3) := by decide +kernel
theorem dX8_readMarket_12 : decode cX8_readMarket 12 = .ok (.aload_n 0, 1) := by decide +kernel
theorem dX8_readMarket_13 : decode cX8_readMarket 13 = .ok (.iconst 0, 1) := by decide +kernel
theorem dX8_readMarket_14 : decode cX8_readMarket 14 = .ok (.putfield 37, 3) := by decide +kernel
theorem dX8_readMarket_17 : decode cX8_readMarket 17 = .ok (.aload_n 0, 1) := by decide +kernel
theorem dX8_readMarket_18 : decode cX8_readMarket 18 = .ok (.invokevirtual 40, 3) := by decide +kernel
theorem dX8_readMarket_21 : decode cX8_readMarket 21 = .ok (.iconst 1, 1) := by decide +kernel
theorem dX8_readMarket_22 : decode cX8_readMarket 22 = .ok (.istore_n 1, 1) := by decide +kernel
theorem dX8_readMarket_23 : decode cX8_readMarket 23 = .ok (.iconst 0, 1) := by decide +kernel
theorem dX8_readMarket_24 : decode cX8_readMarket 24 = .ok (.istore_n 2, 1) := by decide +kernel
theorem dX8_readMarket_25 : decode cX8_readMarket 25 = .ok (.iload_n 2, 1) := by decide +kernel
theorem dX8_readMarket_26 : decode cX8_readMarket 26 = .ok (.sipush 150, 3) := by decide +kernel
theorem dX8_readMarket_29 : decode cX8_readMarket 29 = .ok (.if_icmp .ge 40, 3) := by decide +kernel
theorem dX8_readMarket_32 : decode cX8_readMarket 32 = .ok (.iload_n 1, 1) := by decide +kernel
theorem dX8_readMarket_33 : decode cX8_readMarket 33 = .ok (.ifCond .eq 36, 3) := by decide +kernel
theorem dX8_readMarket_36 : decode cX8_readMarket 36 = .ok (.aload_n 0, 1) := by decide +kernel
theorem dX8_readMarket_37 : decode cX8_readMarket 37 = .ok (.getfield 33, 3) := by decide +kernel
theorem dX8_readMarket_40 : decode cX8_readMarket 40 = .ok (.ifCond .eq 10, 3) := by decide +kernel
theorem dX8_readMarket_43 : decode cX8_readMarket 43 = .ok (.aload_n 0, 1) := by decide +kernel
theorem dX8_readMarket_44 : decode cX8_readMarket 44 = .ok (.getfield 43, 3) := by decide +kernel
theorem dX8_readMarket_47 : decode cX8_readMarket 47 = .ok (.ifCond .eq 22, 3) := by decide +kernel
theorem dX8_readMarket_50 : decode cX8_readMarket 50 = .ok (.aload_n 0, 1) := by decide +kernel
theorem dX8_readMarket_51 : decode cX8_readMarket 51 = .ok (.invokevirtual 46, 3) := by decide +kernel
theorem dX8_readMarket_54 : decode cX8_readMarket 54 = .ok (.istore_n 1, 1) := by decide +kernel
theorem dX8_readMarket_55 : decode cX8_readMarket 55 = .ok (.iload_n 1, 1) := by decide +kernel
theorem dX8_readMarket_56 : decode cX8_readMarket 56 = .ok (.ifCond .eq 7, 3) := by decide +kernel
theorem dX8_readMarket_59 : decode cX8_readMarket 59 = .ok (.aload_n 0, 1) := by decide +kernel
theorem dX8_readMarket_60 : decode cX8_readMarket 60 = .ok (.invokevirtual 50, 3) := by decide +kernel
theorem dX8_readMarket_63 : decode cX8_readMarket 63 = .ok (.iinc 2 1, 3) := by decide +kernel
theorem dX8_readMarket_66 : decode cX8_readMarket 66 = .ok (.goto (-41), 3) := by decide +kernel
theorem dX8_readMarket_69 : decode cX8_readMarket 69 = .ok (.iload_n 1, 1) := by decide +kernel
theorem dX8_readMarket_70 : decode cX8_readMarket 70 = .ok (.ifCond .eq 10, 3) := by decide +kernel
theorem dX8_readMarket_73 : decode cX8_readMarket 73 = .ok (.aload_n 0, 1) := by decide +kernel
theorem dX8_readMarket_74 : decode cX8_readMarket 74 = .ok (.getfield 33, 3) := by decide +kernel
theorem dX8_readMarket_77 : decode cX8_readMarket 77 = .ok (.goto 10, 3) := by decide +kernel
theorem dX8_readMarket_80 : decode cX8_readMarket 80 = .ok (.bipush (-10), 2) := by decide +kernel
theorem dX8_readMarket_82 : decode cX8_readMarket 82 = .ok (.aload_n 0, 1) := by decide +kernel
theorem dX8_readMarket_83 : decode cX8_readMarket 83 = .ok (.getfield 53, 3) := by decide +kernel
theorem dX8_readMarket_86 : decode cX8_readMarket 86 = .ok (.isub, 1) := by decide +kernel
theorem dX8_readMarket_87 : decode cX8_readMarket 87 = .ok (.ireturn, 1) := by decide +kernel
set_option maxRecDepth 20000 in
theorem ggX8_item_X8_wordTold : GoodIn wsX8_item wsX8_wordTold := goodIn_r _ [9, 10, 11, 12, 8, 13, 3, 14, 15, 16, 17, 18, 19, 20, 21, 22, 23, 24, 25, 26, 27, 28, 29, 30, 31, 32, 33, 34, 35, 36, 37, 38, 39, 40, 41, 42, 43, 44, 45, 46, 47, 48, 49, 50, 51, 52, 53, 54, 55, 56, 57, 58, 59, 60, 61, 62, 63, 64, 65, 66, 67, 68, 69, 70, 71, 72, 140, 141, 142, 143, 144, 145, 146, 147, 148, 149, 150] (by decide +kernel) (by decide +kernel)
set_option maxRecDepth 20000 in
theorem gX8_item_X8_wordTold : GoodIn wsX8_item (wsV RX8 56 RX8 yX8_wordTold wsX8_wordTold) := goodIn_app (goodIn_of _ (by decide +kernel)) ggX8_item_X8_wordTold
set_option maxRecDepth 20000 in
theorem ggX8_item_X8_wordMayStand : GoodIn wsX8_item wsX8_wordMayStand := goodIn_r _ [76, 1, 77, 78, 79, 80, 81, 82, 83, 32, 84, 34, 35, 140, 141, 142, 143, 144, 145, 146, 147, 148, 151, 152, 153, 154, 155, 156, 157, 158, 159, 149, 150] (by decide +kernel) (by decide +kernel)
set_option maxRecDepth 20000 in
theorem gX8_item_X8_wordMayStand : GoodIn wsX8_item (wsV RX8 63 RX8 yX8_wordMayStand wsX8_wordMayStand) := goodIn_app (goodIn_of _ (by decide +kernel)) ggX8_item_X8_wordMayStand
set_option maxRecDepth 20000 in
theorem ggX8_item_X8_step : GoodIn wsX8_item wsX8_step := goodIn_r _ [88, 14, 16, 15, 3, 89, 90, 91, 32, 92, 34, 29, 30, 31, 33, 35, 93, 94, 8, 95, 96, 97, 98, 99, 100, 101, 102, 103, 104, 105, 106, 4, 140, 141, 142, 143, 144, 145, 146, 147, 148, 149, 150] (by decide +kernel) (by decide +kernel)
set_option maxRecDepth 20000 in
theorem gX8_item_X8_step : GoodIn wsX8_item (wsV RX8 40 RX8 yX8_step wsX8_step) := goodIn_app (goodIn_of _ (by decide +kernel)) ggX8_item_X8_step
set_option maxRecDepth 20000 in
theorem ggX8_item_X7_restart : GoodIn wsX8_item wsX7_restart := goodIn_r _ [110, 34, 149, 150] (by decide +kernel) (by decide +kernel)
set_option maxRecDepth 20000 in
theorem gX8_item_X7_restart : GoodIn wsX8_item (wsV RX8 66 RX7 yX7_restart wsX7_restart) := goodIn_app (goodIn_of _ (by decide +kernel)) ggX8_item_X7_restart
set_option maxRecDepth 20000 in
theorem ggX8_item_X8_numbersDue : GoodIn wsX8_item wsX8_numbersDue := goodIn_r _ [114, 1, 140, 141, 142, 143, 144, 145, 146, 147, 148] (by decide +kernel) (by decide +kernel)
set_option maxRecDepth 20000 in
theorem gX8_item_X8_numbersDue : GoodIn wsX8_item (wsV RX8 67 RX8 yX8_numbersDue wsX8_numbersDue) := goodIn_app (goodIn_of _ (by decide +kernel)) ggX8_item_X8_numbersDue
set_option maxRecDepth 20000 in
theorem ggX8_item_X8_numberMayStand : GoodIn wsX8_item wsX8_numberMayStand := goodIn_r _ [118, 1, 4, 78, 119, 120, 121, 122, 123, 124, 125, 126, 127, 128, 129, 130, 131, 132, 133, 134, 135, 90, 91, 32, 92, 34, 140, 141, 142, 143, 144, 145, 146, 147, 148, 151, 152, 153, 154, 155, 156, 157, 158, 159, 149, 150] (by decide +kernel) (by decide +kernel)
set_option maxRecDepth 20000 in
theorem gX8_item_X8_numberMayStand : GoodIn wsX8_item (wsV RX8 70 RX8 yX8_numberMayStand wsX8_numberMayStand) := goodIn_app (goodIn_of _ (by decide +kernel)) ggX8_item_X8_numberMayStand
set_option maxRecDepth 20000 in
theorem ggX8_item_X7_add : GoodIn wsX8_item wsX7_add := goodIn_r _ [139, 34, 35, 149, 150] (by decide +kernel) (by decide +kernel)
set_option maxRecDepth 20000 in
theorem gX8_item_X7_add : GoodIn wsX8_item (wsV RX8 77 RX7 yX7_add wsX7_add) := goodIn_app (goodIn_of _ (by decide +kernel)) ggX8_item_X7_add
theorem dX8_item_0 : decode cX8_item 0 = .ok (.aload_n 0, 1) := by decide +kernel
theorem dX8_item_1 : decode cX8_item 1 = .ok (.aload_n 0, 1) := by decide +kernel
theorem dX8_item_2 : decode cX8_item 2 = .ok (.invokevirtual 56, 3) := by decide +kernel
theorem dX8_item_5 : decode cX8_item 5 = .ok (.putfield 60, 3) := by decide +kernel
theorem dX8_item_8 : decode cX8_item 8 = .ok (.aload_n 0, 1) := by decide +kernel
theorem dX8_item_9 : decode cX8_item 9 = .ok (.invokevirtual 63, 3) := by decide +kernel
theorem dX8_item_12 : decode cX8_item 12 = .ok (.ifCond .ne 5, 3) := by decide +kernel
theorem dX8_item_15 : decode cX8_item 15 = .ok (.iconst 0, 1) := by decide +kernel
theorem dX8_item_16 : decode cX8_item 16 = .ok (.ireturn, 1) := by decide +kernel
theorem dX8_item_17 : decode cX8_item 17 = .ok (.aload_n 0, 1) := by decide +kernel
theorem dX8_item_18 : decode cX8_item 18 = .ok (.invokevirtual 40, 3) := by decide +kernel
theorem dX8_item_21 : decode cX8_item 21 = .ok (.aload_n 0, 1) := by decide +kernel
theorem dX8_item_22 : decode cX8_item 22 = .ok (.getfield 23, 3) := by decide +kernel
theorem dX8_item_25 : decode cX8_item 25 = .ok (.invokevirtual 66, 3) := by decide +kernel
theorem dX8_item_28 : decode cX8_item 28 = .ok (.iconst 0, 1) := by decide +kernel
theorem dX8_item_29 : decode cX8_item 29 = .ok (.istore_n 1, 1) := by decide +kernel
theorem dX8_item_30 : decode cX8_item 30 = .ok (.iload_n 1, 1) := by decide +kernel
theorem dX8_item_31 : decode cX8_item 31 = .ok (.aload_n 0, 1) := by decide +kernel
theorem dX8_item_32 : decode cX8_item 32 = .ok (.invokevirtual 67, 3) := by decide +kernel
theorem dX8_item_35 : decode cX8_item 35 = .ok (.if_icmp .ge 42, 3) := by decide +kernel
theorem dX8_item_38 : decode cX8_item 38 = .ok (.aload_n 0, 1) := by decide +kernel
theorem dX8_item_39 : decode cX8_item 39 = .ok (.getfield 43, 3) := by decide +kernel
theorem dX8_item_42 : decode cX8_item 42 = .ok (.iconst 2, 1) := by decide +kernel
theorem dX8_item_43 : decode cX8_item 43 = .ok (.if_icmp .ne 11, 3) := by decide +kernel
theorem dX8_item_46 : decode cX8_item 46 = .ok (.aload_n 0, 1) := by decide +kernel
theorem dX8_item_47 : decode cX8_item 47 = .ok (.iload_n 1, 1) := by decide +kernel
theorem dX8_item_48 : decode cX8_item 48 = .ok (.invokevirtual 70, 3) := by decide +kernel
theorem dX8_item_51 : decode cX8_item 51 = .ok (.ifCond .ne 5, 3) := by decide +kernel
theorem dX8_item_54 : decode cX8_item 54 = .ok (.iconst 0, 1) := by decide +kernel
theorem dX8_item_55 : decode cX8_item 55 = .ok (.ireturn, 1) := by decide +kernel
theorem dX8_item_56 : decode cX8_item 56 = .ok (.aload_n 0, 1) := by decide +kernel
theorem dX8_item_57 : decode cX8_item 57 = .ok (.getfield 23, 3) := by decide +kernel
theorem dX8_item_60 : decode cX8_item 60 = .ok (.aload_n 0, 1) := by decide +kernel
theorem dX8_item_61 : decode cX8_item 61 = .ok (.getfield 74, 3) := by decide +kernel
theorem dX8_item_64 : decode cX8_item 64 = .ok (.invokevirtual 77, 3) := by decide +kernel
theorem dX8_item_67 : decode cX8_item 67 = .ok (.aload_n 0, 1) := by decide +kernel
theorem dX8_item_68 : decode cX8_item 68 = .ok (.invokevirtual 40, 3) := by decide +kernel
theorem dX8_item_71 : decode cX8_item 71 = .ok (.iinc 1 1, 3) := by decide +kernel
theorem dX8_item_74 : decode cX8_item 74 = .ok (.goto (-44), 3) := by decide +kernel
theorem dX8_item_77 : decode cX8_item 77 = .ok (.aload_n 0, 1) := by decide +kernel
theorem dX8_item_78 : decode cX8_item 78 = .ok (.getfield 43, 3) := by decide +kernel
theorem dX8_item_81 : decode cX8_item 81 = .ok (.iconst 3, 1) := by decide +kernel
theorem dX8_item_82 : decode cX8_item 82 = .ok (.if_icmp .eq 5, 3) := by decide +kernel
theorem dX8_item_85 : decode cX8_item 85 = .ok (.iconst 0, 1) := by decide +kernel
theorem dX8_item_86 : decode cX8_item 86 = .ok (.ireturn, 1) := by decide +kernel
theorem dX8_item_87 : decode cX8_item 87 = .ok (.aload_n 0, 1) := by decide +kernel
theorem dX8_item_88 : decode cX8_item 88 = .ok (.invokevirtual 40, 3) := by decide +kernel
theorem dX8_item_91 : decode cX8_item 91 = .ok (.iconst 1, 1) := by decide +kernel
theorem dX8_item_92 : decode cX8_item 92 = .ok (.ireturn, 1) := by decide +kernel
set_option maxRecDepth 20000 in
theorem ggX8_carryOut_X7_at : GoodIn wsX8_carryOut wsX7_at := goodIn_r _ [12, 13, 14, 92, 93] (by decide +kernel) (by decide +kernel)
set_option maxRecDepth 20000 in
theorem gX8_carryOut_X7_at : GoodIn wsX8_carryOut (wsV RX8 80 RX7 yX7_at wsX7_at) := goodIn_app (goodIn_of _ (by decide +kernel)) ggX8_carryOut_X7_at
set_option maxRecDepth 20000 in
theorem ggX8_carryOut_X3_addKeeper : GoodIn wsX8_carryOut wsX3_addKeeper := goodIn_r _ [19, 20, 21, 22, 23, 24, 25, 26, 27, 28, 11, 29, 13, 14, 79, 80, 81, 82, 83, 84, 85, 86, 87, 88, 89, 90, 91, 92, 93] (by decide +kernel) (by decide +kernel)
set_option maxRecDepth 20000 in
theorem gX8_carryOut_X3_addKeeper : GoodIn wsX8_carryOut (wsV RX8 84 RX3 yX3_addKeeper wsX3_addKeeper) := goodIn_app (goodIn_of _ (by decide +kernel)) ggX8_carryOut_X3_addKeeper
set_option maxRecDepth 20000 in
theorem ggX8_carryOut_X7_put : GoodIn wsX8_carryOut wsX7_put := goodIn_r _ [33, 13, 14, 92, 93] (by decide +kernel) (by decide +kernel)
set_option maxRecDepth 20000 in
theorem gX8_carryOut_X7_put : GoodIn wsX8_carryOut (wsV RX8 97 RX7 yX7_put wsX7_put) := goodIn_app (goodIn_of _ (by decide +kernel)) ggX8_carryOut_X7_put
set_option maxRecDepth 20000 in
theorem ggX8_carryOut_X7_add : GoodIn wsX8_carryOut wsX7_add := goodIn_r _ [29, 13, 14, 92, 93] (by decide +kernel) (by decide +kernel)
set_option maxRecDepth 20000 in
theorem gX8_carryOut_X7_add : GoodIn wsX8_carryOut (wsV RX8 77 RX7 yX7_add wsX7_add) := goodIn_app (goodIn_of _ (by decide +kernel)) ggX8_carryOut_X7_add
set_option maxRecDepth 20000 in
theorem ggX8_carryOut_X3_passDays : GoodIn wsX8_carryOut wsX3_passDays := goodIn_r _ [38, 23, 39, 20, 40, 41, 42, 43, 44, 45, 46, 47, 48, 49, 50, 51, 11, 52, 13, 53, 9, 10, 12, 14, 54, 55, 56, 57, 58, 59, 60, 61, 62, 63, 64, 65, 31, 32, 33, 66, 67, 68, 69, 79, 80, 81, 82, 83, 84, 85, 86, 87, 88, 89, 90, 91, 92, 93] (by decide +kernel) (by decide +kernel)
set_option maxRecDepth 20000 in
theorem gX8_carryOut_X3_passDays : GoodIn wsX8_carryOut (wsV RX8 104 RX3 yX3_passDays wsX3_passDays) := goodIn_app (goodIn_of _ (by decide +kernel)) ggX8_carryOut_X3_passDays
theorem dX8_carryOut_0 : decode cX8_carryOut 0 = .ok (.aload_n 0, 1) := by decide +kernel
theorem dX8_carryOut_1 : decode cX8_carryOut 1 = .ok (.dup, 1) := by decide +kernel
theorem dX8_carryOut_2 : decode cX8_carryOut 2 = .ok (.getfield 33, 3) := by decide +kernel
theorem dX8_carryOut_5 : decode cX8_carryOut 5 = .ok (.iconst 1, 1) := by decide +kernel
theorem dX8_carryOut_6 : decode cX8_carryOut 6 = .ok (.iadd, 1) := by decide +kernel
theorem dX8_carryOut_7 : decode cX8_carryOut 7 = .ok (.putfield 33, 3) := by decide +kernel
theorem dX8_carryOut_10 : decode cX8_carryOut 10 = .ok (.aload_n 0, 1) := by decide +kernel
theorem dX8_carryOut_11 : decode cX8_carryOut 11 = .ok (.getfield 60, 3) := by decide +kernel
theorem dX8_carryOut_14 : decode cX8_carryOut 14 = .ok (.tableswitch 135 1 4 #[30, 64, 96, 117], 30) := by decide +kernel
theorem dX8_carryOut_44 : decode cX8_carryOut 44 = .ok (.aload_n 0, 1) := by decide +kernel
theorem dX8_carryOut_45 : decode cX8_carryOut 45 = .ok (.getfield 12, 3) := by decide +kernel
theorem dX8_carryOut_48 : decode cX8_carryOut 48 = .ok (.aload_n 0, 1) := by decide +kernel
theorem dX8_carryOut_49 : decode cX8_carryOut 49 = .ok (.getfield 23, 3) := by decide +kernel
theorem dX8_carryOut_52 : decode cX8_carryOut 52 = .ok (.iconst 0, 1) := by decide +kernel
theorem dX8_carryOut_53 : decode cX8_carryOut 53 = .ok (.invokevirtual 80, 3) := by decide +kernel
theorem dX8_carryOut_56 : decode cX8_carryOut 56 = .ok (.aload_n 0, 1) := by decide +kernel
theorem dX8_carryOut_57 : decode cX8_carryOut 57 = .ok (.getfield 23, 3) := by decide +kernel
theorem dX8_carryOut_60 : decode cX8_carryOut 60 = .ok (.iconst 1, 1) := by decide +kernel
theorem dX8_carryOut_61 : decode cX8_carryOut 61 = .ok (.invokevirtual 80, 3) := by decide +kernel
theorem dX8_carryOut_64 : decode cX8_carryOut 64 = .ok (.aload_n 0, 1) := by decide +kernel
theorem dX8_carryOut_65 : decode cX8_carryOut 65 = .ok (.getfield 23, 3) := by decide +kernel
theorem dX8_carryOut_68 : decode cX8_carryOut 68 = .ok (.iconst 2, 1) := by decide +kernel
theorem dX8_carryOut_69 : decode cX8_carryOut 69 = .ok (.invokevirtual 80, 3) := by decide +kernel
theorem dX8_carryOut_72 : decode cX8_carryOut 72 = .ok (.invokevirtual 84, 3) := by decide +kernel
theorem dX8_carryOut_75 : decode cX8_carryOut 75 = .ok (.goto 74, 3) := by decide +kernel
theorem dX8_carryOut_78 : decode cX8_carryOut 78 = .ok (.aload_n 0, 1) := by decide +kernel
theorem dX8_carryOut_79 : decode cX8_carryOut 79 = .ok (.getfield 12, 3) := by decide +kernel
theorem dX8_carryOut_82 : decode cX8_carryOut 82 = .ok (.getfield 88, 3) := by decide +kernel
theorem dX8_carryOut_85 : decode cX8_carryOut 85 = .ok (.getfield 92, 3) := by decide +kernel
theorem dX8_carryOut_88 : decode cX8_carryOut 88 = .ok (.aload_n 0, 1) := by decide +kernel
theorem dX8_carryOut_89 : decode cX8_carryOut 89 = .ok (.getfield 23, 3) := by decide +kernel
theorem dX8_carryOut_92 : decode cX8_carryOut 92 = .ok (.iconst 0, 1) := by decide +kernel
theorem dX8_carryOut_93 : decode cX8_carryOut 93 = .ok (.invokevirtual 80, 3) := by decide +kernel
theorem dX8_carryOut_96 : decode cX8_carryOut 96 = .ok (.aload_n 0, 1) := by decide +kernel
theorem dX8_carryOut_97 : decode cX8_carryOut 97 = .ok (.getfield 23, 3) := by decide +kernel
theorem dX8_carryOut_100 : decode cX8_carryOut 100 = .ok (.iconst 1, 1) := by decide +kernel
theorem dX8_carryOut_101 : decode cX8_carryOut 101 = .ok (.invokevirtual 80, 3) := by decide +kernel
theorem dX8_carryOut_104 : decode cX8_carryOut 104 = .ok (.invokevirtual 97, 3) := by decide +kernel
theorem dX8_carryOut_107 : decode cX8_carryOut 107 = .ok (.goto 42, 3) := by decide +kernel
theorem dX8_carryOut_110 : decode cX8_carryOut 110 = .ok (.aload_n 0, 1) := by decide +kernel
theorem dX8_carryOut_111 : decode cX8_carryOut 111 = .ok (.getfield 12, 3) := by decide +kernel
theorem dX8_carryOut_114 : decode cX8_carryOut 114 = .ok (.getfield 101, 3) := by decide +kernel
theorem dX8_carryOut_117 : decode cX8_carryOut 117 = .ok (.aload_n 0, 1) := by decide +kernel
theorem dX8_carryOut_118 : decode cX8_carryOut 118 = .ok (.getfield 23, 3) := by decide +kernel
theorem dX8_carryOut_121 : decode cX8_carryOut 121 = .ok (.iconst 0, 1) := by decide +kernel
theorem dX8_carryOut_122 : decode cX8_carryOut 122 = .ok (.invokevirtual 80, 3) := by decide +kernel
theorem dX8_carryOut_125 : decode cX8_carryOut 125 = .ok (.invokevirtual 77, 3) := by decide +kernel
theorem dX8_carryOut_128 : decode cX8_carryOut 128 = .ok (.goto 21, 3) := by decide +kernel
theorem dX8_carryOut_131 : decode cX8_carryOut 131 = .ok (.aload_n 0, 1) := by decide +kernel
theorem dX8_carryOut_132 : decode cX8_carryOut 132 = .ok (.getfield 12, 3) := by decide +kernel
theorem dX8_carryOut_135 : decode cX8_carryOut 135 = .ok (.aload_n 0, 1) := by decide +kernel
theorem dX8_carryOut_136 : decode cX8_carryOut 136 = .ok (.getfield 23, 3) := by decide +kernel
theorem dX8_carryOut_139 : decode cX8_carryOut 139 = .ok (.iconst 0, 1) := by decide +kernel
theorem dX8_carryOut_140 : decode cX8_carryOut 140 = .ok (.invokevirtual 80, 3) := by decide +kernel
theorem dX8_carryOut_143 : decode cX8_carryOut 143 = .ok (.invokevirtual 104, 3) := by decide +kernel
theorem dX8_carryOut_146 : decode cX8_carryOut 146 = .ok (.goto 3, 3) := by decide +kernel
theorem dX8_carryOut_149 : decode cX8_carryOut 149 = .ok (.return_, 1) := by decide +kernel
set_option maxRecDepth 20000 in
theorem ggX8_wordMayStand_X7_isFull : GoodIn wsX8_wordMayStand wsX7_isFull := goodIn_r _ [10, 11, 12, 31, 32] (by decide +kernel) (by decide +kernel)
set_option maxRecDepth 20000 in
theorem gX8_wordMayStand_X7_isFull : GoodIn wsX8_wordMayStand (wsV RX8 110 RX7 yX7_isFull wsX7_isFull) := goodIn_app (goodIn_of _ (by decide +kernel)) ggX8_wordMayStand_X7_isFull
theorem dX8_wordMayStand_0 : decode cX8_wordMayStand 0 = .ok (.aload_n 0, 1) := by decide +kernel
theorem dX8_wordMayStand_1 : decode cX8_wordMayStand 1 = .ok (.getfield 60, 3) := by decide +kernel
theorem dX8_wordMayStand_4 : decode cX8_wordMayStand 4 = .ok (.tableswitch 97 0 3 #[32, 45, 97, 71], 32) := by decide +kernel
theorem dX8_wordMayStand_36 : decode cX8_wordMayStand 36 = .ok (.aload_n 0, 1) := by decide +kernel
theorem dX8_wordMayStand_37 : decode cX8_wordMayStand 37 = .ok (.getfield 33, 3) := by decide +kernel
theorem dX8_wordMayStand_40 : decode cX8_wordMayStand 40 = .ok (.ifCond .ne 7, 3) := by decide +kernel
theorem dX8_wordMayStand_43 : decode cX8_wordMayStand 43 = .ok (.iconst 1, 1) := by decide +kernel
theorem dX8_wordMayStand_44 : decode cX8_wordMayStand 44 = .ok (.goto 4, 3) := by decide +kernel
theorem dX8_wordMayStand_47 : decode cX8_wordMayStand 47 = .ok (.iconst 0, 1) := by decide +kernel
theorem dX8_wordMayStand_48 : decode cX8_wordMayStand 48 = .ok (.ireturn, 1) := by decide +kernel
theorem dX8_wordMayStand_49 : decode cX8_wordMayStand 49 = .ok (.aload_n 0, 1) := by decide +kernel
theorem dX8_wordMayStand_50 : decode cX8_wordMayStand 50 = .ok (.getfield 33, 3) := by decide +kernel
theorem dX8_wordMayStand_53 : decode cX8_wordMayStand 53 = .ok (.ifCond .le 20, 3) := by decide +kernel
theorem dX8_wordMayStand_56 : decode cX8_wordMayStand 56 = .ok (.aload_n 0, 1) := by decide +kernel
theorem dX8_wordMayStand_57 : decode cX8_wordMayStand 57 = .ok (.getfield 12, 3) := by decide +kernel
theorem dX8_wordMayStand_60 : decode cX8_wordMayStand 60 = .ok (.getfield 107, 3) := by decide +kernel
theorem dX8_wordMayStand_63 : decode cX8_wordMayStand 63 = .ok (.invokevirtual 110, 3) := by decide +kernel
theorem dX8_wordMayStand_66 : decode cX8_wordMayStand 66 = .ok (.ifCond .ne 7, 3) := by decide +kernel
theorem dX8_wordMayStand_69 : decode cX8_wordMayStand 69 = .ok (.iconst 1, 1) := by decide +kernel
theorem dX8_wordMayStand_70 : decode cX8_wordMayStand 70 = .ok (.goto 4, 3) := by decide +kernel
theorem dX8_wordMayStand_73 : decode cX8_wordMayStand 73 = .ok (.iconst 0, 1) := by decide +kernel
theorem dX8_wordMayStand_74 : decode cX8_wordMayStand 74 = .ok (.ireturn, 1) := by decide +kernel
theorem dX8_wordMayStand_75 : decode cX8_wordMayStand 75 = .ok (.aload_n 0, 1) := by decide +kernel
theorem dX8_wordMayStand_76 : decode cX8_wordMayStand 76 = .ok (.getfield 33, 3) := by decide +kernel
theorem dX8_wordMayStand_79 : decode cX8_wordMayStand 79 = .ok (.ifCond .le 20, 3) := by decide +kernel
theorem dX8_wordMayStand_82 : decode cX8_wordMayStand 82 = .ok (.aload_n 0, 1) := by decide +kernel
theorem dX8_wordMayStand_83 : decode cX8_wordMayStand 83 = .ok (.getfield 12, 3) := by decide +kernel
theorem dX8_wordMayStand_86 : decode cX8_wordMayStand 86 = .ok (.getfield 101, 3) := by decide +kernel
theorem dX8_wordMayStand_89 : decode cX8_wordMayStand 89 = .ok (.invokevirtual 110, 3) := by decide +kernel
theorem dX8_wordMayStand_92 : decode cX8_wordMayStand 92 = .ok (.ifCond .ne 7, 3) := by decide +kernel
theorem dX8_wordMayStand_95 : decode cX8_wordMayStand 95 = .ok (.iconst 1, 1) := by decide +kernel
theorem dX8_wordMayStand_96 : decode cX8_wordMayStand 96 = .ok (.goto 4, 3) := by decide +kernel
theorem dX8_wordMayStand_99 : decode cX8_wordMayStand 99 = .ok (.iconst 0, 1) := by decide +kernel
theorem dX8_wordMayStand_100 : decode cX8_wordMayStand 100 = .ok (.ireturn, 1) := by decide +kernel
theorem dX8_wordMayStand_101 : decode cX8_wordMayStand 101 = .ok (.aload_n 0, 1) := by decide +kernel
theorem dX8_wordMayStand_102 : decode cX8_wordMayStand 102 = .ok (.getfield 33, 3) := by decide +kernel
theorem dX8_wordMayStand_105 : decode cX8_wordMayStand 105 = .ok (.ifCond .le 15, 3) := by decide +kernel
theorem dX8_wordMayStand_108 : decode cX8_wordMayStand 108 = .ok (.aload_n 0, 1) := by decide +kernel
theorem dX8_wordMayStand_109 : decode cX8_wordMayStand 109 = .ok (.getfield 60, 3) := by decide +kernel
theorem dX8_wordMayStand_112 : decode cX8_wordMayStand 112 = .ok (.iconst (-1), 1) := by decide +kernel
theorem dX8_wordMayStand_113 : decode cX8_wordMayStand 113 = .ok (.if_icmp .eq 7, 3) := by decide +kernel
theorem dX8_wordMayStand_116 : decode cX8_wordMayStand 116 = .ok (.iconst 1, 1) := by decide +kernel
theorem dX8_wordMayStand_117 : decode cX8_wordMayStand 117 = .ok (.goto 4, 3) := by decide +kernel
theorem dX8_wordMayStand_120 : decode cX8_wordMayStand 120 = .ok (.iconst 0, 1) := by decide +kernel
theorem dX8_wordMayStand_121 : decode cX8_wordMayStand 121 = .ok (.ireturn, 1) := by decide +kernel
theorem dX8_numbersDue_0 : decode cX8_numbersDue 0 = .ok (.aload_n 0, 1) := by decide +kernel
theorem dX8_numbersDue_1 : decode cX8_numbersDue 1 = .ok (.getfield 60, 3) := by decide +kernel
theorem dX8_numbersDue_4 : decode cX8_numbersDue 4 = .ok (.ifCond .ne 7, 3) := by decide +kernel
theorem dX8_numbersDue_7 : decode cX8_numbersDue 7 = .ok (.iconst 0, 1) := by decide +kernel
theorem dX8_numbersDue_8 : decode cX8_numbersDue 8 = .ok (.goto 28, 3) := by decide +kernel
theorem dX8_numbersDue_11 : decode cX8_numbersDue 11 = .ok (.aload_n 0, 1) := by decide +kernel
theorem dX8_numbersDue_12 : decode cX8_numbersDue 12 = .ok (.getfield 60, 3) := by decide +kernel
theorem dX8_numbersDue_15 : decode cX8_numbersDue 15 = .ok (.iconst 1, 1) := by decide +kernel
theorem dX8_numbersDue_16 : decode cX8_numbersDue 16 = .ok (.if_icmp .ne 7, 3) := by decide +kernel
theorem dX8_numbersDue_19 : decode cX8_numbersDue 19 = .ok (.iconst 3, 1) := by decide +kernel
theorem dX8_numbersDue_20 : decode cX8_numbersDue 20 = .ok (.goto 16, 3) := by decide +kernel
theorem dX8_numbersDue_23 : decode cX8_numbersDue 23 = .ok (.aload_n 0, 1) := by decide +kernel
theorem dX8_numbersDue_24 : decode cX8_numbersDue 24 = .ok (.getfield 60, 3) := by decide +kernel
theorem dX8_numbersDue_27 : decode cX8_numbersDue 27 = .ok (.iconst 2, 1) := by decide +kernel
theorem dX8_numbersDue_28 : decode cX8_numbersDue 28 = .ok (.if_icmp .ne 7, 3) := by decide +kernel
theorem dX8_numbersDue_31 : decode cX8_numbersDue 31 = .ok (.iconst 2, 1) := by decide +kernel
theorem dX8_numbersDue_32 : decode cX8_numbersDue 32 = .ok (.goto 4, 3) := by decide +kernel
theorem dX8_numbersDue_35 : decode cX8_numbersDue 35 = .ok (.iconst 1, 1) := by decide +kernel
theorem dX8_numbersDue_36 : decode cX8_numbersDue 36 = .ok (.ireturn, 1) := by decide +kernel
set_option maxRecDepth 20000 in
theorem ggX8_numberMayStand_X11_isKind : GoodIn wsX8_numberMayStand wsX11_isKind := goodIn_r _ [6, 7, 8, 5, 9] (by decide +kernel) (by decide +kernel)
set_option maxRecDepth 20000 in
theorem gX8_numberMayStand_X11_isKind_n113 : GoodIn wsX8_numberMayStand (wsX11_isKind) := ggX8_numberMayStand_X11_isKind
set_option maxRecDepth 20000 in
theorem ggX8_numberMayStand_X11_between : GoodIn wsX8_numberMayStand wsX11_between := goodIn_r _ [9] (by decide +kernel) (by decide +kernel)
set_option maxRecDepth 20000 in
theorem gX8_numberMayStand_X11_between_n116 : GoodIn wsX8_numberMayStand (wsX11_between) := ggX8_numberMayStand_X11_between
set_option maxRecDepth 20000 in
theorem ggX8_numberMayStand_X3_hasKeeper : GoodIn wsX8_numberMayStand wsX3_hasKeeper := goodIn_r _ [14, 15, 16, 17, 13, 18, 19, 20, 21, 22, 23, 24, 25, 8, 5, 9, 35, 36, 37, 38, 39, 40, 41, 42, 43, 44, 45] (by decide +kernel) (by decide +kernel)
set_option maxRecDepth 20000 in
theorem gX8_numberMayStand_X3_hasKeeper : GoodIn wsX8_numberMayStand (wsV RX8 120 RX3 yX3_hasKeeper wsX3_hasKeeper) := goodIn_app (goodIn_of _ (by decide +kernel)) ggX8_numberMayStand_X3_hasKeeper
theorem dX8_numberMayStand_0 : decode cX8_numberMayStand 0 = .ok (.aload_n 0, 1) := by decide +kernel
theorem dX8_numberMayStand_1 : decode cX8_numberMayStand 1 = .ok (.getfield 60, 3) := by decide +kernel
theorem dX8_numberMayStand_4 : decode cX8_numberMayStand 4 = .ok (.tableswitch 109 1 3 #[28, 72, 101], 28) := by decide +kernel
theorem dX8_numberMayStand_32 : decode cX8_numberMayStand 32 = .ok (.iload_n 1, 1) := by decide +kernel
theorem dX8_numberMayStand_33 : decode cX8_numberMayStand 33 = .ok (.ifCond .ne 13, 3) := by decide +kernel
theorem dX8_numberMayStand_36 : decode cX8_numberMayStand 36 = .ok (.aload_n 0, 1) := by decide +kernel
theorem dX8_numberMayStand_37 : decode cX8_numberMayStand 37 = .ok (.getfield 74, 3) := by decide +kernel
theorem dX8_numberMayStand_40 : decode cX8_numberMayStand 40 = .ok (.invokestatic 113, 3) := by decide +kernel
theorem dX8_numberMayStand_43 : decode cX8_numberMayStand 43 = .ok (.goto 32, 3) := by decide +kernel
theorem dX8_numberMayStand_46 : decode cX8_numberMayStand 46 = .ok (.aload_n 0, 1) := by decide +kernel
theorem dX8_numberMayStand_47 : decode cX8_numberMayStand 47 = .ok (.getfield 74, 3) := by decide +kernel
theorem dX8_numberMayStand_50 : decode cX8_numberMayStand 50 = .ok (.iload_n 1, 1) := by decide +kernel
theorem dX8_numberMayStand_51 : decode cX8_numberMayStand 51 = .ok (.iconst 1, 1) := by decide +kernel
theorem dX8_numberMayStand_52 : decode cX8_numberMayStand 52 = .ok (.if_icmp .ne 7, 3) := by decide +kernel
theorem dX8_numberMayStand_55 : decode cX8_numberMayStand 55 = .ok (.iconst 0, 1) := by decide +kernel
theorem dX8_numberMayStand_56 : decode cX8_numberMayStand 56 = .ok (.goto 4, 3) := by decide +kernel
theorem dX8_numberMayStand_59 : decode cX8_numberMayStand 59 = .ok (.iconst 1, 1) := by decide +kernel
theorem dX8_numberMayStand_60 : decode cX8_numberMayStand 60 = .ok (.iload_n 1, 1) := by decide +kernel
theorem dX8_numberMayStand_61 : decode cX8_numberMayStand 61 = .ok (.iconst 1, 1) := by decide +kernel
theorem dX8_numberMayStand_62 : decode cX8_numberMayStand 62 = .ok (.if_icmp .ne 8, 3) := by decide +kernel
theorem dX8_numberMayStand_65 : decode cX8_numberMayStand 65 = .ok (.bipush 11, 2) := by decide +kernel
theorem dX8_numberMayStand_67 : decode cX8_numberMayStand 67 = .ok (.goto 5, 3) := by decide +kernel
theorem dX8_numberMayStand_70 : decode cX8_numberMayStand 70 = .ok (.bipush 99, 2) := by decide +kernel
theorem dX8_numberMayStand_72 : decode cX8_numberMayStand 72 = .ok (.invokestatic 116, 3) := by decide +kernel
theorem dX8_numberMayStand_75 : decode cX8_numberMayStand 75 = .ok (.ireturn, 1) := by decide +kernel
theorem dX8_numberMayStand_76 : decode cX8_numberMayStand 76 = .ok (.iload_n 1, 1) := by decide +kernel
theorem dX8_numberMayStand_77 : decode cX8_numberMayStand 77 = .ok (.ifCond .ne 17, 3) := by decide +kernel
theorem dX8_numberMayStand_80 : decode cX8_numberMayStand 80 = .ok (.aload_n 0, 1) := by decide +kernel
theorem dX8_numberMayStand_81 : decode cX8_numberMayStand 81 = .ok (.getfield 12, 3) := by decide +kernel
theorem dX8_numberMayStand_84 : decode cX8_numberMayStand 84 = .ok (.aload_n 0, 1) := by decide +kernel
theorem dX8_numberMayStand_85 : decode cX8_numberMayStand 85 = .ok (.getfield 74, 3) := by decide +kernel
theorem dX8_numberMayStand_88 : decode cX8_numberMayStand 88 = .ok (.invokevirtual 120, 3) := by decide +kernel
theorem dX8_numberMayStand_91 : decode cX8_numberMayStand 91 = .ok (.goto 13, 3) := by decide +kernel
theorem dX8_numberMayStand_94 : decode cX8_numberMayStand 94 = .ok (.aload_n 0, 1) := by decide +kernel
theorem dX8_numberMayStand_95 : decode cX8_numberMayStand 95 = .ok (.getfield 74, 3) := by decide +kernel
theorem dX8_numberMayStand_98 : decode cX8_numberMayStand 98 = .ok (.iconst 0, 1) := by decide +kernel
theorem dX8_numberMayStand_99 : decode cX8_numberMayStand 99 = .ok (.bipush 9, 2) := by decide +kernel
theorem dX8_numberMayStand_101 : decode cX8_numberMayStand 101 = .ok (.invokestatic 116, 3) := by decide +kernel
theorem dX8_numberMayStand_104 : decode cX8_numberMayStand 104 = .ok (.ireturn, 1) := by decide +kernel
theorem dX8_numberMayStand_105 : decode cX8_numberMayStand 105 = .ok (.aload_n 0, 1) := by decide +kernel
theorem dX8_numberMayStand_106 : decode cX8_numberMayStand 106 = .ok (.getfield 74, 3) := by decide +kernel
theorem dX8_numberMayStand_109 : decode cX8_numberMayStand 109 = .ok (.invokestatic 113, 3) := by decide +kernel
theorem dX8_numberMayStand_112 : decode cX8_numberMayStand 112 = .ok (.ireturn, 1) := by decide +kernel
theorem dX8_numberMayStand_113 : decode cX8_numberMayStand 113 = .ok (.aload_n 0, 1) := by decide +kernel
theorem dX8_numberMayStand_114 : decode cX8_numberMayStand 114 = .ok (.getfield 74, 3) := by decide +kernel
theorem dX8_numberMayStand_117 : decode cX8_numberMayStand 117 = .ok (.iconst 1, 1) := by decide +kernel
theorem dX8_numberMayStand_118 : decode cX8_numberMayStand 118 = .ok (.bipush 99, 2) := by decide +kernel
theorem dX8_numberMayStand_120 : decode cX8_numberMayStand 120 = .ok (.invokestatic 116, 3) := by decide +kernel
theorem dX8_numberMayStand_123 : decode cX8_numberMayStand 123 = .ok (.ireturn, 1) := by decide +kernel
set_option maxRecDepth 20000 in
theorem ggX8_wordTold_X8_isWord : GoodIn wsX8_wordTold wsX8_isWord := goodIn_r _ [5, 6, 7, 8, 9, 10, 11, 12, 13, 14, 15, 16, 17, 18, 19, 20, 21, 22, 23, 24, 25, 26, 27, 28, 29, 30, 31, 32, 33, 34, 35, 36, 37, 38, 39, 40, 41, 42, 43, 44, 45, 46, 47, 48, 49, 50, 51, 52, 53, 54, 55, 56, 57, 58, 59, 60, 61, 62, 63, 64, 65, 66, 67, 68, 69, 70, 71, 72, 73, 74, 75, 76] (by decide +kernel) (by decide +kernel)
set_option maxRecDepth 20000 in
theorem gX8_wordTold_X8_isWord : GoodIn wsX8_wordTold (wsV RX8 125 RX8 yX8_isWord wsX8_isWord) := goodIn_app (goodIn_of _ (by decide +kernel)) ggX8_wordTold_X8_isWord
theorem dX8_wordTold_0 : decode cX8_wordTold 0 = .ok (.aload_n 0, 1) := by decide +kernel
theorem dX8_wordTold_1 : decode cX8_wordTold 1 = .ok (.ldc 123, 2) := by decide +kernel
theorem dX8_wordTold_3 : decode cX8_wordTold 3 = .ok (.invokevirtual 125, 3) := by decide +kernel
theorem dX8_wordTold_6 : decode cX8_wordTold 6 = .ok (.ifCond .eq 5, 3) := by decide +kernel
theorem dX8_wordTold_9 : decode cX8_wordTold 9 = .ok (.iconst 0, 1) := by decide +kernel
theorem dX8_wordTold_10 : decode cX8_wordTold 10 = .ok (.ireturn, 1) := by decide +kernel
theorem dX8_wordTold_11 : decode cX8_wordTold 11 = .ok (.aload_n 0, 1) := by decide +kernel
theorem dX8_wordTold_12 : decode cX8_wordTold 12 = .ok (.ldc 129, 2) := by decide +kernel
theorem dX8_wordTold_14 : decode cX8_wordTold 14 = .ok (.invokevirtual 125, 3) := by decide +kernel
theorem dX8_wordTold_17 : decode cX8_wordTold 17 = .ok (.ifCond .eq 5, 3) := by decide +kernel
theorem dX8_wordTold_20 : decode cX8_wordTold 20 = .ok (.iconst 1, 1) := by decide +kernel
theorem dX8_wordTold_21 : decode cX8_wordTold 21 = .ok (.ireturn, 1) := by decide +kernel
theorem dX8_wordTold_22 : decode cX8_wordTold 22 = .ok (.aload_n 0, 1) := by decide +kernel
theorem dX8_wordTold_23 : decode cX8_wordTold 23 = .ok (.ldc 131, 2) := by decide +kernel
theorem dX8_wordTold_25 : decode cX8_wordTold 25 = .ok (.invokevirtual 125, 3) := by decide +kernel
theorem dX8_wordTold_28 : decode cX8_wordTold 28 = .ok (.ifCond .eq 5, 3) := by decide +kernel
theorem dX8_wordTold_31 : decode cX8_wordTold 31 = .ok (.iconst 2, 1) := by decide +kernel
theorem dX8_wordTold_32 : decode cX8_wordTold 32 = .ok (.ireturn, 1) := by decide +kernel
theorem dX8_wordTold_33 : decode cX8_wordTold 33 = .ok (.aload_n 0, 1) := by decide +kernel
theorem dX8_wordTold_34 : decode cX8_wordTold 34 = .ok (.ldc 133, 2) := by decide +kernel
theorem dX8_wordTold_36 : decode cX8_wordTold 36 = .ok (.invokevirtual 125, 3) := by decide +kernel
theorem dX8_wordTold_39 : decode cX8_wordTold 39 = .ok (.ifCond .eq 5, 3) := by decide +kernel
theorem dX8_wordTold_42 : decode cX8_wordTold 42 = .ok (.iconst 3, 1) := by decide +kernel
theorem dX8_wordTold_43 : decode cX8_wordTold 43 = .ok (.ireturn, 1) := by decide +kernel
theorem dX8_wordTold_44 : decode cX8_wordTold 44 = .ok (.aload_n 0, 1) := by decide +kernel
theorem dX8_wordTold_45 : decode cX8_wordTold 45 = .ok (.ldc 135, 2) := by decide +kernel
theorem dX8_wordTold_47 : decode cX8_wordTold 47 = .ok (.invokevirtual 125, 3) := by decide +kernel
theorem dX8_wordTold_50 : decode cX8_wordTold 50 = .ok (.ifCond .eq 7, 3) := by decide +kernel
theorem dX8_wordTold_53 : decode cX8_wordTold 53 = .ok (.iconst 4, 1) := by decide +kernel
theorem dX8_wordTold_54 : decode cX8_wordTold 54 = .ok (.goto 4, 3) := by decide +kernel
theorem dX8_wordTold_57 : decode cX8_wordTold 57 = .ok (.iconst (-1), 1) := by decide +kernel
theorem dX8_wordTold_58 : decode cX8_wordTold 58 = .ok (.ireturn, 1) := by decide +kernel
set_option maxRecDepth 20000 in
theorem ggX8_isWord_J0_length_8abf5 : GoodIn wsX8_isWord wsJ0_length_8abf5 := goodIn_r _ [9, 10, 11, 12, 13, 8, 14, 15, 16] (by decide +kernel) (by decide +kernel)
set_option maxRecDepth 20000 in
theorem gX8_isWord_J0_length_8abf5 : GoodIn wsX8_isWord (wsV RX8 137 RJ0 yJ0_length_8abf5 wsJ0_length_8abf5) := goodIn_app (goodIn_of _ (by decide +kernel)) ggX8_isWord_J0_length_8abf5
set_option maxRecDepth 20000 in
theorem ggX8_isWord_X7_at : GoodIn wsX8_isWord wsX7_at := goodIn_r _ [21, 22, 23, 70, 71] (by decide +kernel) (by decide +kernel)
set_option maxRecDepth 20000 in
theorem gX8_isWord_X7_at : GoodIn wsX8_isWord (wsV RX8 80 RX7 yX7_at wsX7_at) := goodIn_app (goodIn_of _ (by decide +kernel)) ggX8_isWord_X7_at
set_option maxRecDepth 20000 in
theorem ggX8_isWord_J0_charAt_5068e : GoodIn wsX8_isWord wsJ0_charAt_5068e := goodIn_r _ [27, 10, 28, 29, 30, 8, 31, 15, 16, 32, 33, 34, 35, 36, 37, 38, 39, 40, 41, 42, 43, 44, 45, 46, 47, 48, 49, 50, 51, 52, 53, 54, 55, 56, 57, 58, 59, 60] (by decide +kernel) (by decide +kernel)
set_option maxRecDepth 20000 in
theorem gX8_isWord_J0_charAt_5068e : GoodIn wsX8_isWord (wsV RX8 142 RJ0 yJ0_charAt_5068e wsJ0_charAt_5068e) := goodIn_app (goodIn_of _ (by decide +kernel)) ggX8_isWord_J0_charAt_5068e
theorem dX8_isWord_0 : decode cX8_isWord 0 = .ok (.aload_n 0, 1) := by decide +kernel
theorem dX8_isWord_1 : decode cX8_isWord 1 = .ok (.getfield 43, 3) := by decide +kernel
theorem dX8_isWord_4 : decode cX8_isWord 4 = .ok (.iconst 1, 1) := by decide +kernel
theorem dX8_isWord_5 : decode cX8_isWord 5 = .ok (.if_icmp .ne 19, 3) := by decide +kernel
theorem dX8_isWord_8 : decode cX8_isWord 8 = .ok (.aload_n 0, 1) := by decide +kernel
theorem dX8_isWord_9 : decode cX8_isWord 9 = .ok (.getfield 37, 3) := by decide +kernel
theorem dX8_isWord_12 : decode cX8_isWord 12 = .ok (.aload_n 0, 1) := by decide +kernel
theorem dX8_isWord_13 : decode cX8_isWord 13 = .ok (.getfield 53, 3) := by decide +kernel
theorem dX8_isWord_16 : decode cX8_isWord 16 = .ok (.isub, 1) := by decide +kernel
theorem dX8_isWord_17 : decode cX8_isWord 17 = .ok (.aload_n 1, 1) := by decide +kernel
theorem dX8_isWord_18 : decode cX8_isWord 18 = .ok (.invokevirtual 137, 3) := by decide +kernel
theorem dX8_isWord_21 : decode cX8_isWord 21 = .ok (.if_icmp .eq 5, 3) := by decide +kernel
theorem dX8_isWord_24 : decode cX8_isWord 24 = .ok (.iconst 0, 1) := by decide +kernel
theorem dX8_isWord_25 : decode cX8_isWord 25 = .ok (.ireturn, 1) := by decide +kernel
theorem dX8_isWord_26 : decode cX8_isWord 26 = .ok (.iconst 0, 1) := by decide +kernel
theorem dX8_isWord_27 : decode cX8_isWord 27 = .ok (.istore_n 2, 1) := by decide +kernel
theorem dX8_isWord_28 : decode cX8_isWord 28 = .ok (.iload_n 2, 1) := by decide +kernel
theorem dX8_isWord_29 : decode cX8_isWord 29 = .ok (.aload_n 1, 1) := by decide +kernel
theorem dX8_isWord_30 : decode cX8_isWord 30 = .ok (.invokevirtual 137, 3) := by decide +kernel
theorem dX8_isWord_33 : decode cX8_isWord 33 = .ok (.if_icmp .ge 32, 3) := by decide +kernel
theorem dX8_isWord_36 : decode cX8_isWord 36 = .ok (.aload_n 0, 1) := by decide +kernel
theorem dX8_isWord_37 : decode cX8_isWord 37 = .ok (.getfield 27, 3) := by decide +kernel
theorem dX8_isWord_40 : decode cX8_isWord 40 = .ok (.aload_n 0, 1) := by decide +kernel
theorem dX8_isWord_41 : decode cX8_isWord 41 = .ok (.getfield 53, 3) := by decide +kernel
theorem dX8_isWord_44 : decode cX8_isWord 44 = .ok (.iload_n 2, 1) := by decide +kernel
theorem dX8_isWord_45 : decode cX8_isWord 45 = .ok (.iadd, 1) := by decide +kernel
theorem dX8_isWord_46 : decode cX8_isWord 46 = .ok (.invokevirtual 80, 3) := by decide +kernel
theorem dX8_isWord_49 : decode cX8_isWord 49 = .ok (.aload_n 1, 1) := by decide +kernel
theorem dX8_isWord_50 : decode cX8_isWord 50 = .ok (.iload_n 2, 1) := by decide +kernel
theorem dX8_isWord_51 : decode cX8_isWord 51 = .ok (.invokevirtual 142, 3) := by decide +kernel
theorem dX8_isWord_54 : decode cX8_isWord 54 = .ok (.if_icmp .eq 5, 3) := by decide +kernel
theorem dX8_isWord_57 : decode cX8_isWord 57 = .ok (.iconst 0, 1) := by decide +kernel
theorem dX8_isWord_58 : decode cX8_isWord 58 = .ok (.ireturn, 1) := by decide +kernel
theorem dX8_isWord_59 : decode cX8_isWord 59 = .ok (.iinc 2 1, 3) := by decide +kernel
theorem dX8_isWord_62 : decode cX8_isWord 62 = .ok (.goto (-34), 3) := by decide +kernel
theorem dX8_isWord_65 : decode cX8_isWord 65 = .ok (.iconst 1, 1) := by decide +kernel
theorem dX8_isWord_66 : decode cX8_isWord 66 = .ok (.ireturn, 1) := by decide +kernel
set_option maxRecDepth 20000 in
theorem ggX8_step_X7_size : GoodIn wsX8_step wsX7_size := goodIn_r _ [9, 10, 41, 42] (by decide +kernel) (by decide +kernel)
set_option maxRecDepth 20000 in
theorem gX8_step_X7_size : GoodIn wsX8_step (wsV RX8 146 RX7 yX7_size wsX7_size) := goodIn_app (goodIn_of _ (by decide +kernel)) ggX8_step_X7_size
set_option maxRecDepth 20000 in
theorem ggX8_step_X7_at : GoodIn wsX8_step wsX7_at := goodIn_r _ [14, 10, 15, 41, 42] (by decide +kernel) (by decide +kernel)
set_option maxRecDepth 20000 in
theorem gX8_step_X7_at : GoodIn wsX8_step (wsV RX8 80 RX7 yX7_at wsX7_at) := goodIn_app (goodIn_of _ (by decide +kernel)) ggX8_step_X7_at
set_option maxRecDepth 20000 in
theorem ggX8_step_X8_isLetter : GoodIn wsX8_step wsX8_isLetter := goodIn_r _ [19] (by decide +kernel) (by decide +kernel)
set_option maxRecDepth 20000 in
theorem gX8_step_X8_isLetter : GoodIn wsX8_step (va_wsS RX8 149 yX8_isLetter wsX8_isLetter) := goodIn_app (goodIn_of _ (by decide +kernel)) ggX8_step_X8_isLetter
set_option maxRecDepth 20000 in
theorem ggX8_step_X8_takeLetters : GoodIn wsX8_step wsX8_takeLetters := goodIn_r _ [23, 4, 1, 2, 5, 6, 7, 8, 9, 10, 11, 12, 13, 14, 15, 16, 17, 18, 19, 32, 33, 34, 35, 36, 37, 38, 39, 40, 41, 42] (by decide +kernel) (by decide +kernel)
set_option maxRecDepth 20000 in
theorem gX8_step_X8_takeLetters : GoodIn wsX8_step (wsV RX8 152 RX8 yX8_takeLetters wsX8_takeLetters) := goodIn_app (goodIn_of _ (by decide +kernel)) ggX8_step_X8_takeLetters
set_option maxRecDepth 20000 in
theorem ggX8_step_X8_isFigure : GoodIn wsX8_step wsX8_isFigure := goodIn_r _ [26] (by decide +kernel) (by decide +kernel)
set_option maxRecDepth 20000 in
theorem gX8_step_X8_isFigure : GoodIn wsX8_step (va_wsS RX8 155 yX8_isFigure wsX8_isFigure) := goodIn_app (goodIn_of _ (by decide +kernel)) ggX8_step_X8_isFigure
set_option maxRecDepth 20000 in
theorem ggX8_step_X8_takeFigures : GoodIn wsX8_step wsX8_takeFigures := goodIn_r _ [30, 31, 1, 2, 3, 4, 5, 6, 7, 8, 9, 10, 11, 12, 13, 14, 15, 24, 25, 18, 26, 32, 33, 34, 35, 36, 37, 38, 39, 40, 41, 42] (by decide +kernel) (by decide +kernel)
set_option maxRecDepth 20000 in
theorem gX8_step_X8_takeFigures : GoodIn wsX8_step (wsV RX8 158 RX8 yX8_takeFigures wsX8_takeFigures) := goodIn_app (goodIn_of _ (by decide +kernel)) ggX8_step_X8_takeFigures
theorem dX8_step_0 : decode cX8_step 0 = .ok (.aload_n 0, 1) := by decide +kernel
theorem dX8_step_1 : decode cX8_step 1 = .ok (.getfield 37, 3) := by decide +kernel
theorem dX8_step_4 : decode cX8_step 4 = .ok (.aload_n 0, 1) := by decide +kernel
theorem dX8_step_5 : decode cX8_step 5 = .ok (.getfield 27, 3) := by decide +kernel
theorem dX8_step_8 : decode cX8_step 8 = .ok (.invokevirtual 146, 3) := by decide +kernel
theorem dX8_step_11 : decode cX8_step 11 = .ok (.if_icmp .ge 32, 3) := by decide +kernel
theorem dX8_step_14 : decode cX8_step 14 = .ok (.aload_n 0, 1) := by decide +kernel
theorem dX8_step_15 : decode cX8_step 15 = .ok (.getfield 27, 3) := by decide +kernel
theorem dX8_step_18 : decode cX8_step 18 = .ok (.aload_n 0, 1) := by decide +kernel
theorem dX8_step_19 : decode cX8_step 19 = .ok (.getfield 37, 3) := by decide +kernel
theorem dX8_step_22 : decode cX8_step 22 = .ok (.invokevirtual 80, 3) := by decide +kernel
theorem dX8_step_25 : decode cX8_step 25 = .ok (.bipush 32, 2) := by decide +kernel
theorem dX8_step_27 : decode cX8_step 27 = .ok (.if_icmp .ne 16, 3) := by decide +kernel
theorem dX8_step_30 : decode cX8_step 30 = .ok (.aload_n 0, 1) := by decide +kernel
theorem dX8_step_31 : decode cX8_step 31 = .ok (.dup, 1) := by decide +kernel
theorem dX8_step_32 : decode cX8_step 32 = .ok (.getfield 37, 3) := by decide +kernel
theorem dX8_step_35 : decode cX8_step 35 = .ok (.iconst 1, 1) := by decide +kernel
theorem dX8_step_36 : decode cX8_step 36 = .ok (.iadd, 1) := by decide +kernel
theorem dX8_step_37 : decode cX8_step 37 = .ok (.putfield 37, 3) := by decide +kernel
theorem dX8_step_40 : decode cX8_step 40 = .ok (.goto (-40), 3) := by decide +kernel
theorem dX8_step_43 : decode cX8_step 43 = .ok (.aload_n 0, 1) := by decide +kernel
theorem dX8_step_44 : decode cX8_step 44 = .ok (.aload_n 0, 1) := by decide +kernel
theorem dX8_step_45 : decode cX8_step 45 = .ok (.getfield 37, 3) := by decide +kernel
theorem dX8_step_48 : decode cX8_step 48 = .ok (.putfield 53, 3) := by decide +kernel
theorem dX8_step_51 : decode cX8_step 51 = .ok (.aload_n 0, 1) := by decide +kernel
theorem dX8_step_52 : decode cX8_step 52 = .ok (.getfield 27, 3) := by decide +kernel
theorem dX8_step_55 : decode cX8_step 55 = .ok (.aload_n 0, 1) := by decide +kernel
theorem dX8_step_56 : decode cX8_step 56 = .ok (.getfield 53, 3) := by decide +kernel
theorem dX8_step_59 : decode cX8_step 59 = .ok (.invokevirtual 80, 3) := by decide +kernel
theorem dX8_step_62 : decode cX8_step 62 = .ok (.istore_n 1, 1) := by decide +kernel
theorem dX8_step_63 : decode cX8_step 63 = .ok (.aload_n 0, 1) := by decide +kernel
theorem dX8_step_64 : decode cX8_step 64 = .ok (.getfield 53, 3) := by decide +kernel
theorem dX8_step_67 : decode cX8_step 67 = .ok (.aload_n 0, 1) := by decide +kernel
theorem dX8_step_68 : decode cX8_step 68 = .ok (.getfield 27, 3) := by decide +kernel
theorem dX8_step_71 : decode cX8_step 71 = .ok (.invokevirtual 146, 3) := by decide +kernel
theorem dX8_step_74 : decode cX8_step 74 = .ok (.if_icmp .lt 11, 3) := by decide +kernel
theorem dX8_step_77 : decode cX8_step 77 = .ok (.aload_n 0, 1) := by decide +kernel
theorem dX8_step_78 : decode cX8_step 78 = .ok (.iconst 0, 1) := by decide +kernel
theorem dX8_step_79 : decode cX8_step 79 = .ok (.putfield 43, 3) := by decide +kernel
theorem dX8_step_82 : decode cX8_step 82 = .ok (.goto 56, 3) := by decide +kernel
theorem dX8_step_85 : decode cX8_step 85 = .ok (.iload_n 1, 1) := by decide +kernel
theorem dX8_step_86 : decode cX8_step 86 = .ok (.invokestatic 149, 3) := by decide +kernel
theorem dX8_step_89 : decode cX8_step 89 = .ok (.ifCond .eq 10, 3) := by decide +kernel
theorem dX8_step_92 : decode cX8_step 92 = .ok (.aload_n 0, 1) := by decide +kernel
theorem dX8_step_93 : decode cX8_step 93 = .ok (.invokevirtual 152, 3) := by decide +kernel
theorem dX8_step_96 : decode cX8_step 96 = .ok (.goto 42, 3) := by decide +kernel
theorem dX8_step_99 : decode cX8_step 99 = .ok (.iload_n 1, 1) := by decide +kernel
theorem dX8_step_100 : decode cX8_step 100 = .ok (.invokestatic 155, 3) := by decide +kernel
theorem dX8_step_103 : decode cX8_step 103 = .ok (.ifCond .eq 10, 3) := by decide +kernel
theorem dX8_step_106 : decode cX8_step 106 = .ok (.aload_n 0, 1) := by decide +kernel
theorem dX8_step_107 : decode cX8_step 107 = .ok (.invokevirtual 158, 3) := by decide +kernel
theorem dX8_step_110 : decode cX8_step 110 = .ok (.goto 28, 3) := by decide +kernel
theorem dX8_step_113 : decode cX8_step 113 = .ok (.aload_n 0, 1) := by decide +kernel
theorem dX8_step_114 : decode cX8_step 114 = .ok (.iload_n 1, 1) := by decide +kernel
theorem dX8_step_115 : decode cX8_step 115 = .ok (.bipush 59, 2) := by decide +kernel
theorem dX8_step_117 : decode cX8_step 117 = .ok (.if_icmp .ne 7, 3) := by decide +kernel
theorem dX8_step_120 : decode cX8_step 120 = .ok (.iconst 3, 1) := by decide +kernel
theorem dX8_step_121 : decode cX8_step 121 = .ok (.goto 4, 3) := by decide +kernel
theorem dX8_step_124 : decode cX8_step 124 = .ok (.iconst 4, 1) := by decide +kernel
theorem dX8_step_125 : decode cX8_step 125 = .ok (.putfield 43, 3) := by decide +kernel
theorem dX8_step_128 : decode cX8_step 128 = .ok (.aload_n 0, 1) := by decide +kernel
theorem dX8_step_129 : decode cX8_step 129 = .ok (.dup, 1) := by decide +kernel
theorem dX8_step_130 : decode cX8_step 130 = .ok (.getfield 37, 3) := by decide +kernel
theorem dX8_step_133 : decode cX8_step 133 = .ok (.iconst 1, 1) := by decide +kernel
theorem dX8_step_134 : decode cX8_step 134 = .ok (.iadd, 1) := by decide +kernel
theorem dX8_step_135 : decode cX8_step 135 = .ok (.putfield 37, 3) := by decide +kernel
theorem dX8_step_138 : decode cX8_step 138 = .ok (.return_, 1) := by decide +kernel
set_option maxRecDepth 20000 in
theorem ggX8_takeLetters_X7_size : GoodIn wsX8_takeLetters wsX7_size := goodIn_r _ [8, 9, 28, 29] (by decide +kernel) (by decide +kernel)
set_option maxRecDepth 20000 in
theorem gX8_takeLetters_X7_size : GoodIn wsX8_takeLetters (wsV RX8 146 RX7 yX7_size wsX7_size) := goodIn_app (goodIn_of _ (by decide +kernel)) ggX8_takeLetters_X7_size
set_option maxRecDepth 20000 in
theorem ggX8_takeLetters_X7_at : GoodIn wsX8_takeLetters wsX7_at := goodIn_r _ [13, 9, 14, 28, 29] (by decide +kernel) (by decide +kernel)
set_option maxRecDepth 20000 in
theorem gX8_takeLetters_X7_at : GoodIn wsX8_takeLetters (wsV RX8 80 RX7 yX7_at wsX7_at) := goodIn_app (goodIn_of _ (by decide +kernel)) ggX8_takeLetters_X7_at
set_option maxRecDepth 20000 in
theorem ggX8_takeLetters_X8_isLetter : GoodIn wsX8_takeLetters wsX8_isLetter := goodIn_r _ [18] (by decide +kernel) (by decide +kernel)
set_option maxRecDepth 20000 in
theorem gX8_takeLetters_X8_isLetter : GoodIn wsX8_takeLetters (va_wsS RX8 149 yX8_isLetter wsX8_isLetter) := goodIn_app (goodIn_of _ (by decide +kernel)) ggX8_takeLetters_X8_isLetter
theorem dX8_takeLetters_0 : decode cX8_takeLetters 0 = .ok (.aload_n 0, 1) := by decide +kernel
theorem dX8_takeLetters_1 : decode cX8_takeLetters 1 = .ok (.iconst 1, 1) := by decide +kernel
theorem dX8_takeLetters_2 : decode cX8_takeLetters 2 = .ok (.putfield 43, 3) := by decide +kernel
theorem dX8_takeLetters_5 : decode cX8_takeLetters 5 = .ok (.aload_n 0, 1) := by decide +kernel
theorem dX8_takeLetters_6 : decode cX8_takeLetters 6 = .ok (.getfield 37, 3) := by decide +kernel
theorem dX8_takeLetters_9 : decode cX8_takeLetters 9 = .ok (.aload_n 0, 1) := by decide +kernel
theorem dX8_takeLetters_10 : decode cX8_takeLetters 10 = .ok (.getfield 27, 3) := by decide +kernel
theorem dX8_takeLetters_13 : decode cX8_takeLetters 13 = .ok (.invokevirtual 146, 3) := by decide +kernel
theorem dX8_takeLetters_16 : decode cX8_takeLetters 16 = .ok (.if_icmp .ge 33, 3) := by decide +kernel
theorem dX8_takeLetters_19 : decode cX8_takeLetters 19 = .ok (.aload_n 0, 1) := by decide +kernel
theorem dX8_takeLetters_20 : decode cX8_takeLetters 20 = .ok (.getfield 27, 3) := by decide +kernel
theorem dX8_takeLetters_23 : decode cX8_takeLetters 23 = .ok (.aload_n 0, 1) := by decide +kernel
theorem dX8_takeLetters_24 : decode cX8_takeLetters 24 = .ok (.getfield 37, 3) := by decide +kernel
theorem dX8_takeLetters_27 : decode cX8_takeLetters 27 = .ok (.invokevirtual 80, 3) := by decide +kernel
theorem dX8_takeLetters_30 : decode cX8_takeLetters 30 = .ok (.invokestatic 149, 3) := by decide +kernel
theorem dX8_takeLetters_33 : decode cX8_takeLetters 33 = .ok (.ifCond .eq 16, 3) := by decide +kernel
theorem dX8_takeLetters_36 : decode cX8_takeLetters 36 = .ok (.aload_n 0, 1) := by decide +kernel
theorem dX8_takeLetters_37 : decode cX8_takeLetters 37 = .ok (.dup, 1) := by decide +kernel
theorem dX8_takeLetters_38 : decode cX8_takeLetters 38 = .ok (.getfield 37, 3) := by decide +kernel
theorem dX8_takeLetters_41 : decode cX8_takeLetters 41 = .ok (.iconst 1, 1) := by decide +kernel
theorem dX8_takeLetters_42 : decode cX8_takeLetters 42 = .ok (.iadd, 1) := by decide +kernel
theorem dX8_takeLetters_43 : decode cX8_takeLetters 43 = .ok (.putfield 37, 3) := by decide +kernel
theorem dX8_takeLetters_46 : decode cX8_takeLetters 46 = .ok (.goto (-41), 3) := by decide +kernel
theorem dX8_takeLetters_49 : decode cX8_takeLetters 49 = .ok (.return_, 1) := by decide +kernel
set_option maxRecDepth 20000 in
theorem ggX8_takeFigures_X7_size : GoodIn wsX8_takeFigures wsX7_size := goodIn_r _ [10, 11, 30, 31] (by decide +kernel) (by decide +kernel)
set_option maxRecDepth 20000 in
theorem gX8_takeFigures_X7_size : GoodIn wsX8_takeFigures (wsV RX8 146 RX7 yX7_size wsX7_size) := goodIn_app (goodIn_of _ (by decide +kernel)) ggX8_takeFigures_X7_size
set_option maxRecDepth 20000 in
theorem ggX8_takeFigures_X7_at : GoodIn wsX8_takeFigures wsX7_at := goodIn_r _ [15, 11, 16, 30, 31] (by decide +kernel) (by decide +kernel)
set_option maxRecDepth 20000 in
theorem gX8_takeFigures_X7_at : GoodIn wsX8_takeFigures (wsV RX8 80 RX7 yX7_at wsX7_at) := goodIn_app (goodIn_of _ (by decide +kernel)) ggX8_takeFigures_X7_at
set_option maxRecDepth 20000 in
theorem ggX8_takeFigures_X8_isFigure : GoodIn wsX8_takeFigures wsX8_isFigure := goodIn_r _ [20] (by decide +kernel) (by decide +kernel)
set_option maxRecDepth 20000 in
theorem gX8_takeFigures_X8_isFigure : GoodIn wsX8_takeFigures (va_wsS RX8 155 yX8_isFigure wsX8_isFigure) := goodIn_app (goodIn_of _ (by decide +kernel)) ggX8_takeFigures_X8_isFigure
theorem dX8_takeFigures_0 : decode cX8_takeFigures 0 = .ok (.aload_n 0, 1) := by decide +kernel
theorem dX8_takeFigures_1 : decode cX8_takeFigures 1 = .ok (.iconst 0, 1) := by decide +kernel
theorem dX8_takeFigures_2 : decode cX8_takeFigures 2 = .ok (.putfield 74, 3) := by decide +kernel
theorem dX8_takeFigures_5 : decode cX8_takeFigures 5 = .ok (.aload_n 0, 1) := by decide +kernel
theorem dX8_takeFigures_6 : decode cX8_takeFigures 6 = .ok (.getfield 37, 3) := by decide +kernel
theorem dX8_takeFigures_9 : decode cX8_takeFigures 9 = .ok (.aload_n 0, 1) := by decide +kernel
theorem dX8_takeFigures_10 : decode cX8_takeFigures 10 = .ok (.getfield 27, 3) := by decide +kernel
theorem dX8_takeFigures_13 : decode cX8_takeFigures 13 = .ok (.invokevirtual 146, 3) := by decide +kernel
theorem dX8_takeFigures_16 : decode cX8_takeFigures 16 = .ok (.if_icmp .ge 79, 3) := by decide +kernel
theorem dX8_takeFigures_19 : decode cX8_takeFigures 19 = .ok (.aload_n 0, 1) := by decide +kernel
theorem dX8_takeFigures_20 : decode cX8_takeFigures 20 = .ok (.getfield 27, 3) := by decide +kernel
theorem dX8_takeFigures_23 : decode cX8_takeFigures 23 = .ok (.aload_n 0, 1) := by decide +kernel
theorem dX8_takeFigures_24 : decode cX8_takeFigures 24 = .ok (.getfield 37, 3) := by decide +kernel
theorem dX8_takeFigures_27 : decode cX8_takeFigures 27 = .ok (.invokevirtual 80, 3) := by decide +kernel
theorem dX8_takeFigures_30 : decode cX8_takeFigures 30 = .ok (.invokestatic 155, 3) := by decide +kernel
theorem dX8_takeFigures_33 : decode cX8_takeFigures 33 = .ok (.ifCond .eq 62, 3) := by decide +kernel
theorem dX8_takeFigures_36 : decode cX8_takeFigures 36 = .ok (.aload_n 0, 1) := by decide +kernel
theorem dX8_takeFigures_37 : decode cX8_takeFigures 37 = .ok (.aload_n 0, 1) := by decide +kernel
theorem dX8_takeFigures_38 : decode cX8_takeFigures 38 = .ok (.getfield 37, 3) := by decide +kernel
theorem dX8_takeFigures_41 : decode cX8_takeFigures 41 = .ok (.aload_n 0, 1) := by decide +kernel
theorem dX8_takeFigures_42 : decode cX8_takeFigures 42 = .ok (.getfield 53, 3) := by decide +kernel
theorem dX8_takeFigures_45 : decode cX8_takeFigures 45 = .ok (.isub, 1) := by decide +kernel
theorem dX8_takeFigures_46 : decode cX8_takeFigures 46 = .ok (.iconst 2, 1) := by decide +kernel
theorem dX8_takeFigures_47 : decode cX8_takeFigures 47 = .ok (.if_icmp .ge 28, 3) := by decide +kernel
theorem dX8_takeFigures_50 : decode cX8_takeFigures 50 = .ok (.bipush 10, 2) := by decide +kernel
theorem dX8_takeFigures_52 : decode cX8_takeFigures 52 = .ok (.aload_n 0, 1) := by decide +kernel
theorem dX8_takeFigures_53 : decode cX8_takeFigures 53 = .ok (.getfield 74, 3) := by decide +kernel
theorem dX8_takeFigures_56 : decode cX8_takeFigures 56 = .ok (.imul, 1) := by decide +kernel
theorem dX8_takeFigures_57 : decode cX8_takeFigures 57 = .ok (.aload_n 0, 1) := by decide +kernel
theorem dX8_takeFigures_58 : decode cX8_takeFigures 58 = .ok (.getfield 27, 3) := by decide +kernel
theorem dX8_takeFigures_61 : decode cX8_takeFigures 61 = .ok (.aload_n 0, 1) := by decide +kernel
theorem dX8_takeFigures_62 : decode cX8_takeFigures 62 = .ok (.getfield 37, 3) := by decide +kernel
theorem dX8_takeFigures_65 : decode cX8_takeFigures 65 = .ok (.invokevirtual 80, 3) := by decide +kernel
theorem dX8_takeFigures_68 : decode cX8_takeFigures 68 = .ok (.iadd, 1) := by decide +kernel
theorem dX8_takeFigures_69 : decode cX8_takeFigures 69 = .ok (.bipush 48, 2) := by decide +kernel
theorem dX8_takeFigures_71 : decode cX8_takeFigures 71 = .ok (.isub, 1) := by decide +kernel
theorem dX8_takeFigures_72 : decode cX8_takeFigures 72 = .ok (.goto 7, 3) := by decide +kernel
theorem dX8_takeFigures_75 : decode cX8_takeFigures 75 = .ok (.aload_n 0, 1) := by decide +kernel
theorem dX8_takeFigures_76 : decode cX8_takeFigures 76 = .ok (.getfield 74, 3) := by decide +kernel
theorem dX8_takeFigures_79 : decode cX8_takeFigures 79 = .ok (.putfield 74, 3) := by decide +kernel
theorem dX8_takeFigures_82 : decode cX8_takeFigures 82 = .ok (.aload_n 0, 1) := by decide +kernel
theorem dX8_takeFigures_83 : decode cX8_takeFigures 83 = .ok (.dup, 1) := by decide +kernel
theorem dX8_takeFigures_84 : decode cX8_takeFigures 84 = .ok (.getfield 37, 3) := by decide +kernel
theorem dX8_takeFigures_87 : decode cX8_takeFigures 87 = .ok (.iconst 1, 1) := by decide +kernel
theorem dX8_takeFigures_88 : decode cX8_takeFigures 88 = .ok (.iadd, 1) := by decide +kernel
theorem dX8_takeFigures_89 : decode cX8_takeFigures 89 = .ok (.putfield 37, 3) := by decide +kernel
theorem dX8_takeFigures_92 : decode cX8_takeFigures 92 = .ok (.goto (-87), 3) := by decide +kernel
theorem dX8_takeFigures_95 : decode cX8_takeFigures 95 = .ok (.aload_n 0, 1) := by decide +kernel
theorem dX8_takeFigures_96 : decode cX8_takeFigures 96 = .ok (.aload_n 0, 1) := by decide +kernel
theorem dX8_takeFigures_97 : decode cX8_takeFigures 97 = .ok (.getfield 37, 3) := by decide +kernel
theorem dX8_takeFigures_100 : decode cX8_takeFigures 100 = .ok (.aload_n 0, 1) := by decide +kernel
theorem dX8_takeFigures_101 : decode cX8_takeFigures 101 = .ok (.getfield 53, 3) := by decide +kernel
theorem dX8_takeFigures_104 : decode cX8_takeFigures 104 = .ok (.isub, 1) := by decide +kernel
theorem dX8_takeFigures_105 : decode cX8_takeFigures 105 = .ok (.iconst 2, 1) := by decide +kernel
theorem dX8_takeFigures_106 : decode cX8_takeFigures 106 = .ok (.if_icmp .gt 7, 3) := by decide +kernel
theorem dX8_takeFigures_109 : decode cX8_takeFigures 109 = .ok (.iconst 2, 1) := by decide +kernel
theorem dX8_takeFigures_110 : decode cX8_takeFigures 110 = .ok (.goto 4, 3) := by decide +kernel
theorem dX8_takeFigures_113 : decode cX8_takeFigures 113 = .ok (.iconst 4, 1) := by decide +kernel
theorem dX8_takeFigures_114 : decode cX8_takeFigures 114 = .ok (.putfield 43, 3) := by decide +kernel
theorem dX8_takeFigures_117 : decode cX8_takeFigures 117 = .ok (.return_, 1) := by decide +kernel
theorem dX8_isLetter_0 : decode cX8_isLetter 0 = .ok (.iload_n 0, 1) := by decide +kernel
theorem dX8_isLetter_1 : decode cX8_isLetter 1 = .ok (.bipush 97, 2) := by decide +kernel
theorem dX8_isLetter_3 : decode cX8_isLetter 3 = .ok (.if_icmp .lt 13, 3) := by decide +kernel
theorem dX8_isLetter_6 : decode cX8_isLetter 6 = .ok (.iload_n 0, 1) := by decide +kernel
theorem dX8_isLetter_7 : decode cX8_isLetter 7 = .ok (.bipush 122, 2) := by decide +kernel
theorem dX8_isLetter_9 : decode cX8_isLetter 9 = .ok (.if_icmp .gt 7, 3) := by decide +kernel
theorem dX8_isLetter_12 : decode cX8_isLetter 12 = .ok (.iconst 1, 1) := by decide +kernel
theorem dX8_isLetter_13 : decode cX8_isLetter 13 = .ok (.goto 4, 3) := by decide +kernel
theorem dX8_isLetter_16 : decode cX8_isLetter 16 = .ok (.iconst 0, 1) := by decide +kernel
theorem dX8_isLetter_17 : decode cX8_isLetter 17 = .ok (.ireturn, 1) := by decide +kernel
theorem dX8_isFigure_0 : decode cX8_isFigure 0 = .ok (.iload_n 0, 1) := by decide +kernel
theorem dX8_isFigure_1 : decode cX8_isFigure 1 = .ok (.bipush 48, 2) := by decide +kernel
theorem dX8_isFigure_3 : decode cX8_isFigure 3 = .ok (.if_icmp .lt 13, 3) := by decide +kernel
theorem dX8_isFigure_6 : decode cX8_isFigure 6 = .ok (.iload_n 0, 1) := by decide +kernel
theorem dX8_isFigure_7 : decode cX8_isFigure 7 = .ok (.bipush 57, 2) := by decide +kernel
theorem dX8_isFigure_9 : decode cX8_isFigure 9 = .ok (.if_icmp .gt 7, 3) := by decide +kernel
theorem dX8_isFigure_12 : decode cX8_isFigure 12 = .ok (.iconst 1, 1) := by decide +kernel
theorem dX8_isFigure_13 : decode cX8_isFigure 13 = .ok (.goto 4, 3) := by decide +kernel
theorem dX8_isFigure_16 : decode cX8_isFigure 16 = .ok (.iconst 0, 1) := by decide +kernel
theorem dX8_isFigure_17 : decode cX8_isFigure 17 = .ok (.ireturn, 1) := by decide +kernel
set_option maxRecDepth 20000 in
theorem ggX9_restCount_X9_rests : GoodIn wsX9_restCount wsX9_rests := goodIn_r _ [4, 5, 6, 3, 7, 8, 9, 10, 11, 12, 13, 14, 15, 16] (by decide +kernel) (by decide +kernel)
set_option maxRecDepth 20000 in
theorem gX9_restCount_X9_rests : GoodIn wsX9_restCount (va_wsS RX9 9 yX9_rests wsX9_rests) := goodIn_app (goodIn_of _ (by decide +kernel)) ggX9_restCount_X9_rests
theorem dX9_restCount_0 : decode cX9_restCount 0 = .ok (.iconst 0, 1) := by decide +kernel
theorem dX9_restCount_1 : decode cX9_restCount 1 = .ok (.istore_n 1, 1) := by decide +kernel
theorem dX9_restCount_2 : decode cX9_restCount 2 = .ok (.iconst 0, 1) := by decide +kernel
theorem dX9_restCount_3 : decode cX9_restCount 3 = .ok (.istore_n 2, 1) := by decide +kernel
theorem dX9_restCount_4 : decode cX9_restCount 4 = .ok (.iload_n 2, 1) := by decide +kernel
theorem dX9_restCount_5 : decode cX9_restCount 5 = .ok (.bipush 9, 2) := by decide +kernel
theorem dX9_restCount_7 : decode cX9_restCount 7 = .ok (.if_icmp .gt 35, 3) := by decide +kernel
theorem dX9_restCount_10 : decode cX9_restCount 10 = .ok (.iconst 0, 1) := by decide +kernel
theorem dX9_restCount_11 : decode cX9_restCount 11 = .ok (.istore_n 3, 1) := by decide +kernel
theorem dX9_restCount_12 : decode cX9_restCount 12 = .ok (.iload_n 3, 1) := by decide +kernel
theorem dX9_restCount_13 : decode cX9_restCount 13 = .ok (.bipush 9, 2) := by decide +kernel
theorem dX9_restCount_15 : decode cX9_restCount 15 = .ok (.if_icmp .gt 21, 3) := by decide +kernel
theorem dX9_restCount_18 : decode cX9_restCount 18 = .ok (.iload_n 0, 1) := by decide +kernel
theorem dX9_restCount_19 : decode cX9_restCount 19 = .ok (.iload_n 2, 1) := by decide +kernel
theorem dX9_restCount_20 : decode cX9_restCount 20 = .ok (.iload_n 3, 1) := by decide +kernel
theorem dX9_restCount_21 : decode cX9_restCount 21 = .ok (.invokestatic 9, 3) := by decide +kernel
theorem dX9_restCount_24 : decode cX9_restCount 24 = .ok (.ifCond .eq 6, 3) := by decide +kernel
theorem dX9_restCount_27 : decode cX9_restCount 27 = .ok (.iinc 1 1, 3) := by decide +kernel
theorem dX9_restCount_30 : decode cX9_restCount 30 = .ok (.iinc 3 1, 3) := by decide +kernel
theorem dX9_restCount_33 : decode cX9_restCount 33 = .ok (.goto (-21), 3) := by decide +kernel
theorem dX9_restCount_36 : decode cX9_restCount 36 = .ok (.iinc 2 1, 3) := by decide +kernel
theorem dX9_restCount_39 : decode cX9_restCount 39 = .ok (.goto (-35), 3) := by decide +kernel
theorem dX9_restCount_42 : decode cX9_restCount 42 = .ok (.iload_n 1, 1) := by decide +kernel
theorem dX9_restCount_43 : decode cX9_restCount 43 = .ok (.ireturn, 1) := by decide +kernel
set_option maxRecDepth 20000 in
theorem ggX9_restingPair_X9_rests : GoodIn wsX9_restingPair wsX9_rests := goodIn_r _ [4, 5, 6, 3, 7, 8, 9, 10, 11, 12, 13, 14, 15, 16] (by decide +kernel) (by decide +kernel)
set_option maxRecDepth 20000 in
theorem gX9_restingPair_X9_rests : GoodIn wsX9_restingPair (va_wsS RX9 9 yX9_rests wsX9_rests) := goodIn_app (goodIn_of _ (by decide +kernel)) ggX9_restingPair_X9_rests
theorem dX9_restingPair_0 : decode cX9_restingPair 0 = .ok (.iconst 0, 1) := by decide +kernel
theorem dX9_restingPair_1 : decode cX9_restingPair 1 = .ok (.istore_n 2, 1) := by decide +kernel
theorem dX9_restingPair_2 : decode cX9_restingPair 2 = .ok (.iconst 0, 1) := by decide +kernel
theorem dX9_restingPair_3 : decode cX9_restingPair 3 = .ok (.istore_n 3, 1) := by decide +kernel
theorem dX9_restingPair_4 : decode cX9_restingPair 4 = .ok (.iload_n 3, 1) := by decide +kernel
theorem dX9_restingPair_5 : decode cX9_restingPair 5 = .ok (.bipush 9, 2) := by decide +kernel
theorem dX9_restingPair_7 : decode cX9_restingPair 7 = .ok (.if_icmp .gt 51, 3) := by decide +kernel
theorem dX9_restingPair_10 : decode cX9_restingPair 10 = .ok (.iconst 0, 1) := by decide +kernel
theorem dX9_restingPair_11 : decode cX9_restingPair 11 = .ok (.istore 4, 2) := by decide +kernel
theorem dX9_restingPair_13 : decode cX9_restingPair 13 = .ok (.iload 4, 2) := by decide +kernel
theorem dX9_restingPair_15 : decode cX9_restingPair 15 = .ok (.bipush 9, 2) := by decide +kernel
theorem dX9_restingPair_17 : decode cX9_restingPair 17 = .ok (.if_icmp .gt 35, 3) := by decide +kernel
theorem dX9_restingPair_20 : decode cX9_restingPair 20 = .ok (.iload_n 0, 1) := by decide +kernel
theorem dX9_restingPair_21 : decode cX9_restingPair 21 = .ok (.iload_n 3, 1) := by decide +kernel
theorem dX9_restingPair_22 : decode cX9_restingPair 22 = .ok (.iload 4, 2) := by decide +kernel
theorem dX9_restingPair_24 : decode cX9_restingPair 24 = .ok (.invokestatic 9, 3) := by decide +kernel
theorem dX9_restingPair_27 : decode cX9_restingPair 27 = .ok (.ifCond .eq 19, 3) := by decide +kernel
theorem dX9_restingPair_30 : decode cX9_restingPair 30 = .ok (.iload_n 2, 1) := by decide +kernel
theorem dX9_restingPair_31 : decode cX9_restingPair 31 = .ok (.iload_n 1, 1) := by decide +kernel
theorem dX9_restingPair_32 : decode cX9_restingPair 32 = .ok (.if_icmp .ne 11, 3) := by decide +kernel
theorem dX9_restingPair_35 : decode cX9_restingPair 35 = .ok (.bipush 10, 2) := by decide +kernel
theorem dX9_restingPair_37 : decode cX9_restingPair 37 = .ok (.iload_n 3, 1) := by decide +kernel
theorem dX9_restingPair_38 : decode cX9_restingPair 38 = .ok (.imul, 1) := by decide +kernel
theorem dX9_restingPair_39 : decode cX9_restingPair 39 = .ok (.iload 4, 2) := by decide +kernel
theorem dX9_restingPair_41 : decode cX9_restingPair 41 = .ok (.iadd, 1) := by decide +kernel
theorem dX9_restingPair_42 : decode cX9_restingPair 42 = .ok (.ireturn, 1) := by decide +kernel
theorem dX9_restingPair_43 : decode cX9_restingPair 43 = .ok (.iinc 2 1, 3) := by decide +kernel
theorem dX9_restingPair_46 : decode cX9_restingPair 46 = .ok (.iinc 4 1, 3) := by decide +kernel
theorem dX9_restingPair_49 : decode cX9_restingPair 49 = .ok (.goto (-36), 3) := by decide +kernel
theorem dX9_restingPair_52 : decode cX9_restingPair 52 = .ok (.iinc 3 1, 3) := by decide +kernel
theorem dX9_restingPair_55 : decode cX9_restingPair 55 = .ok (.goto (-51), 3) := by decide +kernel
theorem dX9_restingPair_58 : decode cX9_restingPair 58 = .ok (.iconst (-1), 1) := by decide +kernel
theorem dX9_restingPair_59 : decode cX9_restingPair 59 = .ok (.ireturn, 1) := by decide +kernel
set_option maxRecDepth 20000 in
theorem ggX9_rests_X9_firstGets : GoodIn wsX9_rests wsX9_firstGets := goodIn_r _ [4, 5, 6, 3, 7, 8, 9, 10] (by decide +kernel) (by decide +kernel)
set_option maxRecDepth 20000 in
theorem gX9_rests_X9_firstGets : GoodIn wsX9_rests (va_wsS RX9 15 yX9_firstGets wsX9_firstGets) := goodIn_app (goodIn_of _ (by decide +kernel)) ggX9_rests_X9_firstGets
set_option maxRecDepth 20000 in
theorem ggX9_rests_X9_secondGets : GoodIn wsX9_rests wsX9_secondGets := goodIn_r _ [13, 5, 6, 3, 7, 8, 9, 10] (by decide +kernel) (by decide +kernel)
set_option maxRecDepth 20000 in
theorem gX9_rests_X9_secondGets : GoodIn wsX9_rests (va_wsS RX9 19 yX9_secondGets wsX9_secondGets) := goodIn_app (goodIn_of _ (by decide +kernel)) ggX9_rests_X9_secondGets
theorem dX9_rests_0 : decode cX9_rests 0 = .ok (.iload_n 0, 1) := by decide +kernel
theorem dX9_rests_1 : decode cX9_rests 1 = .ok (.iload_n 1, 1) := by decide +kernel
theorem dX9_rests_2 : decode cX9_rests 2 = .ok (.iload_n 2, 1) := by decide +kernel
theorem dX9_rests_3 : decode cX9_rests 3 = .ok (.invokestatic 15, 3) := by decide +kernel
theorem dX9_rests_6 : decode cX9_rests 6 = .ok (.istore_n 3, 1) := by decide +kernel
theorem dX9_rests_7 : decode cX9_rests 7 = .ok (.iload_n 0, 1) := by decide +kernel
theorem dX9_rests_8 : decode cX9_rests 8 = .ok (.iload_n 1, 1) := by decide +kernel
theorem dX9_rests_9 : decode cX9_rests 9 = .ok (.iload_n 2, 1) := by decide +kernel
theorem dX9_rests_10 : decode cX9_rests 10 = .ok (.invokestatic 19, 3) := by decide +kernel
theorem dX9_rests_13 : decode cX9_rests 13 = .ok (.istore 4, 2) := by decide +kernel
theorem dX9_rests_15 : decode cX9_rests 15 = .ok (.iconst 0, 1) := by decide +kernel
theorem dX9_rests_16 : decode cX9_rests 16 = .ok (.istore 5, 2) := by decide +kernel
theorem dX9_rests_18 : decode cX9_rests 18 = .ok (.iload 5, 2) := by decide +kernel
theorem dX9_rests_20 : decode cX9_rests 20 = .ok (.bipush 9, 2) := by decide +kernel
theorem dX9_rests_22 : decode cX9_rests 22 = .ok (.if_icmp .gt 34, 3) := by decide +kernel
theorem dX9_rests_25 : decode cX9_rests 25 = .ok (.iload_n 0, 1) := by decide +kernel
theorem dX9_rests_26 : decode cX9_rests 26 = .ok (.iload 5, 2) := by decide +kernel
theorem dX9_rests_28 : decode cX9_rests 28 = .ok (.iload_n 2, 1) := by decide +kernel
theorem dX9_rests_29 : decode cX9_rests 29 = .ok (.invokestatic 15, 3) := by decide +kernel
theorem dX9_rests_32 : decode cX9_rests 32 = .ok (.iload_n 3, 1) := by decide +kernel
theorem dX9_rests_33 : decode cX9_rests 33 = .ok (.if_icmp .gt 15, 3) := by decide +kernel
theorem dX9_rests_36 : decode cX9_rests 36 = .ok (.iload_n 0, 1) := by decide +kernel
theorem dX9_rests_37 : decode cX9_rests 37 = .ok (.iload_n 1, 1) := by decide +kernel
theorem dX9_rests_38 : decode cX9_rests 38 = .ok (.iload 5, 2) := by decide +kernel
theorem dX9_rests_40 : decode cX9_rests 40 = .ok (.invokestatic 19, 3) := by decide +kernel
theorem dX9_rests_43 : decode cX9_rests 43 = .ok (.iload 4, 2) := by decide +kernel
theorem dX9_rests_45 : decode cX9_rests 45 = .ok (.if_icmp .le 5, 3) := by decide +kernel
theorem dX9_rests_48 : decode cX9_rests 48 = .ok (.iconst 0, 1) := by decide +kernel
theorem dX9_rests_49 : decode cX9_rests 49 = .ok (.ireturn, 1) := by decide +kernel
theorem dX9_rests_50 : decode cX9_rests 50 = .ok (.iinc 5 1, 3) := by decide +kernel
theorem dX9_rests_53 : decode cX9_rests 53 = .ok (.goto (-35), 3) := by decide +kernel
theorem dX9_rests_56 : decode cX9_rests 56 = .ok (.iconst 1, 1) := by decide +kernel
theorem dX9_rests_57 : decode cX9_rests 57 = .ok (.ireturn, 1) := by decide +kernel
set_option maxRecDepth 20000 in
theorem ggX9_firstGets_X9_gets : GoodIn wsX9_firstGets wsX9_gets := goodIn_r _ [4, 5, 6, 7] (by decide +kernel) (by decide +kernel)
set_option maxRecDepth 20000 in
theorem gX9_firstGets_X9_gets : GoodIn wsX9_firstGets (va_wsS RX9 22 yX9_gets wsX9_gets) := goodIn_app (goodIn_of _ (by decide +kernel)) ggX9_firstGets_X9_gets
theorem dX9_firstGets_0 : decode cX9_firstGets 0 = .ok (.iload_n 1, 1) := by decide +kernel
theorem dX9_firstGets_1 : decode cX9_firstGets 1 = .ok (.iload_n 2, 1) := by decide +kernel
theorem dX9_firstGets_2 : decode cX9_firstGets 2 = .ok (.if_icmp .lt 11, 3) := by decide +kernel
theorem dX9_firstGets_5 : decode cX9_firstGets 5 = .ok (.iload_n 0, 1) := by decide +kernel
theorem dX9_firstGets_6 : decode cX9_firstGets 6 = .ok (.iload_n 1, 1) := by decide +kernel
theorem dX9_firstGets_7 : decode cX9_firstGets 7 = .ok (.invokestatic 22, 3) := by decide +kernel
theorem dX9_firstGets_10 : decode cX9_firstGets 10 = .ok (.goto 7, 3) := by decide +kernel
theorem dX9_firstGets_13 : decode cX9_firstGets 13 = .ok (.iload_n 1, 1) := by decide +kernel
theorem dX9_firstGets_14 : decode cX9_firstGets 14 = .ok (.iconst 2, 1) := by decide +kernel
theorem dX9_firstGets_15 : decode cX9_firstGets 15 = .ok (.idiv, 1) := by decide +kernel
theorem dX9_firstGets_16 : decode cX9_firstGets 16 = .ok (.ineg, 1) := by decide +kernel
theorem dX9_firstGets_17 : decode cX9_firstGets 17 = .ok (.ireturn, 1) := by decide +kernel
set_option maxRecDepth 20000 in
theorem ggX9_secondGets_X9_gets : GoodIn wsX9_secondGets wsX9_gets := goodIn_r _ [4, 5, 6, 7] (by decide +kernel) (by decide +kernel)
set_option maxRecDepth 20000 in
theorem gX9_secondGets_X9_gets : GoodIn wsX9_secondGets (va_wsS RX9 22 yX9_gets wsX9_gets) := goodIn_app (goodIn_of _ (by decide +kernel)) ggX9_secondGets_X9_gets
theorem dX9_secondGets_0 : decode cX9_secondGets 0 = .ok (.iload_n 2, 1) := by decide +kernel
theorem dX9_secondGets_1 : decode cX9_secondGets 1 = .ok (.iload_n 1, 1) := by decide +kernel
theorem dX9_secondGets_2 : decode cX9_secondGets 2 = .ok (.if_icmp .le 11, 3) := by decide +kernel
theorem dX9_secondGets_5 : decode cX9_secondGets 5 = .ok (.iload_n 0, 1) := by decide +kernel
theorem dX9_secondGets_6 : decode cX9_secondGets 6 = .ok (.iload_n 2, 1) := by decide +kernel
theorem dX9_secondGets_7 : decode cX9_secondGets 7 = .ok (.invokestatic 22, 3) := by decide +kernel
theorem dX9_secondGets_10 : decode cX9_secondGets 10 = .ok (.goto 7, 3) := by decide +kernel
theorem dX9_secondGets_13 : decode cX9_secondGets 13 = .ok (.iload_n 2, 1) := by decide +kernel
theorem dX9_secondGets_14 : decode cX9_secondGets 14 = .ok (.iconst 2, 1) := by decide +kernel
theorem dX9_secondGets_15 : decode cX9_secondGets 15 = .ok (.idiv, 1) := by decide +kernel
theorem dX9_secondGets_16 : decode cX9_secondGets 16 = .ok (.ineg, 1) := by decide +kernel
theorem dX9_secondGets_17 : decode cX9_secondGets 17 = .ok (.ireturn, 1) := by decide +kernel
set_option maxRecDepth 20000 in
theorem ggX9_gets_X11_hasBit : GoodIn wsX9_gets wsX11_hasBit := goodIn_r _ [3] (by decide +kernel) (by decide +kernel)
set_option maxRecDepth 20000 in
theorem gX9_gets_X11_hasBit_n26 : GoodIn wsX9_gets (wsX11_hasBit) := ggX9_gets_X11_hasBit
theorem dX9_gets_0 : decode cX9_gets 0 = .ok (.iload_n 0, 1) := by decide +kernel
theorem dX9_gets_1 : decode cX9_gets 1 = .ok (.iload_n 1, 1) := by decide +kernel
theorem dX9_gets_2 : decode cX9_gets 2 = .ok (.invokestatic 26, 3) := by decide +kernel
theorem dX9_gets_5 : decode cX9_gets 5 = .ok (.ifCond .eq 10, 3) := by decide +kernel
theorem dX9_gets_8 : decode cX9_gets 8 = .ok (.bipush 8, 2) := by decide +kernel
theorem dX9_gets_10 : decode cX9_gets 10 = .ok (.iload_n 1, 1) := by decide +kernel
theorem dX9_gets_11 : decode cX9_gets 11 = .ok (.isub, 1) := by decide +kernel
theorem dX9_gets_12 : decode cX9_gets 12 = .ok (.goto 7, 3) := by decide +kernel
theorem dX9_gets_15 : decode cX9_gets 15 = .ok (.iload_n 1, 1) := by decide +kernel
theorem dX9_gets_16 : decode cX9_gets 16 = .ok (.iconst 2, 1) := by decide +kernel
theorem dX9_gets_17 : decode cX9_gets 17 = .ok (.idiv, 1) := by decide +kernel
theorem dX9_gets_18 : decode cX9_gets 18 = .ok (.ineg, 1) := by decide +kernel
theorem dX9_gets_19 : decode cX9_gets 19 = .ok (.ireturn, 1) := by decide +kernel
set_option maxRecDepth 20000 in
theorem ggX10_init_X7_init : GoodIn wsX10_init wsX7_init := goodIn_r _ [11, 12, 2, 3, 13, 14, 15, 16, 17, 18, 19, 20] (by decide +kernel) (by decide +kernel)
set_option maxRecDepth 20000 in
theorem gX10_init_X7_init : GoodIn wsX10_init (wsX7_init) := ggX10_init_X7_init
theorem dX10_init_0 : decode cX10_init 0 = .ok (.aload_n 0, 1) := by decide +kernel
theorem dX10_init_1 : decode cX10_init 1 = .ok (.invokespecial 3, 3) := by decide +kernel
theorem dX10_init_4 : decode cX10_init 4 = .ok (.aload_n 0, 1) := by decide +kernel
theorem dX10_init_5 : decode cX10_init 5 = .ok (.new 9, 3) := by decide +kernel
theorem dX10_init_8 : decode cX10_init 8 = .ok (.dup, 1) := by decide +kernel
theorem dX10_init_9 : decode cX10_init 9 = .ok (.sipush 1024, 3) := by decide +kernel
theorem dX10_init_12 : decode cX10_init 12 = .ok (.invokespecial 13, 3) := by decide +kernel
theorem dX10_init_15 : decode cX10_init 15 = .ok (.putfield 16, 3) := by decide +kernel
theorem dX10_init_18 : decode cX10_init 18 = .ok (.aload_n 0, 1) := by decide +kernel
theorem dX10_init_19 : decode cX10_init 19 = .ok (.new 9, 3) := by decide +kernel
theorem dX10_init_22 : decode cX10_init 22 = .ok (.dup, 1) := by decide +kernel
theorem dX10_init_23 : decode cX10_init 23 = .ok (.bipush 8, 2) := by decide +kernel
theorem dX10_init_25 : decode cX10_init 25 = .ok (.invokespecial 13, 3) := by decide +kernel
theorem dX10_init_28 : decode cX10_init 28 = .ok (.putfield 20, 3) := by decide +kernel
theorem dX10_init_31 : decode cX10_init 31 = .ok (.return_, 1) := by decide +kernel
set_option maxRecDepth 20000 in
theorem ggX10_plan_X10_settle : GoodIn wsX10_plan wsX10_settle := goodIn_r _ [7, 8, 9, 10, 11, 12, 13, 14, 15, 16, 17, 18, 19, 20, 21, 22, 23, 67, 68, 69, 70, 71] (by decide +kernel) (by decide +kernel)
set_option maxRecDepth 20000 in
theorem gX10_plan_X10_settle : GoodIn wsX10_plan (wsV RX10 23 RX10 yX10_settle wsX10_settle) := goodIn_app (goodIn_of _ (by decide +kernel)) ggX10_plan_X10_settle
set_option maxRecDepth 20000 in
theorem ggX10_plan_X7_useAll : GoodIn wsX10_plan wsX7_useAll := goodIn_r _ [27, 19, 14, 70, 71] (by decide +kernel) (by decide +kernel)
set_option maxRecDepth 20000 in
theorem gX10_plan_X7_useAll : GoodIn wsX10_plan (wsV RX10 31 RX7 yX7_useAll wsX7_useAll) := goodIn_app (goodIn_of _ (by decide +kernel)) ggX10_plan_X7_useAll
set_option maxRecDepth 20000 in
theorem ggX10_plan_X10_mayStand : GoodIn wsX10_plan wsX10_mayStand := goodIn_r _ [31, 1, 32, 33, 34, 67, 68, 69] (by decide +kernel) (by decide +kernel)
set_option maxRecDepth 20000 in
theorem gX10_plan_X10_mayStand : GoodIn wsX10_plan (wsV RX10 34 RX10 yX10_mayStand wsX10_mayStand) := goodIn_app (goodIn_of _ (by decide +kernel)) ggX10_plan_X10_mayStand
set_option maxRecDepth 20000 in
theorem ggX10_plan_X10_leastHours : GoodIn wsX10_plan wsX10_leastHours := goodIn_r _ [38, 39, 40, 41, 6, 42, 8, 43, 44, 45, 46, 47, 48, 49, 15, 16, 17, 12, 18, 14, 19, 50, 51, 52, 53, 54, 32, 33, 34, 55, 56, 57, 58, 59, 60, 61, 62, 2, 67, 68, 69, 70, 71] (by decide +kernel) (by decide +kernel)
set_option maxRecDepth 20000 in
theorem gX10_plan_X10_leastHours : GoodIn wsX10_plan (wsV RX10 38 RX10 yX10_leastHours wsX10_leastHours) := goodIn_app (goodIn_of _ (by decide +kernel)) ggX10_plan_X10_leastHours
set_option maxRecDepth 20000 in
theorem ggX10_plan_X7_put : GoodIn wsX10_plan wsX7_put := goodIn_r _ [66, 14, 19, 70, 71] (by decide +kernel) (by decide +kernel)
set_option maxRecDepth 20000 in
theorem gX10_plan_X7_put : GoodIn wsX10_plan (wsV RX10 42 RX7 yX7_put wsX7_put) := goodIn_app (goodIn_of _ (by decide +kernel)) ggX10_plan_X7_put
theorem dX10_plan_0 : decode cX10_plan 0 = .ok (.aload_n 0, 1) := by decide +kernel
theorem dX10_plan_1 : decode cX10_plan 1 = .ok (.aload_n 1, 1) := by decide +kernel
theorem dX10_plan_2 : decode cX10_plan 2 = .ok (.invokevirtual 23, 3) := by decide +kernel
theorem dX10_plan_5 : decode cX10_plan 5 = .ok (.aload_n 0, 1) := by decide +kernel
theorem dX10_plan_6 : decode cX10_plan 6 = .ok (.iload_n 2, 1) := by decide +kernel
theorem dX10_plan_7 : decode cX10_plan 7 = .ok (.putfield 27, 3) := by decide +kernel
theorem dX10_plan_10 : decode cX10_plan 10 = .ok (.aload_n 0, 1) := by decide +kernel
theorem dX10_plan_11 : decode cX10_plan 11 = .ok (.getfield 16, 3) := by decide +kernel
theorem dX10_plan_14 : decode cX10_plan 14 = .ok (.invokevirtual 31, 3) := by decide +kernel
theorem dX10_plan_17 : decode cX10_plan 17 = .ok (.iconst 0, 1) := by decide +kernel
theorem dX10_plan_18 : decode cX10_plan 18 = .ok (.istore_n 3, 1) := by decide +kernel
theorem dX10_plan_19 : decode cX10_plan 19 = .ok (.iload_n 3, 1) := by decide +kernel
theorem dX10_plan_20 : decode cX10_plan 20 = .ok (.aload_n 0, 1) := by decide +kernel
theorem dX10_plan_21 : decode cX10_plan 21 = .ok (.getfield 27, 3) := by decide +kernel
theorem dX10_plan_24 : decode cX10_plan 24 = .ok (.if_icmp .gt 56, 3) := by decide +kernel
theorem dX10_plan_27 : decode cX10_plan 27 = .ok (.iconst 0, 1) := by decide +kernel
theorem dX10_plan_28 : decode cX10_plan 28 = .ok (.istore 4, 2) := by decide +kernel
theorem dX10_plan_30 : decode cX10_plan 30 = .ok (.iload 4, 2) := by decide +kernel
theorem dX10_plan_32 : decode cX10_plan 32 = .ok (.bipush 7, 2) := by decide +kernel
theorem dX10_plan_34 : decode cX10_plan 34 = .ok (.if_icmp .gt 40, 3) := by decide +kernel
theorem dX10_plan_37 : decode cX10_plan 37 = .ok (.aload_n 0, 1) := by decide +kernel
theorem dX10_plan_38 : decode cX10_plan 38 = .ok (.iload_n 3, 1) := by decide +kernel
theorem dX10_plan_39 : decode cX10_plan 39 = .ok (.iload 4, 2) := by decide +kernel
theorem dX10_plan_41 : decode cX10_plan 41 = .ok (.invokevirtual 34, 3) := by decide +kernel
theorem dX10_plan_44 : decode cX10_plan 44 = .ok (.ifCond .eq 24, 3) := by decide +kernel
theorem dX10_plan_47 : decode cX10_plan 47 = .ok (.aload_n 0, 1) := by decide +kernel
theorem dX10_plan_48 : decode cX10_plan 48 = .ok (.getfield 16, 3) := by decide +kernel
theorem dX10_plan_51 : decode cX10_plan 51 = .ok (.iload_n 3, 1) := by decide +kernel
theorem dX10_plan_52 : decode cX10_plan 52 = .ok (.bipush 8, 2) := by decide +kernel
theorem dX10_plan_54 : decode cX10_plan 54 = .ok (.imul, 1) := by decide +kernel
theorem dX10_plan_55 : decode cX10_plan 55 = .ok (.iload 4, 2) := by decide +kernel
theorem dX10_plan_57 : decode cX10_plan 57 = .ok (.iadd, 1) := by decide +kernel
theorem dX10_plan_58 : decode cX10_plan 58 = .ok (.aload_n 0, 1) := by decide +kernel
theorem dX10_plan_59 : decode cX10_plan 59 = .ok (.iload_n 3, 1) := by decide +kernel
theorem dX10_plan_60 : decode cX10_plan 60 = .ok (.iload 4, 2) := by decide +kernel
theorem dX10_plan_62 : decode cX10_plan 62 = .ok (.invokevirtual 38, 3) := by decide +kernel
theorem dX10_plan_65 : decode cX10_plan 65 = .ok (.invokevirtual 42, 3) := by decide +kernel
theorem dX10_plan_68 : decode cX10_plan 68 = .ok (.iinc 4 1, 3) := by decide +kernel
theorem dX10_plan_71 : decode cX10_plan 71 = .ok (.goto (-41), 3) := by decide +kernel
theorem dX10_plan_74 : decode cX10_plan 74 = .ok (.iinc 3 1, 3) := by decide +kernel
theorem dX10_plan_77 : decode cX10_plan 77 = .ok (.goto (-58), 3) := by decide +kernel
theorem dX10_plan_80 : decode cX10_plan 80 = .ok (.return_, 1) := by decide +kernel
set_option maxRecDepth 20000 in
theorem ggX10_hours_X10_hoursFrom : GoodIn wsX10_hours wsX10_hoursFrom := goodIn_r _ [6, 7, 8, 9, 10, 11, 12, 13, 14, 15, 16, 17, 18, 19] (by decide +kernel) (by decide +kernel)
set_option maxRecDepth 20000 in
theorem gX10_hours_X10_hoursFrom : GoodIn wsX10_hours (wsV RX10 46 RX10 yX10_hoursFrom wsX10_hoursFrom) := goodIn_app (goodIn_of _ (by decide +kernel)) ggX10_hours_X10_hoursFrom
theorem dX10_hours_0 : decode cX10_hours 0 = .ok (.aload_n 0, 1) := by decide +kernel
theorem dX10_hours_1 : decode cX10_hours 1 = .ok (.aload_n 0, 1) := by decide +kernel
theorem dX10_hours_2 : decode cX10_hours 2 = .ok (.getfield 27, 3) := by decide +kernel
theorem dX10_hours_5 : decode cX10_hours 5 = .ok (.bipush 7, 2) := by decide +kernel
theorem dX10_hours_7 : decode cX10_hours 7 = .ok (.invokevirtual 46, 3) := by decide +kernel
theorem dX10_hours_10 : decode cX10_hours 10 = .ok (.ireturn, 1) := by decide +kernel
set_option maxRecDepth 20000 in
theorem ggX10_visited_X10_firstBest : GoodIn wsX10_visited wsX10_firstBest := goodIn_r _ [6, 7, 8, 9, 10, 11, 12, 13, 5, 14, 15, 16, 17, 18, 19, 20, 21, 22, 23, 24, 25, 26, 27, 28, 29, 30, 31, 32, 33, 34, 35, 36, 37, 38, 39, 40, 41, 42, 43] (by decide +kernel) (by decide +kernel)
set_option maxRecDepth 20000 in
theorem gX10_visited_X10_firstBest : GoodIn wsX10_visited (wsV RX10 49 RX10 yX10_firstBest wsX10_firstBest) := goodIn_app (goodIn_of _ (by decide +kernel)) ggX10_visited_X10_firstBest
theorem dX10_visited_0 : decode cX10_visited 0 = .ok (.aload_n 0, 1) := by decide +kernel
theorem dX10_visited_1 : decode cX10_visited 1 = .ok (.getfield 27, 3) := by decide +kernel
theorem dX10_visited_4 : decode cX10_visited 4 = .ok (.istore_n 2, 1) := by decide +kernel
theorem dX10_visited_5 : decode cX10_visited 5 = .ok (.bipush 7, 2) := by decide +kernel
theorem dX10_visited_7 : decode cX10_visited 7 = .ok (.istore_n 3, 1) := by decide +kernel
theorem dX10_visited_8 : decode cX10_visited 8 = .ok (.iconst 0, 1) := by decide +kernel
theorem dX10_visited_9 : decode cX10_visited 9 = .ok (.istore 4, 2) := by decide +kernel
theorem dX10_visited_11 : decode cX10_visited 11 = .ok (.iload 4, 2) := by decide +kernel
theorem dX10_visited_13 : decode cX10_visited 13 = .ok (.iload_n 1, 1) := by decide +kernel
theorem dX10_visited_14 : decode cX10_visited 14 = .ok (.if_icmp .gt 28, 3) := by decide +kernel
theorem dX10_visited_17 : decode cX10_visited 17 = .ok (.iload_n 2, 1) := by decide +kernel
theorem dX10_visited_18 : decode cX10_visited 18 = .ok (.ifCond .eq 24, 3) := by decide +kernel
theorem dX10_visited_21 : decode cX10_visited 21 = .ok (.aload_n 0, 1) := by decide +kernel
theorem dX10_visited_22 : decode cX10_visited 22 = .ok (.iload_n 2, 1) := by decide +kernel
theorem dX10_visited_23 : decode cX10_visited 23 = .ok (.iload_n 3, 1) := by decide +kernel
theorem dX10_visited_24 : decode cX10_visited 24 = .ok (.invokevirtual 49, 3) := by decide +kernel
theorem dX10_visited_27 : decode cX10_visited 27 = .ok (.istore_n 3, 1) := by decide +kernel
theorem dX10_visited_28 : decode cX10_visited 28 = .ok (.iload_n 2, 1) := by decide +kernel
theorem dX10_visited_29 : decode cX10_visited 29 = .ok (.iconst 1, 1) := by decide +kernel
theorem dX10_visited_30 : decode cX10_visited 30 = .ok (.iload_n 3, 1) := by decide +kernel
theorem dX10_visited_31 : decode cX10_visited 31 = .ok (.ishl, 1) := by decide +kernel
theorem dX10_visited_32 : decode cX10_visited 32 = .ok (.iconst (-1), 1) := by decide +kernel
theorem dX10_visited_33 : decode cX10_visited 33 = .ok (.ixor, 1) := by decide +kernel
theorem dX10_visited_34 : decode cX10_visited 34 = .ok (.iand, 1) := by decide +kernel
theorem dX10_visited_35 : decode cX10_visited 35 = .ok (.istore_n 2, 1) := by decide +kernel
theorem dX10_visited_36 : decode cX10_visited 36 = .ok (.iinc 4 1, 3) := by decide +kernel
theorem dX10_visited_39 : decode cX10_visited 39 = .ok (.goto (-28), 3) := by decide +kernel
theorem dX10_visited_42 : decode cX10_visited 42 = .ok (.iload_n 3, 1) := by decide +kernel
theorem dX10_visited_43 : decode cX10_visited 43 = .ok (.ireturn, 1) := by decide +kernel
set_option maxRecDepth 20000 in
theorem ggX10_settle_X7_restart : GoodIn wsX10_settle wsX7_restart := goodIn_r _ [6, 7, 20, 21] (by decide +kernel) (by decide +kernel)
set_option maxRecDepth 20000 in
theorem gX10_settle_X7_restart : GoodIn wsX10_settle (wsV RX10 52 RX7 yX7_restart wsX7_restart) := goodIn_app (goodIn_of _ (by decide +kernel)) ggX10_settle_X7_restart
set_option maxRecDepth 20000 in
theorem ggX10_settle_X7_at : GoodIn wsX10_settle wsX7_at := goodIn_r _ [11, 7, 12, 20, 21] (by decide +kernel) (by decide +kernel)
set_option maxRecDepth 20000 in
theorem gX10_settle_X7_at : GoodIn wsX10_settle (wsV RX10 55 RX7 yX7_at wsX7_at) := goodIn_app (goodIn_of _ (by decide +kernel)) ggX10_settle_X7_at
set_option maxRecDepth 20000 in
theorem ggX10_settle_X7_add : GoodIn wsX10_settle wsX7_add := goodIn_r _ [16, 7, 12, 20, 21] (by decide +kernel) (by decide +kernel)
set_option maxRecDepth 20000 in
theorem gX10_settle_X7_add : GoodIn wsX10_settle (wsV RX10 59 RX7 yX7_add wsX7_add) := goodIn_app (goodIn_of _ (by decide +kernel)) ggX10_settle_X7_add
theorem dX10_settle_0 : decode cX10_settle 0 = .ok (.aload_n 0, 1) := by decide +kernel
theorem dX10_settle_1 : decode cX10_settle 1 = .ok (.getfield 20, 3) := by decide +kernel
theorem dX10_settle_4 : decode cX10_settle 4 = .ok (.invokevirtual 52, 3) := by decide +kernel
theorem dX10_settle_7 : decode cX10_settle 7 = .ok (.iconst 0, 1) := by decide +kernel
theorem dX10_settle_8 : decode cX10_settle 8 = .ok (.istore_n 2, 1) := by decide +kernel
theorem dX10_settle_9 : decode cX10_settle 9 = .ok (.iload_n 2, 1) := by decide +kernel
theorem dX10_settle_10 : decode cX10_settle 10 = .ok (.bipush 7, 2) := by decide +kernel
theorem dX10_settle_12 : decode cX10_settle 12 = .ok (.if_icmp .ge 21, 3) := by decide +kernel
theorem dX10_settle_15 : decode cX10_settle 15 = .ok (.aload_n 0, 1) := by decide +kernel
theorem dX10_settle_16 : decode cX10_settle 16 = .ok (.getfield 20, 3) := by decide +kernel
theorem dX10_settle_19 : decode cX10_settle 19 = .ok (.aload_n 1, 1) := by decide +kernel
theorem dX10_settle_20 : decode cX10_settle 20 = .ok (.iload_n 2, 1) := by decide +kernel
theorem dX10_settle_21 : decode cX10_settle 21 = .ok (.invokevirtual 55, 3) := by decide +kernel
theorem dX10_settle_24 : decode cX10_settle 24 = .ok (.invokevirtual 59, 3) := by decide +kernel
theorem dX10_settle_27 : decode cX10_settle 27 = .ok (.iinc 2 1, 3) := by decide +kernel
theorem dX10_settle_30 : decode cX10_settle 30 = .ok (.goto (-21), 3) := by decide +kernel
theorem dX10_settle_33 : decode cX10_settle 33 = .ok (.aload_n 0, 1) := by decide +kernel
theorem dX10_settle_34 : decode cX10_settle 34 = .ok (.getfield 20, 3) := by decide +kernel
theorem dX10_settle_37 : decode cX10_settle 37 = .ok (.iconst 0, 1) := by decide +kernel
theorem dX10_settle_38 : decode cX10_settle 38 = .ok (.invokevirtual 59, 3) := by decide +kernel
theorem dX10_settle_41 : decode cX10_settle 41 = .ok (.return_, 1) := by decide +kernel
set_option maxRecDepth 20000 in
theorem ggX10_mayStand_X11_hasBit : GoodIn wsX10_mayStand wsX11_hasBit := goodIn_r _ [4] (by decide +kernel) (by decide +kernel)
set_option maxRecDepth 20000 in
theorem gX10_mayStand_X11_hasBit_n62 : GoodIn wsX10_mayStand (wsX11_hasBit) := ggX10_mayStand_X11_hasBit
theorem dX10_mayStand_0 : decode cX10_mayStand 0 = .ok (.iload_n 2, 1) := by decide +kernel
theorem dX10_mayStand_1 : decode cX10_mayStand 1 = .ok (.bipush 7, 2) := by decide +kernel
theorem dX10_mayStand_3 : decode cX10_mayStand 3 = .ok (.if_icmp .ne 19, 3) := by decide +kernel
theorem dX10_mayStand_6 : decode cX10_mayStand 6 = .ok (.iload_n 1, 1) := by decide +kernel
theorem dX10_mayStand_7 : decode cX10_mayStand 7 = .ok (.aload_n 0, 1) := by decide +kernel
theorem dX10_mayStand_8 : decode cX10_mayStand 8 = .ok (.getfield 27, 3) := by decide +kernel
theorem dX10_mayStand_11 : decode cX10_mayStand 11 = .ok (.if_icmp .ne 7, 3) := by decide +kernel
theorem dX10_mayStand_14 : decode cX10_mayStand 14 = .ok (.iconst 1, 1) := by decide +kernel
theorem dX10_mayStand_15 : decode cX10_mayStand 15 = .ok (.goto 38, 3) := by decide +kernel
theorem dX10_mayStand_18 : decode cX10_mayStand 18 = .ok (.iconst 0, 1) := by decide +kernel
theorem dX10_mayStand_19 : decode cX10_mayStand 19 = .ok (.goto 34, 3) := by decide +kernel
theorem dX10_mayStand_22 : decode cX10_mayStand 22 = .ok (.iload_n 1, 1) := by decide +kernel
theorem dX10_mayStand_23 : decode cX10_mayStand 23 = .ok (.aload_n 0, 1) := by decide +kernel
theorem dX10_mayStand_24 : decode cX10_mayStand 24 = .ok (.getfield 27, 3) := by decide +kernel
theorem dX10_mayStand_27 : decode cX10_mayStand 27 = .ok (.iconst (-1), 1) := by decide +kernel
theorem dX10_mayStand_28 : decode cX10_mayStand 28 = .ok (.ixor, 1) := by decide +kernel
theorem dX10_mayStand_29 : decode cX10_mayStand 29 = .ok (.iand, 1) := by decide +kernel
theorem dX10_mayStand_30 : decode cX10_mayStand 30 = .ok (.ifCond .ne 22, 3) := by decide +kernel
theorem dX10_mayStand_33 : decode cX10_mayStand 33 = .ok (.aload_n 0, 1) := by decide +kernel
theorem dX10_mayStand_34 : decode cX10_mayStand 34 = .ok (.getfield 27, 3) := by decide +kernel
theorem dX10_mayStand_37 : decode cX10_mayStand 37 = .ok (.iload_n 1, 1) := by decide +kernel
theorem dX10_mayStand_38 : decode cX10_mayStand 38 = .ok (.iconst (-1), 1) := by decide +kernel
theorem dX10_mayStand_39 : decode cX10_mayStand 39 = .ok (.ixor, 1) := by decide +kernel
theorem dX10_mayStand_40 : decode cX10_mayStand 40 = .ok (.iand, 1) := by decide +kernel
theorem dX10_mayStand_41 : decode cX10_mayStand 41 = .ok (.iload_n 2, 1) := by decide +kernel
theorem dX10_mayStand_42 : decode cX10_mayStand 42 = .ok (.invokestatic 62, 3) := by decide +kernel
theorem dX10_mayStand_45 : decode cX10_mayStand 45 = .ok (.ifCond .eq 7, 3) := by decide +kernel
theorem dX10_mayStand_48 : decode cX10_mayStand 48 = .ok (.iconst 1, 1) := by decide +kernel
theorem dX10_mayStand_49 : decode cX10_mayStand 49 = .ok (.goto 4, 3) := by decide +kernel
theorem dX10_mayStand_52 : decode cX10_mayStand 52 = .ok (.iconst 0, 1) := by decide +kernel
theorem dX10_mayStand_53 : decode cX10_mayStand 53 = .ok (.ireturn, 1) := by decide +kernel
set_option maxRecDepth 20000 in
theorem ggX10_leastHours_X10_way : GoodIn wsX10_leastHours wsX10_way := goodIn_r _ [5, 6, 7, 8, 9, 10, 11, 12, 13, 14, 15, 16, 17, 18, 19, 20, 38, 39, 40, 41, 42] (by decide +kernel) (by decide +kernel)
set_option maxRecDepth 20000 in
theorem gX10_leastHours_X10_way : GoodIn wsX10_leastHours (wsV RX10 65 RX10 yX10_way wsX10_way) := goodIn_app (goodIn_of _ (by decide +kernel)) ggX10_leastHours_X10_way
set_option maxRecDepth 20000 in
theorem ggX10_leastHours_X10_firstBest : GoodIn wsX10_leastHours wsX10_firstBest := goodIn_r _ [24, 25, 26, 27, 28, 29, 30, 31, 4, 32, 1, 2, 3, 5, 6, 7, 8, 9, 10, 11, 12, 13, 14, 15, 16, 17, 18, 19, 20, 33, 34, 35, 36, 37, 38, 39, 40, 41, 42] (by decide +kernel) (by decide +kernel)
set_option maxRecDepth 20000 in
theorem gX10_leastHours_X10_firstBest : GoodIn wsX10_leastHours (wsV RX10 49 RX10 yX10_firstBest wsX10_firstBest) := goodIn_app (goodIn_of _ (by decide +kernel)) ggX10_leastHours_X10_firstBest
set_option maxRecDepth 20000 in
theorem ggX10_leastHours_X10_hoursBy : GoodIn wsX10_leastHours wsX10_hoursBy := goodIn_r _ [32, 1, 2, 3, 4, 5, 6, 7, 8, 9, 10, 11, 12, 13, 14, 15, 16, 17, 18, 19, 20, 33, 34, 35, 36, 37, 38, 39, 40, 41, 42] (by decide +kernel) (by decide +kernel)
set_option maxRecDepth 20000 in
theorem gX10_leastHours_X10_hoursBy : GoodIn wsX10_leastHours (wsV RX10 68 RX10 yX10_hoursBy wsX10_hoursBy) := goodIn_app (goodIn_of _ (by decide +kernel)) ggX10_leastHours_X10_hoursBy
theorem dX10_leastHours_0 : decode cX10_leastHours 0 = .ok (.iload_n 1, 1) := by decide +kernel
theorem dX10_leastHours_1 : decode cX10_leastHours 1 = .ok (.ifCond .ne 13, 3) := by decide +kernel
theorem dX10_leastHours_4 : decode cX10_leastHours 4 = .ok (.aload_n 0, 1) := by decide +kernel
theorem dX10_leastHours_5 : decode cX10_leastHours 5 = .ok (.iload_n 2, 1) := by decide +kernel
theorem dX10_leastHours_6 : decode cX10_leastHours 6 = .ok (.bipush 7, 2) := by decide +kernel
theorem dX10_leastHours_8 : decode cX10_leastHours 8 = .ok (.invokevirtual 65, 3) := by decide +kernel
theorem dX10_leastHours_11 : decode cX10_leastHours 11 = .ok (.goto 15, 3) := by decide +kernel
theorem dX10_leastHours_14 : decode cX10_leastHours 14 = .ok (.aload_n 0, 1) := by decide +kernel
theorem dX10_leastHours_15 : decode cX10_leastHours 15 = .ok (.iload_n 1, 1) := by decide +kernel
theorem dX10_leastHours_16 : decode cX10_leastHours 16 = .ok (.iload_n 2, 1) := by decide +kernel
theorem dX10_leastHours_17 : decode cX10_leastHours 17 = .ok (.aload_n 0, 1) := by decide +kernel
theorem dX10_leastHours_18 : decode cX10_leastHours 18 = .ok (.iload_n 1, 1) := by decide +kernel
theorem dX10_leastHours_19 : decode cX10_leastHours 19 = .ok (.iload_n 2, 1) := by decide +kernel
theorem dX10_leastHours_20 : decode cX10_leastHours 20 = .ok (.invokevirtual 49, 3) := by decide +kernel
theorem dX10_leastHours_23 : decode cX10_leastHours 23 = .ok (.invokevirtual 68, 3) := by decide +kernel
theorem dX10_leastHours_26 : decode cX10_leastHours 26 = .ok (.ireturn, 1) := by decide +kernel
set_option maxRecDepth 20000 in
theorem ggX10_firstBest_X11_hasBit : GoodIn wsX10_firstBest wsX11_hasBit := goodIn_r _ [4] (by decide +kernel) (by decide +kernel)
set_option maxRecDepth 20000 in
theorem gX10_firstBest_X11_hasBit_n62 : GoodIn wsX10_firstBest (wsX11_hasBit) := ggX10_firstBest_X11_hasBit
set_option maxRecDepth 20000 in
theorem ggX10_firstBest_X10_hoursBy : GoodIn wsX10_firstBest wsX10_hoursBy := goodIn_r _ [9, 10, 11, 12, 8, 13, 14, 15, 16, 17, 18, 19, 20, 21, 22, 23, 24, 25, 26, 27, 28, 29, 30, 31, 32, 33, 34, 35, 36, 37, 38] (by decide +kernel) (by decide +kernel)
set_option maxRecDepth 20000 in
theorem gX10_firstBest_X10_hoursBy : GoodIn wsX10_firstBest (wsV RX10 68 RX10 yX10_hoursBy wsX10_hoursBy) := goodIn_app (goodIn_of _ (by decide +kernel)) ggX10_firstBest_X10_hoursBy
theorem dX10_firstBest_0 : decode cX10_firstBest 0 = .ok (.iconst 0, 1) := by decide +kernel
theorem dX10_firstBest_1 : decode cX10_firstBest 1 = .ok (.istore_n 3, 1) := by decide +kernel
theorem dX10_firstBest_2 : decode cX10_firstBest 2 = .ok (.ldc 72, 2) := by decide +kernel
theorem dX10_firstBest_4 : decode cX10_firstBest 4 = .ok (.istore 4, 2) := by decide +kernel
theorem dX10_firstBest_6 : decode cX10_firstBest 6 = .ok (.iconst 0, 1) := by decide +kernel
theorem dX10_firstBest_7 : decode cX10_firstBest 7 = .ok (.istore 5, 2) := by decide +kernel
theorem dX10_firstBest_9 : decode cX10_firstBest 9 = .ok (.iload 5, 2) := by decide +kernel
theorem dX10_firstBest_11 : decode cX10_firstBest 11 = .ok (.bipush 7, 2) := by decide +kernel
theorem dX10_firstBest_13 : decode cX10_firstBest 13 = .ok (.if_icmp .ge 47, 3) := by decide +kernel
theorem dX10_firstBest_16 : decode cX10_firstBest 16 = .ok (.iload_n 1, 1) := by decide +kernel
theorem dX10_firstBest_17 : decode cX10_firstBest 17 = .ok (.iload 5, 2) := by decide +kernel
theorem dX10_firstBest_19 : decode cX10_firstBest 19 = .ok (.invokestatic 62, 3) := by decide +kernel
theorem dX10_firstBest_22 : decode cX10_firstBest 22 = .ok (.ifCond .eq 14, 3) := by decide +kernel
theorem dX10_firstBest_25 : decode cX10_firstBest 25 = .ok (.aload_n 0, 1) := by decide +kernel
theorem dX10_firstBest_26 : decode cX10_firstBest 26 = .ok (.iload_n 1, 1) := by decide +kernel
theorem dX10_firstBest_27 : decode cX10_firstBest 27 = .ok (.iload_n 2, 1) := by decide +kernel
theorem dX10_firstBest_28 : decode cX10_firstBest 28 = .ok (.iload 5, 2) := by decide +kernel
theorem dX10_firstBest_30 : decode cX10_firstBest 30 = .ok (.invokevirtual 68, 3) := by decide +kernel
theorem dX10_firstBest_33 : decode cX10_firstBest 33 = .ok (.goto 5, 3) := by decide +kernel
theorem dX10_firstBest_36 : decode cX10_firstBest 36 = .ok (.ldc 72, 2) := by decide +kernel
theorem dX10_firstBest_38 : decode cX10_firstBest 38 = .ok (.istore 6, 2) := by decide +kernel
theorem dX10_firstBest_40 : decode cX10_firstBest 40 = .ok (.iload 6, 2) := by decide +kernel
theorem dX10_firstBest_42 : decode cX10_firstBest 42 = .ok (.iload 4, 2) := by decide +kernel
theorem dX10_firstBest_44 : decode cX10_firstBest 44 = .ok (.if_icmp .ge 10, 3) := by decide +kernel
theorem dX10_firstBest_47 : decode cX10_firstBest 47 = .ok (.iload 5, 2) := by decide +kernel
theorem dX10_firstBest_49 : decode cX10_firstBest 49 = .ok (.istore_n 3, 1) := by decide +kernel
theorem dX10_firstBest_50 : decode cX10_firstBest 50 = .ok (.iload 6, 2) := by decide +kernel
theorem dX10_firstBest_52 : decode cX10_firstBest 52 = .ok (.istore 4, 2) := by decide +kernel
theorem dX10_firstBest_54 : decode cX10_firstBest 54 = .ok (.iinc 5 1, 3) := by decide +kernel
theorem dX10_firstBest_57 : decode cX10_firstBest 57 = .ok (.goto (-48), 3) := by decide +kernel
theorem dX10_firstBest_60 : decode cX10_firstBest 60 = .ok (.iload_n 3, 1) := by decide +kernel
theorem dX10_firstBest_61 : decode cX10_firstBest 61 = .ok (.ireturn, 1) := by decide +kernel
set_option maxRecDepth 20000 in
theorem ggX10_hoursBy_X10_way : GoodIn wsX10_hoursBy wsX10_way := goodIn_r _ [5, 6, 7, 8, 9, 10, 11, 12, 13, 14, 15, 16, 17, 18, 19, 20, 26, 27, 28, 29, 30] (by decide +kernel) (by decide +kernel)
set_option maxRecDepth 20000 in
theorem gX10_hoursBy_X10_way : GoodIn wsX10_hoursBy (wsV RX10 65 RX10 yX10_way wsX10_way) := goodIn_app (goodIn_of _ (by decide +kernel)) ggX10_hoursBy_X10_way
set_option maxRecDepth 20000 in
theorem ggX10_hoursBy_X10_hoursFrom : GoodIn wsX10_hoursBy wsX10_hoursFrom := goodIn_r _ [24, 25, 14, 15, 16, 17, 18, 19, 20, 26, 27, 28, 29, 30] (by decide +kernel) (by decide +kernel)
set_option maxRecDepth 20000 in
theorem gX10_hoursBy_X10_hoursFrom : GoodIn wsX10_hoursBy (wsV RX10 46 RX10 yX10_hoursFrom wsX10_hoursFrom) := goodIn_app (goodIn_of _ (by decide +kernel)) ggX10_hoursBy_X10_hoursFrom
theorem dX10_hoursBy_0 : decode cX10_hoursBy 0 = .ok (.aload_n 0, 1) := by decide +kernel
theorem dX10_hoursBy_1 : decode cX10_hoursBy 1 = .ok (.iload_n 2, 1) := by decide +kernel
theorem dX10_hoursBy_2 : decode cX10_hoursBy 2 = .ok (.iload_n 3, 1) := by decide +kernel
theorem dX10_hoursBy_3 : decode cX10_hoursBy 3 = .ok (.invokevirtual 65, 3) := by decide +kernel
theorem dX10_hoursBy_6 : decode cX10_hoursBy 6 = .ok (.iconst 1, 1) := by decide +kernel
theorem dX10_hoursBy_7 : decode cX10_hoursBy 7 = .ok (.iadd, 1) := by decide +kernel
theorem dX10_hoursBy_8 : decode cX10_hoursBy 8 = .ok (.aload_n 0, 1) := by decide +kernel
theorem dX10_hoursBy_9 : decode cX10_hoursBy 9 = .ok (.iload_n 1, 1) := by decide +kernel
theorem dX10_hoursBy_10 : decode cX10_hoursBy 10 = .ok (.iconst 1, 1) := by decide +kernel
theorem dX10_hoursBy_11 : decode cX10_hoursBy 11 = .ok (.iload_n 3, 1) := by decide +kernel
theorem dX10_hoursBy_12 : decode cX10_hoursBy 12 = .ok (.ishl, 1) := by decide +kernel
theorem dX10_hoursBy_13 : decode cX10_hoursBy 13 = .ok (.iconst (-1), 1) := by decide +kernel
theorem dX10_hoursBy_14 : decode cX10_hoursBy 14 = .ok (.ixor, 1) := by decide +kernel
theorem dX10_hoursBy_15 : decode cX10_hoursBy 15 = .ok (.iand, 1) := by decide +kernel
theorem dX10_hoursBy_16 : decode cX10_hoursBy 16 = .ok (.iload_n 3, 1) := by decide +kernel
theorem dX10_hoursBy_17 : decode cX10_hoursBy 17 = .ok (.invokevirtual 46, 3) := by decide +kernel
theorem dX10_hoursBy_20 : decode cX10_hoursBy 20 = .ok (.iadd, 1) := by decide +kernel
theorem dX10_hoursBy_21 : decode cX10_hoursBy 21 = .ok (.ireturn, 1) := by decide +kernel
set_option maxRecDepth 20000 in
theorem ggX10_hoursFrom_X7_at : GoodIn wsX10_hoursFrom wsX7_at := goodIn_r _ [6, 7, 8, 12, 13] (by decide +kernel) (by decide +kernel)
set_option maxRecDepth 20000 in
theorem gX10_hoursFrom_X7_at : GoodIn wsX10_hoursFrom (wsV RX10 55 RX7 yX7_at wsX7_at) := goodIn_app (goodIn_of _ (by decide +kernel)) ggX10_hoursFrom_X7_at
theorem dX10_hoursFrom_0 : decode cX10_hoursFrom 0 = .ok (.aload_n 0, 1) := by decide +kernel
theorem dX10_hoursFrom_1 : decode cX10_hoursFrom 1 = .ok (.getfield 16, 3) := by decide +kernel
theorem dX10_hoursFrom_4 : decode cX10_hoursFrom 4 = .ok (.iload_n 1, 1) := by decide +kernel
theorem dX10_hoursFrom_5 : decode cX10_hoursFrom 5 = .ok (.bipush 8, 2) := by decide +kernel
theorem dX10_hoursFrom_7 : decode cX10_hoursFrom 7 = .ok (.imul, 1) := by decide +kernel
theorem dX10_hoursFrom_8 : decode cX10_hoursFrom 8 = .ok (.iload_n 2, 1) := by decide +kernel
theorem dX10_hoursFrom_9 : decode cX10_hoursFrom 9 = .ok (.iadd, 1) := by decide +kernel
theorem dX10_hoursFrom_10 : decode cX10_hoursFrom 10 = .ok (.invokevirtual 55, 3) := by decide +kernel
theorem dX10_hoursFrom_13 : decode cX10_hoursFrom 13 = .ok (.ireturn, 1) := by decide +kernel
set_option maxRecDepth 20000 in
theorem ggX10_way_X7_at : GoodIn wsX10_way wsX7_at := goodIn_r _ [13, 14, 15, 19, 20] (by decide +kernel) (by decide +kernel)
set_option maxRecDepth 20000 in
theorem gX10_way_X7_at : GoodIn wsX10_way (wsV RX10 55 RX7 yX7_at wsX7_at) := goodIn_app (goodIn_of _ (by decide +kernel)) ggX10_way_X7_at
theorem dX10_way_0 : decode cX10_way 0 = .ok (.aload_n 0, 1) := by decide +kernel
theorem dX10_way_1 : decode cX10_way 1 = .ok (.getfield 20, 3) := by decide +kernel
theorem dX10_way_4 : decode cX10_way 4 = .ok (.iload_n 1, 1) := by decide +kernel
theorem dX10_way_5 : decode cX10_way 5 = .ok (.invokevirtual 55, 3) := by decide +kernel
theorem dX10_way_8 : decode cX10_way 8 = .ok (.aload_n 0, 1) := by decide +kernel
theorem dX10_way_9 : decode cX10_way 9 = .ok (.getfield 20, 3) := by decide +kernel
theorem dX10_way_12 : decode cX10_way 12 = .ok (.iload_n 2, 1) := by decide +kernel
theorem dX10_way_13 : decode cX10_way 13 = .ok (.invokevirtual 55, 3) := by decide +kernel
theorem dX10_way_16 : decode cX10_way 16 = .ok (.isub, 1) := by decide +kernel
theorem dX10_way_17 : decode cX10_way 17 = .ok (.invokestatic 73, 3) := by decide +kernel
theorem dX10_way_20 : decode cX10_way 20 = .ok (.istore_n 3, 1) := by decide +kernel
theorem dX10_way_21 : decode cX10_way 21 = .ok (.iload_n 3, 1) := by decide +kernel
theorem dX10_way_22 : decode cX10_way 22 = .ok (.bipush 12, 2) := by decide +kernel
theorem dX10_way_24 : decode cX10_way 24 = .ok (.iload_n 3, 1) := by decide +kernel
theorem dX10_way_25 : decode cX10_way 25 = .ok (.isub, 1) := by decide +kernel
theorem dX10_way_26 : decode cX10_way 26 = .ok (.invokestatic 78, 3) := by decide +kernel
theorem dX10_way_29 : decode cX10_way 29 = .ok (.ireturn, 1) := by decide +kernel
set_option maxRecDepth 20000 in
theorem ggX11_init_X3_init : GoodIn wsX11_init wsX3_init := goodIn_r _ [36, 37, 2, 3, 38, 11, 12, 39, 40, 41, 42, 43, 44, 45, 46, 47, 19, 20, 48, 49, 50, 51, 52, 53, 54, 55, 56, 57, 58, 59, 60, 61, 62, 63, 64, 65, 121, 122, 97, 98, 99, 100, 101, 102, 103, 104, 105, 132, 133, 134, 135] (by decide +kernel) (by decide +kernel)
set_option maxRecDepth 20000 in
theorem gX11_init_X3_init_n9 : GoodIn wsX11_init (wsX3_init) := ggX11_init_X3_init
set_option maxRecDepth 20000 in
theorem ggX11_init_X7_init : GoodIn wsX11_init wsX7_init := goodIn_r _ [51, 52, 2, 3, 53, 54, 55, 56, 57, 58, 121, 122] (by decide +kernel) (by decide +kernel)
set_option maxRecDepth 20000 in
theorem gX11_init_X7_init : GoodIn wsX11_init (wsX7_init) := ggX11_init_X7_init
set_option maxRecDepth 20000 in
theorem ggX11_init_X8_init : GoodIn wsX11_init wsX8_init := goodIn_r _ [69, 70, 2, 3, 71, 5, 6, 72, 73, 11, 12, 74, 75, 35, 36, 37, 38, 39, 40, 41, 42, 43, 44, 45, 46, 47, 19, 20, 48, 49, 50, 51, 52, 53, 54, 55, 56, 57, 58, 59, 60, 61, 62, 63, 64, 65, 76, 97, 98, 99, 100, 101, 102, 103, 104, 105, 123, 124, 125, 126, 127, 128, 129, 130, 131, 121, 122, 132, 133, 134, 135] (by decide +kernel) (by decide +kernel)
set_option maxRecDepth 20000 in
theorem gX11_init_X8_init : GoodIn wsX11_init (wsX8_init) := ggX11_init_X8_init
set_option maxRecDepth 20000 in
theorem ggX11_init_X4_init : GoodIn wsX11_init wsX4_init := goodIn_r _ [60, 61, 2, 3, 62, 11, 12, 63, 64, 65, 50, 51, 52, 53, 54, 55, 56, 57, 58, 121, 122, 132, 133, 134, 135] (by decide +kernel) (by decide +kernel)
set_option maxRecDepth 20000 in
theorem gX11_init_X4_init_n42 : GoodIn wsX11_init (wsX4_init) := ggX11_init_X4_init
set_option maxRecDepth 20000 in
theorem ggX11_init_X5_init : GoodIn wsX11_init wsX5_init := goodIn_r _ [78, 79, 2, 3, 80, 11, 12, 81, 82, 50, 51, 52, 53, 54, 55, 56, 57, 58, 121, 122, 136, 137, 138, 139, 140, 141, 142, 143, 144, 145] (by decide +kernel) (by decide +kernel)
set_option maxRecDepth 20000 in
theorem gX11_init_X5_init_n49 : GoodIn wsX11_init (wsX5_init) := ggX11_init_X5_init
set_option maxRecDepth 20000 in
theorem ggX11_init_X10_init : GoodIn wsX11_init wsX10_init := goodIn_r _ [84, 85, 2, 3, 86, 11, 12, 87, 88, 89, 50, 51, 52, 53, 54, 55, 56, 57, 58, 121, 122, 146, 147, 148] (by decide +kernel) (by decide +kernel)
set_option maxRecDepth 20000 in
theorem gX11_init_X10_init_n56 : GoodIn wsX11_init (wsX10_init) := ggX11_init_X10_init
set_option maxRecDepth 20000 in
theorem ggX11_init_X6_init : GoodIn wsX11_init wsX6_init := goodIn_r _ [91, 92, 2, 3, 93, 11, 12, 94, 95, 96, 50, 51, 52, 53, 54, 55, 56, 57, 58, 121, 122, 149, 150, 151] (by decide +kernel) (by decide +kernel)
set_option maxRecDepth 20000 in
theorem gX11_init_X6_init_n63 : GoodIn wsX11_init (wsX6_init) := ggX11_init_X6_init
theorem dX11_init_0 : decode cX11_init 0 = .ok (.aload_n 0, 1) := by decide +kernel
theorem dX11_init_1 : decode cX11_init 1 = .ok (.invokespecial 1, 3) := by decide +kernel
theorem dX11_init_4 : decode cX11_init 4 = .ok (.aload_n 0, 1) := by decide +kernel
theorem dX11_init_5 : decode cX11_init 5 = .ok (.new 7, 3) := by decide +kernel
theorem dX11_init_8 : decode cX11_init 8 = .ok (.dup, 1) := by decide +kernel
theorem dX11_init_9 : decode cX11_init 9 = .ok (.invokespecial 9, 3) := by decide +kernel
theorem dX11_init_12 : decode cX11_init 12 = .ok (.putfield 10, 3) := by decide +kernel
theorem dX11_init_15 : decode cX11_init 15 = .ok (.aload_n 0, 1) := by decide +kernel
theorem dX11_init_16 : decode cX11_init 16 = .ok (.new 7, 3) := by decide +kernel
theorem dX11_init_19 : decode cX11_init 19 = .ok (.dup, 1) := by decide +kernel
theorem dX11_init_20 : decode cX11_init 20 = .ok (.invokespecial 9, 3) := by decide +kernel
theorem dX11_init_23 : decode cX11_init 23 = .ok (.putfield 16, 3) := by decide +kernel
theorem dX11_init_26 : decode cX11_init 26 = .ok (.aload_n 0, 1) := by decide +kernel
theorem dX11_init_27 : decode cX11_init 27 = .ok (.new 7, 3) := by decide +kernel
theorem dX11_init_30 : decode cX11_init 30 = .ok (.dup, 1) := by decide +kernel
theorem dX11_init_31 : decode cX11_init 31 = .ok (.invokespecial 9, 3) := by decide +kernel
theorem dX11_init_34 : decode cX11_init 34 = .ok (.putfield 19, 3) := by decide +kernel
theorem dX11_init_37 : decode cX11_init 37 = .ok (.aload_n 0, 1) := by decide +kernel
theorem dX11_init_38 : decode cX11_init 38 = .ok (.new 22, 3) := by decide +kernel
theorem dX11_init_41 : decode cX11_init 41 = .ok (.dup, 1) := by decide +kernel
theorem dX11_init_42 : decode cX11_init 42 = .ok (.sipush 150, 3) := by decide +kernel
theorem dX11_init_45 : decode cX11_init 45 = .ok (.invokespecial 24, 3) := by decide +kernel
theorem dX11_init_48 : decode cX11_init 48 = .ok (.putfield 27, 3) := by decide +kernel
theorem dX11_init_51 : decode cX11_init 51 = .ok (.aload_n 0, 1) := by decide +kernel
theorem dX11_init_52 : decode cX11_init 52 = .ok (.new 31, 3) := by decide +kernel
theorem dX11_init_55 : decode cX11_init 55 = .ok (.dup, 1) := by decide +kernel
theorem dX11_init_56 : decode cX11_init 56 = .ok (.aload_n 0, 1) := by decide +kernel
theorem dX11_init_57 : decode cX11_init 57 = .ok (.getfield 27, 3) := by decide +kernel
theorem dX11_init_60 : decode cX11_init 60 = .ok (.invokespecial 33, 3) := by decide +kernel
theorem dX11_init_63 : decode cX11_init 63 = .ok (.putfield 36, 3) := by decide +kernel
theorem dX11_init_66 : decode cX11_init 66 = .ok (.aload_n 0, 1) := by decide +kernel
theorem dX11_init_67 : decode cX11_init 67 = .ok (.new 40, 3) := by decide +kernel
theorem dX11_init_70 : decode cX11_init 70 = .ok (.dup, 1) := by decide +kernel
theorem dX11_init_71 : decode cX11_init 71 = .ok (.invokespecial 42, 3) := by decide +kernel
theorem dX11_init_74 : decode cX11_init 74 = .ok (.putfield 43, 3) := by decide +kernel
theorem dX11_init_77 : decode cX11_init 77 = .ok (.aload_n 0, 1) := by decide +kernel
theorem dX11_init_78 : decode cX11_init 78 = .ok (.new 47, 3) := by decide +kernel
theorem dX11_init_81 : decode cX11_init 81 = .ok (.dup, 1) := by decide +kernel
theorem dX11_init_82 : decode cX11_init 82 = .ok (.invokespecial 49, 3) := by decide +kernel
theorem dX11_init_85 : decode cX11_init 85 = .ok (.putfield 50, 3) := by decide +kernel
theorem dX11_init_88 : decode cX11_init 88 = .ok (.aload_n 0, 1) := by decide +kernel
theorem dX11_init_89 : decode cX11_init 89 = .ok (.new 54, 3) := by decide +kernel
theorem dX11_init_92 : decode cX11_init 92 = .ok (.dup, 1) := by decide +kernel
theorem dX11_init_93 : decode cX11_init 93 = .ok (.invokespecial 56, 3) := by decide +kernel
theorem dX11_init_96 : decode cX11_init 96 = .ok (.putfield 57, 3) := by decide +kernel
theorem dX11_init_99 : decode cX11_init 99 = .ok (.aload_n 0, 1) := by decide +kernel
theorem dX11_init_100 : decode cX11_init 100 = .ok (.new 61, 3) := by decide +kernel
theorem dX11_init_103 : decode cX11_init 103 = .ok (.dup, 1) := by decide +kernel
theorem dX11_init_104 : decode cX11_init 104 = .ok (.invokespecial 63, 3) := by decide +kernel
theorem dX11_init_107 : decode cX11_init 107 = .ok (.putfield 64, 3) := by decide +kernel
theorem dX11_init_110 : decode cX11_init 110 = .ok (.aload_n 0, 1) := by decide +kernel
theorem dX11_init_111 : decode cX11_init 111 = .ok (.lconst 1, 1) := by decide +kernel
theorem dX11_init_112 : decode cX11_init 112 = .ok (.putfield 68, 3) := by decide +kernel
theorem dX11_init_115 : decode cX11_init 115 = .ok (.return_, 1) := by decide +kernel
set_option maxRecDepth 20000 in
theorem ggX11_market_X3_keeperCount : GoodIn wsX11_market wsX3_keeperCount := goodIn_r _ [6, 7, 8, 9, 10, 11, 12, 13, 55, 56, 57, 58, 59, 60, 61, 62, 63, 64, 65] (by decide +kernel) (by decide +kernel)
set_option maxRecDepth 20000 in
theorem gX11_market_X3_keeperCount : GoodIn wsX11_market (wsV RX11 72 RX3 yX3_keeperCount wsX3_keeperCount) := goodIn_app (goodIn_of _ (by decide +kernel)) ggX11_market_X3_keeperCount
set_option maxRecDepth 20000 in
theorem ggX11_market_X3_restart : GoodIn wsX11_market wsX3_restart := goodIn_r _ [17, 7, 18, 19, 20, 21, 22, 23, 24, 25, 26, 27, 28, 11, 29, 13, 30, 31, 32, 33, 34, 35, 36, 37, 38, 39, 55, 56, 57, 58, 59, 60, 61, 62, 63, 64, 65, 66, 67, 68, 69] (by decide +kernel) (by decide +kernel)
set_option maxRecDepth 20000 in
theorem gX11_market_X3_restart : GoodIn wsX11_market (wsV RX11 76 RX3 yX3_restart wsX3_restart) := goodIn_app (goodIn_of _ (by decide +kernel)) ggX11_market_X3_restart
theorem dX11_market_0 : decode cX11_market 0 = .ok (.aload_n 0, 1) := by decide +kernel
theorem dX11_market_1 : decode cX11_market 1 = .ok (.getfield 10, 3) := by decide +kernel
theorem dX11_market_4 : decode cX11_market 4 = .ok (.invokevirtual 72, 3) := by decide +kernel
theorem dX11_market_7 : decode cX11_market 7 = .ok (.istore_n 1, 1) := by decide +kernel
theorem dX11_market_8 : decode cX11_market 8 = .ok (.aload_n 0, 1) := by decide +kernel
theorem dX11_market_9 : decode cX11_market 9 = .ok (.getfield 10, 3) := by decide +kernel
theorem dX11_market_12 : decode cX11_market 12 = .ok (.invokevirtual 76, 3) := by decide +kernel
theorem dX11_market_15 : decode cX11_market 15 = .ok (.iload_n 1, 1) := by decide +kernel
theorem dX11_market_16 : decode cX11_market 16 = .ok (.ireturn, 1) := by decide +kernel
set_option maxRecDepth 20000 in
theorem ggX11_keeper_X11_isKind : GoodIn wsX11_keeper wsX11_isKind := goodIn_r _ [7, 8, 9, 6, 10] (by decide +kernel) (by decide +kernel)
set_option maxRecDepth 20000 in
theorem gX11_keeper_X11_isKind : GoodIn wsX11_keeper (va_wsS RX11 79 yX11_isKind wsX11_isKind) := goodIn_app (goodIn_of _ (by decide +kernel)) ggX11_keeper_X11_isKind
set_option maxRecDepth 20000 in
theorem ggX11_keeper_X11_between : GoodIn wsX11_keeper wsX11_between := goodIn_r _ [10] (by decide +kernel) (by decide +kernel)
set_option maxRecDepth 20000 in
theorem gX11_keeper_X11_between : GoodIn wsX11_keeper (va_wsS RX11 83 yX11_between wsX11_between) := goodIn_app (goodIn_of _ (by decide +kernel)) ggX11_keeper_X11_between
set_option maxRecDepth 20000 in
theorem ggX11_keeper_X11_refuseBad : GoodIn wsX11_keeper wsX11_refuseBad := goodIn_r _ [14, 15, 55, 56, 57, 58, 59, 60, 61, 62, 63, 64, 65, 66, 67, 68, 69] (by decide +kernel) (by decide +kernel)
set_option maxRecDepth 20000 in
theorem gX11_keeper_X11_refuseBad : GoodIn wsX11_keeper (wsV RX11 87 RX11 yX11_refuseBad wsX11_refuseBad) := goodIn_app (goodIn_of _ (by decide +kernel)) ggX11_keeper_X11_refuseBad
set_option maxRecDepth 20000 in
theorem ggX11_keeper_X7_isFull : GoodIn wsX11_keeper wsX7_isFull := goodIn_r _ [20, 21, 22, 79, 80] (by decide +kernel) (by decide +kernel)
set_option maxRecDepth 20000 in
theorem gX11_keeper_X7_isFull : GoodIn wsX11_keeper (wsV RX11 94 RX7 yX7_isFull wsX7_isFull) := goodIn_app (goodIn_of _ (by decide +kernel)) ggX11_keeper_X7_isFull
set_option maxRecDepth 20000 in
theorem ggX11_keeper_X11_refuseFull : GoodIn wsX11_keeper wsX11_refuseFull := goodIn_r _ [26, 27, 55, 56, 57, 58, 59, 60, 61, 62, 63, 64, 65, 66, 67, 68, 69] (by decide +kernel) (by decide +kernel)
set_option maxRecDepth 20000 in
theorem gX11_keeper_X11_refuseFull : GoodIn wsX11_keeper (wsV RX11 98 RX11 yX11_refuseFull wsX11_refuseFull) := goodIn_app (goodIn_of _ (by decide +kernel)) ggX11_keeper_X11_refuseFull
set_option maxRecDepth 20000 in
theorem ggX11_keeper_X3_addKeeper : GoodIn wsX11_keeper wsX3_addKeeper := goodIn_r _ [32, 33, 34, 35, 36, 37, 38, 39, 40, 41, 19, 42, 21, 22, 70, 71, 72, 73, 74, 75, 76, 77, 78, 81, 82, 83, 84, 79, 80] (by decide +kernel) (by decide +kernel)
set_option maxRecDepth 20000 in
theorem gX11_keeper_X3_addKeeper : GoodIn wsX11_keeper (wsV RX11 101 RX3 yX3_addKeeper wsX3_addKeeper) := goodIn_app (goodIn_of _ (by decide +kernel)) ggX11_keeper_X3_addKeeper
set_option maxRecDepth 20000 in
theorem ggX11_keeper_X7_restart : GoodIn wsX11_keeper wsX7_restart := goodIn_r _ [46, 21, 79, 80] (by decide +kernel) (by decide +kernel)
set_option maxRecDepth 20000 in
theorem gX11_keeper_X7_restart : GoodIn wsX11_keeper (wsV RX11 108 RX7 yX7_restart wsX7_restart) := goodIn_app (goodIn_of _ (by decide +kernel)) ggX11_keeper_X7_restart
set_option maxRecDepth 20000 in
theorem ggX11_keeper_X3_keeperCount : GoodIn wsX11_keeper wsX3_keeperCount := goodIn_r _ [50, 33, 51, 52, 53, 19, 54, 21, 70, 71, 72, 73, 74, 75, 76, 77, 78, 79, 80] (by decide +kernel) (by decide +kernel)
set_option maxRecDepth 20000 in
theorem gX11_keeper_X3_keeperCount : GoodIn wsX11_keeper (wsV RX11 72 RX3 yX3_keeperCount wsX3_keeperCount) := goodIn_app (goodIn_of _ (by decide +kernel)) ggX11_keeper_X3_keeperCount
theorem dX11_keeper_0 : decode cX11_keeper 0 = .ok (.iload_n 1, 1) := by decide +kernel
theorem dX11_keeper_1 : decode cX11_keeper 1 = .ok (.invokestatic 79, 3) := by decide +kernel
theorem dX11_keeper_4 : decode cX11_keeper 4 = .ok (.ifCond .eq 24, 3) := by decide +kernel
theorem dX11_keeper_7 : decode cX11_keeper 7 = .ok (.iload_n 2, 1) := by decide +kernel
theorem dX11_keeper_8 : decode cX11_keeper 8 = .ok (.iconst 0, 1) := by decide +kernel
theorem dX11_keeper_9 : decode cX11_keeper 9 = .ok (.bipush 11, 2) := by decide +kernel
theorem dX11_keeper_11 : decode cX11_keeper 11 = .ok (.invokestatic 83, 3) := by decide +kernel
theorem dX11_keeper_14 : decode cX11_keeper 14 = .ok (.ifCond .eq 14, 3) := by decide +kernel
theorem dX11_keeper_17 : decode cX11_keeper 17 = .ok (.iload_n 3, 1) := by decide +kernel
theorem dX11_keeper_18 : decode cX11_keeper 18 = .ok (.iconst 1, 1) := by decide +kernel
theorem dX11_keeper_19 : decode cX11_keeper 19 = .ok (.sipush 250, 3) := by decide +kernel
theorem dX11_keeper_22 : decode cX11_keeper 22 = .ok (.invokestatic 83, 3) := by decide +kernel
theorem dX11_keeper_25 : decode cX11_keeper 25 = .ok (.ifCond .ne 10, 3) := by decide +kernel
theorem dX11_keeper_28 : decode cX11_keeper 28 = .ok (.aload_n 0, 1) := by decide +kernel
theorem dX11_keeper_29 : decode cX11_keeper 29 = .ok (.bipush (-2), 2) := by decide +kernel
theorem dX11_keeper_31 : decode cX11_keeper 31 = .ok (.invokevirtual 87, 3) := by decide +kernel
theorem dX11_keeper_34 : decode cX11_keeper 34 = .ok (.ireturn, 1) := by decide +kernel
theorem dX11_keeper_35 : decode cX11_keeper 35 = .ok (.aload_n 0, 1) := by decide +kernel
theorem dX11_keeper_36 : decode cX11_keeper 36 = .ok (.getfield 10, 3) := by decide +kernel
theorem dX11_keeper_39 : decode cX11_keeper 39 = .ok (.getfield 91, 3) := by decide +kernel
theorem dX11_keeper_42 : decode cX11_keeper 42 = .ok (.invokevirtual 94, 3) := by decide +kernel
theorem dX11_keeper_45 : decode cX11_keeper 45 = .ok (.ifCond .eq 8, 3) := by decide +kernel
theorem dX11_keeper_48 : decode cX11_keeper 48 = .ok (.aload_n 0, 1) := by decide +kernel
theorem dX11_keeper_49 : decode cX11_keeper 49 = .ok (.invokevirtual 98, 3) := by decide +kernel
theorem dX11_keeper_52 : decode cX11_keeper 52 = .ok (.ireturn, 1) := by decide +kernel
theorem dX11_keeper_53 : decode cX11_keeper 53 = .ok (.aload_n 0, 1) := by decide +kernel
theorem dX11_keeper_54 : decode cX11_keeper 54 = .ok (.getfield 10, 3) := by decide +kernel
theorem dX11_keeper_57 : decode cX11_keeper 57 = .ok (.iload_n 1, 1) := by decide +kernel
theorem dX11_keeper_58 : decode cX11_keeper 58 = .ok (.iload_n 2, 1) := by decide +kernel
theorem dX11_keeper_59 : decode cX11_keeper 59 = .ok (.iload_n 3, 1) := by decide +kernel
theorem dX11_keeper_60 : decode cX11_keeper 60 = .ok (.invokevirtual 101, 3) := by decide +kernel
theorem dX11_keeper_63 : decode cX11_keeper 63 = .ok (.aload_n 0, 1) := by decide +kernel
theorem dX11_keeper_64 : decode cX11_keeper 64 = .ok (.getfield 10, 3) := by decide +kernel
theorem dX11_keeper_67 : decode cX11_keeper 67 = .ok (.getfield 105, 3) := by decide +kernel
theorem dX11_keeper_70 : decode cX11_keeper 70 = .ok (.invokevirtual 108, 3) := by decide +kernel
theorem dX11_keeper_73 : decode cX11_keeper 73 = .ok (.aload_n 0, 1) := by decide +kernel
theorem dX11_keeper_74 : decode cX11_keeper 74 = .ok (.getfield 10, 3) := by decide +kernel
theorem dX11_keeper_77 : decode cX11_keeper 77 = .ok (.invokevirtual 72, 3) := by decide +kernel
theorem dX11_keeper_80 : decode cX11_keeper 80 = .ok (.iconst 1, 1) := by decide +kernel
theorem dX11_keeper_81 : decode cX11_keeper 81 = .ok (.isub, 1) := by decide +kernel
theorem dX11_keeper_82 : decode cX11_keeper 82 = .ok (.ireturn, 1) := by decide +kernel
set_option maxRecDepth 20000 in
theorem ggX11_held_X3_hasKeeper : GoodIn wsX11_held wsX3_hasKeeper := goodIn_r _ [8, 9, 10, 11, 7, 12, 13, 14, 15, 16, 17, 18, 19, 20, 21, 22, 57, 58, 59, 60, 61, 62, 63, 64, 65, 66, 67] (by decide +kernel) (by decide +kernel)
set_option maxRecDepth 20000 in
theorem gX11_held_X3_hasKeeper : GoodIn wsX11_held (wsV RX11 109 RX3 yX3_hasKeeper wsX3_hasKeeper) := goodIn_app (goodIn_of _ (by decide +kernel)) ggX11_held_X3_hasKeeper
set_option maxRecDepth 20000 in
theorem ggX11_held_X11_between : GoodIn wsX11_held wsX11_between := goodIn_r _ [22] (by decide +kernel) (by decide +kernel)
set_option maxRecDepth 20000 in
theorem gX11_held_X11_between : GoodIn wsX11_held (va_wsS RX11 83 yX11_between wsX11_between) := goodIn_app (goodIn_of _ (by decide +kernel)) ggX11_held_X11_between
set_option maxRecDepth 20000 in
theorem ggX11_held_X11_refuseBad : GoodIn wsX11_held wsX11_refuseBad := goodIn_r _ [27, 28, 42, 43, 44, 45, 46, 47, 48, 49, 50, 51, 52, 53, 54, 55, 56] (by decide +kernel) (by decide +kernel)
set_option maxRecDepth 20000 in
theorem gX11_held_X11_refuseBad : GoodIn wsX11_held (wsV RX11 87 RX11 yX11_refuseBad wsX11_refuseBad) := goodIn_app (goodIn_of _ (by decide +kernel)) ggX11_held_X11_refuseBad
set_option maxRecDepth 20000 in
theorem ggX11_held_X7_at : GoodIn wsX11_held wsX7_at := goodIn_r _ [32, 19, 33, 66, 67] (by decide +kernel) (by decide +kernel)
set_option maxRecDepth 20000 in
theorem gX11_held_X7_at : GoodIn wsX11_held (wsV RX11 115 RX7 yX7_at wsX7_at) := goodIn_app (goodIn_of _ (by decide +kernel)) ggX11_held_X7_at
set_option maxRecDepth 20000 in
theorem ggX11_held_X7_put : GoodIn wsX11_held wsX7_put := goodIn_r _ [37, 19, 33, 66, 67] (by decide +kernel) (by decide +kernel)
set_option maxRecDepth 20000 in
theorem gX11_held_X7_put : GoodIn wsX11_held (wsV RX11 118 RX7 yX7_put wsX7_put) := goodIn_app (goodIn_of _ (by decide +kernel)) ggX11_held_X7_put
set_option maxRecDepth 20000 in
theorem ggX11_held_X7_restart : GoodIn wsX11_held wsX7_restart := goodIn_r _ [41, 19, 66, 67] (by decide +kernel) (by decide +kernel)
set_option maxRecDepth 20000 in
theorem gX11_held_X7_restart : GoodIn wsX11_held (wsV RX11 108 RX7 yX7_restart wsX7_restart) := goodIn_app (goodIn_of _ (by decide +kernel)) ggX11_held_X7_restart
theorem dX11_held_0 : decode cX11_held 0 = .ok (.aload_n 0, 1) := by decide +kernel
theorem dX11_held_1 : decode cX11_held 1 = .ok (.getfield 10, 3) := by decide +kernel
theorem dX11_held_4 : decode cX11_held 4 = .ok (.iload_n 1, 1) := by decide +kernel
theorem dX11_held_5 : decode cX11_held 5 = .ok (.invokevirtual 109, 3) := by decide +kernel
theorem dX11_held_8 : decode cX11_held 8 = .ok (.ifCond .eq 14, 3) := by decide +kernel
theorem dX11_held_11 : decode cX11_held 11 = .ok (.iload_n 2, 1) := by decide +kernel
theorem dX11_held_12 : decode cX11_held 12 = .ok (.iconst 1, 1) := by decide +kernel
theorem dX11_held_13 : decode cX11_held 13 = .ok (.sipush 250, 3) := by decide +kernel
theorem dX11_held_16 : decode cX11_held 16 = .ok (.invokestatic 83, 3) := by decide +kernel
theorem dX11_held_19 : decode cX11_held 19 = .ok (.ifCond .ne 10, 3) := by decide +kernel
theorem dX11_held_22 : decode cX11_held 22 = .ok (.aload_n 0, 1) := by decide +kernel
theorem dX11_held_23 : decode cX11_held 23 = .ok (.bipush (-2), 2) := by decide +kernel
theorem dX11_held_25 : decode cX11_held 25 = .ok (.invokevirtual 87, 3) := by decide +kernel
theorem dX11_held_28 : decode cX11_held 28 = .ok (.ireturn, 1) := by decide +kernel
theorem dX11_held_29 : decode cX11_held 29 = .ok (.aload_n 0, 1) := by decide +kernel
theorem dX11_held_30 : decode cX11_held 30 = .ok (.getfield 10, 3) := by decide +kernel
theorem dX11_held_33 : decode cX11_held 33 = .ok (.getfield 112, 3) := by decide +kernel
theorem dX11_held_36 : decode cX11_held 36 = .ok (.iload_n 1, 1) := by decide +kernel
theorem dX11_held_37 : decode cX11_held 37 = .ok (.invokevirtual 115, 3) := by decide +kernel
theorem dX11_held_40 : decode cX11_held 40 = .ok (.istore_n 3, 1) := by decide +kernel
theorem dX11_held_41 : decode cX11_held 41 = .ok (.aload_n 0, 1) := by decide +kernel
theorem dX11_held_42 : decode cX11_held 42 = .ok (.getfield 10, 3) := by decide +kernel
theorem dX11_held_45 : decode cX11_held 45 = .ok (.getfield 112, 3) := by decide +kernel
theorem dX11_held_48 : decode cX11_held 48 = .ok (.iload_n 1, 1) := by decide +kernel
theorem dX11_held_49 : decode cX11_held 49 = .ok (.iload_n 2, 1) := by decide +kernel
theorem dX11_held_50 : decode cX11_held 50 = .ok (.invokevirtual 118, 3) := by decide +kernel
theorem dX11_held_53 : decode cX11_held 53 = .ok (.aload_n 0, 1) := by decide +kernel
theorem dX11_held_54 : decode cX11_held 54 = .ok (.getfield 10, 3) := by decide +kernel
theorem dX11_held_57 : decode cX11_held 57 = .ok (.getfield 105, 3) := by decide +kernel
theorem dX11_held_60 : decode cX11_held 60 = .ok (.invokevirtual 108, 3) := by decide +kernel
theorem dX11_held_63 : decode cX11_held 63 = .ok (.iload_n 3, 1) := by decide +kernel
theorem dX11_held_64 : decode cX11_held 64 = .ok (.ireturn, 1) := by decide +kernel
set_option maxRecDepth 20000 in
theorem ggX11_balance_X11_isKind : GoodIn wsX11_balance wsX11_isKind := goodIn_r _ [7, 8, 9, 6, 10] (by decide +kernel) (by decide +kernel)
set_option maxRecDepth 20000 in
theorem gX11_balance_X11_isKind : GoodIn wsX11_balance (va_wsS RX11 79 yX11_isKind wsX11_isKind) := goodIn_app (goodIn_of _ (by decide +kernel)) ggX11_balance_X11_isKind
set_option maxRecDepth 20000 in
theorem ggX11_balance_X11_refuseBad : GoodIn wsX11_balance wsX11_refuseBad := goodIn_r _ [14, 15, 40, 41, 42, 43, 44, 45, 46, 47, 48, 49, 50, 51, 52, 53, 54] (by decide +kernel) (by decide +kernel)
set_option maxRecDepth 20000 in
theorem gX11_balance_X11_refuseBad : GoodIn wsX11_balance (wsV RX11 87 RX11 yX11_refuseBad wsX11_refuseBad) := goodIn_app (goodIn_of _ (by decide +kernel)) ggX11_balance_X11_refuseBad
set_option maxRecDepth 20000 in
theorem ggX11_balance_X7_isFull : GoodIn wsX11_balance wsX7_isFull := goodIn_r _ [20, 21, 22, 64, 65] (by decide +kernel) (by decide +kernel)
set_option maxRecDepth 20000 in
theorem gX11_balance_X7_isFull : GoodIn wsX11_balance (wsV RX11 94 RX7 yX7_isFull wsX7_isFull) := goodIn_app (goodIn_of _ (by decide +kernel)) ggX11_balance_X7_isFull
set_option maxRecDepth 20000 in
theorem ggX11_balance_X11_refuseFull : GoodIn wsX11_balance wsX11_refuseFull := goodIn_r _ [26, 27, 40, 41, 42, 43, 44, 45, 46, 47, 48, 49, 50, 51, 52, 53, 54] (by decide +kernel) (by decide +kernel)
set_option maxRecDepth 20000 in
theorem gX11_balance_X11_refuseFull : GoodIn wsX11_balance (wsV RX11 98 RX11 yX11_refuseFull wsX11_refuseFull) := goodIn_app (goodIn_of _ (by decide +kernel)) ggX11_balance_X11_refuseFull
set_option maxRecDepth 20000 in
theorem ggX11_balance_X7_add : GoodIn wsX11_balance wsX7_add := goodIn_r _ [31, 21, 22, 64, 65] (by decide +kernel) (by decide +kernel)
set_option maxRecDepth 20000 in
theorem gX11_balance_X7_add : GoodIn wsX11_balance (wsV RX11 125 RX7 yX7_add wsX7_add) := goodIn_app (goodIn_of _ (by decide +kernel)) ggX11_balance_X7_add
set_option maxRecDepth 20000 in
theorem ggX11_balance_X7_restart : GoodIn wsX11_balance wsX7_restart := goodIn_r _ [35, 21, 64, 65] (by decide +kernel) (by decide +kernel)
set_option maxRecDepth 20000 in
theorem gX11_balance_X7_restart : GoodIn wsX11_balance (wsV RX11 108 RX7 yX7_restart wsX7_restart) := goodIn_app (goodIn_of _ (by decide +kernel)) ggX11_balance_X7_restart
set_option maxRecDepth 20000 in
theorem ggX11_balance_X7_size : GoodIn wsX11_balance wsX7_size := goodIn_r _ [39, 21, 64, 65] (by decide +kernel) (by decide +kernel)
set_option maxRecDepth 20000 in
theorem gX11_balance_X7_size : GoodIn wsX11_balance (wsV RX11 128 RX7 yX7_size wsX7_size) := goodIn_app (goodIn_of _ (by decide +kernel)) ggX11_balance_X7_size
theorem dX11_balance_0 : decode cX11_balance 0 = .ok (.iload_n 1, 1) := by decide +kernel
theorem dX11_balance_1 : decode cX11_balance 1 = .ok (.invokestatic 79, 3) := by decide +kernel
theorem dX11_balance_4 : decode cX11_balance 4 = .ok (.ifCond .ne 10, 3) := by decide +kernel
theorem dX11_balance_7 : decode cX11_balance 7 = .ok (.aload_n 0, 1) := by decide +kernel
theorem dX11_balance_8 : decode cX11_balance 8 = .ok (.bipush (-2), 2) := by decide +kernel
theorem dX11_balance_10 : decode cX11_balance 10 = .ok (.invokevirtual 87, 3) := by decide +kernel
theorem dX11_balance_13 : decode cX11_balance 13 = .ok (.ireturn, 1) := by decide +kernel
theorem dX11_balance_14 : decode cX11_balance 14 = .ok (.aload_n 0, 1) := by decide +kernel
theorem dX11_balance_15 : decode cX11_balance 15 = .ok (.getfield 10, 3) := by decide +kernel
theorem dX11_balance_18 : decode cX11_balance 18 = .ok (.getfield 122, 3) := by decide +kernel
theorem dX11_balance_21 : decode cX11_balance 21 = .ok (.invokevirtual 94, 3) := by decide +kernel
theorem dX11_balance_24 : decode cX11_balance 24 = .ok (.ifCond .eq 8, 3) := by decide +kernel
theorem dX11_balance_27 : decode cX11_balance 27 = .ok (.aload_n 0, 1) := by decide +kernel
theorem dX11_balance_28 : decode cX11_balance 28 = .ok (.invokevirtual 98, 3) := by decide +kernel
theorem dX11_balance_31 : decode cX11_balance 31 = .ok (.ireturn, 1) := by decide +kernel
theorem dX11_balance_32 : decode cX11_balance 32 = .ok (.aload_n 0, 1) := by decide +kernel
theorem dX11_balance_33 : decode cX11_balance 33 = .ok (.getfield 10, 3) := by decide +kernel
theorem dX11_balance_36 : decode cX11_balance 36 = .ok (.getfield 122, 3) := by decide +kernel
theorem dX11_balance_39 : decode cX11_balance 39 = .ok (.iload_n 1, 1) := by decide +kernel
theorem dX11_balance_40 : decode cX11_balance 40 = .ok (.invokevirtual 125, 3) := by decide +kernel
theorem dX11_balance_43 : decode cX11_balance 43 = .ok (.aload_n 0, 1) := by decide +kernel
theorem dX11_balance_44 : decode cX11_balance 44 = .ok (.getfield 10, 3) := by decide +kernel
theorem dX11_balance_47 : decode cX11_balance 47 = .ok (.getfield 105, 3) := by decide +kernel
theorem dX11_balance_50 : decode cX11_balance 50 = .ok (.invokevirtual 108, 3) := by decide +kernel
theorem dX11_balance_53 : decode cX11_balance 53 = .ok (.aload_n 0, 1) := by decide +kernel
theorem dX11_balance_54 : decode cX11_balance 54 = .ok (.getfield 10, 3) := by decide +kernel
theorem dX11_balance_57 : decode cX11_balance 57 = .ok (.getfield 122, 3) := by decide +kernel
theorem dX11_balance_60 : decode cX11_balance 60 = .ok (.invokevirtual 128, 3) := by decide +kernel
theorem dX11_balance_63 : decode cX11_balance 63 = .ok (.iconst 1, 1) := by decide +kernel
theorem dX11_balance_64 : decode cX11_balance 64 = .ok (.isub, 1) := by decide +kernel
theorem dX11_balance_65 : decode cX11_balance 65 = .ok (.ireturn, 1) := by decide +kernel
set_option maxRecDepth 20000 in
theorem ggX11_type_X11_between : GoodIn wsX11_type wsX11_between := goodIn_r _ [5] (by decide +kernel) (by decide +kernel)
set_option maxRecDepth 20000 in
theorem gX11_type_X11_between : GoodIn wsX11_type (va_wsS RX11 83 yX11_between wsX11_between) := goodIn_app (goodIn_of _ (by decide +kernel)) ggX11_type_X11_between
set_option maxRecDepth 20000 in
theorem ggX11_type_X11_refuseBad : GoodIn wsX11_type wsX11_refuseBad := goodIn_r _ [9, 10, 31, 32, 33, 34, 35, 36, 37, 38, 39, 40, 41, 42, 43, 44, 45] (by decide +kernel) (by decide +kernel)
set_option maxRecDepth 20000 in
theorem gX11_type_X11_refuseBad : GoodIn wsX11_type (wsV RX11 87 RX11 yX11_refuseBad wsX11_refuseBad) := goodIn_app (goodIn_of _ (by decide +kernel)) ggX11_type_X11_refuseBad
set_option maxRecDepth 20000 in
theorem ggX11_type_X7_isFull : GoodIn wsX11_type wsX7_isFull := goodIn_r _ [15, 16, 17, 46, 47] (by decide +kernel) (by decide +kernel)
set_option maxRecDepth 20000 in
theorem gX11_type_X7_isFull : GoodIn wsX11_type (wsV RX11 94 RX7 yX7_isFull wsX7_isFull) := goodIn_app (goodIn_of _ (by decide +kernel)) ggX11_type_X7_isFull
set_option maxRecDepth 20000 in
theorem ggX11_type_X11_refuseFull : GoodIn wsX11_type wsX11_refuseFull := goodIn_r _ [21, 22, 31, 32, 33, 34, 35, 36, 37, 38, 39, 40, 41, 42, 43, 44, 45] (by decide +kernel) (by decide +kernel)
set_option maxRecDepth 20000 in
theorem gX11_type_X11_refuseFull : GoodIn wsX11_type (wsV RX11 98 RX11 yX11_refuseFull wsX11_refuseFull) := goodIn_app (goodIn_of _ (by decide +kernel)) ggX11_type_X11_refuseFull
set_option maxRecDepth 20000 in
theorem ggX11_type_X7_add : GoodIn wsX11_type wsX7_add := goodIn_r _ [26, 16, 17, 46, 47] (by decide +kernel) (by decide +kernel)
set_option maxRecDepth 20000 in
theorem gX11_type_X7_add : GoodIn wsX11_type (wsV RX11 125 RX7 yX7_add wsX7_add) := goodIn_app (goodIn_of _ (by decide +kernel)) ggX11_type_X7_add
set_option maxRecDepth 20000 in
theorem ggX11_type_X7_size : GoodIn wsX11_type wsX7_size := goodIn_r _ [30, 16, 46, 47] (by decide +kernel) (by decide +kernel)
set_option maxRecDepth 20000 in
theorem gX11_type_X7_size : GoodIn wsX11_type (wsV RX11 128 RX7 yX7_size wsX7_size) := goodIn_app (goodIn_of _ (by decide +kernel)) ggX11_type_X7_size
theorem dX11_type_0 : decode cX11_type 0 = .ok (.iload_n 1, 1) := by decide +kernel
theorem dX11_type_1 : decode cX11_type 1 = .ok (.iconst 0, 1) := by decide +kernel
theorem dX11_type_2 : decode cX11_type 2 = .ok (.bipush 127, 2) := by decide +kernel
theorem dX11_type_4 : decode cX11_type 4 = .ok (.invokestatic 83, 3) := by decide +kernel
theorem dX11_type_7 : decode cX11_type 7 = .ok (.ifCond .ne 10, 3) := by decide +kernel
theorem dX11_type_10 : decode cX11_type 10 = .ok (.aload_n 0, 1) := by decide +kernel
theorem dX11_type_11 : decode cX11_type 11 = .ok (.bipush (-2), 2) := by decide +kernel
theorem dX11_type_13 : decode cX11_type 13 = .ok (.invokevirtual 87, 3) := by decide +kernel
theorem dX11_type_16 : decode cX11_type 16 = .ok (.ireturn, 1) := by decide +kernel
theorem dX11_type_17 : decode cX11_type 17 = .ok (.aload_n 0, 1) := by decide +kernel
theorem dX11_type_18 : decode cX11_type 18 = .ok (.getfield 27, 3) := by decide +kernel
theorem dX11_type_21 : decode cX11_type 21 = .ok (.invokevirtual 94, 3) := by decide +kernel
theorem dX11_type_24 : decode cX11_type 24 = .ok (.ifCond .eq 8, 3) := by decide +kernel
theorem dX11_type_27 : decode cX11_type 27 = .ok (.aload_n 0, 1) := by decide +kernel
theorem dX11_type_28 : decode cX11_type 28 = .ok (.invokevirtual 98, 3) := by decide +kernel
theorem dX11_type_31 : decode cX11_type 31 = .ok (.ireturn, 1) := by decide +kernel
theorem dX11_type_32 : decode cX11_type 32 = .ok (.aload_n 0, 1) := by decide +kernel
theorem dX11_type_33 : decode cX11_type 33 = .ok (.getfield 27, 3) := by decide +kernel
theorem dX11_type_36 : decode cX11_type 36 = .ok (.iload_n 1, 1) := by decide +kernel
theorem dX11_type_37 : decode cX11_type 37 = .ok (.invokevirtual 125, 3) := by decide +kernel
theorem dX11_type_40 : decode cX11_type 40 = .ok (.aload_n 0, 1) := by decide +kernel
theorem dX11_type_41 : decode cX11_type 41 = .ok (.getfield 27, 3) := by decide +kernel
theorem dX11_type_44 : decode cX11_type 44 = .ok (.invokevirtual 128, 3) := by decide +kernel
theorem dX11_type_47 : decode cX11_type 47 = .ok (.ireturn, 1) := by decide +kernel
set_option maxRecDepth 20000 in
theorem ggX11_clear_X7_size : GoodIn wsX11_clear wsX7_size := goodIn_r _ [6, 7, 27, 28] (by decide +kernel) (by decide +kernel)
set_option maxRecDepth 20000 in
theorem gX11_clear_X7_size : GoodIn wsX11_clear (wsV RX11 128 RX7 yX7_size wsX7_size) := goodIn_app (goodIn_of _ (by decide +kernel)) ggX11_clear_X7_size
set_option maxRecDepth 20000 in
theorem ggX11_clear_X7_restart : GoodIn wsX11_clear wsX7_restart := goodIn_r _ [11, 7, 27, 28] (by decide +kernel) (by decide +kernel)
set_option maxRecDepth 20000 in
theorem gX11_clear_X7_restart : GoodIn wsX11_clear (wsV RX11 108 RX7 yX7_restart wsX7_restart) := goodIn_app (goodIn_of _ (by decide +kernel)) ggX11_clear_X7_restart
theorem dX11_clear_0 : decode cX11_clear 0 = .ok (.aload_n 0, 1) := by decide +kernel
theorem dX11_clear_1 : decode cX11_clear 1 = .ok (.getfield 27, 3) := by decide +kernel
theorem dX11_clear_4 : decode cX11_clear 4 = .ok (.invokevirtual 128, 3) := by decide +kernel
theorem dX11_clear_7 : decode cX11_clear 7 = .ok (.istore_n 1, 1) := by decide +kernel
theorem dX11_clear_8 : decode cX11_clear 8 = .ok (.aload_n 0, 1) := by decide +kernel
theorem dX11_clear_9 : decode cX11_clear 9 = .ok (.getfield 27, 3) := by decide +kernel
theorem dX11_clear_12 : decode cX11_clear 12 = .ok (.invokevirtual 108, 3) := by decide +kernel
theorem dX11_clear_15 : decode cX11_clear 15 = .ok (.iload_n 1, 1) := by decide +kernel
theorem dX11_clear_16 : decode cX11_clear 16 = .ok (.ireturn, 1) := by decide +kernel
set_option maxRecDepth 20000 in
theorem ggX11_read_X8_readMarket : GoodIn wsX11_read wsX8_readMarket := goodIn_r _ [8, 9, 10, 11, 12, 13, 14, 15, 16, 17, 18, 19, 20, 21, 22, 23, 24, 25, 26, 27, 28, 29, 30, 31, 32, 33, 34, 35, 36, 37, 38, 39, 40, 41, 42, 43, 44, 45, 46, 7, 47, 48, 49, 50, 51, 52, 53, 54, 55, 56, 57, 58, 59, 60, 61, 62, 63, 64, 65, 66, 67, 68, 69, 70, 71, 72, 73, 74, 75, 76, 77, 78, 79, 80, 81, 82, 83, 84, 85, 86, 87, 88, 89, 90, 91, 92, 93, 94, 95, 96, 97, 98, 99, 100, 101, 102, 103, 104, 105, 106, 107, 108, 109, 110, 111, 112, 113, 114, 115, 116, 117, 118, 119, 120, 121, 122, 123, 124, 125, 126, 127, 128, 129, 130, 131, 132, 133, 134, 135, 136, 137, 138, 139, 140, 141, 142, 143, 144, 145, 146, 147, 148, 149, 150, 151, 152, 153, 154, 155, 156, 157, 158, 159, 160, 161, 162, 163, 164, 165, 166, 167, 168, 169, 170, 171, 172, 173, 174, 175, 176, 177, 178, 179, 180, 181, 182, 183, 184, 185, 186, 187, 188, 189, 190, 191, 192, 193, 194, 195, 196, 197, 198, 199, 200, 201, 202, 203, 204, 205, 206, 207, 208, 209, 210, 211, 212, 213, 214, 215, 216, 217, 249, 250, 251, 252, 253, 254, 255, 256, 257, 258, 259, 260, 261, 262, 263, 264, 265, 266, 267, 268, 269, 270, 271, 272] (by decide +kernel) (by decide +kernel)
set_option maxRecDepth 20000 in
theorem gX11_read_X8_readMarket : GoodIn wsX11_read (wsV RX11 131 RX8 yX8_readMarket wsX8_readMarket) := goodIn_app (goodIn_of _ (by decide +kernel)) ggX11_read_X8_readMarket
set_option maxRecDepth 20000 in
theorem ggX11_read_X3_take : GoodIn wsX11_read wsX3_take := goodIn_r _ [221, 19, 20, 21, 22, 23, 24, 25, 26, 27, 222, 223, 224, 31, 225, 33, 226, 29, 30, 32, 227, 54, 55, 56, 57, 228, 171, 172, 173, 229, 230, 231, 37, 232, 39, 40, 41, 42, 233, 258, 259, 260, 261, 262, 263, 264, 265, 266, 267, 268, 269, 270, 271, 272] (by decide +kernel) (by decide +kernel)
set_option maxRecDepth 20000 in
theorem gX11_read_X3_take : GoodIn wsX11_read (wsV RX11 137 RX3 yX3_take wsX3_take) := goodIn_app (goodIn_of _ (by decide +kernel)) ggX11_read_X3_take
theorem dX11_read_0 : decode cX11_read 0 = .ok (.aload_n 0, 1) := by decide +kernel
theorem dX11_read_1 : decode cX11_read 1 = .ok (.getfield 36, 3) := by decide +kernel
theorem dX11_read_4 : decode cX11_read 4 = .ok (.invokevirtual 131, 3) := by decide +kernel
theorem dX11_read_7 : decode cX11_read 7 = .ok (.istore_n 1, 1) := by decide +kernel
theorem dX11_read_8 : decode cX11_read 8 = .ok (.iload_n 1, 1) := by decide +kernel
theorem dX11_read_9 : decode cX11_read 9 = .ok (.ifCond .lt 17, 3) := by decide +kernel
theorem dX11_read_12 : decode cX11_read 12 = .ok (.aload_n 0, 1) := by decide +kernel
theorem dX11_read_13 : decode cX11_read 13 = .ok (.getfield 10, 3) := by decide +kernel
theorem dX11_read_16 : decode cX11_read 16 = .ok (.aload_n 0, 1) := by decide +kernel
theorem dX11_read_17 : decode cX11_read 17 = .ok (.getfield 36, 3) := by decide +kernel
theorem dX11_read_20 : decode cX11_read 20 = .ok (.getfield 134, 3) := by decide +kernel
theorem dX11_read_23 : decode cX11_read 23 = .ok (.invokevirtual 137, 3) := by decide +kernel
theorem dX11_read_26 : decode cX11_read 26 = .ok (.iload_n 1, 1) := by decide +kernel
theorem dX11_read_27 : decode cX11_read 27 = .ok (.ireturn, 1) := by decide +kernel
set_option maxRecDepth 20000 in
theorem ggX11_visit_X3_hasKeeper : GoodIn wsX11_visit wsX3_hasKeeper := goodIn_r _ [8, 9, 10, 11, 7, 12, 13, 14, 15, 16, 17, 18, 19, 20, 21, 22, 117, 118, 119, 120, 121, 122, 123, 124, 125, 126, 127] (by decide +kernel) (by decide +kernel)
set_option maxRecDepth 20000 in
theorem gX11_visit_X3_hasKeeper : GoodIn wsX11_visit (wsV RX11 109 RX3 yX3_hasKeeper wsX3_hasKeeper) := goodIn_app (goodIn_of _ (by decide +kernel)) ggX11_visit_X3_hasKeeper
set_option maxRecDepth 20000 in
theorem ggX11_visit_X11_between : GoodIn wsX11_visit wsX11_between := goodIn_r _ [22] (by decide +kernel) (by decide +kernel)
set_option maxRecDepth 20000 in
theorem gX11_visit_X11_between : GoodIn wsX11_visit (va_wsS RX11 83 yX11_between wsX11_between) := goodIn_app (goodIn_of _ (by decide +kernel)) ggX11_visit_X11_between
set_option maxRecDepth 20000 in
theorem ggX11_visit_X11_refuseBad : GoodIn wsX11_visit wsX11_refuseBad := goodIn_r _ [27, 28, 102, 103, 104, 105, 106, 107, 108, 109, 110, 111, 112, 113, 114, 115, 116] (by decide +kernel) (by decide +kernel)
set_option maxRecDepth 20000 in
theorem gX11_visit_X11_refuseBad : GoodIn wsX11_visit (wsV RX11 87 RX11 yX11_refuseBad wsX11_refuseBad) := goodIn_app (goodIn_of _ (by decide +kernel)) ggX11_visit_X11_refuseBad
set_option maxRecDepth 20000 in
theorem ggX11_visit_X4_isLent : GoodIn wsX11_visit wsX4_isLent := goodIn_r _ [33, 34, 35, 21, 36, 128, 129, 130, 131] (by decide +kernel) (by decide +kernel)
set_option maxRecDepth 20000 in
theorem gX11_visit_X4_isLent : GoodIn wsX11_visit (wsV RX11 144 RX4 yX4_isLent wsX4_isLent) := goodIn_app (goodIn_of _ (by decide +kernel)) ggX11_visit_X4_isLent
set_option maxRecDepth 20000 in
theorem ggX11_visit_X11_refuseNo : GoodIn wsX11_visit wsX11_refuseNo := goodIn_r _ [40, 41, 102, 103, 104, 105, 106, 107, 108, 109, 110, 111, 112, 113, 114, 115, 116] (by decide +kernel) (by decide +kernel)
set_option maxRecDepth 20000 in
theorem gX11_visit_X11_refuseNo : GoodIn wsX11_visit (wsV RX11 147 RX11 yX11_refuseNo wsX11_refuseNo) := goodIn_app (goodIn_of _ (by decide +kernel)) ggX11_visit_X11_refuseNo
set_option maxRecDepth 20000 in
theorem ggX11_visit_X3_remember : GoodIn wsX11_visit wsX3_remember := goodIn_r _ [45, 46, 47, 48, 49, 50, 17, 51, 19, 52, 53, 54, 55, 56, 57, 58, 59, 60, 61, 62, 63, 64, 65, 66, 67, 68, 69, 70, 71, 72, 73, 74, 75, 32, 76, 77, 34, 78, 79, 80, 81, 82, 83, 84, 117, 118, 119, 120, 121, 122, 123, 124, 125, 126, 127, 128, 129, 130, 131] (by decide +kernel) (by decide +kernel)
set_option maxRecDepth 20000 in
theorem gX11_visit_X3_remember : GoodIn wsX11_visit (wsV RX11 150 RX3 yX3_remember wsX3_remember) := goodIn_app (goodIn_of _ (by decide +kernel)) ggX11_visit_X3_remember
set_option maxRecDepth 20000 in
theorem ggX11_visit_X7_at : GoodIn wsX11_visit wsX7_at := goodIn_r _ [64, 19, 52, 126, 127] (by decide +kernel) (by decide +kernel)
set_option maxRecDepth 20000 in
theorem gX11_visit_X7_at : GoodIn wsX11_visit (wsV RX11 115 RX7 yX7_at wsX7_at) := goodIn_app (goodIn_of _ (by decide +kernel)) ggX11_visit_X7_at
set_option maxRecDepth 20000 in
theorem ggX11_visit_X4_bringGift : GoodIn wsX11_visit wsX4_bringGift := goodIn_r _ [89, 79, 77, 34, 90, 91, 59, 92, 93, 58, 60, 84, 62, 63, 17, 64, 19, 52, 94, 95, 96, 97, 98, 99, 100, 101, 66, 67, 68, 128, 129, 130, 131, 126, 127] (by decide +kernel) (by decide +kernel)
set_option maxRecDepth 20000 in
theorem gX11_visit_X4_bringGift : GoodIn wsX11_visit (wsV RX11 153 RX4 yX4_bringGift wsX4_bringGift) := goodIn_app (goodIn_of _ (by decide +kernel)) ggX11_visit_X4_bringGift
theorem dX11_visit_0 : decode cX11_visit 0 = .ok (.aload_n 0, 1) := by decide +kernel
theorem dX11_visit_1 : decode cX11_visit 1 = .ok (.getfield 10, 3) := by decide +kernel
theorem dX11_visit_4 : decode cX11_visit 4 = .ok (.iload_n 1, 1) := by decide +kernel
theorem dX11_visit_5 : decode cX11_visit 5 = .ok (.invokevirtual 109, 3) := by decide +kernel
theorem dX11_visit_8 : decode cX11_visit 8 = .ok (.ifCond .eq 13, 3) := by decide +kernel
theorem dX11_visit_11 : decode cX11_visit 11 = .ok (.iload_n 2, 1) := by decide +kernel
theorem dX11_visit_12 : decode cX11_visit 12 = .ok (.iconst 0, 1) := by decide +kernel
theorem dX11_visit_13 : decode cX11_visit 13 = .ok (.bipush 9, 2) := by decide +kernel
theorem dX11_visit_15 : decode cX11_visit 15 = .ok (.invokestatic 83, 3) := by decide +kernel
theorem dX11_visit_18 : decode cX11_visit 18 = .ok (.ifCond .ne 10, 3) := by decide +kernel
theorem dX11_visit_21 : decode cX11_visit 21 = .ok (.aload_n 0, 1) := by decide +kernel
theorem dX11_visit_22 : decode cX11_visit 22 = .ok (.bipush (-2), 2) := by decide +kernel
theorem dX11_visit_24 : decode cX11_visit 24 = .ok (.invokevirtual 87, 3) := by decide +kernel
theorem dX11_visit_27 : decode cX11_visit 27 = .ok (.ireturn, 1) := by decide +kernel
theorem dX11_visit_28 : decode cX11_visit 28 = .ok (.aload_n 0, 1) := by decide +kernel
theorem dX11_visit_29 : decode cX11_visit 29 = .ok (.getfield 10, 3) := by decide +kernel
theorem dX11_visit_32 : decode cX11_visit 32 = .ok (.getfield 141, 3) := by decide +kernel
theorem dX11_visit_35 : decode cX11_visit 35 = .ok (.iload_n 1, 1) := by decide +kernel
theorem dX11_visit_36 : decode cX11_visit 36 = .ok (.invokevirtual 144, 3) := by decide +kernel
theorem dX11_visit_39 : decode cX11_visit 39 = .ok (.ifCond .eq 8, 3) := by decide +kernel
theorem dX11_visit_42 : decode cX11_visit 42 = .ok (.aload_n 0, 1) := by decide +kernel
theorem dX11_visit_43 : decode cX11_visit 43 = .ok (.invokevirtual 147, 3) := by decide +kernel
theorem dX11_visit_46 : decode cX11_visit 46 = .ok (.ireturn, 1) := by decide +kernel
theorem dX11_visit_47 : decode cX11_visit 47 = .ok (.aload_n 0, 1) := by decide +kernel
theorem dX11_visit_48 : decode cX11_visit 48 = .ok (.getfield 10, 3) := by decide +kernel
theorem dX11_visit_51 : decode cX11_visit 51 = .ok (.invokevirtual 150, 3) := by decide +kernel
theorem dX11_visit_54 : decode cX11_visit 54 = .ok (.aload_n 0, 1) := by decide +kernel
theorem dX11_visit_55 : decode cX11_visit 55 = .ok (.getfield 10, 3) := by decide +kernel
theorem dX11_visit_58 : decode cX11_visit 58 = .ok (.getfield 141, 3) := by decide +kernel
theorem dX11_visit_61 : decode cX11_visit 61 = .ok (.iload_n 1, 1) := by decide +kernel
theorem dX11_visit_62 : decode cX11_visit 62 = .ok (.aload_n 0, 1) := by decide +kernel
theorem dX11_visit_63 : decode cX11_visit 63 = .ok (.getfield 10, 3) := by decide +kernel
theorem dX11_visit_66 : decode cX11_visit 66 = .ok (.getfield 91, 3) := by decide +kernel
theorem dX11_visit_69 : decode cX11_visit 69 = .ok (.iload_n 1, 1) := by decide +kernel
theorem dX11_visit_70 : decode cX11_visit 70 = .ok (.invokevirtual 115, 3) := by decide +kernel
theorem dX11_visit_73 : decode cX11_visit 73 = .ok (.iload_n 2, 1) := by decide +kernel
theorem dX11_visit_74 : decode cX11_visit 74 = .ok (.invokevirtual 153, 3) := by decide +kernel
theorem dX11_visit_77 : decode cX11_visit 77 = .ok (.ifCond .eq 7, 3) := by decide +kernel
theorem dX11_visit_80 : decode cX11_visit 80 = .ok (.iconst 1, 1) := by decide +kernel
theorem dX11_visit_81 : decode cX11_visit 81 = .ok (.goto 4, 3) := by decide +kernel
theorem dX11_visit_84 : decode cX11_visit 84 = .ok (.iconst 0, 1) := by decide +kernel
theorem dX11_visit_85 : decode cX11_visit 85 = .ok (.ireturn, 1) := by decide +kernel
set_option maxRecDepth 20000 in
theorem ggX11_day_X11_between : GoodIn wsX11_day wsX11_between := goodIn_r _ [7] (by decide +kernel) (by decide +kernel)
set_option maxRecDepth 20000 in
theorem gX11_day_X11_between : GoodIn wsX11_day (va_wsS RX11 83 yX11_between wsX11_between) := goodIn_app (goodIn_of _ (by decide +kernel)) ggX11_day_X11_between
set_option maxRecDepth 20000 in
theorem ggX11_day_X11_refuseBad : GoodIn wsX11_day wsX11_refuseBad := goodIn_r _ [11, 12, 105, 106, 107, 108, 109, 110, 111, 112, 113, 114, 115, 116, 117, 118, 119] (by decide +kernel) (by decide +kernel)
set_option maxRecDepth 20000 in
theorem gX11_day_X11_refuseBad : GoodIn wsX11_day (wsV RX11 87 RX11 yX11_refuseBad wsX11_refuseBad) := goodIn_app (goodIn_of _ (by decide +kernel)) ggX11_day_X11_refuseBad
set_option maxRecDepth 20000 in
theorem ggX11_day_X3_remember : GoodIn wsX11_day wsX3_remember := goodIn_r _ [17, 18, 19, 20, 21, 22, 23, 24, 25, 26, 27, 28, 29, 30, 31, 32, 33, 34, 35, 36, 37, 38, 39, 40, 41, 42, 43, 44, 45, 46, 47, 48, 49, 50, 51, 52, 53, 54, 55, 56, 57, 58, 59, 60, 120, 121, 122, 123, 124, 125, 126, 127, 128, 133, 134, 129, 130, 131, 132] (by decide +kernel) (by decide +kernel)
set_option maxRecDepth 20000 in
theorem gX11_day_X3_remember : GoodIn wsX11_day (wsV RX11 150 RX3 yX3_remember wsX3_remember) := goodIn_app (goodIn_of _ (by decide +kernel)) ggX11_day_X3_remember
set_option maxRecDepth 20000 in
theorem ggX11_day_X3_passDays : GoodIn wsX11_day wsX3_passDays := goodIn_r _ [64, 19, 65, 66, 67, 68, 69, 50, 70, 54, 52, 55, 53, 71, 72, 73, 23, 74, 25, 60, 36, 37, 38, 26, 75, 76, 77, 78, 79, 80, 33, 81, 82, 83, 84, 85, 40, 41, 42, 86, 87, 88, 89, 120, 121, 122, 123, 124, 125, 126, 127, 128, 129, 130, 131, 132, 133, 134] (by decide +kernel) (by decide +kernel)
set_option maxRecDepth 20000 in
theorem gX11_day_X3_passDays : GoodIn wsX11_day (wsV RX11 156 RX3 yX3_passDays wsX3_passDays) := goodIn_app (goodIn_of _ (by decide +kernel)) ggX11_day_X3_passDays
set_option maxRecDepth 20000 in
theorem ggX11_day_X3_allStones : GoodIn wsX11_day wsX3_allStones := goodIn_r _ [93, 94, 95, 96, 16, 97, 66, 98, 72, 73, 23, 74, 25, 120, 121, 122, 123, 124, 125, 126, 127, 128, 133, 134] (by decide +kernel) (by decide +kernel)
set_option maxRecDepth 20000 in
theorem gX11_day_X3_allStones : GoodIn wsX11_day (wsV RX11 162 RX3 yX3_allStones wsX3_allStones) := goodIn_app (goodIn_of _ (by decide +kernel)) ggX11_day_X3_allStones
set_option maxRecDepth 20000 in
theorem ggX11_day_X7_sumOf : GoodIn wsX11_day wsX7_sumOf := goodIn_r _ [102, 25, 103, 6, 104, 35, 36, 37, 23, 38, 26, 133, 134] (by decide +kernel) (by decide +kernel)
set_option maxRecDepth 20000 in
theorem gX11_day_X7_sumOf : GoodIn wsX11_day (wsV RX11 165 RX7 yX7_sumOf wsX7_sumOf) := goodIn_app (goodIn_of _ (by decide +kernel)) ggX11_day_X7_sumOf
theorem dX11_day_0 : decode cX11_day 0 = .ok (.iload_n 1, 1) := by decide +kernel
theorem dX11_day_1 : decode cX11_day 1 = .ok (.iconst 1, 1) := by decide +kernel
theorem dX11_day_2 : decode cX11_day 2 = .ok (.bipush 99, 2) := by decide +kernel
theorem dX11_day_4 : decode cX11_day 4 = .ok (.invokestatic 83, 3) := by decide +kernel
theorem dX11_day_7 : decode cX11_day 7 = .ok (.ifCond .ne 10, 3) := by decide +kernel
theorem dX11_day_10 : decode cX11_day 10 = .ok (.aload_n 0, 1) := by decide +kernel
theorem dX11_day_11 : decode cX11_day 11 = .ok (.bipush (-2), 2) := by decide +kernel
theorem dX11_day_13 : decode cX11_day 13 = .ok (.invokevirtual 87, 3) := by decide +kernel
theorem dX11_day_16 : decode cX11_day 16 = .ok (.ireturn, 1) := by decide +kernel
theorem dX11_day_17 : decode cX11_day 17 = .ok (.aload_n 0, 1) := by decide +kernel
theorem dX11_day_18 : decode cX11_day 18 = .ok (.getfield 10, 3) := by decide +kernel
theorem dX11_day_21 : decode cX11_day 21 = .ok (.invokevirtual 150, 3) := by decide +kernel
theorem dX11_day_24 : decode cX11_day 24 = .ok (.aload_n 0, 1) := by decide +kernel
theorem dX11_day_25 : decode cX11_day 25 = .ok (.getfield 10, 3) := by decide +kernel
theorem dX11_day_28 : decode cX11_day 28 = .ok (.iload_n 1, 1) := by decide +kernel
theorem dX11_day_29 : decode cX11_day 29 = .ok (.invokevirtual 156, 3) := by decide +kernel
theorem dX11_day_32 : decode cX11_day 32 = .ok (.aload_n 0, 1) := by decide +kernel
theorem dX11_day_33 : decode cX11_day 33 = .ok (.getfield 10, 3) := by decide +kernel
theorem dX11_day_36 : decode cX11_day 36 = .ok (.getfield 141, 3) := by decide +kernel
theorem dX11_day_39 : decode cX11_day 39 = .ok (.getfield 159, 3) := by decide +kernel
theorem dX11_day_42 : decode cX11_day 42 = .ok (.aload_n 0, 1) := by decide +kernel
theorem dX11_day_43 : decode cX11_day 43 = .ok (.getfield 10, 3) := by decide +kernel
theorem dX11_day_46 : decode cX11_day 46 = .ok (.invokevirtual 162, 3) := by decide +kernel
theorem dX11_day_49 : decode cX11_day 49 = .ok (.invokevirtual 165, 3) := by decide +kernel
theorem dX11_day_52 : decode cX11_day 52 = .ok (.ireturn, 1) := by decide +kernel
set_option maxRecDepth 20000 in
theorem ggX11_undo_X3_undoable : GoodIn wsX11_undo wsX3_undoable := goodIn_r _ [9, 10, 11, 12, 13, 14, 15, 16, 65, 66, 67, 68, 69, 70, 71, 72, 73, 78, 79] (by decide +kernel) (by decide +kernel)
set_option maxRecDepth 20000 in
theorem gX11_undo_X3_undoable : GoodIn wsX11_undo (wsV RX11 168 RX3 yX3_undoable wsX3_undoable) := goodIn_app (goodIn_of _ (by decide +kernel)) ggX11_undo_X3_undoable
set_option maxRecDepth 20000 in
theorem ggX11_undo_X11_refuseNo : GoodIn wsX11_undo wsX11_refuseNo := goodIn_r _ [21, 22, 50, 51, 52, 53, 54, 55, 56, 57, 58, 59, 60, 61, 62, 63, 64] (by decide +kernel) (by decide +kernel)
set_option maxRecDepth 20000 in
theorem gX11_undo_X11_refuseNo : GoodIn wsX11_undo (wsV RX11 147 RX11 yX11_refuseNo wsX11_refuseNo) := goodIn_app (goodIn_of _ (by decide +kernel)) ggX11_undo_X11_refuseNo
set_option maxRecDepth 20000 in
theorem ggX11_undo_X4_restore : GoodIn wsX11_undo wsX4_restore := goodIn_r _ [27, 28, 29, 30, 31, 32, 12, 13, 14, 15, 16, 33, 34, 35, 36, 37, 38, 39, 40, 41, 42, 43, 44, 45, 46, 47, 48, 49, 74, 75, 76, 77, 78, 79] (by decide +kernel) (by decide +kernel)
set_option maxRecDepth 20000 in
theorem gX11_undo_X4_restore : GoodIn wsX11_undo (wsV RX11 171 RX4 yX4_restore wsX4_restore) := goodIn_app (goodIn_of _ (by decide +kernel)) ggX11_undo_X4_restore
theorem dX11_undo_0 : decode cX11_undo 0 = .ok (.aload_n 0, 1) := by decide +kernel
theorem dX11_undo_1 : decode cX11_undo 1 = .ok (.getfield 10, 3) := by decide +kernel
theorem dX11_undo_4 : decode cX11_undo 4 = .ok (.invokevirtual 168, 3) := by decide +kernel
theorem dX11_undo_7 : decode cX11_undo 7 = .ok (.ifCond .ne 8, 3) := by decide +kernel
theorem dX11_undo_10 : decode cX11_undo 10 = .ok (.aload_n 0, 1) := by decide +kernel
theorem dX11_undo_11 : decode cX11_undo 11 = .ok (.invokevirtual 147, 3) := by decide +kernel
theorem dX11_undo_14 : decode cX11_undo 14 = .ok (.ireturn, 1) := by decide +kernel
theorem dX11_undo_15 : decode cX11_undo 15 = .ok (.aload_n 0, 1) := by decide +kernel
theorem dX11_undo_16 : decode cX11_undo 16 = .ok (.getfield 10, 3) := by decide +kernel
theorem dX11_undo_19 : decode cX11_undo 19 = .ok (.getfield 141, 3) := by decide +kernel
theorem dX11_undo_22 : decode cX11_undo 22 = .ok (.aload_n 0, 1) := by decide +kernel
theorem dX11_undo_23 : decode cX11_undo 23 = .ok (.getfield 10, 3) := by decide +kernel
theorem dX11_undo_26 : decode cX11_undo 26 = .ok (.getfield 105, 3) := by decide +kernel
theorem dX11_undo_29 : decode cX11_undo 29 = .ok (.invokevirtual 171, 3) := by decide +kernel
theorem dX11_undo_32 : decode cX11_undo 32 = .ok (.aload_n 0, 1) := by decide +kernel
theorem dX11_undo_33 : decode cX11_undo 33 = .ok (.getfield 10, 3) := by decide +kernel
theorem dX11_undo_36 : decode cX11_undo 36 = .ok (.getfield 141, 3) := by decide +kernel
theorem dX11_undo_39 : decode cX11_undo 39 = .ok (.getfield 174, 3) := by decide +kernel
theorem dX11_undo_42 : decode cX11_undo 42 = .ok (.ireturn, 1) := by decide +kernel
set_option maxRecDepth 20000 in
theorem ggX11_of_X3_hasKeeper : GoodIn wsX11_of wsX3_hasKeeper := goodIn_r _ [6, 7, 8, 9, 5, 10, 11, 12, 13, 14, 15, 16, 17, 18, 19, 20, 64, 65, 66, 67, 68, 69, 70, 71, 72, 73, 74] (by decide +kernel) (by decide +kernel)
set_option maxRecDepth 20000 in
theorem gX11_of_X3_hasKeeper : GoodIn wsX11_of (wsV RX11 109 RX3 yX3_hasKeeper wsX3_hasKeeper) := goodIn_app (goodIn_of _ (by decide +kernel)) ggX11_of_X3_hasKeeper
set_option maxRecDepth 20000 in
theorem ggX11_of_X11_between : GoodIn wsX11_of wsX11_between := goodIn_r _ [20] (by decide +kernel) (by decide +kernel)
set_option maxRecDepth 20000 in
theorem gX11_of_X11_between : GoodIn wsX11_of (va_wsS RX11 83 yX11_between wsX11_between) := goodIn_app (goodIn_of _ (by decide +kernel)) ggX11_of_X11_between
set_option maxRecDepth 20000 in
theorem ggX11_of_X11_refuseBad : GoodIn wsX11_of wsX11_refuseBad := goodIn_r _ [25, 26, 49, 50, 51, 52, 53, 54, 55, 56, 57, 58, 59, 60, 61, 62, 63] (by decide +kernel) (by decide +kernel)
set_option maxRecDepth 20000 in
theorem gX11_of_X11_refuseBad : GoodIn wsX11_of (wsV RX11 87 RX11 yX11_refuseBad wsX11_refuseBad) := goodIn_app (goodIn_of _ (by decide +kernel)) ggX11_of_X11_refuseBad
set_option maxRecDepth 20000 in
theorem ggX11_of_X3_toldOf : GoodIn wsX11_of wsX3_toldOf := goodIn_r _ [30, 11, 31, 32, 33, 34, 35, 36, 37, 38, 15, 39, 17, 40, 41, 42, 43, 44, 45, 46, 47, 19, 48, 64, 65, 66, 67, 68, 69, 70, 71, 72, 75, 76, 77, 78, 73, 74] (by decide +kernel) (by decide +kernel)
set_option maxRecDepth 20000 in
theorem gX11_of_X3_toldOf : GoodIn wsX11_of (wsV RX11 178 RX3 yX3_toldOf wsX3_toldOf) := goodIn_app (goodIn_of _ (by decide +kernel)) ggX11_of_X3_toldOf
theorem dX11_of_0 : decode cX11_of 0 = .ok (.aload_n 0, 1) := by decide +kernel
theorem dX11_of_1 : decode cX11_of 1 = .ok (.getfield 10, 3) := by decide +kernel
theorem dX11_of_4 : decode cX11_of 4 = .ok (.iload_n 1, 1) := by decide +kernel
theorem dX11_of_5 : decode cX11_of 5 = .ok (.invokevirtual 109, 3) := by decide +kernel
theorem dX11_of_8 : decode cX11_of 8 = .ok (.ifCond .eq 12, 3) := by decide +kernel
theorem dX11_of_11 : decode cX11_of 11 = .ok (.iload_n 2, 1) := by decide +kernel
theorem dX11_of_12 : decode cX11_of 12 = .ok (.iconst 0, 1) := by decide +kernel
theorem dX11_of_13 : decode cX11_of 13 = .ok (.iconst 5, 1) := by decide +kernel
theorem dX11_of_14 : decode cX11_of 14 = .ok (.invokestatic 83, 3) := by decide +kernel
theorem dX11_of_17 : decode cX11_of 17 = .ok (.ifCond .ne 10, 3) := by decide +kernel
theorem dX11_of_20 : decode cX11_of 20 = .ok (.aload_n 0, 1) := by decide +kernel
theorem dX11_of_21 : decode cX11_of 21 = .ok (.bipush (-2), 2) := by decide +kernel
theorem dX11_of_23 : decode cX11_of 23 = .ok (.invokevirtual 87, 3) := by decide +kernel
theorem dX11_of_26 : decode cX11_of 26 = .ok (.ireturn, 1) := by decide +kernel
theorem dX11_of_27 : decode cX11_of 27 = .ok (.aload_n 0, 1) := by decide +kernel
theorem dX11_of_28 : decode cX11_of 28 = .ok (.getfield 10, 3) := by decide +kernel
theorem dX11_of_31 : decode cX11_of 31 = .ok (.iload_n 1, 1) := by decide +kernel
theorem dX11_of_32 : decode cX11_of 32 = .ok (.iload_n 2, 1) := by decide +kernel
theorem dX11_of_33 : decode cX11_of 33 = .ok (.invokevirtual 178, 3) := by decide +kernel
theorem dX11_of_36 : decode cX11_of 36 = .ok (.ireturn, 1) := by decide +kernel
set_option maxRecDepth 20000 in
theorem ggX11_then_X3_hasKeeper : GoodIn wsX11_then wsX3_hasKeeper := goodIn_r _ [10, 11, 12, 13, 9, 14, 15, 16, 17, 18, 19, 20, 21, 22, 23, 24, 62, 63, 64, 65, 66, 67, 68, 69, 70, 75, 76] (by decide +kernel) (by decide +kernel)
set_option maxRecDepth 20000 in
theorem gX11_then_X3_hasKeeper : GoodIn wsX11_then (wsV RX11 109 RX3 yX3_hasKeeper wsX3_hasKeeper) := goodIn_app (goodIn_of _ (by decide +kernel)) ggX11_then_X3_hasKeeper
set_option maxRecDepth 20000 in
theorem ggX11_then_X11_between : GoodIn wsX11_then wsX11_between := goodIn_r _ [24] (by decide +kernel) (by decide +kernel)
set_option maxRecDepth 20000 in
theorem gX11_then_X11_between : GoodIn wsX11_then (va_wsS RX11 83 yX11_between wsX11_between) := goodIn_app (goodIn_of _ (by decide +kernel)) ggX11_then_X11_between
set_option maxRecDepth 20000 in
theorem ggX11_then_X11_refuseBad : GoodIn wsX11_then wsX11_refuseBad := goodIn_r _ [29, 30, 47, 48, 49, 50, 51, 52, 53, 54, 55, 56, 57, 58, 59, 60, 61] (by decide +kernel) (by decide +kernel)
set_option maxRecDepth 20000 in
theorem gX11_then_X11_refuseBad : GoodIn wsX11_then (wsV RX11 87 RX11 yX11_refuseBad wsX11_refuseBad) := goodIn_app (goodIn_of _ (by decide +kernel)) ggX11_then_X11_refuseBad
set_option maxRecDepth 20000 in
theorem ggX11_then_X7_at : GoodIn wsX11_then wsX7_at := goodIn_r _ [34, 21, 35, 75, 76] (by decide +kernel) (by decide +kernel)
set_option maxRecDepth 20000 in
theorem gX11_then_X7_at : GoodIn wsX11_then (wsV RX11 115 RX7 yX7_at wsX7_at) := goodIn_app (goodIn_of _ (by decide +kernel)) ggX11_then_X7_at
set_option maxRecDepth 20000 in
theorem ggX11_then_X2_behind : GoodIn wsX11_then wsX2_behind := goodIn_r _ [39, 40, 41, 42, 43, 44, 45, 38, 46] (by decide +kernel) (by decide +kernel)
set_option maxRecDepth 20000 in
theorem gX11_then_X2_behind : GoodIn wsX11_then (va_wsS RX11 182 yX2_behind wsX2_behind) := goodIn_app (goodIn_of _ (by decide +kernel)) ggX11_then_X2_behind
theorem dX11_then_0 : decode cX11_then 0 = .ok (.aload_n 0, 1) := by decide +kernel
theorem dX11_then_1 : decode cX11_then 1 = .ok (.getfield 10, 3) := by decide +kernel
theorem dX11_then_4 : decode cX11_then 4 = .ok (.iload_n 1, 1) := by decide +kernel
theorem dX11_then_5 : decode cX11_then 5 = .ok (.invokevirtual 109, 3) := by decide +kernel
theorem dX11_then_8 : decode cX11_then 8 = .ok (.ifCond .eq 13, 3) := by decide +kernel
theorem dX11_then_11 : decode cX11_then 11 = .ok (.iload_n 2, 1) := by decide +kernel
theorem dX11_then_12 : decode cX11_then 12 = .ok (.iconst 0, 1) := by decide +kernel
theorem dX11_then_13 : decode cX11_then 13 = .ok (.bipush 99, 2) := by decide +kernel
theorem dX11_then_15 : decode cX11_then 15 = .ok (.invokestatic 83, 3) := by decide +kernel
theorem dX11_then_18 : decode cX11_then 18 = .ok (.ifCond .ne 10, 3) := by decide +kernel
theorem dX11_then_21 : decode cX11_then 21 = .ok (.aload_n 0, 1) := by decide +kernel
theorem dX11_then_22 : decode cX11_then 22 = .ok (.bipush (-2), 2) := by decide +kernel
theorem dX11_then_24 : decode cX11_then 24 = .ok (.invokevirtual 87, 3) := by decide +kernel
theorem dX11_then_27 : decode cX11_then 27 = .ok (.ireturn, 1) := by decide +kernel
theorem dX11_then_28 : decode cX11_then 28 = .ok (.aload_n 0, 1) := by decide +kernel
theorem dX11_then_29 : decode cX11_then 29 = .ok (.getfield 10, 3) := by decide +kernel
theorem dX11_then_32 : decode cX11_then 32 = .ok (.getfield 141, 3) := by decide +kernel
theorem dX11_then_35 : decode cX11_then 35 = .ok (.getfield 159, 3) := by decide +kernel
theorem dX11_then_38 : decode cX11_then 38 = .ok (.iload_n 1, 1) := by decide +kernel
theorem dX11_then_39 : decode cX11_then 39 = .ok (.invokevirtual 115, 3) := by decide +kernel
theorem dX11_then_42 : decode cX11_then 42 = .ok (.istore_n 3, 1) := by decide +kernel
theorem dX11_then_43 : decode cX11_then 43 = .ok (.iconst 0, 1) := by decide +kernel
theorem dX11_then_44 : decode cX11_then 44 = .ok (.istore 4, 2) := by decide +kernel
theorem dX11_then_46 : decode cX11_then 46 = .ok (.iload 4, 2) := by decide +kernel
theorem dX11_then_48 : decode cX11_then 48 = .ok (.iload_n 2, 1) := by decide +kernel
theorem dX11_then_49 : decode cX11_then 49 = .ok (.if_icmp .ge 38, 3) := by decide +kernel
theorem dX11_then_52 : decode cX11_then 52 = .ok (.aload_n 0, 1) := by decide +kernel
theorem dX11_then_53 : decode cX11_then 53 = .ok (.getfield 10, 3) := by decide +kernel
theorem dX11_then_56 : decode cX11_then 56 = .ok (.getfield 91, 3) := by decide +kernel
theorem dX11_then_59 : decode cX11_then 59 = .ok (.iload_n 1, 1) := by decide +kernel
theorem dX11_then_60 : decode cX11_then 60 = .ok (.invokevirtual 115, 3) := by decide +kernel
theorem dX11_then_63 : decode cX11_then 63 = .ok (.iload_n 3, 1) := by decide +kernel
theorem dX11_then_64 : decode cX11_then 64 = .ok (.aload_n 0, 1) := by decide +kernel
theorem dX11_then_65 : decode cX11_then 65 = .ok (.getfield 10, 3) := by decide +kernel
theorem dX11_then_68 : decode cX11_then 68 = .ok (.getfield 141, 3) := by decide +kernel
theorem dX11_then_71 : decode cX11_then 71 = .ok (.getfield 174, 3) := by decide +kernel
theorem dX11_then_74 : decode cX11_then 74 = .ok (.iload 4, 2) := by decide +kernel
theorem dX11_then_76 : decode cX11_then 76 = .ok (.iadd, 1) := by decide +kernel
theorem dX11_then_77 : decode cX11_then 77 = .ok (.invokestatic 182, 3) := by decide +kernel
theorem dX11_then_80 : decode cX11_then 80 = .ok (.istore_n 3, 1) := by decide +kernel
theorem dX11_then_81 : decode cX11_then 81 = .ok (.iinc 4 1, 3) := by decide +kernel
theorem dX11_then_84 : decode cX11_then 84 = .ok (.goto (-38), 3) := by decide +kernel
theorem dX11_then_87 : decode cX11_then 87 = .ok (.iload_n 3, 1) := by decide +kernel
theorem dX11_then_88 : decode cX11_then 88 = .ok (.ireturn, 1) := by decide +kernel
set_option maxRecDepth 20000 in
theorem ggX11_off_X3_hasKeeper : GoodIn wsX11_off wsX3_hasKeeper := goodIn_r _ [15, 16, 17, 18, 14, 19, 20, 21, 22, 23, 24, 25, 26, 27, 28, 29, 66, 67, 68, 69, 70, 71, 72, 73, 74, 79, 80] (by decide +kernel) (by decide +kernel)
set_option maxRecDepth 20000 in
theorem gX11_off_X3_hasKeeper : GoodIn wsX11_off (wsV RX11 109 RX3 yX3_hasKeeper wsX3_hasKeeper) := goodIn_app (goodIn_of _ (by decide +kernel)) ggX11_off_X3_hasKeeper
set_option maxRecDepth 20000 in
theorem ggX11_off_X11_between : GoodIn wsX11_off wsX11_between := goodIn_r _ [29] (by decide +kernel) (by decide +kernel)
set_option maxRecDepth 20000 in
theorem gX11_off_X11_between : GoodIn wsX11_off (va_wsS RX11 83 yX11_between wsX11_between) := goodIn_app (goodIn_of _ (by decide +kernel)) ggX11_off_X11_between
set_option maxRecDepth 20000 in
theorem ggX11_off_X11_refuseBad : GoodIn wsX11_off wsX11_refuseBad := goodIn_r _ [34, 35, 51, 52, 53, 54, 55, 56, 57, 58, 59, 60, 61, 62, 63, 64, 65] (by decide +kernel) (by decide +kernel)
set_option maxRecDepth 20000 in
theorem gX11_off_X11_refuseBad : GoodIn wsX11_off (wsV RX11 87 RX11 yX11_refuseBad wsX11_refuseBad) := goodIn_app (goodIn_of _ (by decide +kernel)) ggX11_off_X11_refuseBad
set_option maxRecDepth 20000 in
theorem ggX11_off_X7_at : GoodIn wsX11_off wsX7_at := goodIn_r _ [39, 26, 40, 79, 80] (by decide +kernel) (by decide +kernel)
set_option maxRecDepth 20000 in
theorem gX11_off_X7_at : GoodIn wsX11_off (wsV RX11 115 RX7 yX7_at wsX7_at) := goodIn_app (goodIn_of _ (by decide +kernel)) ggX11_off_X7_at
set_option maxRecDepth 20000 in
theorem ggX11_off_X2_behind : GoodIn wsX11_off wsX2_behind := goodIn_r _ [44, 45, 46, 7, 47, 48, 49, 43, 50] (by decide +kernel) (by decide +kernel)
set_option maxRecDepth 20000 in
theorem gX11_off_X2_behind : GoodIn wsX11_off (va_wsS RX11 182 yX2_behind wsX2_behind) := goodIn_app (goodIn_of _ (by decide +kernel)) ggX11_off_X2_behind
theorem dX11_off_0 : decode cX11_off 0 = .ok (.aload_n 0, 1) := by decide +kernel
theorem dX11_off_1 : decode cX11_off 1 = .ok (.getfield 10, 3) := by decide +kernel
theorem dX11_off_4 : decode cX11_off 4 = .ok (.iload_n 1, 1) := by decide +kernel
theorem dX11_off_5 : decode cX11_off 5 = .ok (.invokevirtual 109, 3) := by decide +kernel
theorem dX11_off_8 : decode cX11_off 8 = .ok (.ifCond .eq 13, 3) := by decide +kernel
theorem dX11_off_11 : decode cX11_off 11 = .ok (.iload_n 2, 1) := by decide +kernel
theorem dX11_off_12 : decode cX11_off 12 = .ok (.iconst 1, 1) := by decide +kernel
theorem dX11_off_13 : decode cX11_off 13 = .ok (.bipush 99, 2) := by decide +kernel
theorem dX11_off_15 : decode cX11_off 15 = .ok (.invokestatic 83, 3) := by decide +kernel
theorem dX11_off_18 : decode cX11_off 18 = .ok (.ifCond .ne 10, 3) := by decide +kernel
theorem dX11_off_21 : decode cX11_off 21 = .ok (.aload_n 0, 1) := by decide +kernel
theorem dX11_off_22 : decode cX11_off 22 = .ok (.bipush (-2), 2) := by decide +kernel
theorem dX11_off_24 : decode cX11_off 24 = .ok (.invokevirtual 87, 3) := by decide +kernel
theorem dX11_off_27 : decode cX11_off 27 = .ok (.ireturn, 1) := by decide +kernel
theorem dX11_off_28 : decode cX11_off 28 = .ok (.aload_n 0, 1) := by decide +kernel
theorem dX11_off_29 : decode cX11_off 29 = .ok (.getfield 10, 3) := by decide +kernel
theorem dX11_off_32 : decode cX11_off 32 = .ok (.getfield 141, 3) := by decide +kernel
theorem dX11_off_35 : decode cX11_off 35 = .ok (.getfield 159, 3) := by decide +kernel
theorem dX11_off_38 : decode cX11_off 38 = .ok (.iload_n 1, 1) := by decide +kernel
theorem dX11_off_39 : decode cX11_off 39 = .ok (.invokevirtual 115, 3) := by decide +kernel
theorem dX11_off_42 : decode cX11_off 42 = .ok (.istore_n 3, 1) := by decide +kernel
theorem dX11_off_43 : decode cX11_off 43 = .ok (.iconst 0, 1) := by decide +kernel
theorem dX11_off_44 : decode cX11_off 44 = .ok (.istore 4, 2) := by decide +kernel
theorem dX11_off_46 : decode cX11_off 46 = .ok (.iload 4, 2) := by decide +kernel
theorem dX11_off_48 : decode cX11_off 48 = .ok (.bipush 99, 2) := by decide +kernel
theorem dX11_off_50 : decode cX11_off 50 = .ok (.if_icmp .gt 61, 3) := by decide +kernel
theorem dX11_off_53 : decode cX11_off 53 = .ok (.iload_n 3, 1) := by decide +kernel
theorem dX11_off_54 : decode cX11_off 54 = .ok (.aload_n 0, 1) := by decide +kernel
theorem dX11_off_55 : decode cX11_off 55 = .ok (.getfield 10, 3) := by decide +kernel
theorem dX11_off_58 : decode cX11_off 58 = .ok (.getfield 112, 3) := by decide +kernel
theorem dX11_off_61 : decode cX11_off 61 = .ok (.iload_n 1, 1) := by decide +kernel
theorem dX11_off_62 : decode cX11_off 62 = .ok (.invokevirtual 115, 3) := by decide +kernel
theorem dX11_off_65 : decode cX11_off 65 = .ok (.isub, 1) := by decide +kernel
theorem dX11_off_66 : decode cX11_off 66 = .ok (.invokestatic 188, 3) := by decide +kernel
theorem dX11_off_69 : decode cX11_off 69 = .ok (.iload_n 2, 1) := by decide +kernel
theorem dX11_off_70 : decode cX11_off 70 = .ok (.if_icmp .lt 6, 3) := by decide +kernel
theorem dX11_off_73 : decode cX11_off 73 = .ok (.iload 4, 2) := by decide +kernel
theorem dX11_off_75 : decode cX11_off 75 = .ok (.ireturn, 1) := by decide +kernel
theorem dX11_off_76 : decode cX11_off 76 = .ok (.aload_n 0, 1) := by decide +kernel
theorem dX11_off_77 : decode cX11_off 77 = .ok (.getfield 10, 3) := by decide +kernel
theorem dX11_off_80 : decode cX11_off 80 = .ok (.getfield 91, 3) := by decide +kernel
theorem dX11_off_83 : decode cX11_off 83 = .ok (.iload_n 1, 1) := by decide +kernel
theorem dX11_off_84 : decode cX11_off 84 = .ok (.invokevirtual 115, 3) := by decide +kernel
theorem dX11_off_87 : decode cX11_off 87 = .ok (.iload_n 3, 1) := by decide +kernel
theorem dX11_off_88 : decode cX11_off 88 = .ok (.aload_n 0, 1) := by decide +kernel
theorem dX11_off_89 : decode cX11_off 89 = .ok (.getfield 10, 3) := by decide +kernel
theorem dX11_off_92 : decode cX11_off 92 = .ok (.getfield 141, 3) := by decide +kernel
theorem dX11_off_95 : decode cX11_off 95 = .ok (.getfield 174, 3) := by decide +kernel
theorem dX11_off_98 : decode cX11_off 98 = .ok (.iload 4, 2) := by decide +kernel
theorem dX11_off_100 : decode cX11_off 100 = .ok (.iadd, 1) := by decide +kernel
theorem dX11_off_101 : decode cX11_off 101 = .ok (.invokestatic 182, 3) := by decide +kernel
theorem dX11_off_104 : decode cX11_off 104 = .ok (.istore_n 3, 1) := by decide +kernel
theorem dX11_off_105 : decode cX11_off 105 = .ok (.iinc 4 1, 3) := by decide +kernel
theorem dX11_off_108 : decode cX11_off 108 = .ok (.goto (-62), 3) := by decide +kernel
theorem dX11_off_111 : decode cX11_off 111 = .ok (.iconst (-1), 1) := by decide +kernel
theorem dX11_off_112 : decode cX11_off 112 = .ok (.ireturn, 1) := by decide +kernel
set_option maxRecDepth 20000 in
theorem ggX11_load_X11_between : GoodIn wsX11_load wsX11_between := goodIn_r _ [12] (by decide +kernel) (by decide +kernel)
set_option maxRecDepth 20000 in
theorem gX11_load_X11_between : GoodIn wsX11_load (va_wsS RX11 83 yX11_between wsX11_between) := goodIn_app (goodIn_of _ (by decide +kernel)) ggX11_load_X11_between
set_option maxRecDepth 20000 in
theorem ggX11_load_X11_refuseBad : GoodIn wsX11_load wsX11_refuseBad := goodIn_r _ [16, 17, 95, 96, 97, 98, 99, 100, 101, 102, 103, 104, 105, 106, 107, 108, 109] (by decide +kernel) (by decide +kernel)
set_option maxRecDepth 20000 in
theorem gX11_load_X11_refuseBad : GoodIn wsX11_load (wsV RX11 87 RX11 yX11_refuseBad wsX11_refuseBad) := goodIn_app (goodIn_of _ (by decide +kernel)) ggX11_load_X11_refuseBad
set_option maxRecDepth 20000 in
theorem ggX11_load_X3_allStones : GoodIn wsX11_load wsX3_allStones := goodIn_r _ [22, 23, 24, 25, 21, 26, 27, 28, 29, 30, 31, 32, 33, 110, 111, 112, 113, 114, 115, 116, 117, 118, 133, 134] (by decide +kernel) (by decide +kernel)
set_option maxRecDepth 20000 in
theorem gX11_load_X3_allStones : GoodIn wsX11_load (wsV RX11 162 RX3 yX3_allStones wsX3_allStones) := goodIn_app (goodIn_of _ (by decide +kernel)) ggX11_load_X3_allStones
set_option maxRecDepth 20000 in
theorem ggX11_load_X5_weigh : GoodIn wsX11_load wsX5_weigh := goodIn_r _ [38, 39, 40, 41, 42, 43, 37, 44, 45, 46, 47, 48, 49, 50, 51, 31, 52, 33, 53, 54, 55, 56, 57, 58, 59, 60, 61, 62, 63, 64, 65, 24, 25, 21, 26, 27, 28, 29, 30, 32, 66, 11, 67, 68, 69, 70, 71, 72, 73, 74, 75, 76, 77, 78, 79, 80, 81, 82, 83, 84, 85, 86, 87, 88, 89, 90, 91, 92, 93, 94, 123, 124, 125, 126, 127, 128, 129, 130, 131, 132, 133, 134, 110, 111, 112, 113, 114, 115, 116, 117, 118, 119, 120, 121, 122] (by decide +kernel) (by decide +kernel)
set_option maxRecDepth 20000 in
theorem gX11_load_X5_weigh : GoodIn wsX11_load (wsV RX11 196 RX5 yX5_weigh wsX5_weigh) := goodIn_app (goodIn_of _ (by decide +kernel)) ggX11_load_X5_weigh
theorem dX11_load_0 : decode cX11_load 0 = .ok (.iload_n 1, 1) := by decide +kernel
theorem dX11_load_1 : decode cX11_load 1 = .ok (.iconst 1, 1) := by decide +kernel
theorem dX11_load_2 : decode cX11_load 2 = .ok (.sipush 999, 3) := by decide +kernel
theorem dX11_load_5 : decode cX11_load 5 = .ok (.invokestatic 83, 3) := by decide +kernel
theorem dX11_load_8 : decode cX11_load 8 = .ok (.ifCond .eq 21, 3) := by decide +kernel
theorem dX11_load_11 : decode cX11_load 11 = .ok (.iload_n 2, 1) := by decide +kernel
theorem dX11_load_12 : decode cX11_load 12 = .ok (.iconst 0, 1) := by decide +kernel
theorem dX11_load_13 : decode cX11_load 13 = .ok (.iconst 1, 1) := by decide +kernel
theorem dX11_load_14 : decode cX11_load 14 = .ok (.invokestatic 83, 3) := by decide +kernel
theorem dX11_load_17 : decode cX11_load 17 = .ok (.ifCond .eq 12, 3) := by decide +kernel
theorem dX11_load_20 : decode cX11_load 20 = .ok (.iload_n 3, 1) := by decide +kernel
