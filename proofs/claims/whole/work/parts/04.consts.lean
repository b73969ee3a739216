theorem kc_b_10 : (Int8.ofInt (10)).toInt32 = 10 := by decide
theorem kc_b_100 : (Int8.ofInt (100)).toInt32 = 100 := by decide
theorem kc_b_101 : (Int8.ofInt (101)).toInt32 = 101 := by decide
theorem kc_b_107 : (Int8.ofInt (107)).toInt32 = 107 := by decide
theorem kc_b_108 : (Int8.ofInt (108)).toInt32 = 108 := by decide
theorem kc_b_109 : (Int8.ofInt (109)).toInt32 = 109 := by decide
theorem kc_b_11 : (Int8.ofInt (11)).toInt32 = 11 := by decide
theorem kc_b_110 : (Int8.ofInt (110)).toInt32 = 110 := by decide
theorem kc_b_111 : (Int8.ofInt (111)).toInt32 = 111 := by decide
theorem kc_b_112 : (Int8.ofInt (112)).toInt32 = 112 := by decide
theorem kc_b_113 : (Int8.ofInt (113)).toInt32 = 113 := by decide
theorem kc_b_114 : (Int8.ofInt (114)).toInt32 = 114 := by decide
theorem kc_b_115 : (Int8.ofInt (115)).toInt32 = 115 := by decide
theorem kc_b_116 : (Int8.ofInt (116)).toInt32 = 116 := by decide
theorem kc_b_12 : (Int8.ofInt (12)).toInt32 = 12 := by decide
theorem kc_b_121 : (Int8.ofInt (121)).toInt32 = 121 := by decide
theorem kc_b_122 : (Int8.ofInt (122)).toInt32 = 122 := by decide
theorem kc_b_127 : (Int8.ofInt (127)).toInt32 = 127 := by decide
theorem kc_b_14 : (Int8.ofInt (14)).toInt32 = 14 := by decide
theorem kc_b_15 : (Int8.ofInt (15)).toInt32 = 15 := by decide
theorem kc_b_16 : (Int8.ofInt (16)).toInt32 = 16 := by decide
theorem kc_b_18 : (Int8.ofInt (18)).toInt32 = 18 := by decide
theorem kc_b_25 : (Int8.ofInt (25)).toInt32 = 25 := by decide
theorem kc_b_32 : (Int8.ofInt (32)).toInt32 = 32 := by decide
theorem kc_b_39 : (Int8.ofInt (39)).toInt32 = 39 := by decide
theorem kc_b_43 : (Int8.ofInt (43)).toInt32 = 43 := by decide
theorem kc_b_44 : (Int8.ofInt (44)).toInt32 = 44 := by decide
theorem kc_b_48 : (Int8.ofInt (48)).toInt32 = 48 := by decide
theorem kc_b_57 : (Int8.ofInt (57)).toInt32 = 57 := by decide
theorem kc_b_59 : (Int8.ofInt (59)).toInt32 = 59 := by decide
theorem kc_b_6 : (Int8.ofInt (6)).toInt32 = 6 := by decide
theorem kc_b_60 : (Int8.ofInt (60)).toInt32 = 60 := by decide
theorem kc_b_62 : (Int8.ofInt (62)).toInt32 = 62 := by decide
theorem kc_b_63 : (Int8.ofInt (63)).toInt32 = 63 := by decide
theorem kc_b_7 : (Int8.ofInt (7)).toInt32 = 7 := by decide
theorem kc_b_8 : (Int8.ofInt (8)).toInt32 = 8 := by decide
theorem kc_b_87 : (Int8.ofInt (87)).toInt32 = 87 := by decide
theorem kc_b_88 : (Int8.ofInt (88)).toInt32 = 88 := by decide
theorem kc_b_9 : (Int8.ofInt (9)).toInt32 = 9 := by decide
theorem kc_b_97 : (Int8.ofInt (97)).toInt32 = 97 := by decide
theorem kc_b_98 : (Int8.ofInt (98)).toInt32 = 98 := by decide
theorem kc_b_99 : (Int8.ofInt (99)).toInt32 = 99 := by decide
theorem kc_b_m10 : (Int8.ofInt (-10)).toInt32 = (-10) := by decide
theorem kc_b_m2 : (Int8.ofInt (-2)).toInt32 = (-2) := by decide
theorem kc_b_m3 : (Int8.ofInt (-3)).toInt32 = (-3) := by decide
theorem kc_b_m4 : (Int8.ofInt (-4)).toInt32 = (-4) := by decide
theorem kc_b_m5 : (Int8.ofInt (-5)).toInt32 = (-5) := by decide
theorem kc_i_0 : Int32.ofInt (0) = 0 := by decide
theorem kc_i_1 : Int32.ofInt (1) = 1 := by decide
theorem kc_i_2 : Int32.ofInt (2) = 2 := by decide
theorem kc_i_3 : Int32.ofInt (3) = 3 := by decide
theorem kc_i_4 : Int32.ofInt (4) = 4 := by decide
theorem kc_i_5 : Int32.ofInt (5) = 5 := by decide
theorem kc_i_m1 : Int32.ofInt (-1) = (-1) := by decide
theorem kc_l_0 : Int64.ofNat 0 = 0 := by decide
theorem kc_l_1 : Int64.ofNat 1 = 1 := by decide
theorem kc_ne_10 : ¬ (10 : Int32) = 0 := by decide
theorem kc_ne_16 : ¬ (16 : Int32) = 0 := by decide
theorem kc_ne_2 : ¬ (2 : Int32) = 0 := by decide
theorem kc_ne_3 : ¬ (3 : Int32) = 0 := by decide
theorem kc_ne_4 : ¬ (4 : Int32) = 0 := by decide
theorem kc_ne_7 : ¬ (7 : Int32) = 0 := by decide
theorem kc_nl_10 : ¬ (10 : Int64) = 0 := by decide
theorem kc_nl_1048576 : ¬ (1048576 : Int64) = 0 := by decide
theorem kc_nl_2147483648 : ¬ (2147483648 : Int64) = 0 := by decide
theorem kc_nl_65536 : ¬ (65536 : Int64) = 0 := by decide
theorem kc_nl_7 : ¬ (7 : Int64) = 0 := by decide
theorem kc_s_150 : (Int16.ofInt (150)).toInt32 = 150 := by decide
theorem kc_s_2187 : (Int16.ofInt (2187)).toInt32 = 2187 := by decide
theorem kc_s_241 : (Int16.ofInt (241)).toInt32 = 241 := by decide
theorem kc_s_250 : (Int16.ofInt (250)).toInt32 = 250 := by decide
theorem kc_s_300 : (Int16.ofInt (300)).toInt32 = 300 := by decide
theorem kc_s_723 : (Int16.ofInt (723)).toInt32 = 723 := by decide
theorem kc_s_724 : (Int16.ofInt (724)).toInt32 = 724 := by decide
theorem kc_s_755 : (Int16.ofInt (755)).toInt32 = 755 := by decide
theorem kc_s_762 : (Int16.ofInt (762)).toInt32 = 762 := by decide
theorem kc_s_999 : (Int16.ofInt (999)).toInt32 = 999 := by decide
theorem kc_s_9999 : (Int16.ofInt (9999)).toInt32 = 9999 := by decide
theorem kc_s_m10000 : (Int16.ofInt (-10000)).toInt32 = (-10000) := by decide
theorem kc_s_m20000 : (Int16.ofInt (-20000)).toInt32 = (-20000) := by decide
theorem kc_ti_0 : (0 : Int32).toInt = 0 := by decide
theorem kc_ti_1 : (1 : Int32).toInt = 1 := by decide
theorem kc_ti_2 : (2 : Int32).toInt = 2 := by decide
theorem kc_ti_3 : (3 : Int32).toInt = 3 := by decide
theorem kc_ti_4 : (4 : Int32).toInt = 4 := by decide
theorem kc_ti_5 : (5 : Int32).toInt = 5 := by decide
theorem kc_ti_6 : (6 : Int32).toInt = 6 := by decide
theorem kc_ti_7 : (7 : Int32).toInt = 7 := by decide
theorem kc_ti_8 : (8 : Int32).toInt = 8 := by decide
theorem nw_X10_62 : Cond.methodLinkNest RX10 62 yX11_hasBit "WidowWeight" ∈ nestW := by decide +kernel
theorem nw_X1_41 : Cond.methodLinkNest RX1 41 yX11_hasBit "WidowWeight" ∈ nestW := by decide +kernel
theorem nw_X3_66 : Cond.methodLinkNest RX3 66 yX11_between "WidowWeight" ∈ nestW := by decide +kernel
theorem nw_X4_37 : Cond.methodLinkNest RX4 37 yX11_hasBit "WidowWeight" ∈ nestW := by decide +kernel
theorem nw_X5_77 : Cond.methodLinkNest RX5 77 yX11_hasBit "WidowWeight" ∈ nestW := by decide +kernel
theorem nw_X7_41 : Cond.methodLinkNest RX7 41 yX11_hasBit "WidowWeight" ∈ nestW := by decide +kernel
theorem nw_X8_113 : Cond.methodLinkNest RX8 113 yX11_isKind "WidowWeight" ∈ nestW := by decide +kernel
theorem nw_X8_116 : Cond.methodLinkNest RX8 116 yX11_between "WidowWeight" ∈ nestW := by decide +kernel
theorem nw_X9_26 : Cond.methodLinkNest RX9 26 yX11_hasBit "WidowWeight" ∈ nestW := by decide +kernel
