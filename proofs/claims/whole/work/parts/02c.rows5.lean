theorem dX12_shortest_151 : decode cX12_shortest 151 = .ok (.iinc 4 (-1), 3) := by decide +kernel
theorem dX12_shortest_154 : decode cX12_shortest 154 = .ok (.goto 121, 3) := by decide +kernel
theorem dX12_shortest_157 : decode cX12_shortest 157 = .ok (.aload_n 0, 1) := by decide +kernel
theorem dX12_shortest_158 : decode cX12_shortest 158 = .ok (.getfield 30, 3) := by decide +kernel
theorem dX12_shortest_161 : decode cX12_shortest 161 = .ok (.iload 4, 2) := by decide +kernel
theorem dX12_shortest_163 : decode cX12_shortest 163 = .ok (.iaload, 1) := by decide +kernel
theorem dX12_shortest_164 : decode cX12_shortest 164 = .ok (.iconst 1, 1) := by decide +kernel
theorem dX12_shortest_165 : decode cX12_shortest 165 = .ok (.iadd, 1) := by decide +kernel
theorem dX12_shortest_166 : decode cX12_shortest 166 = .ok (.istore 7, 2) := by decide +kernel
theorem dX12_shortest_168 : decode cX12_shortest 168 = .ok (.iload 7, 2) := by decide +kernel
theorem dX12_shortest_170 : decode cX12_shortest 170 = .ok (.aload_n 0, 1) := by decide +kernel
theorem dX12_shortest_171 : decode cX12_shortest 171 = .ok (.getfield 7, 3) := by decide +kernel
theorem dX12_shortest_174 : decode cX12_shortest 174 = .ok (.iconst 0, 1) := by decide +kernel
theorem dX12_shortest_175 : decode cX12_shortest 175 = .ok (.iaload, 1) := by decide +kernel
theorem dX12_shortest_176 : decode cX12_shortest 176 = .ok (.if_icmp .ge 28, 3) := by decide +kernel
theorem dX12_shortest_179 : decode cX12_shortest 179 = .ok (.iload_n 1, 1) := by decide +kernel
theorem dX12_shortest_180 : decode cX12_shortest 180 = .ok (.iload 7, 2) := by decide +kernel
theorem dX12_shortest_182 : decode cX12_shortest 182 = .ok (.invokestatic 173, 3) := by decide +kernel
theorem dX12_shortest_185 : decode cX12_shortest 185 = .ok (.ifCond .eq 13, 3) := by decide +kernel
theorem dX12_shortest_188 : decode cX12_shortest 188 = .ok (.iload 5, 2) := by decide +kernel
theorem dX12_shortest_190 : decode cX12_shortest 190 = .ok (.iload 7, 2) := by decide +kernel
theorem dX12_shortest_192 : decode cX12_shortest 192 = .ok (.invokestatic 173, 3) := by decide +kernel
theorem dX12_shortest_195 : decode cX12_shortest 195 = .ok (.ifCond .eq 9, 3) := by decide +kernel
theorem dX12_shortest_198 : decode cX12_shortest 198 = .ok (.iinc 7 1, 3) := by decide +kernel
theorem dX12_shortest_201 : decode cX12_shortest 201 = .ok (.goto (-33), 3) := by decide +kernel
theorem dX12_shortest_204 : decode cX12_shortest 204 = .ok (.aload_n 0, 1) := by decide +kernel
theorem dX12_shortest_205 : decode cX12_shortest 205 = .ok (.getfield 30, 3) := by decide +kernel
theorem dX12_shortest_208 : decode cX12_shortest 208 = .ok (.iload 4, 2) := by decide +kernel
theorem dX12_shortest_210 : decode cX12_shortest 210 = .ok (.iload 7, 2) := by decide +kernel
theorem dX12_shortest_212 : decode cX12_shortest 212 = .ok (.iastore, 1) := by decide +kernel
theorem dX12_shortest_213 : decode cX12_shortest 213 = .ok (.iload 7, 2) := by decide +kernel
theorem dX12_shortest_215 : decode cX12_shortest 215 = .ok (.aload_n 0, 1) := by decide +kernel
theorem dX12_shortest_216 : decode cX12_shortest 216 = .ok (.getfield 7, 3) := by decide +kernel
theorem dX12_shortest_219 : decode cX12_shortest 219 = .ok (.iconst 0, 1) := by decide +kernel
theorem dX12_shortest_220 : decode cX12_shortest 220 = .ok (.iaload, 1) := by decide +kernel
theorem dX12_shortest_221 : decode cX12_shortest 221 = .ok (.if_icmp .ne 9, 3) := by decide +kernel
theorem dX12_shortest_224 : decode cX12_shortest 224 = .ok (.iinc 4 (-1), 3) := by decide +kernel
theorem dX12_shortest_227 : decode cX12_shortest 227 = .ok (.goto 48, 3) := by decide +kernel
theorem dX12_shortest_230 : decode cX12_shortest 230 = .ok (.aload_n 0, 1) := by decide +kernel
theorem dX12_shortest_231 : decode cX12_shortest 231 = .ok (.getfield 33, 3) := by decide +kernel
theorem dX12_shortest_234 : decode cX12_shortest 234 = .ok (.iload 4, 2) := by decide +kernel
theorem dX12_shortest_236 : decode cX12_shortest 236 = .ok (.iconst 1, 1) := by decide +kernel
theorem dX12_shortest_237 : decode cX12_shortest 237 = .ok (.iadd, 1) := by decide +kernel
theorem dX12_shortest_238 : decode cX12_shortest 238 = .ok (.aload_n 0, 1) := by decide +kernel
theorem dX12_shortest_239 : decode cX12_shortest 239 = .ok (.getfield 33, 3) := by decide +kernel
theorem dX12_shortest_242 : decode cX12_shortest 242 = .ok (.iload 4, 2) := by decide +kernel
theorem dX12_shortest_244 : decode cX12_shortest 244 = .ok (.iaload, 1) := by decide +kernel
theorem dX12_shortest_245 : decode cX12_shortest 245 = .ok (.iconst 1, 1) := by decide +kernel
theorem dX12_shortest_246 : decode cX12_shortest 246 = .ok (.iadd, 1) := by decide +kernel
theorem dX12_shortest_247 : decode cX12_shortest 247 = .ok (.iload 6, 2) := by decide +kernel
theorem dX12_shortest_249 : decode cX12_shortest 249 = .ok (.aload_n 0, 1) := by decide +kernel
theorem dX12_shortest_250 : decode cX12_shortest 250 = .ok (.getfield 7, 3) := by decide +kernel
theorem dX12_shortest_253 : decode cX12_shortest 253 = .ok (.bipush 11, 2) := by decide +kernel
theorem dX12_shortest_255 : decode cX12_shortest 255 = .ok (.iload 7, 2) := by decide +kernel
theorem dX12_shortest_257 : decode cX12_shortest 257 = .ok (.iadd, 1) := by decide +kernel
theorem dX12_shortest_258 : decode cX12_shortest 258 = .ok (.iaload, 1) := by decide +kernel
theorem dX12_shortest_259 : decode cX12_shortest 259 = .ok (.invokestatic 226, 3) := by decide +kernel
theorem dX12_shortest_262 : decode cX12_shortest 262 = .ok (.iadd, 1) := by decide +kernel
theorem dX12_shortest_263 : decode cX12_shortest 263 = .ok (.iastore, 1) := by decide +kernel
theorem dX12_shortest_264 : decode cX12_shortest 264 = .ok (.iinc 4 1, 3) := by decide +kernel
theorem dX12_shortest_267 : decode cX12_shortest 267 = .ok (.aload_n 0, 1) := by decide +kernel
theorem dX12_shortest_268 : decode cX12_shortest 268 = .ok (.getfield 30, 3) := by decide +kernel
theorem dX12_shortest_271 : decode cX12_shortest 271 = .ok (.iload 4, 2) := by decide +kernel
theorem dX12_shortest_273 : decode cX12_shortest 273 = .ok (.iconst (-1), 1) := by decide +kernel
theorem dX12_shortest_274 : decode cX12_shortest 274 = .ok (.iastore, 1) := by decide +kernel
theorem dX12_shortest_275 : decode cX12_shortest 275 = .ok (.goto (-250), 3) := by decide +kernel
theorem dX12_shortest_278 : decode cX12_shortest 278 = .ok (.iload_n 3, 1) := by decide +kernel
theorem dX12_shortest_279 : decode cX12_shortest 279 = .ok (.ireturn, 1) := by decide +kernel
set_option maxRecDepth 20000 in
theorem ggX12_round_X12_areKeepers : GoodIn wsX12_round wsX12_areKeepers := goodIn_r _ [6, 7, 8, 9, 5, 10, 32, 33, 34, 35, 36, 37, 38, 39, 40, 41, 42, 43, 44, 45, 46, 47, 48, 49, 50, 51] (by decide +kernel) (by decide +kernel)
set_option maxRecDepth 20000 in
theorem gX12_round_X12_areKeepers : GoodIn wsX12_round (wsV RX12 229 RX12 yX12_areKeepers wsX12_areKeepers) := goodIn_app (goodIn_of _ (by decide +kernel)) ggX12_round_X12_areKeepers
set_option maxRecDepth 20000 in
theorem ggX12_round_X12_bad : GoodIn wsX12_round wsX12_bad := goodIn_r _ [14, 15, 32, 33, 34, 35, 36, 37, 38, 39, 40, 41, 42, 43, 44, 45, 46, 47, 48, 49, 50, 51] (by decide +kernel) (by decide +kernel)
set_option maxRecDepth 20000 in
theorem gX12_round_X12_bad : GoodIn wsX12_round (wsV RX12 77 RX12 yX12_bad wsX12_bad) := goodIn_app (goodIn_of _ (by decide +kernel)) ggX12_round_X12_bad
set_option maxRecDepth 20000 in
theorem ggX12_round_X12_shortest : GoodIn wsX12_round wsX12_shortest := goodIn_r _ [19, 20, 21, 22, 7, 1, 23, 24, 5, 25, 26, 27, 28, 29, 30, 31, 32, 33, 34, 35, 36, 37, 38, 39, 40, 41, 42, 43, 44, 45, 46, 47, 48, 49, 50, 51] (by decide +kernel) (by decide +kernel)
set_option maxRecDepth 20000 in
theorem gX12_round_X12_shortest : GoodIn wsX12_round (wsV RX12 232 RX12 yX12_shortest wsX12_shortest) := goodIn_app (goodIn_of _ (by decide +kernel)) ggX12_round_X12_shortest
set_option maxRecDepth 20000 in
theorem ggX12_round_X12_ones : GoodIn wsX12_round wsX12_ones := goodIn_r _ [25] (by decide +kernel) (by decide +kernel)
set_option maxRecDepth 20000 in
theorem gX12_round_X12_ones : GoodIn wsX12_round (va_wsS RX12 223 yX12_ones wsX12_ones) := goodIn_app (goodIn_of _ (by decide +kernel)) ggX12_round_X12_ones
theorem dX12_round_0 : decode cX12_round 0 = .ok (.aload_n 0, 1) := by decide +kernel
theorem dX12_round_1 : decode cX12_round 1 = .ok (.iload_n 1, 1) := by decide +kernel
theorem dX12_round_2 : decode cX12_round 2 = .ok (.invokevirtual 229, 3) := by decide +kernel
theorem dX12_round_5 : decode cX12_round 5 = .ok (.ifCond .eq 12, 3) := by decide +kernel
theorem dX12_round_8 : decode cX12_round 8 = .ok (.iload_n 1, 1) := by decide +kernel
theorem dX12_round_9 : decode cX12_round 9 = .ok (.ifCond .eq 8, 3) := by decide +kernel
theorem dX12_round_12 : decode cX12_round 12 = .ok (.iload_n 2, 1) := by decide +kernel
theorem dX12_round_13 : decode cX12_round 13 = .ok (.iconst (-1), 1) := by decide +kernel
theorem dX12_round_14 : decode cX12_round 14 = .ok (.if_icmp .ge 10, 3) := by decide +kernel
theorem dX12_round_17 : decode cX12_round 17 = .ok (.aload_n 0, 1) := by decide +kernel
theorem dX12_round_18 : decode cX12_round 18 = .ok (.bipush (-10), 2) := by decide +kernel
theorem dX12_round_20 : decode cX12_round 20 = .ok (.invokevirtual 77, 3) := by decide +kernel
theorem dX12_round_23 : decode cX12_round 23 = .ok (.ireturn, 1) := by decide +kernel
theorem dX12_round_24 : decode cX12_round 24 = .ok (.aload_n 0, 1) := by decide +kernel
theorem dX12_round_25 : decode cX12_round 25 = .ok (.iload_n 1, 1) := by decide +kernel
theorem dX12_round_26 : decode cX12_round 26 = .ok (.invokevirtual 232, 3) := by decide +kernel
theorem dX12_round_29 : decode cX12_round 29 = .ok (.istore_n 3, 1) := by decide +kernel
theorem dX12_round_30 : decode cX12_round 30 = .ok (.iload_n 2, 1) := by decide +kernel
theorem dX12_round_31 : decode cX12_round 31 = .ok (.iconst (-1), 1) := by decide +kernel
theorem dX12_round_32 : decode cX12_round 32 = .ok (.if_icmp .ne 7, 3) := by decide +kernel
theorem dX12_round_35 : decode cX12_round 35 = .ok (.iload_n 3, 1) := by decide +kernel
theorem dX12_round_36 : decode cX12_round 36 = .ok (.goto 22, 3) := by decide +kernel
theorem dX12_round_39 : decode cX12_round 39 = .ok (.iload_n 2, 1) := by decide +kernel
theorem dX12_round_40 : decode cX12_round 40 = .ok (.iload_n 1, 1) := by decide +kernel
theorem dX12_round_41 : decode cX12_round 41 = .ok (.invokestatic 223, 3) := by decide +kernel
theorem dX12_round_44 : decode cX12_round 44 = .ok (.if_icmp .ge 12, 3) := by decide +kernel
theorem dX12_round_47 : decode cX12_round 47 = .ok (.aload_n 0, 1) := by decide +kernel
theorem dX12_round_48 : decode cX12_round 48 = .ok (.getfield 36, 3) := by decide +kernel
theorem dX12_round_51 : decode cX12_round 51 = .ok (.iload_n 2, 1) := by decide +kernel
theorem dX12_round_52 : decode cX12_round 52 = .ok (.iaload, 1) := by decide +kernel
theorem dX12_round_53 : decode cX12_round 53 = .ok (.goto 5, 3) := by decide +kernel
theorem dX12_round_56 : decode cX12_round 56 = .ok (.bipush (-5), 2) := by decide +kernel
theorem dX12_round_58 : decode cX12_round 58 = .ok (.ireturn, 1) := by decide +kernel
set_option maxRecDepth 20000 in
theorem ggX12_gifts_X12_areKeepers : GoodIn wsX12_gifts wsX12_areKeepers := goodIn_r _ [6, 1, 7, 8, 5, 9, 25, 26, 27, 28, 29, 30, 31, 32, 33, 34, 35, 36, 37, 38, 39, 40, 41, 42, 43, 44] (by decide +kernel) (by decide +kernel)
set_option maxRecDepth 20000 in
theorem gX12_gifts_X12_areKeepers : GoodIn wsX12_gifts (wsV RX12 229 RX12 yX12_areKeepers wsX12_areKeepers) := goodIn_app (goodIn_of _ (by decide +kernel)) ggX12_gifts_X12_areKeepers
set_option maxRecDepth 20000 in
theorem ggX12_gifts_X12_bad : GoodIn wsX12_gifts wsX12_bad := goodIn_r _ [13, 14, 25, 26, 27, 28, 29, 30, 31, 32, 33, 34, 35, 36, 37, 38, 39, 40, 41, 42, 43, 44] (by decide +kernel) (by decide +kernel)
set_option maxRecDepth 20000 in
theorem gX12_gifts_X12_bad : GoodIn wsX12_gifts (wsV RX12 77 RX12 yX12_bad wsX12_bad) := goodIn_app (goodIn_of _ (by decide +kernel)) ggX12_gifts_X12_bad
set_option maxRecDepth 20000 in
theorem ggX12_gifts_X12_has : GoodIn wsX12_gifts wsX12_has := goodIn_r _ [17] (by decide +kernel) (by decide +kernel)
set_option maxRecDepth 20000 in
theorem gX12_gifts_X12_has : GoodIn wsX12_gifts (va_wsS RX12 173 yX12_has wsX12_has) := goodIn_app (goodIn_of _ (by decide +kernel)) ggX12_gifts_X12_has
set_option maxRecDepth 20000 in
theorem ggX12_gifts_X12_wouldLend : GoodIn wsX12_gifts wsX12_wouldLend := goodIn_r _ [21, 1, 22, 23, 5, 24, 25, 26, 27, 28, 29, 30, 31, 32, 33, 34, 35, 36, 37, 38, 39, 40, 41, 42, 43, 44] (by decide +kernel) (by decide +kernel)
set_option maxRecDepth 20000 in
theorem gX12_gifts_X12_wouldLend : GoodIn wsX12_gifts (wsV RX12 179 RX12 yX12_wouldLend wsX12_wouldLend) := goodIn_app (goodIn_of _ (by decide +kernel)) ggX12_gifts_X12_wouldLend
theorem dX12_gifts_0 : decode cX12_gifts 0 = .ok (.aload_n 0, 1) := by decide +kernel
theorem dX12_gifts_1 : decode cX12_gifts 1 = .ok (.iload_n 1, 1) := by decide +kernel
theorem dX12_gifts_2 : decode cX12_gifts 2 = .ok (.invokevirtual 229, 3) := by decide +kernel
theorem dX12_gifts_5 : decode cX12_gifts 5 = .ok (.ifCond .ne 10, 3) := by decide +kernel
theorem dX12_gifts_8 : decode cX12_gifts 8 = .ok (.aload_n 0, 1) := by decide +kernel
theorem dX12_gifts_9 : decode cX12_gifts 9 = .ok (.bipush (-2), 2) := by decide +kernel
theorem dX12_gifts_11 : decode cX12_gifts 11 = .ok (.invokevirtual 77, 3) := by decide +kernel
theorem dX12_gifts_14 : decode cX12_gifts 14 = .ok (.ireturn, 1) := by decide +kernel
theorem dX12_gifts_15 : decode cX12_gifts 15 = .ok (.iconst 0, 1) := by decide +kernel
theorem dX12_gifts_16 : decode cX12_gifts 16 = .ok (.istore_n 2, 1) := by decide +kernel
theorem dX12_gifts_17 : decode cX12_gifts 17 = .ok (.iconst 0, 1) := by decide +kernel
theorem dX12_gifts_18 : decode cX12_gifts 18 = .ok (.istore_n 3, 1) := by decide +kernel
theorem dX12_gifts_19 : decode cX12_gifts 19 = .ok (.iload_n 3, 1) := by decide +kernel
theorem dX12_gifts_20 : decode cX12_gifts 20 = .ok (.aload_n 0, 1) := by decide +kernel
theorem dX12_gifts_21 : decode cX12_gifts 21 = .ok (.getfield 7, 3) := by decide +kernel
theorem dX12_gifts_24 : decode cX12_gifts 24 = .ok (.iconst 0, 1) := by decide +kernel
theorem dX12_gifts_25 : decode cX12_gifts 25 = .ok (.iaload, 1) := by decide +kernel
theorem dX12_gifts_26 : decode cX12_gifts 26 = .ok (.if_icmp .ge 70, 3) := by decide +kernel
theorem dX12_gifts_29 : decode cX12_gifts 29 = .ok (.iload_n 1, 1) := by decide +kernel
theorem dX12_gifts_30 : decode cX12_gifts 30 = .ok (.iload_n 3, 1) := by decide +kernel
theorem dX12_gifts_31 : decode cX12_gifts 31 = .ok (.invokestatic 173, 3) := by decide +kernel
theorem dX12_gifts_34 : decode cX12_gifts 34 = .ok (.ifCond .eq 56, 3) := by decide +kernel
theorem dX12_gifts_37 : decode cX12_gifts 37 = .ok (.aload_n 0, 1) := by decide +kernel
theorem dX12_gifts_38 : decode cX12_gifts 38 = .ok (.getfield 7, 3) := by decide +kernel
theorem dX12_gifts_41 : decode cX12_gifts 41 = .ok (.iconst 3, 1) := by decide +kernel
theorem dX12_gifts_42 : decode cX12_gifts 42 = .ok (.iaload, 1) := by decide +kernel
theorem dX12_gifts_43 : decode cX12_gifts 43 = .ok (.iload_n 3, 1) := by decide +kernel
theorem dX12_gifts_44 : decode cX12_gifts 44 = .ok (.invokestatic 173, 3) := by decide +kernel
theorem dX12_gifts_47 : decode cX12_gifts 47 = .ok (.ifCond .ne 43, 3) := by decide +kernel
theorem dX12_gifts_50 : decode cX12_gifts 50 = .ok (.iconst 0, 1) := by decide +kernel
theorem dX12_gifts_51 : decode cX12_gifts 51 = .ok (.istore 4, 2) := by decide +kernel
theorem dX12_gifts_53 : decode cX12_gifts 53 = .ok (.iload 4, 2) := by decide +kernel
theorem dX12_gifts_55 : decode cX12_gifts 55 = .ok (.bipush 10, 2) := by decide +kernel
theorem dX12_gifts_57 : decode cX12_gifts 57 = .ok (.if_icmp .ge 19, 3) := by decide +kernel
theorem dX12_gifts_60 : decode cX12_gifts 60 = .ok (.aload_n 0, 1) := by decide +kernel
theorem dX12_gifts_61 : decode cX12_gifts 61 = .ok (.iload_n 3, 1) := by decide +kernel
theorem dX12_gifts_62 : decode cX12_gifts 62 = .ok (.iload 4, 2) := by decide +kernel
theorem dX12_gifts_64 : decode cX12_gifts 64 = .ok (.invokevirtual 179, 3) := by decide +kernel
theorem dX12_gifts_67 : decode cX12_gifts 67 = .ok (.ifCond .ne 9, 3) := by decide +kernel
theorem dX12_gifts_70 : decode cX12_gifts 70 = .ok (.iinc 4 1, 3) := by decide +kernel
theorem dX12_gifts_73 : decode cX12_gifts 73 = .ok (.goto (-20), 3) := by decide +kernel
theorem dX12_gifts_76 : decode cX12_gifts 76 = .ok (.iload 4, 2) := by decide +kernel
theorem dX12_gifts_78 : decode cX12_gifts 78 = .ok (.bipush 10, 2) := by decide +kernel
theorem dX12_gifts_80 : decode cX12_gifts 80 = .ok (.if_icmp .ne 5, 3) := by decide +kernel
theorem dX12_gifts_83 : decode cX12_gifts 83 = .ok (.iconst (-1), 1) := by decide +kernel
theorem dX12_gifts_84 : decode cX12_gifts 84 = .ok (.ireturn, 1) := by decide +kernel
theorem dX12_gifts_85 : decode cX12_gifts 85 = .ok (.iload_n 2, 1) := by decide +kernel
theorem dX12_gifts_86 : decode cX12_gifts 86 = .ok (.iload 4, 2) := by decide +kernel
theorem dX12_gifts_88 : decode cX12_gifts 88 = .ok (.iadd, 1) := by decide +kernel
theorem dX12_gifts_89 : decode cX12_gifts 89 = .ok (.istore_n 2, 1) := by decide +kernel
theorem dX12_gifts_90 : decode cX12_gifts 90 = .ok (.iinc 3 1, 3) := by decide +kernel
theorem dX12_gifts_93 : decode cX12_gifts 93 = .ok (.goto (-74), 3) := by decide +kernel
theorem dX12_gifts_96 : decode cX12_gifts 96 = .ok (.iload_n 2, 1) := by decide +kernel
theorem dX12_gifts_97 : decode cX12_gifts 97 = .ok (.ireturn, 1) := by decide +kernel
set_option maxRecDepth 20000 in
theorem ggX12_sumOf_X12_has : GoodIn wsX12_sumOf wsX12_has := goodIn_r _ [5] (by decide +kernel) (by decide +kernel)
set_option maxRecDepth 20000 in
theorem gX12_sumOf_X12_has : GoodIn wsX12_sumOf (va_wsS RX12 173 yX12_has wsX12_has) := goodIn_app (goodIn_of _ (by decide +kernel)) ggX12_sumOf_X12_has
theorem dX12_sumOf_0 : decode cX12_sumOf 0 = .ok (.iconst 0, 1) := by decide +kernel
theorem dX12_sumOf_1 : decode cX12_sumOf 1 = .ok (.istore_n 3, 1) := by decide +kernel
theorem dX12_sumOf_2 : decode cX12_sumOf 2 = .ok (.iconst 0, 1) := by decide +kernel
theorem dX12_sumOf_3 : decode cX12_sumOf 3 = .ok (.istore 4, 2) := by decide +kernel
theorem dX12_sumOf_5 : decode cX12_sumOf 5 = .ok (.iload 4, 2) := by decide +kernel
theorem dX12_sumOf_7 : decode cX12_sumOf 7 = .ok (.aload_n 0, 1) := by decide +kernel
theorem dX12_sumOf_8 : decode cX12_sumOf 8 = .ok (.getfield 7, 3) := by decide +kernel
theorem dX12_sumOf_11 : decode cX12_sumOf 11 = .ok (.iconst 0, 1) := by decide +kernel
theorem dX12_sumOf_12 : decode cX12_sumOf 12 = .ok (.iaload, 1) := by decide +kernel
theorem dX12_sumOf_13 : decode cX12_sumOf 13 = .ok (.if_icmp .ge 34, 3) := by decide +kernel
theorem dX12_sumOf_16 : decode cX12_sumOf 16 = .ok (.iload_n 3, 1) := by decide +kernel
theorem dX12_sumOf_17 : decode cX12_sumOf 17 = .ok (.iload_n 2, 1) := by decide +kernel
theorem dX12_sumOf_18 : decode cX12_sumOf 18 = .ok (.iload 4, 2) := by decide +kernel
theorem dX12_sumOf_20 : decode cX12_sumOf 20 = .ok (.invokestatic 173, 3) := by decide +kernel
theorem dX12_sumOf_23 : decode cX12_sumOf 23 = .ok (.ifCond .eq 15, 3) := by decide +kernel
theorem dX12_sumOf_26 : decode cX12_sumOf 26 = .ok (.aload_n 0, 1) := by decide +kernel
theorem dX12_sumOf_27 : decode cX12_sumOf 27 = .ok (.getfield 7, 3) := by decide +kernel
theorem dX12_sumOf_30 : decode cX12_sumOf 30 = .ok (.iload_n 1, 1) := by decide +kernel
theorem dX12_sumOf_31 : decode cX12_sumOf 31 = .ok (.iload 4, 2) := by decide +kernel
theorem dX12_sumOf_33 : decode cX12_sumOf 33 = .ok (.iadd, 1) := by decide +kernel
theorem dX12_sumOf_34 : decode cX12_sumOf 34 = .ok (.iaload, 1) := by decide +kernel
theorem dX12_sumOf_35 : decode cX12_sumOf 35 = .ok (.goto 4, 3) := by decide +kernel
theorem dX12_sumOf_38 : decode cX12_sumOf 38 = .ok (.iconst 0, 1) := by decide +kernel
theorem dX12_sumOf_39 : decode cX12_sumOf 39 = .ok (.iadd, 1) := by decide +kernel
theorem dX12_sumOf_40 : decode cX12_sumOf 40 = .ok (.istore_n 3, 1) := by decide +kernel
theorem dX12_sumOf_41 : decode cX12_sumOf 41 = .ok (.iinc 4 1, 3) := by decide +kernel
theorem dX12_sumOf_44 : decode cX12_sumOf 44 = .ok (.goto (-39), 3) := by decide +kernel
theorem dX12_sumOf_47 : decode cX12_sumOf 47 = .ok (.iload_n 3, 1) := by decide +kernel
theorem dX12_sumOf_48 : decode cX12_sumOf 48 = .ok (.ireturn, 1) := by decide +kernel
set_option maxRecDepth 20000 in
theorem ggX12_arePans_X12_areKeepers : GoodIn wsX12_arePans wsX12_areKeepers := goodIn_r _ [5, 6, 7, 8, 4, 9, 10, 11, 12, 13, 14, 15, 16, 17, 18, 19, 20, 21, 22, 23, 24, 25, 26, 27, 28, 29] (by decide +kernel) (by decide +kernel)
set_option maxRecDepth 20000 in
theorem gX12_arePans_X12_areKeepers : GoodIn wsX12_arePans (wsV RX12 229 RX12 yX12_areKeepers wsX12_areKeepers) := goodIn_app (goodIn_of _ (by decide +kernel)) ggX12_arePans_X12_areKeepers
theorem dX12_arePans_0 : decode cX12_arePans 0 = .ok (.aload_n 0, 1) := by decide +kernel
theorem dX12_arePans_1 : decode cX12_arePans 1 = .ok (.iload_n 1, 1) := by decide +kernel
theorem dX12_arePans_2 : decode cX12_arePans 2 = .ok (.invokevirtual 229, 3) := by decide +kernel
theorem dX12_arePans_5 : decode cX12_arePans 5 = .ok (.ifCond .eq 21, 3) := by decide +kernel
theorem dX12_arePans_8 : decode cX12_arePans 8 = .ok (.aload_n 0, 1) := by decide +kernel
theorem dX12_arePans_9 : decode cX12_arePans 9 = .ok (.iload_n 2, 1) := by decide +kernel
theorem dX12_arePans_10 : decode cX12_arePans 10 = .ok (.invokevirtual 229, 3) := by decide +kernel
theorem dX12_arePans_13 : decode cX12_arePans 13 = .ok (.ifCond .eq 13, 3) := by decide +kernel
theorem dX12_arePans_16 : decode cX12_arePans 16 = .ok (.iload_n 1, 1) := by decide +kernel
theorem dX12_arePans_17 : decode cX12_arePans 17 = .ok (.iload_n 2, 1) := by decide +kernel
theorem dX12_arePans_18 : decode cX12_arePans 18 = .ok (.iand, 1) := by decide +kernel
theorem dX12_arePans_19 : decode cX12_arePans 19 = .ok (.ifCond .ne 7, 3) := by decide +kernel
theorem dX12_arePans_22 : decode cX12_arePans 22 = .ok (.iconst 1, 1) := by decide +kernel
theorem dX12_arePans_23 : decode cX12_arePans 23 = .ok (.goto 4, 3) := by decide +kernel
theorem dX12_arePans_26 : decode cX12_arePans 26 = .ok (.iconst 0, 1) := by decide +kernel
theorem dX12_arePans_27 : decode cX12_arePans 27 = .ok (.ireturn, 1) := by decide +kernel
set_option maxRecDepth 20000 in
theorem ggX12_tips_X12_isBalance : GoodIn wsX12_tips wsX12_isBalance := goodIn_r _ [6, 1, 7, 8, 5, 9, 41, 42, 43, 44, 45, 46, 47, 48, 49, 50, 51, 52, 53, 54, 55, 56, 57, 58, 59, 60] (by decide +kernel) (by decide +kernel)
set_option maxRecDepth 20000 in
theorem gX12_tips_X12_isBalance : GoodIn wsX12_tips (wsV RX12 235 RX12 yX12_isBalance wsX12_isBalance) := goodIn_app (goodIn_of _ (by decide +kernel)) ggX12_tips_X12_isBalance
set_option maxRecDepth 20000 in
theorem ggX12_tips_X12_arePans : GoodIn wsX12_tips wsX12_arePans := goodIn_r _ [13, 14, 15, 16, 5, 17, 1, 7, 8, 9, 41, 42, 43, 44, 45, 46, 47, 48, 49, 50, 51, 52, 53, 54, 55, 56, 57, 58, 59, 60] (by decide +kernel) (by decide +kernel)
set_option maxRecDepth 20000 in
theorem gX12_tips_X12_arePans : GoodIn wsX12_tips (wsV RX12 238 RX12 yX12_arePans wsX12_arePans) := goodIn_app (goodIn_of _ (by decide +kernel)) ggX12_tips_X12_arePans
set_option maxRecDepth 20000 in
theorem ggX12_tips_X12_bad : GoodIn wsX12_tips wsX12_bad := goodIn_r _ [21, 22, 41, 42, 43, 44, 45, 46, 47, 48, 49, 50, 51, 52, 53, 54, 55, 56, 57, 58, 59, 60] (by decide +kernel) (by decide +kernel)
set_option maxRecDepth 20000 in
theorem gX12_tips_X12_bad : GoodIn wsX12_tips (wsV RX12 77 RX12 yX12_bad wsX12_bad) := goodIn_app (goodIn_of _ (by decide +kernel)) ggX12_tips_X12_bad
set_option maxRecDepth 20000 in
theorem ggX12_tips_X12_sumOf : GoodIn wsX12_tips wsX12_sumOf := goodIn_r _ [26, 1, 27, 28, 5, 29, 41, 42, 43, 44, 45, 46, 47, 48, 49, 50, 51, 52, 53, 54, 55, 56, 57, 58, 59, 60] (by decide +kernel) (by decide +kernel)
set_option maxRecDepth 20000 in
theorem gX12_tips_X12_sumOf : GoodIn wsX12_tips (wsV RX12 241 RX12 yX12_sumOf wsX12_sumOf) := goodIn_app (goodIn_of _ (by decide +kernel)) ggX12_tips_X12_sumOf
set_option maxRecDepth 20000 in
theorem ggX12_tips_X12_tipOf : GoodIn wsX12_tips wsX12_tipOf := goodIn_r _ [32, 33, 34, 5, 35, 36, 37, 7, 8, 9, 38, 39, 40] (by decide +kernel) (by decide +kernel)
set_option maxRecDepth 20000 in
theorem gX12_tips_X12_tipOf : GoodIn wsX12_tips (va_wsS RX12 244 yX12_tipOf wsX12_tipOf) := goodIn_app (goodIn_of _ (by decide +kernel)) ggX12_tips_X12_tipOf
theorem dX12_tips_0 : decode cX12_tips 0 = .ok (.aload_n 0, 1) := by decide +kernel
theorem dX12_tips_1 : decode cX12_tips 1 = .ok (.iload_n 1, 1) := by decide +kernel
theorem dX12_tips_2 : decode cX12_tips 2 = .ok (.invokevirtual 235, 3) := by decide +kernel
theorem dX12_tips_5 : decode cX12_tips 5 = .ok (.ifCond .eq 12, 3) := by decide +kernel
theorem dX12_tips_8 : decode cX12_tips 8 = .ok (.aload_n 0, 1) := by decide +kernel
theorem dX12_tips_9 : decode cX12_tips 9 = .ok (.iload_n 2, 1) := by decide +kernel
theorem dX12_tips_10 : decode cX12_tips 10 = .ok (.iload_n 3, 1) := by decide +kernel
theorem dX12_tips_11 : decode cX12_tips 11 = .ok (.invokevirtual 238, 3) := by decide +kernel
theorem dX12_tips_14 : decode cX12_tips 14 = .ok (.ifCond .ne 10, 3) := by decide +kernel
theorem dX12_tips_17 : decode cX12_tips 17 = .ok (.aload_n 0, 1) := by decide +kernel
theorem dX12_tips_18 : decode cX12_tips 18 = .ok (.bipush (-2), 2) := by decide +kernel
theorem dX12_tips_20 : decode cX12_tips 20 = .ok (.invokevirtual 77, 3) := by decide +kernel
theorem dX12_tips_23 : decode cX12_tips 23 = .ok (.ireturn, 1) := by decide +kernel
theorem dX12_tips_24 : decode cX12_tips 24 = .ok (.aload_n 0, 1) := by decide +kernel
theorem dX12_tips_25 : decode cX12_tips 25 = .ok (.getfield 7, 3) := by decide +kernel
theorem dX12_tips_28 : decode cX12_tips 28 = .ok (.bipush 39, 2) := by decide +kernel
theorem dX12_tips_30 : decode cX12_tips 30 = .ok (.iload_n 1, 1) := by decide +kernel
theorem dX12_tips_31 : decode cX12_tips 31 = .ok (.iadd, 1) := by decide +kernel
theorem dX12_tips_32 : decode cX12_tips 32 = .ok (.iaload, 1) := by decide +kernel
theorem dX12_tips_33 : decode cX12_tips 33 = .ok (.aload_n 0, 1) := by decide +kernel
theorem dX12_tips_34 : decode cX12_tips 34 = .ok (.bipush 18, 2) := by decide +kernel
theorem dX12_tips_36 : decode cX12_tips 36 = .ok (.iload_n 2, 1) := by decide +kernel
theorem dX12_tips_37 : decode cX12_tips 37 = .ok (.invokevirtual 241, 3) := by decide +kernel
theorem dX12_tips_40 : decode cX12_tips 40 = .ok (.aload_n 0, 1) := by decide +kernel
theorem dX12_tips_41 : decode cX12_tips 41 = .ok (.bipush 18, 2) := by decide +kernel
theorem dX12_tips_43 : decode cX12_tips 43 = .ok (.iload_n 3, 1) := by decide +kernel
theorem dX12_tips_44 : decode cX12_tips 44 = .ok (.invokevirtual 241, 3) := by decide +kernel
theorem dX12_tips_47 : decode cX12_tips 47 = .ok (.invokestatic 244, 3) := by decide +kernel
theorem dX12_tips_50 : decode cX12_tips 50 = .ok (.ireturn, 1) := by decide +kernel
set_option maxRecDepth 20000 in
theorem ggX12_reading_X12_arePans : GoodIn wsX12_reading wsX12_arePans := goodIn_r _ [7, 8, 9, 10, 6, 11, 2, 12, 13, 14, 24, 25, 26, 27, 28, 29, 30, 31, 32, 33, 34, 35, 36, 37, 38, 39, 40, 41, 42, 43] (by decide +kernel) (by decide +kernel)
set_option maxRecDepth 20000 in
theorem gX12_reading_X12_arePans : GoodIn wsX12_reading (wsV RX12 238 RX12 yX12_arePans wsX12_arePans) := goodIn_app (goodIn_of _ (by decide +kernel)) ggX12_reading_X12_arePans
set_option maxRecDepth 20000 in
theorem ggX12_reading_X12_in : GoodIn wsX12_reading wsX12_in := goodIn_r _ [14] (by decide +kernel) (by decide +kernel)
set_option maxRecDepth 20000 in
theorem gX12_reading_X12_in : GoodIn wsX12_reading (va_wsS RX12 49 yX12_in wsX12_in) := goodIn_app (goodIn_of _ (by decide +kernel)) ggX12_reading_X12_in
set_option maxRecDepth 20000 in
theorem ggX12_reading_X12_bad : GoodIn wsX12_reading wsX12_bad := goodIn_r _ [18, 19, 24, 25, 26, 27, 28, 29, 30, 31, 32, 33, 34, 35, 36, 37, 38, 39, 40, 41, 42, 43] (by decide +kernel) (by decide +kernel)
set_option maxRecDepth 20000 in
theorem gX12_reading_X12_bad : GoodIn wsX12_reading (wsV RX12 77 RX12 yX12_bad wsX12_bad) := goodIn_app (goodIn_of _ (by decide +kernel)) ggX12_reading_X12_bad
set_option maxRecDepth 20000 in
theorem ggX12_reading_X12_full : GoodIn wsX12_reading wsX12_full := goodIn_r _ [23, 19, 24, 25, 26, 27, 28, 29, 30, 31, 32, 33, 34, 35, 36, 37, 38, 39, 40, 41, 42, 43] (by decide +kernel) (by decide +kernel)
set_option maxRecDepth 20000 in
theorem gX12_reading_X12_full : GoodIn wsX12_reading (wsV RX12 81 RX12 yX12_full wsX12_full) := goodIn_app (goodIn_of _ (by decide +kernel)) ggX12_reading_X12_full
theorem dX12_reading_0 : decode cX12_reading 0 = .ok (.aload_n 0, 1) := by decide +kernel
theorem dX12_reading_1 : decode cX12_reading 1 = .ok (.iload_n 1, 1) := by decide +kernel
theorem dX12_reading_2 : decode cX12_reading 2 = .ok (.iload_n 2, 1) := by decide +kernel
theorem dX12_reading_3 : decode cX12_reading 3 = .ok (.invokevirtual 238, 3) := by decide +kernel
theorem dX12_reading_6 : decode cX12_reading 6 = .ok (.ifCond .eq 15, 3) := by decide +kernel
theorem dX12_reading_9 : decode cX12_reading 9 = .ok (.iload_n 3, 1) := by decide +kernel
theorem dX12_reading_10 : decode cX12_reading 10 = .ok (.i2l, 1) := by decide +kernel
theorem dX12_reading_11 : decode cX12_reading 11 = .ok (.ldc2_w 247, 3) := by decide +kernel
theorem dX12_reading_14 : decode cX12_reading 14 = .ok (.lconst 1, 1) := by decide +kernel
theorem dX12_reading_15 : decode cX12_reading 15 = .ok (.invokestatic 49, 3) := by decide +kernel
theorem dX12_reading_18 : decode cX12_reading 18 = .ok (.ifCond .ne 10, 3) := by decide +kernel
theorem dX12_reading_21 : decode cX12_reading 21 = .ok (.aload_n 0, 1) := by decide +kernel
theorem dX12_reading_22 : decode cX12_reading 22 = .ok (.bipush (-2), 2) := by decide +kernel
theorem dX12_reading_24 : decode cX12_reading 24 = .ok (.invokevirtual 77, 3) := by decide +kernel
theorem dX12_reading_27 : decode cX12_reading 27 = .ok (.ireturn, 1) := by decide +kernel
theorem dX12_reading_28 : decode cX12_reading 28 = .ok (.aload_n 0, 1) := by decide +kernel
theorem dX12_reading_29 : decode cX12_reading 29 = .ok (.getfield 7, 3) := by decide +kernel
theorem dX12_reading_32 : decode cX12_reading 32 = .ok (.bipush 43, 2) := by decide +kernel
theorem dX12_reading_34 : decode cX12_reading 34 = .ok (.iaload, 1) := by decide +kernel
theorem dX12_reading_35 : decode cX12_reading 35 = .ok (.bipush 6, 2) := by decide +kernel
theorem dX12_reading_37 : decode cX12_reading 37 = .ok (.if_icmp .ne 8, 3) := by decide +kernel
theorem dX12_reading_40 : decode cX12_reading 40 = .ok (.aload_n 0, 1) := by decide +kernel
theorem dX12_reading_41 : decode cX12_reading 41 = .ok (.invokevirtual 81, 3) := by decide +kernel
theorem dX12_reading_44 : decode cX12_reading 44 = .ok (.ireturn, 1) := by decide +kernel
theorem dX12_reading_45 : decode cX12_reading 45 = .ok (.bipush 44, 2) := by decide +kernel
theorem dX12_reading_47 : decode cX12_reading 47 = .ok (.iconst 3, 1) := by decide +kernel
theorem dX12_reading_48 : decode cX12_reading 48 = .ok (.aload_n 0, 1) := by decide +kernel
theorem dX12_reading_49 : decode cX12_reading 49 = .ok (.getfield 7, 3) := by decide +kernel
theorem dX12_reading_52 : decode cX12_reading 52 = .ok (.bipush 43, 2) := by decide +kernel
theorem dX12_reading_54 : decode cX12_reading 54 = .ok (.iaload, 1) := by decide +kernel
theorem dX12_reading_55 : decode cX12_reading 55 = .ok (.imul, 1) := by decide +kernel
theorem dX12_reading_56 : decode cX12_reading 56 = .ok (.iadd, 1) := by decide +kernel
theorem dX12_reading_57 : decode cX12_reading 57 = .ok (.istore 4, 2) := by decide +kernel
theorem dX12_reading_59 : decode cX12_reading 59 = .ok (.aload_n 0, 1) := by decide +kernel
theorem dX12_reading_60 : decode cX12_reading 60 = .ok (.getfield 7, 3) := by decide +kernel
theorem dX12_reading_63 : decode cX12_reading 63 = .ok (.iload 4, 2) := by decide +kernel
theorem dX12_reading_65 : decode cX12_reading 65 = .ok (.iload_n 1, 1) := by decide +kernel
theorem dX12_reading_66 : decode cX12_reading 66 = .ok (.iastore, 1) := by decide +kernel
theorem dX12_reading_67 : decode cX12_reading 67 = .ok (.aload_n 0, 1) := by decide +kernel
theorem dX12_reading_68 : decode cX12_reading 68 = .ok (.getfield 7, 3) := by decide +kernel
theorem dX12_reading_71 : decode cX12_reading 71 = .ok (.iload 4, 2) := by decide +kernel
theorem dX12_reading_73 : decode cX12_reading 73 = .ok (.iconst 1, 1) := by decide +kernel
theorem dX12_reading_74 : decode cX12_reading 74 = .ok (.iadd, 1) := by decide +kernel
theorem dX12_reading_75 : decode cX12_reading 75 = .ok (.iload_n 2, 1) := by decide +kernel
theorem dX12_reading_76 : decode cX12_reading 76 = .ok (.iastore, 1) := by decide +kernel
theorem dX12_reading_77 : decode cX12_reading 77 = .ok (.aload_n 0, 1) := by decide +kernel
theorem dX12_reading_78 : decode cX12_reading 78 = .ok (.getfield 7, 3) := by decide +kernel
theorem dX12_reading_81 : decode cX12_reading 81 = .ok (.iload 4, 2) := by decide +kernel
theorem dX12_reading_83 : decode cX12_reading 83 = .ok (.iconst 2, 1) := by decide +kernel
theorem dX12_reading_84 : decode cX12_reading 84 = .ok (.iadd, 1) := by decide +kernel
theorem dX12_reading_85 : decode cX12_reading 85 = .ok (.iload_n 3, 1) := by decide +kernel
theorem dX12_reading_86 : decode cX12_reading 86 = .ok (.iastore, 1) := by decide +kernel
theorem dX12_reading_87 : decode cX12_reading 87 = .ok (.aload_n 0, 1) := by decide +kernel
theorem dX12_reading_88 : decode cX12_reading 88 = .ok (.getfield 7, 3) := by decide +kernel
theorem dX12_reading_91 : decode cX12_reading 91 = .ok (.bipush 43, 2) := by decide +kernel
theorem dX12_reading_93 : decode cX12_reading 93 = .ok (.dup2, 1) := by decide +kernel
theorem dX12_reading_94 : decode cX12_reading 94 = .ok (.iaload, 1) := by decide +kernel
theorem dX12_reading_95 : decode cX12_reading 95 = .ok (.iconst 1, 1) := by decide +kernel
theorem dX12_reading_96 : decode cX12_reading 96 = .ok (.iadd, 1) := by decide +kernel
theorem dX12_reading_97 : decode cX12_reading 97 = .ok (.iastore, 1) := by decide +kernel
theorem dX12_reading_98 : decode cX12_reading 98 = .ok (.aload_n 0, 1) := by decide +kernel
theorem dX12_reading_99 : decode cX12_reading 99 = .ok (.getfield 7, 3) := by decide +kernel
theorem dX12_reading_102 : decode cX12_reading 102 = .ok (.bipush 43, 2) := by decide +kernel
theorem dX12_reading_104 : decode cX12_reading 104 = .ok (.iaload, 1) := by decide +kernel
theorem dX12_reading_105 : decode cX12_reading 105 = .ok (.ireturn, 1) := by decide +kernel
set_option maxRecDepth 20000 in
theorem ggX12_wasRead_X12_sumOf : GoodIn wsX12_wasRead wsX12_sumOf := goodIn_r _ [6, 1, 7, 8, 5, 9, 13, 14, 15, 16, 17, 18, 19, 20, 21, 22, 23, 24, 25, 26, 27, 28, 29, 30, 31, 32] (by decide +kernel) (by decide +kernel)
set_option maxRecDepth 20000 in
theorem gX12_wasRead_X12_sumOf : GoodIn wsX12_wasRead (wsV RX12 241 RX12 yX12_sumOf wsX12_sumOf) := goodIn_app (goodIn_of _ (by decide +kernel)) ggX12_wasRead_X12_sumOf
set_option maxRecDepth 20000 in
theorem ggX12_wasRead_X12_has : GoodIn wsX12_wasRead wsX12_has := goodIn_r _ [9] (by decide +kernel) (by decide +kernel)
set_option maxRecDepth 20000 in
theorem gX12_wasRead_X12_has : GoodIn wsX12_wasRead (va_wsS RX12 173 yX12_has wsX12_has) := goodIn_app (goodIn_of _ (by decide +kernel)) ggX12_wasRead_X12_has
set_option maxRecDepth 20000 in
theorem ggX12_wasRead_X12_trueTip : GoodIn wsX12_wasRead wsX12_trueTip := goodIn_r _ [12] (by decide +kernel) (by decide +kernel)
set_option maxRecDepth 20000 in
theorem gX12_wasRead_X12_trueTip : GoodIn wsX12_wasRead (va_wsS RX12 61 yX12_trueTip wsX12_trueTip) := goodIn_app (goodIn_of _ (by decide +kernel)) ggX12_wasRead_X12_trueTip
theorem dX12_wasRead_0 : decode cX12_wasRead 0 = .ok (.iconst 1, 1) := by decide +kernel
theorem dX12_wasRead_1 : decode cX12_wasRead 1 = .ok (.istore_n 3, 1) := by decide +kernel
theorem dX12_wasRead_2 : decode cX12_wasRead 2 = .ok (.iconst 0, 1) := by decide +kernel
theorem dX12_wasRead_3 : decode cX12_wasRead 3 = .ok (.istore 4, 2) := by decide +kernel
theorem dX12_wasRead_5 : decode cX12_wasRead 5 = .ok (.iload 4, 2) := by decide +kernel
theorem dX12_wasRead_7 : decode cX12_wasRead 7 = .ok (.aload_n 0, 1) := by decide +kernel
theorem dX12_wasRead_8 : decode cX12_wasRead 8 = .ok (.getfield 7, 3) := by decide +kernel
theorem dX12_wasRead_11 : decode cX12_wasRead 11 = .ok (.bipush 43, 2) := by decide +kernel
theorem dX12_wasRead_13 : decode cX12_wasRead 13 = .ok (.iaload, 1) := by decide +kernel
theorem dX12_wasRead_14 : decode cX12_wasRead 14 = .ok (.if_icmp .ge 123, 3) := by decide +kernel
theorem dX12_wasRead_17 : decode cX12_wasRead 17 = .ok (.aload_n 0, 1) := by decide +kernel
theorem dX12_wasRead_18 : decode cX12_wasRead 18 = .ok (.getfield 7, 3) := by decide +kernel
theorem dX12_wasRead_21 : decode cX12_wasRead 21 = .ok (.bipush 44, 2) := by decide +kernel
theorem dX12_wasRead_23 : decode cX12_wasRead 23 = .ok (.iconst 3, 1) := by decide +kernel
theorem dX12_wasRead_24 : decode cX12_wasRead 24 = .ok (.iload 4, 2) := by decide +kernel
theorem dX12_wasRead_26 : decode cX12_wasRead 26 = .ok (.imul, 1) := by decide +kernel
theorem dX12_wasRead_27 : decode cX12_wasRead 27 = .ok (.iadd, 1) := by decide +kernel
theorem dX12_wasRead_28 : decode cX12_wasRead 28 = .ok (.iaload, 1) := by decide +kernel
theorem dX12_wasRead_29 : decode cX12_wasRead 29 = .ok (.istore 5, 2) := by decide +kernel
theorem dX12_wasRead_31 : decode cX12_wasRead 31 = .ok (.aload_n 0, 1) := by decide +kernel
theorem dX12_wasRead_32 : decode cX12_wasRead 32 = .ok (.getfield 7, 3) := by decide +kernel
theorem dX12_wasRead_35 : decode cX12_wasRead 35 = .ok (.bipush 44, 2) := by decide +kernel
theorem dX12_wasRead_37 : decode cX12_wasRead 37 = .ok (.iconst 3, 1) := by decide +kernel
theorem dX12_wasRead_38 : decode cX12_wasRead 38 = .ok (.iload 4, 2) := by decide +kernel
theorem dX12_wasRead_40 : decode cX12_wasRead 40 = .ok (.imul, 1) := by decide +kernel
theorem dX12_wasRead_41 : decode cX12_wasRead 41 = .ok (.iadd, 1) := by decide +kernel
theorem dX12_wasRead_42 : decode cX12_wasRead 42 = .ok (.iconst 1, 1) := by decide +kernel
theorem dX12_wasRead_43 : decode cX12_wasRead 43 = .ok (.iadd, 1) := by decide +kernel
theorem dX12_wasRead_44 : decode cX12_wasRead 44 = .ok (.iaload, 1) := by decide +kernel
theorem dX12_wasRead_45 : decode cX12_wasRead 45 = .ok (.istore 6, 2) := by decide +kernel
theorem dX12_wasRead_47 : decode cX12_wasRead 47 = .ok (.aload_n 0, 1) := by decide +kernel
theorem dX12_wasRead_48 : decode cX12_wasRead 48 = .ok (.bipush 25, 2) := by decide +kernel
theorem dX12_wasRead_50 : decode cX12_wasRead 50 = .ok (.iload 5, 2) := by decide +kernel
theorem dX12_wasRead_52 : decode cX12_wasRead 52 = .ok (.invokevirtual 241, 3) := by decide +kernel
theorem dX12_wasRead_55 : decode cX12_wasRead 55 = .ok (.iload 5, 2) := by decide +kernel
theorem dX12_wasRead_57 : decode cX12_wasRead 57 = .ok (.iload_n 1, 1) := by decide +kernel
theorem dX12_wasRead_58 : decode cX12_wasRead 58 = .ok (.invokestatic 173, 3) := by decide +kernel
theorem dX12_wasRead_61 : decode cX12_wasRead 61 = .ok (.ifCond .eq 7, 3) := by decide +kernel
theorem dX12_wasRead_64 : decode cX12_wasRead 64 = .ok (.iload_n 2, 1) := by decide +kernel
theorem dX12_wasRead_65 : decode cX12_wasRead 65 = .ok (.goto 4, 3) := by decide +kernel
theorem dX12_wasRead_68 : decode cX12_wasRead 68 = .ok (.iconst 0, 1) := by decide +kernel
theorem dX12_wasRead_69 : decode cX12_wasRead 69 = .ok (.iadd, 1) := by decide +kernel
theorem dX12_wasRead_70 : decode cX12_wasRead 70 = .ok (.istore 7, 2) := by decide +kernel
theorem dX12_wasRead_72 : decode cX12_wasRead 72 = .ok (.aload_n 0, 1) := by decide +kernel
theorem dX12_wasRead_73 : decode cX12_wasRead 73 = .ok (.bipush 25, 2) := by decide +kernel
theorem dX12_wasRead_75 : decode cX12_wasRead 75 = .ok (.iload 6, 2) := by decide +kernel
theorem dX12_wasRead_77 : decode cX12_wasRead 77 = .ok (.invokevirtual 241, 3) := by decide +kernel
theorem dX12_wasRead_80 : decode cX12_wasRead 80 = .ok (.iload 6, 2) := by decide +kernel
theorem dX12_wasRead_82 : decode cX12_wasRead 82 = .ok (.iload_n 1, 1) := by decide +kernel
theorem dX12_wasRead_83 : decode cX12_wasRead 83 = .ok (.invokestatic 173, 3) := by decide +kernel
theorem dX12_wasRead_86 : decode cX12_wasRead 86 = .ok (.ifCond .eq 7, 3) := by decide +kernel
theorem dX12_wasRead_89 : decode cX12_wasRead 89 = .ok (.iload_n 2, 1) := by decide +kernel
theorem dX12_wasRead_90 : decode cX12_wasRead 90 = .ok (.goto 4, 3) := by decide +kernel
theorem dX12_wasRead_93 : decode cX12_wasRead 93 = .ok (.iconst 0, 1) := by decide +kernel
theorem dX12_wasRead_94 : decode cX12_wasRead 94 = .ok (.iadd, 1) := by decide +kernel
theorem dX12_wasRead_95 : decode cX12_wasRead 95 = .ok (.istore 8, 2) := by decide +kernel
theorem dX12_wasRead_97 : decode cX12_wasRead 97 = .ok (.iload_n 3, 1) := by decide +kernel
theorem dX12_wasRead_98 : decode cX12_wasRead 98 = .ok (.ifCond .eq 31, 3) := by decide +kernel
theorem dX12_wasRead_101 : decode cX12_wasRead 101 = .ok (.iload 7, 2) := by decide +kernel
theorem dX12_wasRead_103 : decode cX12_wasRead 103 = .ok (.iload 8, 2) := by decide +kernel
theorem dX12_wasRead_105 : decode cX12_wasRead 105 = .ok (.invokestatic 61, 3) := by decide +kernel
theorem dX12_wasRead_108 : decode cX12_wasRead 108 = .ok (.aload_n 0, 1) := by decide +kernel
theorem dX12_wasRead_109 : decode cX12_wasRead 109 = .ok (.getfield 7, 3) := by decide +kernel
theorem dX12_wasRead_112 : decode cX12_wasRead 112 = .ok (.bipush 44, 2) := by decide +kernel
theorem dX12_wasRead_114 : decode cX12_wasRead 114 = .ok (.iconst 3, 1) := by decide +kernel
theorem dX12_wasRead_115 : decode cX12_wasRead 115 = .ok (.iload 4, 2) := by decide +kernel
theorem dX12_wasRead_117 : decode cX12_wasRead 117 = .ok (.imul, 1) := by decide +kernel
theorem dX12_wasRead_118 : decode cX12_wasRead 118 = .ok (.iadd, 1) := by decide +kernel
theorem dX12_wasRead_119 : decode cX12_wasRead 119 = .ok (.iconst 2, 1) := by decide +kernel
theorem dX12_wasRead_120 : decode cX12_wasRead 120 = .ok (.iadd, 1) := by decide +kernel
theorem dX12_wasRead_121 : decode cX12_wasRead 121 = .ok (.iaload, 1) := by decide +kernel
theorem dX12_wasRead_122 : decode cX12_wasRead 122 = .ok (.if_icmp .ne 7, 3) := by decide +kernel
theorem dX12_wasRead_125 : decode cX12_wasRead 125 = .ok (.iconst 1, 1) := by decide +kernel
theorem dX12_wasRead_126 : decode cX12_wasRead 126 = .ok (.goto 4, 3) := by decide +kernel
theorem dX12_wasRead_129 : decode cX12_wasRead 129 = .ok (.iconst 0, 1) := by decide +kernel
theorem dX12_wasRead_130 : decode cX12_wasRead 130 = .ok (.istore_n 3, 1) := by decide +kernel
theorem dX12_wasRead_131 : decode cX12_wasRead 131 = .ok (.iinc 4 1, 3) := by decide +kernel
theorem dX12_wasRead_134 : decode cX12_wasRead 134 = .ok (.goto (-129), 3) := by decide +kernel
theorem dX12_wasRead_137 : decode cX12_wasRead 137 = .ok (.iload_n 3, 1) := by decide +kernel
theorem dX12_wasRead_138 : decode cX12_wasRead 138 = .ok (.ireturn, 1) := by decide +kernel
set_option maxRecDepth 20000 in
theorem ggX12_mayBe_X12_wasRead : GoodIn wsX12_mayBe wsX12_wasRead := goodIn_r _ [6, 1, 7, 8, 9, 5, 10, 11, 12, 13, 14, 15, 16, 17, 18, 19, 20, 21, 22, 23, 24, 25, 26, 27, 28, 29, 30, 31, 32, 33, 34, 35, 36] (by decide +kernel) (by decide +kernel)
set_option maxRecDepth 20000 in
theorem gX12_mayBe_X12_wasRead : GoodIn wsX12_mayBe (wsV RX12 249 RX12 yX12_wasRead wsX12_wasRead) := goodIn_app (goodIn_of _ (by decide +kernel)) ggX12_mayBe_X12_wasRead
theorem dX12_mayBe_0 : decode cX12_mayBe 0 = .ok (.iconst 0, 1) := by decide +kernel
theorem dX12_mayBe_1 : decode cX12_mayBe 1 = .ok (.istore_n 2, 1) := by decide +kernel
theorem dX12_mayBe_2 : decode cX12_mayBe 2 = .ok (.iconst 0, 1) := by decide +kernel
theorem dX12_mayBe_3 : decode cX12_mayBe 3 = .ok (.istore_n 3, 1) := by decide +kernel
theorem dX12_mayBe_4 : decode cX12_mayBe 4 = .ok (.iload_n 3, 1) := by decide +kernel
theorem dX12_mayBe_5 : decode cX12_mayBe 5 = .ok (.aload_n 0, 1) := by decide +kernel
theorem dX12_mayBe_6 : decode cX12_mayBe 6 = .ok (.getfield 7, 3) := by decide +kernel
theorem dX12_mayBe_9 : decode cX12_mayBe 9 = .ok (.iconst 0, 1) := by decide +kernel
theorem dX12_mayBe_10 : decode cX12_mayBe 10 = .ok (.iaload, 1) := by decide +kernel
theorem dX12_mayBe_11 : decode cX12_mayBe 11 = .ok (.if_icmp .ge 28, 3) := by decide +kernel
theorem dX12_mayBe_14 : decode cX12_mayBe 14 = .ok (.iload_n 2, 1) := by decide +kernel
theorem dX12_mayBe_15 : decode cX12_mayBe 15 = .ok (.aload_n 0, 1) := by decide +kernel
theorem dX12_mayBe_16 : decode cX12_mayBe 16 = .ok (.iload_n 3, 1) := by decide +kernel
theorem dX12_mayBe_17 : decode cX12_mayBe 17 = .ok (.iload_n 1, 1) := by decide +kernel
theorem dX12_mayBe_18 : decode cX12_mayBe 18 = .ok (.invokevirtual 249, 3) := by decide +kernel
theorem dX12_mayBe_21 : decode cX12_mayBe 21 = .ok (.ifCond .eq 9, 3) := by decide +kernel
theorem dX12_mayBe_24 : decode cX12_mayBe 24 = .ok (.iconst 1, 1) := by decide +kernel
theorem dX12_mayBe_25 : decode cX12_mayBe 25 = .ok (.iload_n 3, 1) := by decide +kernel
theorem dX12_mayBe_26 : decode cX12_mayBe 26 = .ok (.ishl, 1) := by decide +kernel
theorem dX12_mayBe_27 : decode cX12_mayBe 27 = .ok (.goto 4, 3) := by decide +kernel
theorem dX12_mayBe_30 : decode cX12_mayBe 30 = .ok (.iconst 0, 1) := by decide +kernel
theorem dX12_mayBe_31 : decode cX12_mayBe 31 = .ok (.ior, 1) := by decide +kernel
theorem dX12_mayBe_32 : decode cX12_mayBe 32 = .ok (.istore_n 2, 1) := by decide +kernel
theorem dX12_mayBe_33 : decode cX12_mayBe 33 = .ok (.iinc 3 1, 3) := by decide +kernel
theorem dX12_mayBe_36 : decode cX12_mayBe 36 = .ok (.goto (-32), 3) := by decide +kernel
theorem dX12_mayBe_39 : decode cX12_mayBe 39 = .ok (.iload_n 2, 1) := by decide +kernel
theorem dX12_mayBe_40 : decode cX12_mayBe 40 = .ok (.ireturn, 1) := by decide +kernel
set_option maxRecDepth 20000 in
theorem ggX12_maybe_X12_in : GoodIn wsX12_maybe wsX12_in := goodIn_r _ [4] (by decide +kernel) (by decide +kernel)
set_option maxRecDepth 20000 in
theorem gX12_maybe_X12_in : GoodIn wsX12_maybe (va_wsS RX12 49 yX12_in wsX12_in) := goodIn_app (goodIn_of _ (by decide +kernel)) ggX12_maybe_X12_in
set_option maxRecDepth 20000 in
theorem ggX12_maybe_X12_mayBe : GoodIn wsX12_maybe wsX12_mayBe := goodIn_r _ [8, 9, 10, 11, 12, 3, 13, 14, 15, 16, 17, 18, 19, 20, 21, 22, 23, 29, 30, 31, 32, 33, 34, 35, 36, 37, 38, 39, 40, 41, 42, 43, 44, 45, 46, 47, 48] (by decide +kernel) (by decide +kernel)
set_option maxRecDepth 20000 in
theorem gX12_maybe_X12_mayBe : GoodIn wsX12_maybe (wsV RX12 252 RX12 yX12_mayBe wsX12_mayBe) := goodIn_app (goodIn_of _ (by decide +kernel)) ggX12_maybe_X12_mayBe
set_option maxRecDepth 20000 in
theorem ggX12_maybe_X12_bad : GoodIn wsX12_maybe wsX12_bad := goodIn_r _ [27, 28, 29, 30, 31, 32, 33, 34, 35, 36, 37, 38, 39, 40, 41, 42, 43, 44, 45, 46, 47, 48] (by decide +kernel) (by decide +kernel)
set_option maxRecDepth 20000 in
theorem gX12_maybe_X12_bad : GoodIn wsX12_maybe (wsV RX12 77 RX12 yX12_bad wsX12_bad) := goodIn_app (goodIn_of _ (by decide +kernel)) ggX12_maybe_X12_bad
theorem dX12_maybe_0 : decode cX12_maybe 0 = .ok (.iload_n 1, 1) := by decide +kernel
theorem dX12_maybe_1 : decode cX12_maybe 1 = .ok (.i2l, 1) := by decide +kernel
theorem dX12_maybe_2 : decode cX12_maybe 2 = .ok (.lconst 0, 1) := by decide +kernel
theorem dX12_maybe_3 : decode cX12_maybe 3 = .ok (.lconst 1, 1) := by decide +kernel
theorem dX12_maybe_4 : decode cX12_maybe 4 = .ok (.invokestatic 49, 3) := by decide +kernel
theorem dX12_maybe_7 : decode cX12_maybe 7 = .ok (.ifCond .eq 19, 3) := by decide +kernel
theorem dX12_maybe_10 : decode cX12_maybe 10 = .ok (.aload_n 0, 1) := by decide +kernel
theorem dX12_maybe_11 : decode cX12_maybe 11 = .ok (.iload_n 1, 1) := by decide +kernel
theorem dX12_maybe_12 : decode cX12_maybe 12 = .ok (.ifCond .ne 7, 3) := by decide +kernel
theorem dX12_maybe_15 : decode cX12_maybe 15 = .ok (.iconst (-1), 1) := by decide +kernel
theorem dX12_maybe_16 : decode cX12_maybe 16 = .ok (.goto 4, 3) := by decide +kernel
theorem dX12_maybe_19 : decode cX12_maybe 19 = .ok (.iconst 1, 1) := by decide +kernel
theorem dX12_maybe_20 : decode cX12_maybe 20 = .ok (.invokevirtual 252, 3) := by decide +kernel
theorem dX12_maybe_23 : decode cX12_maybe 23 = .ok (.goto 9, 3) := by decide +kernel
theorem dX12_maybe_26 : decode cX12_maybe 26 = .ok (.aload_n 0, 1) := by decide +kernel
theorem dX12_maybe_27 : decode cX12_maybe 27 = .ok (.bipush (-2), 2) := by decide +kernel
theorem dX12_maybe_29 : decode cX12_maybe 29 = .ok (.invokevirtual 77, 3) := by decide +kernel
theorem dX12_maybe_32 : decode cX12_maybe 32 = .ok (.ireturn, 1) := by decide +kernel
theorem dX12_emptiesParts_0 : decode cX12_emptiesParts 0 = .ok (.iconst 0, 1) := by decide +kernel
theorem dX12_emptiesParts_1 : decode cX12_emptiesParts 1 = .ok (.istore_n 1, 1) := by decide +kernel
theorem dX12_emptiesParts_2 : decode cX12_emptiesParts 2 = .ok (.iload_n 1, 1) := by decide +kernel
theorem dX12_emptiesParts_3 : decode cX12_emptiesParts 3 = .ok (.sipush 300, 3) := by decide +kernel
theorem dX12_emptiesParts_6 : decode cX12_emptiesParts 6 = .ok (.if_icmp .ge 16, 3) := by decide +kernel
theorem dX12_emptiesParts_9 : decode cX12_emptiesParts 9 = .ok (.aload_n 0, 1) := by decide +kernel
theorem dX12_emptiesParts_10 : decode cX12_emptiesParts 10 = .ok (.getfield 39, 3) := by decide +kernel
theorem dX12_emptiesParts_13 : decode cX12_emptiesParts 13 = .ok (.iload_n 1, 1) := by decide +kernel
theorem dX12_emptiesParts_14 : decode cX12_emptiesParts 14 = .ok (.iconst 0, 1) := by decide +kernel
theorem dX12_emptiesParts_15 : decode cX12_emptiesParts 15 = .ok (.iastore, 1) := by decide +kernel
theorem dX12_emptiesParts_16 : decode cX12_emptiesParts 16 = .ok (.iinc 1 1, 3) := by decide +kernel
theorem dX12_emptiesParts_19 : decode cX12_emptiesParts 19 = .ok (.goto (-17), 3) := by decide +kernel
theorem dX12_emptiesParts_22 : decode cX12_emptiesParts 22 = .ok (.return_, 1) := by decide +kernel
theorem dX12_greatestPart_0 : decode cX12_greatestPart 0 = .ok (.iconst 0, 1) := by decide +kernel
theorem dX12_greatestPart_1 : decode cX12_greatestPart 1 = .ok (.istore_n 1, 1) := by decide +kernel
theorem dX12_greatestPart_2 : decode cX12_greatestPart 2 = .ok (.iconst 0, 1) := by decide +kernel
theorem dX12_greatestPart_3 : decode cX12_greatestPart 3 = .ok (.istore_n 2, 1) := by decide +kernel
theorem dX12_greatestPart_4 : decode cX12_greatestPart 4 = .ok (.iload_n 2, 1) := by decide +kernel
theorem dX12_greatestPart_5 : decode cX12_greatestPart 5 = .ok (.sipush 300, 3) := by decide +kernel
theorem dX12_greatestPart_8 : decode cX12_greatestPart 8 = .ok (.if_icmp .ge 30, 3) := by decide +kernel
theorem dX12_greatestPart_11 : decode cX12_greatestPart 11 = .ok (.aload_n 0, 1) := by decide +kernel
theorem dX12_greatestPart_12 : decode cX12_greatestPart 12 = .ok (.getfield 39, 3) := by decide +kernel
theorem dX12_greatestPart_15 : decode cX12_greatestPart 15 = .ok (.iload_n 2, 1) := by decide +kernel
theorem dX12_greatestPart_16 : decode cX12_greatestPart 16 = .ok (.iaload, 1) := by decide +kernel
theorem dX12_greatestPart_17 : decode cX12_greatestPart 17 = .ok (.iload_n 1, 1) := by decide +kernel
theorem dX12_greatestPart_18 : decode cX12_greatestPart 18 = .ok (.if_icmp .le 12, 3) := by decide +kernel
theorem dX12_greatestPart_21 : decode cX12_greatestPart 21 = .ok (.aload_n 0, 1) := by decide +kernel
theorem dX12_greatestPart_22 : decode cX12_greatestPart 22 = .ok (.getfield 39, 3) := by decide +kernel
theorem dX12_greatestPart_25 : decode cX12_greatestPart 25 = .ok (.iload_n 2, 1) := by decide +kernel
theorem dX12_greatestPart_26 : decode cX12_greatestPart 26 = .ok (.iaload, 1) := by decide +kernel
theorem dX12_greatestPart_27 : decode cX12_greatestPart 27 = .ok (.goto 4, 3) := by decide +kernel
theorem dX12_greatestPart_30 : decode cX12_greatestPart 30 = .ok (.iload_n 1, 1) := by decide +kernel
theorem dX12_greatestPart_31 : decode cX12_greatestPart 31 = .ok (.istore_n 1, 1) := by decide +kernel
theorem dX12_greatestPart_32 : decode cX12_greatestPart 32 = .ok (.iinc 2 1, 3) := by decide +kernel
theorem dX12_greatestPart_35 : decode cX12_greatestPart 35 = .ok (.goto (-31), 3) := by decide +kernel
theorem dX12_greatestPart_38 : decode cX12_greatestPart 38 = .ok (.iload_n 1, 1) := by decide +kernel
theorem dX12_greatestPart_39 : decode cX12_greatestPart 39 = .ok (.ireturn, 1) := by decide +kernel
set_option maxRecDepth 20000 in
theorem ggX12_partsBy_X12_has : GoodIn wsX12_partsBy wsX12_has := goodIn_r _ [6] (by decide +kernel) (by decide +kernel)
set_option maxRecDepth 20000 in
theorem gX12_partsBy_X12_has : GoodIn wsX12_partsBy (va_wsS RX12 173 yX12_has wsX12_has) := goodIn_app (goodIn_of _ (by decide +kernel)) ggX12_partsBy_X12_has
set_option maxRecDepth 20000 in
theorem ggX12_partsBy_X12_trueTip : GoodIn wsX12_partsBy wsX12_trueTip := goodIn_r _ [9] (by decide +kernel) (by decide +kernel)
set_option maxRecDepth 20000 in
theorem gX12_partsBy_X12_trueTip : GoodIn wsX12_partsBy (va_wsS RX12 61 yX12_trueTip wsX12_trueTip) := goodIn_app (goodIn_of _ (by decide +kernel)) ggX12_partsBy_X12_trueTip
theorem dX12_partsBy_0 : decode cX12_partsBy 0 = .ok (.iconst 0, 1) := by decide +kernel
theorem dX12_partsBy_1 : decode cX12_partsBy 1 = .ok (.istore 5, 2) := by decide +kernel
theorem dX12_partsBy_3 : decode cX12_partsBy 3 = .ok (.iload 5, 2) := by decide +kernel
theorem dX12_partsBy_5 : decode cX12_partsBy 5 = .ok (.aload_n 0, 1) := by decide +kernel
theorem dX12_partsBy_6 : decode cX12_partsBy 6 = .ok (.getfield 7, 3) := by decide +kernel
theorem dX12_partsBy_9 : decode cX12_partsBy 9 = .ok (.iconst 0, 1) := by decide +kernel
theorem dX12_partsBy_10 : decode cX12_partsBy 10 = .ok (.iaload, 1) := by decide +kernel
theorem dX12_partsBy_11 : decode cX12_partsBy 11 = .ok (.if_icmp .ge 76, 3) := by decide +kernel
theorem dX12_partsBy_14 : decode cX12_partsBy 14 = .ok (.iload_n 3, 1) := by decide +kernel
theorem dX12_partsBy_15 : decode cX12_partsBy 15 = .ok (.iload 5, 2) := by decide +kernel
theorem dX12_partsBy_17 : decode cX12_partsBy 17 = .ok (.invokestatic 173, 3) := by decide +kernel
theorem dX12_partsBy_20 : decode cX12_partsBy 20 = .ok (.ifCond .eq 61, 3) := by decide +kernel
theorem dX12_partsBy_23 : decode cX12_partsBy 23 = .ok (.aload_n 0, 1) := by decide +kernel
theorem dX12_partsBy_24 : decode cX12_partsBy 24 = .ok (.getfield 39, 3) := by decide +kernel
theorem dX12_partsBy_27 : decode cX12_partsBy 27 = .ok (.iconst 1, 1) := by decide +kernel
theorem dX12_partsBy_28 : decode cX12_partsBy 28 = .ok (.aload_n 0, 1) := by decide +kernel
theorem dX12_partsBy_29 : decode cX12_partsBy 29 = .ok (.getfield 7, 3) := by decide +kernel
theorem dX12_partsBy_32 : decode cX12_partsBy 32 = .ok (.bipush 25, 2) := by decide +kernel
theorem dX12_partsBy_34 : decode cX12_partsBy 34 = .ok (.iload_n 1, 1) := by decide +kernel
theorem dX12_partsBy_35 : decode cX12_partsBy 35 = .ok (.iadd, 1) := by decide +kernel
theorem dX12_partsBy_36 : decode cX12_partsBy 36 = .ok (.iaload, 1) := by decide +kernel
theorem dX12_partsBy_37 : decode cX12_partsBy 37 = .ok (.iload 5, 2) := by decide +kernel
theorem dX12_partsBy_39 : decode cX12_partsBy 39 = .ok (.iload_n 1, 1) := by decide +kernel
theorem dX12_partsBy_40 : decode cX12_partsBy 40 = .ok (.if_icmp .ne 8, 3) := by decide +kernel
theorem dX12_partsBy_43 : decode cX12_partsBy 43 = .ok (.iload 4, 2) := by decide +kernel
theorem dX12_partsBy_45 : decode cX12_partsBy 45 = .ok (.goto 4, 3) := by decide +kernel
theorem dX12_partsBy_48 : decode cX12_partsBy 48 = .ok (.iconst 0, 1) := by decide +kernel
theorem dX12_partsBy_49 : decode cX12_partsBy 49 = .ok (.iadd, 1) := by decide +kernel
theorem dX12_partsBy_50 : decode cX12_partsBy 50 = .ok (.aload_n 0, 1) := by decide +kernel
theorem dX12_partsBy_51 : decode cX12_partsBy 51 = .ok (.getfield 7, 3) := by decide +kernel
theorem dX12_partsBy_54 : decode cX12_partsBy 54 = .ok (.bipush 25, 2) := by decide +kernel
theorem dX12_partsBy_56 : decode cX12_partsBy 56 = .ok (.iload_n 2, 1) := by decide +kernel
theorem dX12_partsBy_57 : decode cX12_partsBy 57 = .ok (.iadd, 1) := by decide +kernel
theorem dX12_partsBy_58 : decode cX12_partsBy 58 = .ok (.iaload, 1) := by decide +kernel
theorem dX12_partsBy_59 : decode cX12_partsBy 59 = .ok (.iload 5, 2) := by decide +kernel
theorem dX12_partsBy_61 : decode cX12_partsBy 61 = .ok (.iload_n 2, 1) := by decide +kernel
theorem dX12_partsBy_62 : decode cX12_partsBy 62 = .ok (.if_icmp .ne 8, 3) := by decide +kernel
theorem dX12_partsBy_65 : decode cX12_partsBy 65 = .ok (.iload 4, 2) := by decide +kernel
theorem dX12_partsBy_67 : decode cX12_partsBy 67 = .ok (.goto 4, 3) := by decide +kernel
theorem dX12_partsBy_70 : decode cX12_partsBy 70 = .ok (.iconst 0, 1) := by decide +kernel
theorem dX12_partsBy_71 : decode cX12_partsBy 71 = .ok (.iadd, 1) := by decide +kernel
theorem dX12_partsBy_72 : decode cX12_partsBy 72 = .ok (.invokestatic 61, 3) := by decide +kernel
theorem dX12_partsBy_75 : decode cX12_partsBy 75 = .ok (.iadd, 1) := by decide +kernel
theorem dX12_partsBy_76 : decode cX12_partsBy 76 = .ok (.dup2, 1) := by decide +kernel
theorem dX12_partsBy_77 : decode cX12_partsBy 77 = .ok (.iaload, 1) := by decide +kernel
theorem dX12_partsBy_78 : decode cX12_partsBy 78 = .ok (.iconst 1, 1) := by decide +kernel
theorem dX12_partsBy_79 : decode cX12_partsBy 79 = .ok (.iadd, 1) := by decide +kernel
theorem dX12_partsBy_80 : decode cX12_partsBy 80 = .ok (.iastore, 1) := by decide +kernel
theorem dX12_partsBy_81 : decode cX12_partsBy 81 = .ok (.iinc 5 1, 3) := by decide +kernel
theorem dX12_partsBy_84 : decode cX12_partsBy 84 = .ok (.goto (-81), 3) := by decide +kernel
theorem dX12_partsBy_87 : decode cX12_partsBy 87 = .ok (.return_, 1) := by decide +kernel
set_option maxRecDepth 20000 in
theorem ggX12_lift_X12_mayBe : GoodIn wsX12_lift wsX12_mayBe := goodIn_r _ [7, 1, 8, 9, 10, 6, 11, 12, 13, 14, 15, 16, 17, 18, 19, 20, 21, 35, 36, 37, 38, 39, 40, 41, 42, 43, 44, 45, 46, 47, 48, 49, 50, 51, 52, 53, 54] (by decide +kernel) (by decide +kernel)
set_option maxRecDepth 20000 in
theorem gX12_lift_X12_mayBe : GoodIn wsX12_lift (wsV RX12 252 RX12 yX12_mayBe wsX12_mayBe) := goodIn_app (goodIn_of _ (by decide +kernel)) ggX12_lift_X12_mayBe
set_option maxRecDepth 20000 in
theorem ggX12_lift_X12_emptiesParts : GoodIn wsX12_lift wsX12_emptiesParts := goodIn_r _ [25, 26, 35, 36, 37, 38, 39, 40, 41, 42, 43, 44, 45, 46, 47, 48, 49, 50, 51, 52, 53, 54] (by decide +kernel) (by decide +kernel)
set_option maxRecDepth 20000 in
theorem gX12_lift_X12_emptiesParts : GoodIn wsX12_lift (wsV RX12 255 RX12 yX12_emptiesParts wsX12_emptiesParts) := goodIn_app (goodIn_of _ (by decide +kernel)) ggX12_lift_X12_emptiesParts
set_option maxRecDepth 20000 in
theorem ggX12_lift_X12_partsBy : GoodIn wsX12_lift wsX12_partsBy := goodIn_r _ [30, 1, 26, 16, 17, 6, 18, 19, 20, 21, 35, 36, 37, 38, 39, 40, 41, 42, 43, 44, 45, 46, 47, 48, 49, 50, 51, 52, 53, 54] (by decide +kernel) (by decide +kernel)
set_option maxRecDepth 20000 in
theorem gX12_lift_X12_partsBy : GoodIn wsX12_lift (wsV RX12 258 RX12 yX12_partsBy wsX12_partsBy) := goodIn_app (goodIn_of _ (by decide +kernel)) ggX12_lift_X12_partsBy
set_option maxRecDepth 20000 in
theorem ggX12_lift_X12_greatestPart : GoodIn wsX12_lift wsX12_greatestPart := goodIn_r _ [34, 26, 35, 36, 37, 38, 39, 40, 41, 42, 43, 44, 45, 46, 47, 48, 49, 50, 51, 52, 53, 54] (by decide +kernel) (by decide +kernel)
set_option maxRecDepth 20000 in
theorem gX12_lift_X12_greatestPart : GoodIn wsX12_lift (wsV RX12 261 RX12 yX12_greatestPart wsX12_greatestPart) := goodIn_app (goodIn_of _ (by decide +kernel)) ggX12_lift_X12_greatestPart
theorem dX12_lift_0 : decode cX12_lift 0 = .ok (.aload_n 0, 1) := by decide +kernel
theorem dX12_lift_1 : decode cX12_lift 1 = .ok (.iconst (-1), 1) := by decide +kernel
theorem dX12_lift_2 : decode cX12_lift 2 = .ok (.invokevirtual 252, 3) := by decide +kernel
theorem dX12_lift_5 : decode cX12_lift 5 = .ok (.istore_n 1, 1) := by decide +kernel
theorem dX12_lift_6 : decode cX12_lift 6 = .ok (.aload_n 0, 1) := by decide +kernel
theorem dX12_lift_7 : decode cX12_lift 7 = .ok (.iconst 1, 1) := by decide +kernel
theorem dX12_lift_8 : decode cX12_lift 8 = .ok (.invokevirtual 252, 3) := by decide +kernel
theorem dX12_lift_11 : decode cX12_lift 11 = .ok (.istore_n 2, 1) := by decide +kernel
theorem dX12_lift_12 : decode cX12_lift 12 = .ok (.iload_n 1, 1) := by decide +kernel
theorem dX12_lift_13 : decode cX12_lift 13 = .ok (.iload_n 2, 1) := by decide +kernel
theorem dX12_lift_14 : decode cX12_lift 14 = .ok (.iadd, 1) := by decide +kernel
theorem dX12_lift_15 : decode cX12_lift 15 = .ok (.ifCond .eq 13, 3) := by decide +kernel
theorem dX12_lift_18 : decode cX12_lift 18 = .ok (.aload_n 0, 1) := by decide +kernel
theorem dX12_lift_19 : decode cX12_lift 19 = .ok (.getfield 7, 3) := by decide +kernel
theorem dX12_lift_22 : decode cX12_lift 22 = .ok (.iconst 0, 1) := by decide +kernel
theorem dX12_lift_23 : decode cX12_lift 23 = .ok (.iaload, 1) := by decide +kernel
theorem dX12_lift_24 : decode cX12_lift 24 = .ok (.iconst 2, 1) := by decide +kernel
theorem dX12_lift_25 : decode cX12_lift 25 = .ok (.if_icmp .ge 5, 3) := by decide +kernel
theorem dX12_lift_28 : decode cX12_lift 28 = .ok (.iconst (-1), 1) := by decide +kernel
theorem dX12_lift_29 : decode cX12_lift 29 = .ok (.ireturn, 1) := by decide +kernel
theorem dX12_lift_30 : decode cX12_lift 30 = .ok (.iconst (-1), 1) := by decide +kernel
theorem dX12_lift_31 : decode cX12_lift 31 = .ok (.istore_n 3, 1) := by decide +kernel
theorem dX12_lift_32 : decode cX12_lift 32 = .ok (.ldc 215, 2) := by decide +kernel
theorem dX12_lift_34 : decode cX12_lift 34 = .ok (.istore 4, 2) := by decide +kernel
theorem dX12_lift_36 : decode cX12_lift 36 = .ok (.iconst 0, 1) := by decide +kernel
theorem dX12_lift_37 : decode cX12_lift 37 = .ok (.istore 5, 2) := by decide +kernel
theorem dX12_lift_39 : decode cX12_lift 39 = .ok (.iload 5, 2) := by decide +kernel
theorem dX12_lift_41 : decode cX12_lift 41 = .ok (.aload_n 0, 1) := by decide +kernel
theorem dX12_lift_42 : decode cX12_lift 42 = .ok (.getfield 7, 3) := by decide +kernel
theorem dX12_lift_45 : decode cX12_lift 45 = .ok (.iconst 0, 1) := by decide +kernel
theorem dX12_lift_46 : decode cX12_lift 46 = .ok (.iaload, 1) := by decide +kernel
theorem dX12_lift_47 : decode cX12_lift 47 = .ok (.if_icmp .ge 98, 3) := by decide +kernel
theorem dX12_lift_50 : decode cX12_lift 50 = .ok (.iload 5, 2) := by decide +kernel
theorem dX12_lift_52 : decode cX12_lift 52 = .ok (.iconst 1, 1) := by decide +kernel
theorem dX12_lift_53 : decode cX12_lift 53 = .ok (.iadd, 1) := by decide +kernel
theorem dX12_lift_54 : decode cX12_lift 54 = .ok (.istore 6, 2) := by decide +kernel
theorem dX12_lift_56 : decode cX12_lift 56 = .ok (.iload 6, 2) := by decide +kernel
theorem dX12_lift_58 : decode cX12_lift 58 = .ok (.aload_n 0, 1) := by decide +kernel
theorem dX12_lift_59 : decode cX12_lift 59 = .ok (.getfield 7, 3) := by decide +kernel
theorem dX12_lift_62 : decode cX12_lift 62 = .ok (.iconst 0, 1) := by decide +kernel
theorem dX12_lift_63 : decode cX12_lift 63 = .ok (.iaload, 1) := by decide +kernel
theorem dX12_lift_64 : decode cX12_lift 64 = .ok (.if_icmp .ge 75, 3) := by decide +kernel
theorem dX12_lift_67 : decode cX12_lift 67 = .ok (.aload_n 0, 1) := by decide +kernel
theorem dX12_lift_68 : decode cX12_lift 68 = .ok (.invokevirtual 255, 3) := by decide +kernel
theorem dX12_lift_71 : decode cX12_lift 71 = .ok (.aload_n 0, 1) := by decide +kernel
theorem dX12_lift_72 : decode cX12_lift 72 = .ok (.iload 5, 2) := by decide +kernel
theorem dX12_lift_74 : decode cX12_lift 74 = .ok (.iload 6, 2) := by decide +kernel
theorem dX12_lift_76 : decode cX12_lift 76 = .ok (.iload_n 1, 1) := by decide +kernel
theorem dX12_lift_77 : decode cX12_lift 77 = .ok (.iconst (-1), 1) := by decide +kernel
theorem dX12_lift_78 : decode cX12_lift 78 = .ok (.invokevirtual 258, 3) := by decide +kernel
theorem dX12_lift_81 : decode cX12_lift 81 = .ok (.aload_n 0, 1) := by decide +kernel
theorem dX12_lift_82 : decode cX12_lift 82 = .ok (.iload 5, 2) := by decide +kernel
theorem dX12_lift_84 : decode cX12_lift 84 = .ok (.iload 6, 2) := by decide +kernel
theorem dX12_lift_86 : decode cX12_lift 86 = .ok (.iload_n 2, 1) := by decide +kernel
theorem dX12_lift_87 : decode cX12_lift 87 = .ok (.iconst 1, 1) := by decide +kernel
theorem dX12_lift_88 : decode cX12_lift 88 = .ok (.invokevirtual 258, 3) := by decide +kernel
theorem dX12_lift_91 : decode cX12_lift 91 = .ok (.aload_n 0, 1) := by decide +kernel
theorem dX12_lift_92 : decode cX12_lift 92 = .ok (.invokevirtual 261, 3) := by decide +kernel
theorem dX12_lift_95 : decode cX12_lift 95 = .ok (.istore 7, 2) := by decide +kernel
theorem dX12_lift_97 : decode cX12_lift 97 = .ok (.iload 7, 2) := by decide +kernel
theorem dX12_lift_99 : decode cX12_lift 99 = .ok (.iload 4, 2) := by decide +kernel
theorem dX12_lift_101 : decode cX12_lift 101 = .ok (.if_icmp .ge 14, 3) := by decide +kernel
theorem dX12_lift_104 : decode cX12_lift 104 = .ok (.bipush 8, 2) := by decide +kernel
theorem dX12_lift_106 : decode cX12_lift 106 = .ok (.iload 5, 2) := by decide +kernel
theorem dX12_lift_108 : decode cX12_lift 108 = .ok (.imul, 1) := by decide +kernel
theorem dX12_lift_109 : decode cX12_lift 109 = .ok (.iload 6, 2) := by decide +kernel
theorem dX12_lift_111 : decode cX12_lift 111 = .ok (.iadd, 1) := by decide +kernel
theorem dX12_lift_112 : decode cX12_lift 112 = .ok (.goto 4, 3) := by decide +kernel
theorem dX12_lift_115 : decode cX12_lift 115 = .ok (.iload_n 3, 1) := by decide +kernel
theorem dX12_lift_116 : decode cX12_lift 116 = .ok (.istore_n 3, 1) := by decide +kernel
theorem dX12_lift_117 : decode cX12_lift 117 = .ok (.iload 7, 2) := by decide +kernel
theorem dX12_lift_119 : decode cX12_lift 119 = .ok (.iload 4, 2) := by decide +kernel
theorem dX12_lift_121 : decode cX12_lift 121 = .ok (.if_icmp .ge 8, 3) := by decide +kernel
theorem dX12_lift_124 : decode cX12_lift 124 = .ok (.iload 7, 2) := by decide +kernel
theorem dX12_lift_126 : decode cX12_lift 126 = .ok (.goto 5, 3) := by decide +kernel
theorem dX12_lift_129 : decode cX12_lift 129 = .ok (.iload 4, 2) := by decide +kernel
theorem dX12_lift_131 : decode cX12_lift 131 = .ok (.istore 4, 2) := by decide +kernel
theorem dX12_lift_133 : decode cX12_lift 133 = .ok (.iinc 6 1, 3) := by decide +kernel
theorem dX12_lift_136 : decode cX12_lift 136 = .ok (.goto (-80), 3) := by decide +kernel
theorem dX12_lift_139 : decode cX12_lift 139 = .ok (.iinc 5 1, 3) := by decide +kernel
theorem dX12_lift_142 : decode cX12_lift 142 = .ok (.goto (-103), 3) := by decide +kernel
theorem dX12_lift_145 : decode cX12_lift 145 = .ok (.iload_n 3, 1) := by decide +kernel
theorem dX12_lift_146 : decode cX12_lift 146 = .ok (.ireturn, 1) := by decide +kernel
set_option maxRecDepth 20000 in
theorem ggX12_note_X12_isKeeper : GoodIn wsX12_note wsX12_isKeeper := goodIn_r _ [8, 3, 9, 10, 7, 11, 21, 22, 23, 24, 25, 26, 27, 28, 29, 30, 31, 32, 33, 34, 35, 36, 37, 38, 39, 40] (by decide +kernel) (by decide +kernel)
set_option maxRecDepth 20000 in
theorem gX12_note_X12_isKeeper : GoodIn wsX12_note (wsV RX12 89 RX12 yX12_isKeeper wsX12_isKeeper) := goodIn_app (goodIn_of _ (by decide +kernel)) ggX12_note_X12_isKeeper
set_option maxRecDepth 20000 in
theorem ggX12_note_X12_in : GoodIn wsX12_note wsX12_in := goodIn_r _ [11] (by decide +kernel) (by decide +kernel)
set_option maxRecDepth 20000 in
theorem gX12_note_X12_in : GoodIn wsX12_note (va_wsS RX12 49 yX12_in wsX12_in) := goodIn_app (goodIn_of _ (by decide +kernel)) ggX12_note_X12_in
set_option maxRecDepth 20000 in
theorem ggX12_note_X12_bad : GoodIn wsX12_note wsX12_bad := goodIn_r _ [15, 16, 21, 22, 23, 24, 25, 26, 27, 28, 29, 30, 31, 32, 33, 34, 35, 36, 37, 38, 39, 40] (by decide +kernel) (by decide +kernel)
set_option maxRecDepth 20000 in
theorem gX12_note_X12_bad : GoodIn wsX12_note (wsV RX12 77 RX12 yX12_bad wsX12_bad) := goodIn_app (goodIn_of _ (by decide +kernel)) ggX12_note_X12_bad
set_option maxRecDepth 20000 in
theorem ggX12_note_X12_full : GoodIn wsX12_note wsX12_full := goodIn_r _ [20, 16, 21, 22, 23, 24, 25, 26, 27, 28, 29, 30, 31, 32, 33, 34, 35, 36, 37, 38, 39, 40] (by decide +kernel) (by decide +kernel)
set_option maxRecDepth 20000 in
theorem gX12_note_X12_full : GoodIn wsX12_note (wsV RX12 81 RX12 yX12_full wsX12_full) := goodIn_app (goodIn_of _ (by decide +kernel)) ggX12_note_X12_full
theorem dX12_note_0 : decode cX12_note 0 = .ok (.aload_n 0, 1) := by decide +kernel
theorem dX12_note_1 : decode cX12_note 1 = .ok (.iload_n 1, 1) := by decide +kernel
theorem dX12_note_2 : decode cX12_note 2 = .ok (.invokevirtual 89, 3) := by decide +kernel
theorem dX12_note_5 : decode cX12_note 5 = .ok (.ifCond .eq 40, 3) := by decide +kernel
theorem dX12_note_8 : decode cX12_note 8 = .ok (.iload_n 2, 1) := by decide +kernel
theorem dX12_note_9 : decode cX12_note 9 = .ok (.i2l, 1) := by decide +kernel
theorem dX12_note_10 : decode cX12_note 10 = .ok (.lconst 1, 1) := by decide +kernel
theorem dX12_note_11 : decode cX12_note 11 = .ok (.ldc2_w 75, 3) := by decide +kernel
theorem dX12_note_14 : decode cX12_note 14 = .ok (.invokestatic 49, 3) := by decide +kernel
theorem dX12_note_17 : decode cX12_note 17 = .ok (.ifCond .eq 28, 3) := by decide +kernel
theorem dX12_note_20 : decode cX12_note 20 = .ok (.iload_n 3, 1) := by decide +kernel
theorem dX12_note_21 : decode cX12_note 21 = .ok (.i2l, 1) := by decide +kernel
theorem dX12_note_22 : decode cX12_note 22 = .ok (.lconst 0, 1) := by decide +kernel
theorem dX12_note_23 : decode cX12_note 23 = .ok (.ldc2_w 189, 3) := by decide +kernel
theorem dX12_note_26 : decode cX12_note 26 = .ok (.invokestatic 49, 3) := by decide +kernel
theorem dX12_note_29 : decode cX12_note 29 = .ok (.ifCond .eq 16, 3) := by decide +kernel
theorem dX12_note_32 : decode cX12_note 32 = .ok (.iload 4, 2) := by decide +kernel
theorem dX12_note_34 : decode cX12_note 34 = .ok (.i2l, 1) := by decide +kernel
theorem dX12_note_35 : decode cX12_note 35 = .ok (.lconst 1, 1) := by decide +kernel
theorem dX12_note_36 : decode cX12_note 36 = .ok (.ldc2_w 75, 3) := by decide +kernel
theorem dX12_note_39 : decode cX12_note 39 = .ok (.invokestatic 49, 3) := by decide +kernel
theorem dX12_note_42 : decode cX12_note 42 = .ok (.ifCond .ne 10, 3) := by decide +kernel
theorem dX12_note_45 : decode cX12_note 45 = .ok (.aload_n 0, 1) := by decide +kernel
theorem dX12_note_46 : decode cX12_note 46 = .ok (.bipush (-2), 2) := by decide +kernel
theorem dX12_note_48 : decode cX12_note 48 = .ok (.invokevirtual 77, 3) := by decide +kernel
theorem dX12_note_51 : decode cX12_note 51 = .ok (.ireturn, 1) := by decide +kernel
theorem dX12_note_52 : decode cX12_note 52 = .ok (.aload_n 0, 1) := by decide +kernel
theorem dX12_note_53 : decode cX12_note 53 = .ok (.getfield 7, 3) := by decide +kernel
theorem dX12_note_56 : decode cX12_note 56 = .ok (.bipush 62, 2) := by decide +kernel
theorem dX12_note_58 : decode cX12_note 58 = .ok (.iaload, 1) := by decide +kernel
theorem dX12_note_59 : decode cX12_note 59 = .ok (.bipush 6, 2) := by decide +kernel
theorem dX12_note_61 : decode cX12_note 61 = .ok (.if_icmp .ne 8, 3) := by decide +kernel
theorem dX12_note_64 : decode cX12_note 64 = .ok (.aload_n 0, 1) := by decide +kernel
theorem dX12_note_65 : decode cX12_note 65 = .ok (.invokevirtual 81, 3) := by decide +kernel
theorem dX12_note_68 : decode cX12_note 68 = .ok (.ireturn, 1) := by decide +kernel
theorem dX12_note_69 : decode cX12_note 69 = .ok (.bipush 63, 2) := by decide +kernel
theorem dX12_note_71 : decode cX12_note 71 = .ok (.iconst 4, 1) := by decide +kernel
theorem dX12_note_72 : decode cX12_note 72 = .ok (.aload_n 0, 1) := by decide +kernel
theorem dX12_note_73 : decode cX12_note 73 = .ok (.getfield 7, 3) := by decide +kernel
theorem dX12_note_76 : decode cX12_note 76 = .ok (.bipush 62, 2) := by decide +kernel
theorem dX12_note_78 : decode cX12_note 78 = .ok (.iaload, 1) := by decide +kernel
theorem dX12_note_79 : decode cX12_note 79 = .ok (.imul, 1) := by decide +kernel
theorem dX12_note_80 : decode cX12_note 80 = .ok (.iadd, 1) := by decide +kernel
theorem dX12_note_81 : decode cX12_note 81 = .ok (.istore 5, 2) := by decide +kernel
theorem dX12_note_83 : decode cX12_note 83 = .ok (.aload_n 0, 1) := by decide +kernel
theorem dX12_note_84 : decode cX12_note 84 = .ok (.getfield 7, 3) := by decide +kernel
theorem dX12_note_87 : decode cX12_note 87 = .ok (.iload 5, 2) := by decide +kernel
theorem dX12_note_89 : decode cX12_note 89 = .ok (.iload_n 1, 1) := by decide +kernel
theorem dX12_note_90 : decode cX12_note 90 = .ok (.iastore, 1) := by decide +kernel
theorem dX12_note_91 : decode cX12_note 91 = .ok (.aload_n 0, 1) := by decide +kernel
theorem dX12_note_92 : decode cX12_note 92 = .ok (.getfield 7, 3) := by decide +kernel
theorem dX12_note_95 : decode cX12_note 95 = .ok (.iload 5, 2) := by decide +kernel
theorem dX12_note_97 : decode cX12_note 97 = .ok (.iconst 1, 1) := by decide +kernel
theorem dX12_note_98 : decode cX12_note 98 = .ok (.iadd, 1) := by decide +kernel
theorem dX12_note_99 : decode cX12_note 99 = .ok (.iload_n 2, 1) := by decide +kernel
theorem dX12_note_100 : decode cX12_note 100 = .ok (.iastore, 1) := by decide +kernel
theorem dX12_note_101 : decode cX12_note 101 = .ok (.aload_n 0, 1) := by decide +kernel
theorem dX12_note_102 : decode cX12_note 102 = .ok (.getfield 7, 3) := by decide +kernel
theorem dX12_note_105 : decode cX12_note 105 = .ok (.iload 5, 2) := by decide +kernel
theorem dX12_note_107 : decode cX12_note 107 = .ok (.iconst 2, 1) := by decide +kernel
theorem dX12_note_108 : decode cX12_note 108 = .ok (.iadd, 1) := by decide +kernel
theorem dX12_note_109 : decode cX12_note 109 = .ok (.iload_n 3, 1) := by decide +kernel
theorem dX12_note_110 : decode cX12_note 110 = .ok (.iastore, 1) := by decide +kernel
theorem dX12_note_111 : decode cX12_note 111 = .ok (.aload_n 0, 1) := by decide +kernel
theorem dX12_note_112 : decode cX12_note 112 = .ok (.getfield 7, 3) := by decide +kernel
theorem dX12_note_115 : decode cX12_note 115 = .ok (.iload 5, 2) := by decide +kernel
theorem dX12_note_117 : decode cX12_note 117 = .ok (.iconst 3, 1) := by decide +kernel
theorem dX12_note_118 : decode cX12_note 118 = .ok (.iadd, 1) := by decide +kernel
theorem dX12_note_119 : decode cX12_note 119 = .ok (.iload 4, 2) := by decide +kernel
theorem dX12_note_121 : decode cX12_note 121 = .ok (.iastore, 1) := by decide +kernel
theorem dX12_note_122 : decode cX12_note 122 = .ok (.aload_n 0, 1) := by decide +kernel
theorem dX12_note_123 : decode cX12_note 123 = .ok (.getfield 7, 3) := by decide +kernel
theorem dX12_note_126 : decode cX12_note 126 = .ok (.bipush 62, 2) := by decide +kernel
theorem dX12_note_128 : decode cX12_note 128 = .ok (.dup2, 1) := by decide +kernel
theorem dX12_note_129 : decode cX12_note 129 = .ok (.iaload, 1) := by decide +kernel
theorem dX12_note_130 : decode cX12_note 130 = .ok (.iconst 1, 1) := by decide +kernel
theorem dX12_note_131 : decode cX12_note 131 = .ok (.iadd, 1) := by decide +kernel
theorem dX12_note_132 : decode cX12_note 132 = .ok (.iastore, 1) := by decide +kernel
theorem dX12_note_133 : decode cX12_note 133 = .ok (.aload_n 0, 1) := by decide +kernel
theorem dX12_note_134 : decode cX12_note 134 = .ok (.getfield 7, 3) := by decide +kernel
theorem dX12_note_137 : decode cX12_note 137 = .ok (.bipush 62, 2) := by decide +kernel
theorem dX12_note_139 : decode cX12_note 139 = .ok (.iaload, 1) := by decide +kernel
theorem dX12_note_140 : decode cX12_note 140 = .ok (.ireturn, 1) := by decide +kernel
set_option maxRecDepth 20000 in
theorem ggX12_tipped_X12_isBalance : GoodIn wsX12_tipped wsX12_isBalance := goodIn_r _ [8, 3, 9, 10, 7, 11, 21, 22, 23, 24, 25, 26, 27, 28, 29, 30, 31, 32, 33, 34, 35, 36, 37, 38, 39, 40] (by decide +kernel) (by decide +kernel)
set_option maxRecDepth 20000 in
theorem gX12_tipped_X12_isBalance : GoodIn wsX12_tipped (wsV RX12 235 RX12 yX12_isBalance wsX12_isBalance) := goodIn_app (goodIn_of _ (by decide +kernel)) ggX12_tipped_X12_isBalance
set_option maxRecDepth 20000 in
theorem ggX12_tipped_X12_in : GoodIn wsX12_tipped wsX12_in := goodIn_r _ [11] (by decide +kernel) (by decide +kernel)
set_option maxRecDepth 20000 in
theorem gX12_tipped_X12_in : GoodIn wsX12_tipped (va_wsS RX12 49 yX12_in wsX12_in) := goodIn_app (goodIn_of _ (by decide +kernel)) ggX12_tipped_X12_in
set_option maxRecDepth 20000 in
theorem ggX12_tipped_X12_bad : GoodIn wsX12_tipped wsX12_bad := goodIn_r _ [15, 16, 21, 22, 23, 24, 25, 26, 27, 28, 29, 30, 31, 32, 33, 34, 35, 36, 37, 38, 39, 40] (by decide +kernel) (by decide +kernel)
set_option maxRecDepth 20000 in
theorem gX12_tipped_X12_bad : GoodIn wsX12_tipped (wsV RX12 77 RX12 yX12_bad wsX12_bad) := goodIn_app (goodIn_of _ (by decide +kernel)) ggX12_tipped_X12_bad
set_option maxRecDepth 20000 in
theorem ggX12_tipped_X12_full : GoodIn wsX12_tipped wsX12_full := goodIn_r _ [20, 16, 21, 22, 23, 24, 25, 26, 27, 28, 29, 30, 31, 32, 33, 34, 35, 36, 37, 38, 39, 40] (by decide +kernel) (by decide +kernel)
set_option maxRecDepth 20000 in
theorem gX12_tipped_X12_full : GoodIn wsX12_tipped (wsV RX12 81 RX12 yX12_full wsX12_full) := goodIn_app (goodIn_of _ (by decide +kernel)) ggX12_tipped_X12_full
theorem dX12_tipped_0 : decode cX12_tipped 0 = .ok (.aload_n 0, 1) := by decide +kernel
theorem dX12_tipped_1 : decode cX12_tipped 1 = .ok (.iload_n 1, 1) := by decide +kernel
theorem dX12_tipped_2 : decode cX12_tipped 2 = .ok (.invokevirtual 235, 3) := by decide +kernel
theorem dX12_tipped_5 : decode cX12_tipped 5 = .ok (.ifCond .eq 40, 3) := by decide +kernel
theorem dX12_tipped_8 : decode cX12_tipped 8 = .ok (.iload_n 2, 1) := by decide +kernel
theorem dX12_tipped_9 : decode cX12_tipped 9 = .ok (.i2l, 1) := by decide +kernel
theorem dX12_tipped_10 : decode cX12_tipped 10 = .ok (.lconst 0, 1) := by decide +kernel
theorem dX12_tipped_11 : decode cX12_tipped 11 = .ok (.ldc2_w 213, 3) := by decide +kernel
theorem dX12_tipped_14 : decode cX12_tipped 14 = .ok (.invokestatic 49, 3) := by decide +kernel
theorem dX12_tipped_17 : decode cX12_tipped 17 = .ok (.ifCond .eq 28, 3) := by decide +kernel
theorem dX12_tipped_20 : decode cX12_tipped 20 = .ok (.iload_n 3, 1) := by decide +kernel
theorem dX12_tipped_21 : decode cX12_tipped 21 = .ok (.i2l, 1) := by decide +kernel
theorem dX12_tipped_22 : decode cX12_tipped 22 = .ok (.lconst 0, 1) := by decide +kernel
theorem dX12_tipped_23 : decode cX12_tipped 23 = .ok (.ldc2_w 213, 3) := by decide +kernel
theorem dX12_tipped_26 : decode cX12_tipped 26 = .ok (.invokestatic 49, 3) := by decide +kernel
theorem dX12_tipped_29 : decode cX12_tipped 29 = .ok (.ifCond .eq 16, 3) := by decide +kernel
theorem dX12_tipped_32 : decode cX12_tipped 32 = .ok (.iload 4, 2) := by decide +kernel
theorem dX12_tipped_34 : decode cX12_tipped 34 = .ok (.i2l, 1) := by decide +kernel
theorem dX12_tipped_35 : decode cX12_tipped 35 = .ok (.ldc2_w 247, 3) := by decide +kernel
theorem dX12_tipped_38 : decode cX12_tipped 38 = .ok (.lconst 1, 1) := by decide +kernel
theorem dX12_tipped_39 : decode cX12_tipped 39 = .ok (.invokestatic 49, 3) := by decide +kernel
theorem dX12_tipped_42 : decode cX12_tipped 42 = .ok (.ifCond .ne 10, 3) := by decide +kernel
theorem dX12_tipped_45 : decode cX12_tipped 45 = .ok (.aload_n 0, 1) := by decide +kernel
theorem dX12_tipped_46 : decode cX12_tipped 46 = .ok (.bipush (-2), 2) := by decide +kernel
theorem dX12_tipped_48 : decode cX12_tipped 48 = .ok (.invokevirtual 77, 3) := by decide +kernel
theorem dX12_tipped_51 : decode cX12_tipped 51 = .ok (.ireturn, 1) := by decide +kernel
theorem dX12_tipped_52 : decode cX12_tipped 52 = .ok (.aload_n 0, 1) := by decide +kernel
theorem dX12_tipped_53 : decode cX12_tipped 53 = .ok (.getfield 7, 3) := by decide +kernel
theorem dX12_tipped_56 : decode cX12_tipped 56 = .ok (.bipush 87, 2) := by decide +kernel
theorem dX12_tipped_58 : decode cX12_tipped 58 = .ok (.iaload, 1) := by decide +kernel
theorem dX12_tipped_59 : decode cX12_tipped 59 = .ok (.bipush 6, 2) := by decide +kernel
theorem dX12_tipped_61 : decode cX12_tipped 61 = .ok (.if_icmp .ne 8, 3) := by decide +kernel
theorem dX12_tipped_64 : decode cX12_tipped 64 = .ok (.aload_n 0, 1) := by decide +kernel
theorem dX12_tipped_65 : decode cX12_tipped 65 = .ok (.invokevirtual 81, 3) := by decide +kernel
theorem dX12_tipped_68 : decode cX12_tipped 68 = .ok (.ireturn, 1) := by decide +kernel
theorem dX12_tipped_69 : decode cX12_tipped 69 = .ok (.bipush 88, 2) := by decide +kernel
theorem dX12_tipped_71 : decode cX12_tipped 71 = .ok (.iconst 4, 1) := by decide +kernel
theorem dX12_tipped_72 : decode cX12_tipped 72 = .ok (.aload_n 0, 1) := by decide +kernel
theorem dX12_tipped_73 : decode cX12_tipped 73 = .ok (.getfield 7, 3) := by decide +kernel
theorem dX12_tipped_76 : decode cX12_tipped 76 = .ok (.bipush 87, 2) := by decide +kernel
theorem dX12_tipped_78 : decode cX12_tipped 78 = .ok (.iaload, 1) := by decide +kernel
theorem dX12_tipped_79 : decode cX12_tipped 79 = .ok (.imul, 1) := by decide +kernel
theorem dX12_tipped_80 : decode cX12_tipped 80 = .ok (.iadd, 1) := by decide +kernel
theorem dX12_tipped_81 : decode cX12_tipped 81 = .ok (.istore 5, 2) := by decide +kernel
theorem dX12_tipped_83 : decode cX12_tipped 83 = .ok (.aload_n 0, 1) := by decide +kernel
theorem dX12_tipped_84 : decode cX12_tipped 84 = .ok (.getfield 7, 3) := by decide +kernel
theorem dX12_tipped_87 : decode cX12_tipped 87 = .ok (.iload 5, 2) := by decide +kernel
theorem dX12_tipped_89 : decode cX12_tipped 89 = .ok (.iload_n 1, 1) := by decide +kernel
theorem dX12_tipped_90 : decode cX12_tipped 90 = .ok (.iastore, 1) := by decide +kernel
theorem dX12_tipped_91 : decode cX12_tipped 91 = .ok (.aload_n 0, 1) := by decide +kernel
theorem dX12_tipped_92 : decode cX12_tipped 92 = .ok (.getfield 7, 3) := by decide +kernel
theorem dX12_tipped_95 : decode cX12_tipped 95 = .ok (.iload 5, 2) := by decide +kernel
theorem dX12_tipped_97 : decode cX12_tipped 97 = .ok (.iconst 1, 1) := by decide +kernel
theorem dX12_tipped_98 : decode cX12_tipped 98 = .ok (.iadd, 1) := by decide +kernel
theorem dX12_tipped_99 : decode cX12_tipped 99 = .ok (.iload_n 2, 1) := by decide +kernel
theorem dX12_tipped_100 : decode cX12_tipped 100 = .ok (.iastore, 1) := by decide +kernel
theorem dX12_tipped_101 : decode cX12_tipped 101 = .ok (.aload_n 0, 1) := by decide +kernel
theorem dX12_tipped_102 : decode cX12_tipped 102 = .ok (.getfield 7, 3) := by decide +kernel
theorem dX12_tipped_105 : decode cX12_tipped 105 = .ok (.iload 5, 2) := by decide +kernel
theorem dX12_tipped_107 : decode cX12_tipped 107 = .ok (.iconst 2, 1) := by decide +kernel
theorem dX12_tipped_108 : decode cX12_tipped 108 = .ok (.iadd, 1) := by decide +kernel
theorem dX12_tipped_109 : decode cX12_tipped 109 = .ok (.iload_n 3, 1) := by decide +kernel
theorem dX12_tipped_110 : decode cX12_tipped 110 = .ok (.iastore, 1) := by decide +kernel
theorem dX12_tipped_111 : decode cX12_tipped 111 = .ok (.aload_n 0, 1) := by decide +kernel
theorem dX12_tipped_112 : decode cX12_tipped 112 = .ok (.getfield 7, 3) := by decide +kernel
theorem dX12_tipped_115 : decode cX12_tipped 115 = .ok (.iload 5, 2) := by decide +kernel
theorem dX12_tipped_117 : decode cX12_tipped 117 = .ok (.iconst 3, 1) := by decide +kernel
theorem dX12_tipped_118 : decode cX12_tipped 118 = .ok (.iadd, 1) := by decide +kernel
theorem dX12_tipped_119 : decode cX12_tipped 119 = .ok (.iload 4, 2) := by decide +kernel
theorem dX12_tipped_121 : decode cX12_tipped 121 = .ok (.iastore, 1) := by decide +kernel
theorem dX12_tipped_122 : decode cX12_tipped 122 = .ok (.aload_n 0, 1) := by decide +kernel
theorem dX12_tipped_123 : decode cX12_tipped 123 = .ok (.getfield 7, 3) := by decide +kernel
theorem dX12_tipped_126 : decode cX12_tipped 126 = .ok (.bipush 87, 2) := by decide +kernel
theorem dX12_tipped_128 : decode cX12_tipped 128 = .ok (.dup2, 1) := by decide +kernel
theorem dX12_tipped_129 : decode cX12_tipped 129 = .ok (.iaload, 1) := by decide +kernel
theorem dX12_tipped_130 : decode cX12_tipped 130 = .ok (.iconst 1, 1) := by decide +kernel
theorem dX12_tipped_131 : decode cX12_tipped 131 = .ok (.iadd, 1) := by decide +kernel
theorem dX12_tipped_132 : decode cX12_tipped 132 = .ok (.iastore, 1) := by decide +kernel
theorem dX12_tipped_133 : decode cX12_tipped 133 = .ok (.aload_n 0, 1) := by decide +kernel
theorem dX12_tipped_134 : decode cX12_tipped 134 = .ok (.getfield 7, 3) := by decide +kernel
theorem dX12_tipped_137 : decode cX12_tipped 137 = .ok (.bipush 87, 2) := by decide +kernel
theorem dX12_tipped_139 : decode cX12_tipped 139 = .ok (.iaload, 1) := by decide +kernel
theorem dX12_tipped_140 : decode cX12_tipped 140 = .ok (.ireturn, 1) := by decide +kernel
set_option maxRecDepth 20000 in
theorem ggX12_forget_X12_in : GoodIn wsX12_forget wsX12_in := goodIn_r _ [6] (by decide +kernel) (by decide +kernel)
set_option maxRecDepth 20000 in
theorem gX12_forget_X12_in : GoodIn wsX12_forget (va_wsS RX12 49 yX12_in wsX12_in) := goodIn_app (goodIn_of _ (by decide +kernel)) ggX12_forget_X12_in
set_option maxRecDepth 20000 in
theorem ggX12_forget_X12_bad : GoodIn wsX12_forget wsX12_bad := goodIn_r _ [10, 11, 12, 13, 14, 15, 16, 17, 18, 19, 20, 21, 22, 23, 24, 25, 26, 27, 28, 29, 30, 31] (by decide +kernel) (by decide +kernel)
set_option maxRecDepth 20000 in
theorem gX12_forget_X12_bad : GoodIn wsX12_forget (wsV RX12 77 RX12 yX12_bad wsX12_bad) := goodIn_app (goodIn_of _ (by decide +kernel)) ggX12_forget_X12_bad
theorem dX12_forget_0 : decode cX12_forget 0 = .ok (.iload_n 1, 1) := by decide +kernel
theorem dX12_forget_1 : decode cX12_forget 1 = .ok (.i2l, 1) := by decide +kernel
theorem dX12_forget_2 : decode cX12_forget 2 = .ok (.lconst 0, 1) := by decide +kernel
theorem dX12_forget_3 : decode cX12_forget 3 = .ok (.ldc2_w 59, 3) := by decide +kernel
theorem dX12_forget_6 : decode cX12_forget 6 = .ok (.invokestatic 49, 3) := by decide +kernel
theorem dX12_forget_9 : decode cX12_forget 9 = .ok (.ifCond .ne 10, 3) := by decide +kernel
theorem dX12_forget_12 : decode cX12_forget 12 = .ok (.aload_n 0, 1) := by decide +kernel
theorem dX12_forget_13 : decode cX12_forget 13 = .ok (.bipush (-2), 2) := by decide +kernel
theorem dX12_forget_15 : decode cX12_forget 15 = .ok (.invokevirtual 77, 3) := by decide +kernel
theorem dX12_forget_18 : decode cX12_forget 18 = .ok (.ireturn, 1) := by decide +kernel
theorem dX12_forget_19 : decode cX12_forget 19 = .ok (.iload_n 1, 1) := by decide +kernel
theorem dX12_forget_20 : decode cX12_forget 20 = .ok (.ifCond .ne 8, 3) := by decide +kernel
theorem dX12_forget_23 : decode cX12_forget 23 = .ok (.bipush 43, 2) := by decide +kernel
theorem dX12_forget_25 : decode cX12_forget 25 = .ok (.goto 15, 3) := by decide +kernel
theorem dX12_forget_28 : decode cX12_forget 28 = .ok (.iload_n 1, 1) := by decide +kernel
theorem dX12_forget_29 : decode cX12_forget 29 = .ok (.iconst 1, 1) := by decide +kernel
theorem dX12_forget_30 : decode cX12_forget 30 = .ok (.if_icmp .ne 8, 3) := by decide +kernel
theorem dX12_forget_33 : decode cX12_forget 33 = .ok (.bipush 62, 2) := by decide +kernel
theorem dX12_forget_35 : decode cX12_forget 35 = .ok (.goto 5, 3) := by decide +kernel
theorem dX12_forget_38 : decode cX12_forget 38 = .ok (.bipush 87, 2) := by decide +kernel
theorem dX12_forget_40 : decode cX12_forget 40 = .ok (.istore_n 2, 1) := by decide +kernel
theorem dX12_forget_41 : decode cX12_forget 41 = .ok (.aload_n 0, 1) := by decide +kernel
theorem dX12_forget_42 : decode cX12_forget 42 = .ok (.getfield 7, 3) := by decide +kernel
theorem dX12_forget_45 : decode cX12_forget 45 = .ok (.iload_n 2, 1) := by decide +kernel
theorem dX12_forget_46 : decode cX12_forget 46 = .ok (.iaload, 1) := by decide +kernel
theorem dX12_forget_47 : decode cX12_forget 47 = .ok (.istore_n 3, 1) := by decide +kernel
theorem dX12_forget_48 : decode cX12_forget 48 = .ok (.aload_n 0, 1) := by decide +kernel
theorem dX12_forget_49 : decode cX12_forget 49 = .ok (.getfield 7, 3) := by decide +kernel
theorem dX12_forget_52 : decode cX12_forget 52 = .ok (.iload_n 2, 1) := by decide +kernel
theorem dX12_forget_53 : decode cX12_forget 53 = .ok (.iconst 0, 1) := by decide +kernel
theorem dX12_forget_54 : decode cX12_forget 54 = .ok (.iastore, 1) := by decide +kernel
theorem dX12_forget_55 : decode cX12_forget 55 = .ok (.iload_n 3, 1) := by decide +kernel
theorem dX12_forget_56 : decode cX12_forget 56 = .ok (.ireturn, 1) := by decide +kernel
set_option maxRecDepth 20000 in
theorem ggX12_kindsOf_X12_goes : GoodIn wsX12_kindsOf wsX12_goes := goodIn_r _ [5, 6, 7, 4, 8] (by decide +kernel) (by decide +kernel)
set_option maxRecDepth 20000 in
theorem gX12_kindsOf_X12_goes : GoodIn wsX12_kindsOf (va_wsS RX12 163 yX12_goes wsX12_goes) := goodIn_app (goodIn_of _ (by decide +kernel)) ggX12_kindsOf_X12_goes
theorem dX12_kindsOf_0 : decode cX12_kindsOf 0 = .ok (.iconst 0, 1) := by decide +kernel
theorem dX12_kindsOf_1 : decode cX12_kindsOf 1 = .ok (.istore_n 2, 1) := by decide +kernel
theorem dX12_kindsOf_2 : decode cX12_kindsOf 2 = .ok (.iconst 0, 1) := by decide +kernel
theorem dX12_kindsOf_3 : decode cX12_kindsOf 3 = .ok (.istore_n 3, 1) := by decide +kernel
theorem dX12_kindsOf_4 : decode cX12_kindsOf 4 = .ok (.iload_n 3, 1) := by decide +kernel
theorem dX12_kindsOf_5 : decode cX12_kindsOf 5 = .ok (.bipush 6, 2) := by decide +kernel
theorem dX12_kindsOf_7 : decode cX12_kindsOf 7 = .ok (.if_icmp .ge 114, 3) := by decide +kernel
theorem dX12_kindsOf_10 : decode cX12_kindsOf 10 = .ok (.iconst 1, 1) := by decide +kernel
theorem dX12_kindsOf_11 : decode cX12_kindsOf 11 = .ok (.istore 4, 2) := by decide +kernel
theorem dX12_kindsOf_13 : decode cX12_kindsOf 13 = .ok (.iconst 0, 1) := by decide +kernel
theorem dX12_kindsOf_14 : decode cX12_kindsOf 14 = .ok (.istore 5, 2) := by decide +kernel
theorem dX12_kindsOf_16 : decode cX12_kindsOf 16 = .ok (.iload 5, 2) := by decide +kernel
theorem dX12_kindsOf_18 : decode cX12_kindsOf 18 = .ok (.aload_n 0, 1) := by decide +kernel
theorem dX12_kindsOf_19 : decode cX12_kindsOf 19 = .ok (.getfield 7, 3) := by decide +kernel
theorem dX12_kindsOf_22 : decode cX12_kindsOf 22 = .ok (.bipush 62, 2) := by decide +kernel
theorem dX12_kindsOf_24 : decode cX12_kindsOf 24 = .ok (.iaload, 1) := by decide +kernel
theorem dX12_kindsOf_25 : decode cX12_kindsOf 25 = .ok (.if_icmp .ge 75, 3) := by decide +kernel
theorem dX12_kindsOf_28 : decode cX12_kindsOf 28 = .ok (.bipush 63, 2) := by decide +kernel
theorem dX12_kindsOf_30 : decode cX12_kindsOf 30 = .ok (.iconst 4, 1) := by decide +kernel
theorem dX12_kindsOf_31 : decode cX12_kindsOf 31 = .ok (.iload 5, 2) := by decide +kernel
theorem dX12_kindsOf_33 : decode cX12_kindsOf 33 = .ok (.imul, 1) := by decide +kernel
theorem dX12_kindsOf_34 : decode cX12_kindsOf 34 = .ok (.iadd, 1) := by decide +kernel
theorem dX12_kindsOf_35 : decode cX12_kindsOf 35 = .ok (.istore 6, 2) := by decide +kernel
theorem dX12_kindsOf_37 : decode cX12_kindsOf 37 = .ok (.iload 4, 2) := by decide +kernel
theorem dX12_kindsOf_39 : decode cX12_kindsOf 39 = .ok (.ifCond .eq 52, 3) := by decide +kernel
theorem dX12_kindsOf_42 : decode cX12_kindsOf 42 = .ok (.aload_n 0, 1) := by decide +kernel
theorem dX12_kindsOf_43 : decode cX12_kindsOf 43 = .ok (.getfield 7, 3) := by decide +kernel
theorem dX12_kindsOf_46 : decode cX12_kindsOf 46 = .ok (.iload 6, 2) := by decide +kernel
theorem dX12_kindsOf_48 : decode cX12_kindsOf 48 = .ok (.iaload, 1) := by decide +kernel
theorem dX12_kindsOf_49 : decode cX12_kindsOf 49 = .ok (.iload_n 1, 1) := by decide +kernel
theorem dX12_kindsOf_50 : decode cX12_kindsOf 50 = .ok (.if_icmp .ne 37, 3) := by decide +kernel
theorem dX12_kindsOf_53 : decode cX12_kindsOf 53 = .ok (.iload_n 3, 1) := by decide +kernel
theorem dX12_kindsOf_54 : decode cX12_kindsOf 54 = .ok (.aload_n 0, 1) := by decide +kernel
theorem dX12_kindsOf_55 : decode cX12_kindsOf 55 = .ok (.getfield 7, 3) := by decide +kernel
theorem dX12_kindsOf_58 : decode cX12_kindsOf 58 = .ok (.iload 6, 2) := by decide +kernel
theorem dX12_kindsOf_60 : decode cX12_kindsOf 60 = .ok (.iconst 1, 1) := by decide +kernel
theorem dX12_kindsOf_61 : decode cX12_kindsOf 61 = .ok (.iadd, 1) := by decide +kernel
theorem dX12_kindsOf_62 : decode cX12_kindsOf 62 = .ok (.iaload, 1) := by decide +kernel
theorem dX12_kindsOf_63 : decode cX12_kindsOf 63 = .ok (.aload_n 0, 1) := by decide +kernel
theorem dX12_kindsOf_64 : decode cX12_kindsOf 64 = .ok (.getfield 7, 3) := by decide +kernel
theorem dX12_kindsOf_67 : decode cX12_kindsOf 67 = .ok (.iload 6, 2) := by decide +kernel
theorem dX12_kindsOf_69 : decode cX12_kindsOf 69 = .ok (.iconst 2, 1) := by decide +kernel
theorem dX12_kindsOf_70 : decode cX12_kindsOf 70 = .ok (.iadd, 1) := by decide +kernel
theorem dX12_kindsOf_71 : decode cX12_kindsOf 71 = .ok (.iaload, 1) := by decide +kernel
theorem dX12_kindsOf_72 : decode cX12_kindsOf 72 = .ok (.invokestatic 163, 3) := by decide +kernel
theorem dX12_kindsOf_75 : decode cX12_kindsOf 75 = .ok (.aload_n 0, 1) := by decide +kernel
theorem dX12_kindsOf_76 : decode cX12_kindsOf 76 = .ok (.getfield 7, 3) := by decide +kernel
theorem dX12_kindsOf_79 : decode cX12_kindsOf 79 = .ok (.iload 6, 2) := by decide +kernel
theorem dX12_kindsOf_81 : decode cX12_kindsOf 81 = .ok (.iconst 3, 1) := by decide +kernel
theorem dX12_kindsOf_82 : decode cX12_kindsOf 82 = .ok (.iadd, 1) := by decide +kernel
theorem dX12_kindsOf_83 : decode cX12_kindsOf 83 = .ok (.iaload, 1) := by decide +kernel
theorem dX12_kindsOf_84 : decode cX12_kindsOf 84 = .ok (.if_icmp .ne 7, 3) := by decide +kernel
theorem dX12_kindsOf_87 : decode cX12_kindsOf 87 = .ok (.iconst 1, 1) := by decide +kernel
theorem dX12_kindsOf_88 : decode cX12_kindsOf 88 = .ok (.goto 4, 3) := by decide +kernel
theorem dX12_kindsOf_91 : decode cX12_kindsOf 91 = .ok (.iconst 0, 1) := by decide +kernel
theorem dX12_kindsOf_92 : decode cX12_kindsOf 92 = .ok (.istore 4, 2) := by decide +kernel
theorem dX12_kindsOf_94 : decode cX12_kindsOf 94 = .ok (.iinc 5 1, 3) := by decide +kernel
theorem dX12_kindsOf_97 : decode cX12_kindsOf 97 = .ok (.goto (-81), 3) := by decide +kernel
theorem dX12_kindsOf_100 : decode cX12_kindsOf 100 = .ok (.iload_n 2, 1) := by decide +kernel
theorem dX12_kindsOf_101 : decode cX12_kindsOf 101 = .ok (.iload 4, 2) := by decide +kernel
theorem dX12_kindsOf_103 : decode cX12_kindsOf 103 = .ok (.ifCond .eq 9, 3) := by decide +kernel
theorem dX12_kindsOf_106 : decode cX12_kindsOf 106 = .ok (.iconst 1, 1) := by decide +kernel
theorem dX12_kindsOf_107 : decode cX12_kindsOf 107 = .ok (.iload_n 3, 1) := by decide +kernel
theorem dX12_kindsOf_108 : decode cX12_kindsOf 108 = .ok (.ishl, 1) := by decide +kernel
theorem dX12_kindsOf_109 : decode cX12_kindsOf 109 = .ok (.goto 4, 3) := by decide +kernel
theorem dX12_kindsOf_112 : decode cX12_kindsOf 112 = .ok (.iconst 0, 1) := by decide +kernel
theorem dX12_kindsOf_113 : decode cX12_kindsOf 113 = .ok (.ior, 1) := by decide +kernel
theorem dX12_kindsOf_114 : decode cX12_kindsOf 114 = .ok (.istore_n 2, 1) := by decide +kernel
theorem dX12_kindsOf_115 : decode cX12_kindsOf 115 = .ok (.iinc 3 1, 3) := by decide +kernel
theorem dX12_kindsOf_118 : decode cX12_kindsOf 118 = .ok (.goto (-114), 3) := by decide +kernel
theorem dX12_kindsOf_121 : decode cX12_kindsOf 121 = .ok (.iload_n 2, 1) := by decide +kernel
theorem dX12_kindsOf_122 : decode cX12_kindsOf 122 = .ok (.ireturn, 1) := by decide +kernel
set_option maxRecDepth 20000 in
theorem ggX12_is_X12_isKeeper : GoodIn wsX12_is wsX12_isKeeper := goodIn_r _ [5, 6, 7, 8, 4, 9, 25, 26, 27, 28, 29, 30, 31, 32, 33, 34, 35, 36, 37, 38, 39, 40, 41, 42, 43, 44] (by decide +kernel) (by decide +kernel)
set_option maxRecDepth 20000 in
theorem gX12_is_X12_isKeeper : GoodIn wsX12_is (wsV RX12 89 RX12 yX12_isKeeper wsX12_isKeeper) := goodIn_app (goodIn_of _ (by decide +kernel)) ggX12_is_X12_isKeeper
set_option maxRecDepth 20000 in
theorem ggX12_is_X12_kindsOf : GoodIn wsX12_is wsX12_kindsOf := goodIn_r _ [13, 6, 14, 15, 4, 16, 17, 18, 19, 25, 26, 27, 28, 29, 30, 31, 32, 33, 34, 35, 36, 37, 38, 39, 40, 41, 42, 43, 44] (by decide +kernel) (by decide +kernel)
set_option maxRecDepth 20000 in
theorem gX12_is_X12_kindsOf : GoodIn wsX12_is (wsV RX12 264 RX12 yX12_kindsOf wsX12_kindsOf) := goodIn_app (goodIn_of _ (by decide +kernel)) ggX12_is_X12_kindsOf
set_option maxRecDepth 20000 in
theorem ggX12_is_X12_bad : GoodIn wsX12_is wsX12_bad := goodIn_r _ [23, 24, 25, 26, 27, 28, 29, 30, 31, 32, 33, 34, 35, 36, 37, 38, 39, 40, 41, 42, 43, 44] (by decide +kernel) (by decide +kernel)
set_option maxRecDepth 20000 in
theorem gX12_is_X12_bad : GoodIn wsX12_is (wsV RX12 77 RX12 yX12_bad wsX12_bad) := goodIn_app (goodIn_of _ (by decide +kernel)) ggX12_is_X12_bad
theorem dX12_is_0 : decode cX12_is 0 = .ok (.aload_n 0, 1) := by decide +kernel
theorem dX12_is_1 : decode cX12_is 1 = .ok (.iload_n 1, 1) := by decide +kernel
theorem dX12_is_2 : decode cX12_is 2 = .ok (.invokevirtual 89, 3) := by decide +kernel
theorem dX12_is_5 : decode cX12_is 5 = .ok (.ifCond .eq 11, 3) := by decide +kernel
theorem dX12_is_8 : decode cX12_is 8 = .ok (.aload_n 0, 1) := by decide +kernel
theorem dX12_is_9 : decode cX12_is 9 = .ok (.iload_n 1, 1) := by decide +kernel
theorem dX12_is_10 : decode cX12_is 10 = .ok (.invokevirtual 264, 3) := by decide +kernel
theorem dX12_is_13 : decode cX12_is 13 = .ok (.goto 9, 3) := by decide +kernel
theorem dX12_is_16 : decode cX12_is 16 = .ok (.aload_n 0, 1) := by decide +kernel
theorem dX12_is_17 : decode cX12_is 17 = .ok (.bipush (-2), 2) := by decide +kernel
theorem dX12_is_19 : decode cX12_is 19 = .ok (.invokevirtual 77, 3) := by decide +kernel
theorem dX12_is_22 : decode cX12_is 22 = .ok (.ireturn, 1) := by decide +kernel
set_option maxRecDepth 20000 in
theorem ggX12_watch_X12_isKeeper : GoodIn wsX12_watch wsX12_isKeeper := goodIn_r _ [8, 3, 9, 10, 7, 11, 38, 39, 40, 41, 42, 43, 44, 45, 46, 47, 48, 49, 50, 51, 52, 53, 54, 55, 56, 57] (by decide +kernel) (by decide +kernel)
set_option maxRecDepth 20000 in
theorem gX12_watch_X12_isKeeper : GoodIn wsX12_watch (wsV RX12 89 RX12 yX12_isKeeper wsX12_isKeeper) := goodIn_app (goodIn_of _ (by decide +kernel)) ggX12_watch_X12_isKeeper
set_option maxRecDepth 20000 in
theorem ggX12_watch_X12_bad : GoodIn wsX12_watch wsX12_bad := goodIn_r _ [15, 16, 38, 39, 40, 41, 42, 43, 44, 45, 46, 47, 48, 49, 50, 51, 52, 53, 54, 55, 56, 57] (by decide +kernel) (by decide +kernel)
set_option maxRecDepth 20000 in
theorem gX12_watch_X12_bad : GoodIn wsX12_watch (wsV RX12 77 RX12 yX12_bad wsX12_bad) := goodIn_app (goodIn_of _ (by decide +kernel)) ggX12_watch_X12_bad
set_option maxRecDepth 20000 in
theorem ggX12_watch_X12_kindsOf : GoodIn wsX12_watch wsX12_kindsOf := goodIn_r _ [20, 3, 21, 22, 7, 23, 24, 25, 26, 38, 39, 40, 41, 42, 43, 44, 45, 46, 47, 48, 49, 50, 51, 52, 53, 54, 55, 56, 57] (by decide +kernel) (by decide +kernel)
set_option maxRecDepth 20000 in
theorem gX12_watch_X12_kindsOf : GoodIn wsX12_watch (wsV RX12 264 RX12 yX12_kindsOf wsX12_kindsOf) := goodIn_app (goodIn_of _ (by decide +kernel)) ggX12_watch_X12_kindsOf
set_option maxRecDepth 20000 in
theorem ggX12_watch_X12_emptiesParts : GoodIn wsX12_watch wsX12_emptiesParts := goodIn_r _ [30, 2, 38, 39, 40, 41, 42, 43, 44, 45, 46, 47, 48, 49, 50, 51, 52, 53, 54, 55, 56, 57] (by decide +kernel) (by decide +kernel)
set_option maxRecDepth 20000 in
theorem gX12_watch_X12_emptiesParts : GoodIn wsX12_watch (wsV RX12 255 RX12 yX12_emptiesParts wsX12_emptiesParts) := goodIn_app (goodIn_of _ (by decide +kernel)) ggX12_watch_X12_emptiesParts
set_option maxRecDepth 20000 in
theorem ggX12_watch_X12_goes : GoodIn wsX12_watch wsX12_goes := goodIn_r _ [23, 24, 25, 7, 26] (by decide +kernel) (by decide +kernel)
set_option maxRecDepth 20000 in
theorem gX12_watch_X12_goes : GoodIn wsX12_watch (va_wsS RX12 163 yX12_goes wsX12_goes) := goodIn_app (goodIn_of _ (by decide +kernel)) ggX12_watch_X12_goes
set_option maxRecDepth 20000 in
theorem ggX12_watch_X12_has : GoodIn wsX12_watch wsX12_has := goodIn_r _ [33] (by decide +kernel) (by decide +kernel)
set_option maxRecDepth 20000 in
theorem gX12_watch_X12_has : GoodIn wsX12_watch (va_wsS RX12 173 yX12_has wsX12_has) := goodIn_app (goodIn_of _ (by decide +kernel)) ggX12_watch_X12_has
set_option maxRecDepth 20000 in
theorem ggX12_watch_X12_greatestPart : GoodIn wsX12_watch wsX12_greatestPart := goodIn_r _ [37, 2, 38, 39, 40, 41, 42, 43, 44, 45, 46, 47, 48, 49, 50, 51, 52, 53, 54, 55, 56, 57] (by decide +kernel) (by decide +kernel)
set_option maxRecDepth 20000 in
theorem gX12_watch_X12_greatestPart : GoodIn wsX12_watch (wsV RX12 261 RX12 yX12_greatestPart wsX12_greatestPart) := goodIn_app (goodIn_of _ (by decide +kernel)) ggX12_watch_X12_greatestPart
theorem dX12_watch_0 : decode cX12_watch 0 = .ok (.aload_n 0, 1) := by decide +kernel
theorem dX12_watch_1 : decode cX12_watch 1 = .ok (.iload_n 1, 1) := by decide +kernel
theorem dX12_watch_2 : decode cX12_watch 2 = .ok (.invokevirtual 89, 3) := by decide +kernel
theorem dX12_watch_5 : decode cX12_watch 5 = .ok (.ifCond .ne 10, 3) := by decide +kernel
theorem dX12_watch_8 : decode cX12_watch 8 = .ok (.aload_n 0, 1) := by decide +kernel
theorem dX12_watch_9 : decode cX12_watch 9 = .ok (.bipush (-2), 2) := by decide +kernel
theorem dX12_watch_11 : decode cX12_watch 11 = .ok (.invokevirtual 77, 3) := by decide +kernel
theorem dX12_watch_14 : decode cX12_watch 14 = .ok (.ireturn, 1) := by decide +kernel
theorem dX12_watch_15 : decode cX12_watch 15 = .ok (.aload_n 0, 1) := by decide +kernel
theorem dX12_watch_16 : decode cX12_watch 16 = .ok (.iload_n 1, 1) := by decide +kernel
theorem dX12_watch_17 : decode cX12_watch 17 = .ok (.invokevirtual 264, 3) := by decide +kernel
theorem dX12_watch_20 : decode cX12_watch 20 = .ok (.istore_n 2, 1) := by decide +kernel
theorem dX12_watch_21 : decode cX12_watch 21 = .ok (.iconst (-1), 1) := by decide +kernel
theorem dX12_watch_22 : decode cX12_watch 22 = .ok (.istore_n 3, 1) := by decide +kernel
theorem dX12_watch_23 : decode cX12_watch 23 = .ok (.ldc 215, 2) := by decide +kernel
theorem dX12_watch_25 : decode cX12_watch 25 = .ok (.istore 4, 2) := by decide +kernel
theorem dX12_watch_27 : decode cX12_watch 27 = .ok (.iconst 0, 1) := by decide +kernel
theorem dX12_watch_28 : decode cX12_watch 28 = .ok (.istore 5, 2) := by decide +kernel
theorem dX12_watch_30 : decode cX12_watch 30 = .ok (.iload 5, 2) := by decide +kernel
theorem dX12_watch_32 : decode cX12_watch 32 = .ok (.bipush 12, 2) := by decide +kernel
theorem dX12_watch_34 : decode cX12_watch 34 = .ok (.if_icmp .ge 107, 3) := by decide +kernel
theorem dX12_watch_37 : decode cX12_watch 37 = .ok (.iload_n 2, 1) := by decide +kernel
theorem dX12_watch_38 : decode cX12_watch 38 = .ok (.ifCond .le 103, 3) := by decide +kernel
theorem dX12_watch_41 : decode cX12_watch 41 = .ok (.aload_n 0, 1) := by decide +kernel
theorem dX12_watch_42 : decode cX12_watch 42 = .ok (.invokevirtual 255, 3) := by decide +kernel
theorem dX12_watch_45 : decode cX12_watch 45 = .ok (.iconst 0, 1) := by decide +kernel
theorem dX12_watch_46 : decode cX12_watch 46 = .ok (.istore 6, 2) := by decide +kernel
theorem dX12_watch_48 : decode cX12_watch 48 = .ok (.iload 6, 2) := by decide +kernel
theorem dX12_watch_50 : decode cX12_watch 50 = .ok (.bipush 6, 2) := by decide +kernel
theorem dX12_watch_52 : decode cX12_watch 52 = .ok (.if_icmp .ge 47, 3) := by decide +kernel
theorem dX12_watch_55 : decode cX12_watch 55 = .ok (.aload_n 0, 1) := by decide +kernel
theorem dX12_watch_56 : decode cX12_watch 56 = .ok (.getfield 39, 3) := by decide +kernel
theorem dX12_watch_59 : decode cX12_watch 59 = .ok (.iload 6, 2) := by decide +kernel
theorem dX12_watch_61 : decode cX12_watch 61 = .ok (.aload_n 0, 1) := by decide +kernel
theorem dX12_watch_62 : decode cX12_watch 62 = .ok (.getfield 7, 3) := by decide +kernel
theorem dX12_watch_65 : decode cX12_watch 65 = .ok (.bipush 18, 2) := by decide +kernel
theorem dX12_watch_67 : decode cX12_watch 67 = .ok (.iload_n 1, 1) := by decide +kernel
theorem dX12_watch_68 : decode cX12_watch 68 = .ok (.iadd, 1) := by decide +kernel
theorem dX12_watch_69 : decode cX12_watch 69 = .ok (.iaload, 1) := by decide +kernel
theorem dX12_watch_70 : decode cX12_watch 70 = .ok (.iload 5, 2) := by decide +kernel
theorem dX12_watch_72 : decode cX12_watch 72 = .ok (.invokestatic 163, 3) := by decide +kernel
theorem dX12_watch_75 : decode cX12_watch 75 = .ok (.dup2, 1) := by decide +kernel
theorem dX12_watch_76 : decode cX12_watch 76 = .ok (.iaload, 1) := by decide +kernel
theorem dX12_watch_77 : decode cX12_watch 77 = .ok (.iload_n 2, 1) := by decide +kernel
theorem dX12_watch_78 : decode cX12_watch 78 = .ok (.iload 6, 2) := by decide +kernel
theorem dX12_watch_80 : decode cX12_watch 80 = .ok (.invokestatic 173, 3) := by decide +kernel
theorem dX12_watch_83 : decode cX12_watch 83 = .ok (.ifCond .eq 7, 3) := by decide +kernel
theorem dX12_watch_86 : decode cX12_watch 86 = .ok (.iconst 1, 1) := by decide +kernel
theorem dX12_watch_87 : decode cX12_watch 87 = .ok (.goto 4, 3) := by decide +kernel
theorem dX12_watch_90 : decode cX12_watch 90 = .ok (.iconst 0, 1) := by decide +kernel
theorem dX12_watch_91 : decode cX12_watch 91 = .ok (.iadd, 1) := by decide +kernel
theorem dX12_watch_92 : decode cX12_watch 92 = .ok (.iastore, 1) := by decide +kernel
theorem dX12_watch_93 : decode cX12_watch 93 = .ok (.iinc 6 1, 3) := by decide +kernel
theorem dX12_watch_96 : decode cX12_watch 96 = .ok (.goto (-48), 3) := by decide +kernel
theorem dX12_watch_99 : decode cX12_watch 99 = .ok (.aload_n 0, 1) := by decide +kernel
theorem dX12_watch_100 : decode cX12_watch 100 = .ok (.invokevirtual 261, 3) := by decide +kernel
theorem dX12_watch_103 : decode cX12_watch 103 = .ok (.istore 6, 2) := by decide +kernel
theorem dX12_watch_105 : decode cX12_watch 105 = .ok (.iload 6, 2) := by decide +kernel
theorem dX12_watch_107 : decode cX12_watch 107 = .ok (.iload 4, 2) := by decide +kernel
theorem dX12_watch_109 : decode cX12_watch 109 = .ok (.if_icmp .ge 8, 3) := by decide +kernel
theorem dX12_watch_112 : decode cX12_watch 112 = .ok (.iload 5, 2) := by decide +kernel
theorem dX12_watch_114 : decode cX12_watch 114 = .ok (.goto 4, 3) := by decide +kernel
theorem dX12_watch_117 : decode cX12_watch 117 = .ok (.iload_n 3, 1) := by decide +kernel
theorem dX12_watch_118 : decode cX12_watch 118 = .ok (.istore_n 3, 1) := by decide +kernel
theorem dX12_watch_119 : decode cX12_watch 119 = .ok (.iload 6, 2) := by decide +kernel
theorem dX12_watch_121 : decode cX12_watch 121 = .ok (.iload 4, 2) := by decide +kernel
theorem dX12_watch_123 : decode cX12_watch 123 = .ok (.if_icmp .ge 8, 3) := by decide +kernel
theorem dX12_watch_126 : decode cX12_watch 126 = .ok (.iload 6, 2) := by decide +kernel
theorem dX12_watch_128 : decode cX12_watch 128 = .ok (.goto 5, 3) := by decide +kernel
theorem dX12_watch_131 : decode cX12_watch 131 = .ok (.iload 4, 2) := by decide +kernel
theorem dX12_watch_133 : decode cX12_watch 133 = .ok (.istore 4, 2) := by decide +kernel
theorem dX12_watch_135 : decode cX12_watch 135 = .ok (.iinc 5 1, 3) := by decide +kernel
theorem dX12_watch_138 : decode cX12_watch 138 = .ok (.goto (-108), 3) := by decide +kernel
theorem dX12_watch_141 : decode cX12_watch 141 = .ok (.iload_n 3, 1) := by decide +kernel
theorem dX12_watch_142 : decode cX12_watch 142 = .ok (.ireturn, 1) := by decide +kernel
set_option maxRecDepth 20000 in
theorem ggX12_balancesOf_X12_tipOf : GoodIn wsX12_balancesOf wsX12_tipOf := goodIn_r _ [5, 6, 7, 4, 8, 9, 10, 11, 12, 13, 14, 15, 16] (by decide +kernel) (by decide +kernel)
set_option maxRecDepth 20000 in
theorem gX12_balancesOf_X12_tipOf : GoodIn wsX12_balancesOf (va_wsS RX12 244 yX12_tipOf wsX12_tipOf) := goodIn_app (goodIn_of _ (by decide +kernel)) ggX12_balancesOf_X12_tipOf
theorem dX12_balancesOf_0 : decode cX12_balancesOf 0 = .ok (.iconst 0, 1) := by decide +kernel
theorem dX12_balancesOf_1 : decode cX12_balancesOf 1 = .ok (.istore_n 2, 1) := by decide +kernel
theorem dX12_balancesOf_2 : decode cX12_balancesOf 2 = .ok (.iconst 0, 1) := by decide +kernel
theorem dX12_balancesOf_3 : decode cX12_balancesOf 3 = .ok (.istore_n 3, 1) := by decide +kernel
theorem dX12_balancesOf_4 : decode cX12_balancesOf 4 = .ok (.iload_n 3, 1) := by decide +kernel
theorem dX12_balancesOf_5 : decode cX12_balancesOf 5 = .ok (.bipush 6, 2) := by decide +kernel
theorem dX12_balancesOf_7 : decode cX12_balancesOf 7 = .ok (.if_icmp .ge 114, 3) := by decide +kernel
theorem dX12_balancesOf_10 : decode cX12_balancesOf 10 = .ok (.iconst 1, 1) := by decide +kernel
theorem dX12_balancesOf_11 : decode cX12_balancesOf 11 = .ok (.istore 4, 2) := by decide +kernel
theorem dX12_balancesOf_13 : decode cX12_balancesOf 13 = .ok (.iconst 0, 1) := by decide +kernel
theorem dX12_balancesOf_14 : decode cX12_balancesOf 14 = .ok (.istore 5, 2) := by decide +kernel
theorem dX12_balancesOf_16 : decode cX12_balancesOf 16 = .ok (.iload 5, 2) := by decide +kernel
theorem dX12_balancesOf_18 : decode cX12_balancesOf 18 = .ok (.aload_n 0, 1) := by decide +kernel
theorem dX12_balancesOf_19 : decode cX12_balancesOf 19 = .ok (.getfield 7, 3) := by decide +kernel
theorem dX12_balancesOf_22 : decode cX12_balancesOf 22 = .ok (.bipush 87, 2) := by decide +kernel
theorem dX12_balancesOf_24 : decode cX12_balancesOf 24 = .ok (.iaload, 1) := by decide +kernel
theorem dX12_balancesOf_25 : decode cX12_balancesOf 25 = .ok (.if_icmp .ge 75, 3) := by decide +kernel
theorem dX12_balancesOf_28 : decode cX12_balancesOf 28 = .ok (.bipush 88, 2) := by decide +kernel
theorem dX12_balancesOf_30 : decode cX12_balancesOf 30 = .ok (.iconst 4, 1) := by decide +kernel
theorem dX12_balancesOf_31 : decode cX12_balancesOf 31 = .ok (.iload 5, 2) := by decide +kernel
theorem dX12_balancesOf_33 : decode cX12_balancesOf 33 = .ok (.imul, 1) := by decide +kernel
theorem dX12_balancesOf_34 : decode cX12_balancesOf 34 = .ok (.iadd, 1) := by decide +kernel
theorem dX12_balancesOf_35 : decode cX12_balancesOf 35 = .ok (.istore 6, 2) := by decide +kernel
theorem dX12_balancesOf_37 : decode cX12_balancesOf 37 = .ok (.iload 4, 2) := by decide +kernel
theorem dX12_balancesOf_39 : decode cX12_balancesOf 39 = .ok (.ifCond .eq 52, 3) := by decide +kernel
theorem dX12_balancesOf_42 : decode cX12_balancesOf 42 = .ok (.aload_n 0, 1) := by decide +kernel
theorem dX12_balancesOf_43 : decode cX12_balancesOf 43 = .ok (.getfield 7, 3) := by decide +kernel
theorem dX12_balancesOf_46 : decode cX12_balancesOf 46 = .ok (.iload 6, 2) := by decide +kernel
theorem dX12_balancesOf_48 : decode cX12_balancesOf 48 = .ok (.iaload, 1) := by decide +kernel
theorem dX12_balancesOf_49 : decode cX12_balancesOf 49 = .ok (.iload_n 1, 1) := by decide +kernel
theorem dX12_balancesOf_50 : decode cX12_balancesOf 50 = .ok (.if_icmp .ne 37, 3) := by decide +kernel
theorem dX12_balancesOf_53 : decode cX12_balancesOf 53 = .ok (.iload_n 3, 1) := by decide +kernel
theorem dX12_balancesOf_54 : decode cX12_balancesOf 54 = .ok (.aload_n 0, 1) := by decide +kernel
theorem dX12_balancesOf_55 : decode cX12_balancesOf 55 = .ok (.getfield 7, 3) := by decide +kernel
theorem dX12_balancesOf_58 : decode cX12_balancesOf 58 = .ok (.iload 6, 2) := by decide +kernel
theorem dX12_balancesOf_60 : decode cX12_balancesOf 60 = .ok (.iconst 1, 1) := by decide +kernel
theorem dX12_balancesOf_61 : decode cX12_balancesOf 61 = .ok (.iadd, 1) := by decide +kernel
theorem dX12_balancesOf_62 : decode cX12_balancesOf 62 = .ok (.iaload, 1) := by decide +kernel
theorem dX12_balancesOf_63 : decode cX12_balancesOf 63 = .ok (.aload_n 0, 1) := by decide +kernel
theorem dX12_balancesOf_64 : decode cX12_balancesOf 64 = .ok (.getfield 7, 3) := by decide +kernel
theorem dX12_balancesOf_67 : decode cX12_balancesOf 67 = .ok (.iload 6, 2) := by decide +kernel
theorem dX12_balancesOf_69 : decode cX12_balancesOf 69 = .ok (.iconst 2, 1) := by decide +kernel
theorem dX12_balancesOf_70 : decode cX12_balancesOf 70 = .ok (.iadd, 1) := by decide +kernel
theorem dX12_balancesOf_71 : decode cX12_balancesOf 71 = .ok (.iaload, 1) := by decide +kernel
theorem dX12_balancesOf_72 : decode cX12_balancesOf 72 = .ok (.invokestatic 244, 3) := by decide +kernel
theorem dX12_balancesOf_75 : decode cX12_balancesOf 75 = .ok (.aload_n 0, 1) := by decide +kernel
theorem dX12_balancesOf_76 : decode cX12_balancesOf 76 = .ok (.getfield 7, 3) := by decide +kernel
theorem dX12_balancesOf_79 : decode cX12_balancesOf 79 = .ok (.iload 6, 2) := by decide +kernel
theorem dX12_balancesOf_81 : decode cX12_balancesOf 81 = .ok (.iconst 3, 1) := by decide +kernel
theorem dX12_balancesOf_82 : decode cX12_balancesOf 82 = .ok (.iadd, 1) := by decide +kernel
theorem dX12_balancesOf_83 : decode cX12_balancesOf 83 = .ok (.iaload, 1) := by decide +kernel
theorem dX12_balancesOf_84 : decode cX12_balancesOf 84 = .ok (.if_icmp .ne 7, 3) := by decide +kernel
theorem dX12_balancesOf_87 : decode cX12_balancesOf 87 = .ok (.iconst 1, 1) := by decide +kernel
theorem dX12_balancesOf_88 : decode cX12_balancesOf 88 = .ok (.goto 4, 3) := by decide +kernel
theorem dX12_balancesOf_91 : decode cX12_balancesOf 91 = .ok (.iconst 0, 1) := by decide +kernel
theorem dX12_balancesOf_92 : decode cX12_balancesOf 92 = .ok (.istore 4, 2) := by decide +kernel
theorem dX12_balancesOf_94 : decode cX12_balancesOf 94 = .ok (.iinc 5 1, 3) := by decide +kernel
theorem dX12_balancesOf_97 : decode cX12_balancesOf 97 = .ok (.goto (-81), 3) := by decide +kernel
theorem dX12_balancesOf_100 : decode cX12_balancesOf 100 = .ok (.iload_n 2, 1) := by decide +kernel
theorem dX12_balancesOf_101 : decode cX12_balancesOf 101 = .ok (.iload 4, 2) := by decide +kernel
theorem dX12_balancesOf_103 : decode cX12_balancesOf 103 = .ok (.ifCond .eq 9, 3) := by decide +kernel
theorem dX12_balancesOf_106 : decode cX12_balancesOf 106 = .ok (.iconst 1, 1) := by decide +kernel
theorem dX12_balancesOf_107 : decode cX12_balancesOf 107 = .ok (.iload_n 3, 1) := by decide +kernel
theorem dX12_balancesOf_108 : decode cX12_balancesOf 108 = .ok (.ishl, 1) := by decide +kernel
theorem dX12_balancesOf_109 : decode cX12_balancesOf 109 = .ok (.goto 4, 3) := by decide +kernel
theorem dX12_balancesOf_112 : decode cX12_balancesOf 112 = .ok (.iconst 0, 1) := by decide +kernel
theorem dX12_balancesOf_113 : decode cX12_balancesOf 113 = .ok (.ior, 1) := by decide +kernel
theorem dX12_balancesOf_114 : decode cX12_balancesOf 114 = .ok (.istore_n 2, 1) := by decide +kernel
theorem dX12_balancesOf_115 : decode cX12_balancesOf 115 = .ok (.iinc 3 1, 3) := by decide +kernel
theorem dX12_balancesOf_118 : decode cX12_balancesOf 118 = .ok (.goto (-114), 3) := by decide +kernel
theorem dX12_balancesOf_121 : decode cX12_balancesOf 121 = .ok (.iload_n 2, 1) := by decide +kernel
theorem dX12_balancesOf_122 : decode cX12_balancesOf 122 = .ok (.ireturn, 1) := by decide +kernel
set_option maxRecDepth 20000 in
theorem ggX12_who_X12_isBalance : GoodIn wsX12_who wsX12_isBalance := goodIn_r _ [5, 6, 7, 8, 4, 9, 30, 31, 32, 33, 34, 35, 36, 37, 38, 39, 40, 41, 42, 43, 44, 45, 46, 47, 48, 49] (by decide +kernel) (by decide +kernel)
set_option maxRecDepth 20000 in
theorem gX12_who_X12_isBalance : GoodIn wsX12_who (wsV RX12 235 RX12 yX12_isBalance wsX12_isBalance) := goodIn_app (goodIn_of _ (by decide +kernel)) ggX12_who_X12_isBalance
set_option maxRecDepth 20000 in
theorem ggX12_who_X12_balancesOf : GoodIn wsX12_who wsX12_balancesOf := goodIn_r _ [13, 6, 14, 15, 4, 16, 17, 18, 19, 20, 21, 7, 8, 9, 22, 23, 24, 30, 31, 32, 33, 34, 35, 36, 37, 38, 39, 40, 41, 42, 43, 44, 45, 46, 47, 48, 49] (by decide +kernel) (by decide +kernel)
set_option maxRecDepth 20000 in
theorem gX12_who_X12_balancesOf : GoodIn wsX12_who (wsV RX12 267 RX12 yX12_balancesOf wsX12_balancesOf) := goodIn_app (goodIn_of _ (by decide +kernel)) ggX12_who_X12_balancesOf
set_option maxRecDepth 20000 in
theorem ggX12_who_X12_bad : GoodIn wsX12_who wsX12_bad := goodIn_r _ [28, 29, 30, 31, 32, 33, 34, 35, 36, 37, 38, 39, 40, 41, 42, 43, 44, 45, 46, 47, 48, 49] (by decide +kernel) (by decide +kernel)
set_option maxRecDepth 20000 in
theorem gX12_who_X12_bad : GoodIn wsX12_who (wsV RX12 77 RX12 yX12_bad wsX12_bad) := goodIn_app (goodIn_of _ (by decide +kernel)) ggX12_who_X12_bad
theorem dX12_who_0 : decode cX12_who 0 = .ok (.aload_n 0, 1) := by decide +kernel
theorem dX12_who_1 : decode cX12_who 1 = .ok (.iload_n 1, 1) := by decide +kernel
theorem dX12_who_2 : decode cX12_who 2 = .ok (.invokevirtual 235, 3) := by decide +kernel
theorem dX12_who_5 : decode cX12_who 5 = .ok (.ifCond .eq 11, 3) := by decide +kernel
theorem dX12_who_8 : decode cX12_who 8 = .ok (.aload_n 0, 1) := by decide +kernel
theorem dX12_who_9 : decode cX12_who 9 = .ok (.iload_n 1, 1) := by decide +kernel
theorem dX12_who_10 : decode cX12_who 10 = .ok (.invokevirtual 267, 3) := by decide +kernel
theorem dX12_who_13 : decode cX12_who 13 = .ok (.goto 9, 3) := by decide +kernel
theorem dX12_who_16 : decode cX12_who 16 = .ok (.aload_n 0, 1) := by decide +kernel
theorem dX12_who_17 : decode cX12_who 17 = .ok (.bipush (-2), 2) := by decide +kernel
theorem dX12_who_19 : decode cX12_who 19 = .ok (.invokevirtual 77, 3) := by decide +kernel
theorem dX12_who_22 : decode cX12_who 22 = .ok (.ireturn, 1) := by decide +kernel
set_option maxRecDepth 20000 in
theorem ggX12_lay_X12_isBalance : GoodIn wsX12_lay wsX12_isBalance := goodIn_r _ [7, 8, 9, 10, 6, 11, 43, 44, 45, 46, 47, 48, 49, 50, 51, 52, 53, 54, 55, 56, 57, 58, 59, 60, 61, 62] (by decide +kernel) (by decide +kernel)
set_option maxRecDepth 20000 in
theorem gX12_lay_X12_isBalance : GoodIn wsX12_lay (wsV RX12 235 RX12 yX12_isBalance wsX12_isBalance) := goodIn_app (goodIn_of _ (by decide +kernel)) ggX12_lay_X12_isBalance
set_option maxRecDepth 20000 in
theorem ggX12_lay_X12_bad : GoodIn wsX12_lay wsX12_bad := goodIn_r _ [15, 16, 43, 44, 45, 46, 47, 48, 49, 50, 51, 52, 53, 54, 55, 56, 57, 58, 59, 60, 61, 62] (by decide +kernel) (by decide +kernel)
set_option maxRecDepth 20000 in
theorem gX12_lay_X12_bad : GoodIn wsX12_lay (wsV RX12 77 RX12 yX12_bad wsX12_bad) := goodIn_app (goodIn_of _ (by decide +kernel)) ggX12_lay_X12_bad
set_option maxRecDepth 20000 in
theorem ggX12_lay_X12_balancesOf : GoodIn wsX12_lay wsX12_balancesOf := goodIn_r _ [20, 8, 21, 22, 6, 23, 24, 25, 26, 27, 28, 9, 10, 11, 29, 30, 31, 43, 44, 45, 46, 47, 48, 49, 50, 51, 52, 53, 54, 55, 56, 57, 58, 59, 60, 61, 62] (by decide +kernel) (by decide +kernel)
set_option maxRecDepth 20000 in
theorem gX12_lay_X12_balancesOf : GoodIn wsX12_lay (wsV RX12 267 RX12 yX12_balancesOf wsX12_balancesOf) := goodIn_app (goodIn_of _ (by decide +kernel)) ggX12_lay_X12_balancesOf
set_option maxRecDepth 20000 in
theorem ggX12_lay_X12_emptiesParts : GoodIn wsX12_lay wsX12_emptiesParts := goodIn_r _ [35, 2, 43, 44, 45, 46, 47, 48, 49, 50, 51, 52, 53, 54, 55, 56, 57, 58, 59, 60, 61, 62] (by decide +kernel) (by decide +kernel)
set_option maxRecDepth 20000 in
theorem gX12_lay_X12_emptiesParts : GoodIn wsX12_lay (wsV RX12 255 RX12 yX12_emptiesParts wsX12_emptiesParts) := goodIn_app (goodIn_of _ (by decide +kernel)) ggX12_lay_X12_emptiesParts
set_option maxRecDepth 20000 in
theorem ggX12_lay_X12_tipOf : GoodIn wsX12_lay wsX12_tipOf := goodIn_r _ [23, 24, 25, 6, 26, 27, 28, 9, 10, 11, 29, 30, 31] (by decide +kernel) (by decide +kernel)
set_option maxRecDepth 20000 in
theorem gX12_lay_X12_tipOf : GoodIn wsX12_lay (va_wsS RX12 244 yX12_tipOf wsX12_tipOf) := goodIn_app (goodIn_of _ (by decide +kernel)) ggX12_lay_X12_tipOf
set_option maxRecDepth 20000 in
theorem ggX12_lay_X12_has : GoodIn wsX12_lay wsX12_has := goodIn_r _ [38] (by decide +kernel) (by decide +kernel)
set_option maxRecDepth 20000 in
theorem gX12_lay_X12_has : GoodIn wsX12_lay (va_wsS RX12 173 yX12_has wsX12_has) := goodIn_app (goodIn_of _ (by decide +kernel)) ggX12_lay_X12_has
set_option maxRecDepth 20000 in
theorem ggX12_lay_X12_greatestPart : GoodIn wsX12_lay wsX12_greatestPart := goodIn_r _ [42, 2, 43, 44, 45, 46, 47, 48, 49, 50, 51, 52, 53, 54, 55, 56, 57, 58, 59, 60, 61, 62] (by decide +kernel) (by decide +kernel)
set_option maxRecDepth 20000 in
theorem gX12_lay_X12_greatestPart : GoodIn wsX12_lay (wsV RX12 261 RX12 yX12_greatestPart wsX12_greatestPart) := goodIn_app (goodIn_of _ (by decide +kernel)) ggX12_lay_X12_greatestPart
theorem dX12_lay_0 : decode cX12_lay 0 = .ok (.aload_n 0, 1) := by decide +kernel
theorem dX12_lay_1 : decode cX12_lay 1 = .ok (.iload_n 1, 1) := by decide +kernel
theorem dX12_lay_2 : decode cX12_lay 2 = .ok (.invokevirtual 235, 3) := by decide +kernel
theorem dX12_lay_5 : decode cX12_lay 5 = .ok (.ifCond .ne 10, 3) := by decide +kernel
theorem dX12_lay_8 : decode cX12_lay 8 = .ok (.aload_n 0, 1) := by decide +kernel
theorem dX12_lay_9 : decode cX12_lay 9 = .ok (.bipush (-2), 2) := by decide +kernel
theorem dX12_lay_11 : decode cX12_lay 11 = .ok (.invokevirtual 77, 3) := by decide +kernel
theorem dX12_lay_14 : decode cX12_lay 14 = .ok (.ireturn, 1) := by decide +kernel
theorem dX12_lay_15 : decode cX12_lay 15 = .ok (.aload_n 0, 1) := by decide +kernel
theorem dX12_lay_16 : decode cX12_lay 16 = .ok (.iload_n 1, 1) := by decide +kernel
theorem dX12_lay_17 : decode cX12_lay 17 = .ok (.invokevirtual 267, 3) := by decide +kernel
theorem dX12_lay_20 : decode cX12_lay 20 = .ok (.istore_n 2, 1) := by decide +kernel
theorem dX12_lay_21 : decode cX12_lay 21 = .ok (.iconst (-1), 1) := by decide +kernel
theorem dX12_lay_22 : decode cX12_lay 22 = .ok (.istore_n 3, 1) := by decide +kernel
theorem dX12_lay_23 : decode cX12_lay 23 = .ok (.ldc 215, 2) := by decide +kernel
theorem dX12_lay_25 : decode cX12_lay 25 = .ok (.istore 4, 2) := by decide +kernel
theorem dX12_lay_27 : decode cX12_lay 27 = .ok (.iconst 0, 1) := by decide +kernel
theorem dX12_lay_28 : decode cX12_lay 28 = .ok (.istore 5, 2) := by decide +kernel
theorem dX12_lay_30 : decode cX12_lay 30 = .ok (.iload 5, 2) := by decide +kernel
theorem dX12_lay_32 : decode cX12_lay 32 = .ok (.bipush 100, 2) := by decide +kernel
theorem dX12_lay_34 : decode cX12_lay 34 = .ok (.if_icmp .ge 108, 3) := by decide +kernel
theorem dX12_lay_37 : decode cX12_lay 37 = .ok (.iload_n 2, 1) := by decide +kernel
theorem dX12_lay_38 : decode cX12_lay 38 = .ok (.ifCond .le 104, 3) := by decide +kernel
theorem dX12_lay_41 : decode cX12_lay 41 = .ok (.aload_n 0, 1) := by decide +kernel
theorem dX12_lay_42 : decode cX12_lay 42 = .ok (.invokevirtual 255, 3) := by decide +kernel
theorem dX12_lay_45 : decode cX12_lay 45 = .ok (.iconst 0, 1) := by decide +kernel
theorem dX12_lay_46 : decode cX12_lay 46 = .ok (.istore 6, 2) := by decide +kernel
theorem dX12_lay_48 : decode cX12_lay 48 = .ok (.iload 6, 2) := by decide +kernel
theorem dX12_lay_50 : decode cX12_lay 50 = .ok (.bipush 6, 2) := by decide +kernel
theorem dX12_lay_52 : decode cX12_lay 52 = .ok (.if_icmp .ge 48, 3) := by decide +kernel
theorem dX12_lay_55 : decode cX12_lay 55 = .ok (.aload_n 0, 1) := by decide +kernel
theorem dX12_lay_56 : decode cX12_lay 56 = .ok (.getfield 39, 3) := by decide +kernel
theorem dX12_lay_59 : decode cX12_lay 59 = .ok (.iconst 1, 1) := by decide +kernel
theorem dX12_lay_60 : decode cX12_lay 60 = .ok (.iload 6, 2) := by decide +kernel
theorem dX12_lay_62 : decode cX12_lay 62 = .ok (.iload 5, 2) := by decide +kernel
theorem dX12_lay_64 : decode cX12_lay 64 = .ok (.bipush 10, 2) := by decide +kernel
theorem dX12_lay_66 : decode cX12_lay 66 = .ok (.idiv, 1) := by decide +kernel
theorem dX12_lay_67 : decode cX12_lay 67 = .ok (.iload 5, 2) := by decide +kernel
theorem dX12_lay_69 : decode cX12_lay 69 = .ok (.bipush 10, 2) := by decide +kernel
theorem dX12_lay_71 : decode cX12_lay 71 = .ok (.irem, 1) := by decide +kernel
theorem dX12_lay_72 : decode cX12_lay 72 = .ok (.invokestatic 244, 3) := by decide +kernel
theorem dX12_lay_75 : decode cX12_lay 75 = .ok (.iadd, 1) := by decide +kernel
theorem dX12_lay_76 : decode cX12_lay 76 = .ok (.dup2, 1) := by decide +kernel
theorem dX12_lay_77 : decode cX12_lay 77 = .ok (.iaload, 1) := by decide +kernel
theorem dX12_lay_78 : decode cX12_lay 78 = .ok (.iload_n 2, 1) := by decide +kernel
theorem dX12_lay_79 : decode cX12_lay 79 = .ok (.iload 6, 2) := by decide +kernel
theorem dX12_lay_81 : decode cX12_lay 81 = .ok (.invokestatic 173, 3) := by decide +kernel
theorem dX12_lay_84 : decode cX12_lay 84 = .ok (.ifCond .eq 7, 3) := by decide +kernel
theorem dX12_lay_87 : decode cX12_lay 87 = .ok (.iconst 1, 1) := by decide +kernel
theorem dX12_lay_88 : decode cX12_lay 88 = .ok (.goto 4, 3) := by decide +kernel
theorem dX12_lay_91 : decode cX12_lay 91 = .ok (.iconst 0, 1) := by decide +kernel
theorem dX12_lay_92 : decode cX12_lay 92 = .ok (.iadd, 1) := by decide +kernel
theorem dX12_lay_93 : decode cX12_lay 93 = .ok (.iastore, 1) := by decide +kernel
theorem dX12_lay_94 : decode cX12_lay 94 = .ok (.iinc 6 1, 3) := by decide +kernel
theorem dX12_lay_97 : decode cX12_lay 97 = .ok (.goto (-49), 3) := by decide +kernel
theorem dX12_lay_100 : decode cX12_lay 100 = .ok (.aload_n 0, 1) := by decide +kernel
theorem dX12_lay_101 : decode cX12_lay 101 = .ok (.invokevirtual 261, 3) := by decide +kernel
theorem dX12_lay_104 : decode cX12_lay 104 = .ok (.istore 6, 2) := by decide +kernel
theorem dX12_lay_106 : decode cX12_lay 106 = .ok (.iload 6, 2) := by decide +kernel
theorem dX12_lay_108 : decode cX12_lay 108 = .ok (.iload 4, 2) := by decide +kernel
theorem dX12_lay_110 : decode cX12_lay 110 = .ok (.if_icmp .ge 8, 3) := by decide +kernel
theorem dX12_lay_113 : decode cX12_lay 113 = .ok (.iload 5, 2) := by decide +kernel
theorem dX12_lay_115 : decode cX12_lay 115 = .ok (.goto 4, 3) := by decide +kernel
theorem dX12_lay_118 : decode cX12_lay 118 = .ok (.iload_n 3, 1) := by decide +kernel
theorem dX12_lay_119 : decode cX12_lay 119 = .ok (.istore_n 3, 1) := by decide +kernel
theorem dX12_lay_120 : decode cX12_lay 120 = .ok (.iload 6, 2) := by decide +kernel
theorem dX12_lay_122 : decode cX12_lay 122 = .ok (.iload 4, 2) := by decide +kernel
theorem dX12_lay_124 : decode cX12_lay 124 = .ok (.if_icmp .ge 8, 3) := by decide +kernel
theorem dX12_lay_127 : decode cX12_lay 127 = .ok (.iload 6, 2) := by decide +kernel
theorem dX12_lay_129 : decode cX12_lay 129 = .ok (.goto 5, 3) := by decide +kernel
theorem dX12_lay_132 : decode cX12_lay 132 = .ok (.iload 4, 2) := by decide +kernel
theorem dX12_lay_134 : decode cX12_lay 134 = .ok (.istore 4, 2) := by decide +kernel
theorem dX12_lay_136 : decode cX12_lay 136 = .ok (.iinc 5 1, 3) := by decide +kernel
theorem dX12_lay_139 : decode cX12_lay 139 = .ok (.goto (-109), 3) := by decide +kernel
theorem dX12_lay_142 : decode cX12_lay 142 = .ok (.iload_n 3, 1) := by decide +kernel
theorem dX12_lay_143 : decode cX12_lay 143 = .ok (.ireturn, 1) := by decide +kernel
set_option maxRecDepth 20000 in
theorem ggX12_getsBy_X12_wouldLend : GoodIn wsX12_getsBy wsX12_wouldLend := goodIn_r _ [5, 6, 7, 8, 4, 9, 10, 11, 12, 13, 14, 15, 16, 17, 18, 19, 20, 21, 22, 23, 24, 25, 26, 27, 28, 29] (by decide +kernel) (by decide +kernel)
set_option maxRecDepth 20000 in
theorem gX12_getsBy_X12_wouldLend : GoodIn wsX12_getsBy (wsV RX12 179 RX12 yX12_wouldLend wsX12_wouldLend) := goodIn_app (goodIn_of _ (by decide +kernel)) ggX12_getsBy_X12_wouldLend
theorem dX12_getsBy_0 : decode cX12_getsBy 0 = .ok (.iload_n 2, 1) := by decide +kernel
theorem dX12_getsBy_1 : decode cX12_getsBy 1 = .ok (.iload_n 3, 1) := by decide +kernel
theorem dX12_getsBy_2 : decode cX12_getsBy 2 = .ok (.if_icmp .gt 13, 3) := by decide +kernel
theorem dX12_getsBy_5 : decode cX12_getsBy 5 = .ok (.iload_n 2, 1) := by decide +kernel
theorem dX12_getsBy_6 : decode cX12_getsBy 6 = .ok (.iload_n 3, 1) := by decide +kernel
theorem dX12_getsBy_7 : decode cX12_getsBy 7 = .ok (.if_icmp .ne 12, 3) := by decide +kernel
theorem dX12_getsBy_10 : decode cX12_getsBy 10 = .ok (.iload 4, 2) := by decide +kernel
theorem dX12_getsBy_12 : decode cX12_getsBy 12 = .ok (.ifCond .eq 7, 3) := by decide +kernel
theorem dX12_getsBy_15 : decode cX12_getsBy 15 = .ok (.iconst 1, 1) := by decide +kernel
theorem dX12_getsBy_16 : decode cX12_getsBy 16 = .ok (.goto 4, 3) := by decide +kernel
theorem dX12_getsBy_19 : decode cX12_getsBy 19 = .ok (.iconst 0, 1) := by decide +kernel
theorem dX12_getsBy_20 : decode cX12_getsBy 20 = .ok (.istore 5, 2) := by decide +kernel
theorem dX12_getsBy_22 : decode cX12_getsBy 22 = .ok (.iload 5, 2) := by decide +kernel
theorem dX12_getsBy_24 : decode cX12_getsBy 24 = .ok (.ifCond .eq 19, 3) := by decide +kernel
theorem dX12_getsBy_27 : decode cX12_getsBy 27 = .ok (.aload_n 0, 1) := by decide +kernel
theorem dX12_getsBy_28 : decode cX12_getsBy 28 = .ok (.iload_n 1, 1) := by decide +kernel
theorem dX12_getsBy_29 : decode cX12_getsBy 29 = .ok (.iload_n 2, 1) := by decide +kernel
theorem dX12_getsBy_30 : decode cX12_getsBy 30 = .ok (.invokevirtual 179, 3) := by decide +kernel
theorem dX12_getsBy_33 : decode cX12_getsBy 33 = .ok (.ifCond .eq 10, 3) := by decide +kernel
theorem dX12_getsBy_36 : decode cX12_getsBy 36 = .ok (.bipush 8, 2) := by decide +kernel
theorem dX12_getsBy_38 : decode cX12_getsBy 38 = .ok (.iload_n 2, 1) := by decide +kernel
theorem dX12_getsBy_39 : decode cX12_getsBy 39 = .ok (.isub, 1) := by decide +kernel
theorem dX12_getsBy_40 : decode cX12_getsBy 40 = .ok (.goto 7, 3) := by decide +kernel
theorem dX12_getsBy_43 : decode cX12_getsBy 43 = .ok (.iload_n 2, 1) := by decide +kernel
theorem dX12_getsBy_44 : decode cX12_getsBy 44 = .ok (.iconst 2, 1) := by decide +kernel
theorem dX12_getsBy_45 : decode cX12_getsBy 45 = .ok (.idiv, 1) := by decide +kernel
theorem dX12_getsBy_46 : decode cX12_getsBy 46 = .ok (.ineg, 1) := by decide +kernel
theorem dX12_getsBy_47 : decode cX12_getsBy 47 = .ok (.ireturn, 1) := by decide +kernel
set_option maxRecDepth 20000 in
theorem ggX12_rests_X12_getsBy : GoodIn wsX12_rests wsX12_getsBy := goodIn_r _ [5, 6, 7, 8, 4, 9, 10, 11, 12, 13, 14, 15, 16, 17, 18, 19, 20, 21, 22, 23, 24, 25, 26, 27, 28, 29, 30, 31, 32, 33] (by decide +kernel) (by decide +kernel)
set_option maxRecDepth 20000 in
theorem gX12_rests_X12_getsBy : GoodIn wsX12_rests (wsV RX12 270 RX12 yX12_getsBy wsX12_getsBy) := goodIn_app (goodIn_of _ (by decide +kernel)) ggX12_rests_X12_getsBy
theorem dX12_rests_0 : decode cX12_rests 0 = .ok (.iconst 1, 1) := by decide +kernel
theorem dX12_rests_1 : decode cX12_rests 1 = .ok (.istore 4, 2) := by decide +kernel
theorem dX12_rests_3 : decode cX12_rests 3 = .ok (.iconst 0, 1) := by decide +kernel
theorem dX12_rests_4 : decode cX12_rests 4 = .ok (.istore 5, 2) := by decide +kernel
theorem dX12_rests_6 : decode cX12_rests 6 = .ok (.iload 5, 2) := by decide +kernel
theorem dX12_rests_8 : decode cX12_rests 8 = .ok (.bipush 10, 2) := by decide +kernel
theorem dX12_rests_10 : decode cX12_rests 10 = .ok (.if_icmp .ge 61, 3) := by decide +kernel
theorem dX12_rests_13 : decode cX12_rests 13 = .ok (.iload 4, 2) := by decide +kernel
theorem dX12_rests_15 : decode cX12_rests 15 = .ok (.ifCond .eq 47, 3) := by decide +kernel
theorem dX12_rests_18 : decode cX12_rests 18 = .ok (.aload_n 0, 1) := by decide +kernel
theorem dX12_rests_19 : decode cX12_rests 19 = .ok (.iload_n 1, 1) := by decide +kernel
theorem dX12_rests_20 : decode cX12_rests 20 = .ok (.iload 5, 2) := by decide +kernel
theorem dX12_rests_22 : decode cX12_rests 22 = .ok (.iload_n 3, 1) := by decide +kernel
theorem dX12_rests_23 : decode cX12_rests 23 = .ok (.iconst 1, 1) := by decide +kernel
theorem dX12_rests_24 : decode cX12_rests 24 = .ok (.invokevirtual 270, 3) := by decide +kernel
theorem dX12_rests_27 : decode cX12_rests 27 = .ok (.aload_n 0, 1) := by decide +kernel
theorem dX12_rests_28 : decode cX12_rests 28 = .ok (.iload_n 1, 1) := by decide +kernel
theorem dX12_rests_29 : decode cX12_rests 29 = .ok (.iload_n 2, 1) := by decide +kernel
theorem dX12_rests_30 : decode cX12_rests 30 = .ok (.iload_n 3, 1) := by decide +kernel
theorem dX12_rests_31 : decode cX12_rests 31 = .ok (.iconst 1, 1) := by decide +kernel
theorem dX12_rests_32 : decode cX12_rests 32 = .ok (.invokevirtual 270, 3) := by decide +kernel
theorem dX12_rests_35 : decode cX12_rests 35 = .ok (.if_icmp .gt 27, 3) := by decide +kernel
theorem dX12_rests_38 : decode cX12_rests 38 = .ok (.aload_n 0, 1) := by decide +kernel
theorem dX12_rests_39 : decode cX12_rests 39 = .ok (.iload_n 1, 1) := by decide +kernel
theorem dX12_rests_40 : decode cX12_rests 40 = .ok (.iload 5, 2) := by decide +kernel
theorem dX12_rests_42 : decode cX12_rests 42 = .ok (.iload_n 2, 1) := by decide +kernel
theorem dX12_rests_43 : decode cX12_rests 43 = .ok (.iconst 0, 1) := by decide +kernel
theorem dX12_rests_44 : decode cX12_rests 44 = .ok (.invokevirtual 270, 3) := by decide +kernel
theorem dX12_rests_47 : decode cX12_rests 47 = .ok (.aload_n 0, 1) := by decide +kernel
theorem dX12_rests_48 : decode cX12_rests 48 = .ok (.iload_n 1, 1) := by decide +kernel
theorem dX12_rests_49 : decode cX12_rests 49 = .ok (.iload_n 3, 1) := by decide +kernel
theorem dX12_rests_50 : decode cX12_rests 50 = .ok (.iload_n 2, 1) := by decide +kernel
theorem dX12_rests_51 : decode cX12_rests 51 = .ok (.iconst 0, 1) := by decide +kernel
theorem dX12_rests_52 : decode cX12_rests 52 = .ok (.invokevirtual 270, 3) := by decide +kernel
theorem dX12_rests_55 : decode cX12_rests 55 = .ok (.if_icmp .gt 7, 3) := by decide +kernel
theorem dX12_rests_58 : decode cX12_rests 58 = .ok (.iconst 1, 1) := by decide +kernel
theorem dX12_rests_59 : decode cX12_rests 59 = .ok (.goto 4, 3) := by decide +kernel
theorem dX12_rests_62 : decode cX12_rests 62 = .ok (.iconst 0, 1) := by decide +kernel
theorem dX12_rests_63 : decode cX12_rests 63 = .ok (.istore 4, 2) := by decide +kernel
theorem dX12_rests_65 : decode cX12_rests 65 = .ok (.iinc 5 1, 3) := by decide +kernel
theorem dX12_rests_68 : decode cX12_rests 68 = .ok (.goto (-62), 3) := by decide +kernel
theorem dX12_rests_71 : decode cX12_rests 71 = .ok (.iload 4, 2) := by decide +kernel
theorem dX12_rests_73 : decode cX12_rests 73 = .ok (.ireturn, 1) := by decide +kernel
set_option maxRecDepth 20000 in
theorem ggX12_buyers_X12_isKeeper : GoodIn wsX12_buyers wsX12_isKeeper := goodIn_r _ [6, 1, 7, 8, 5, 9, 37, 38, 39, 40, 41, 42, 43, 44, 45, 46, 47, 48, 49, 50, 51, 52, 53, 54, 55, 56] (by decide +kernel) (by decide +kernel)
set_option maxRecDepth 20000 in
theorem gX12_buyers_X12_isKeeper : GoodIn wsX12_buyers (wsV RX12 89 RX12 yX12_isKeeper wsX12_isKeeper) := goodIn_app (goodIn_of _ (by decide +kernel)) ggX12_buyers_X12_isKeeper
set_option maxRecDepth 20000 in
theorem ggX12_buyers_X12_bad : GoodIn wsX12_buyers wsX12_bad := goodIn_r _ [13, 14, 37, 38, 39, 40, 41, 42, 43, 44, 45, 46, 47, 48, 49, 50, 51, 52, 53, 54, 55, 56] (by decide +kernel) (by decide +kernel)
set_option maxRecDepth 20000 in
theorem gX12_buyers_X12_bad : GoodIn wsX12_buyers (wsV RX12 77 RX12 yX12_bad wsX12_bad) := goodIn_app (goodIn_of _ (by decide +kernel)) ggX12_buyers_X12_bad
set_option maxRecDepth 20000 in
theorem ggX12_buyers_X12_has : GoodIn wsX12_buyers wsX12_has := goodIn_r _ [17] (by decide +kernel) (by decide +kernel)
set_option maxRecDepth 20000 in
theorem gX12_buyers_X12_has : GoodIn wsX12_buyers (va_wsS RX12 173 yX12_has wsX12_has) := goodIn_app (goodIn_of _ (by decide +kernel)) ggX12_buyers_X12_has
set_option maxRecDepth 20000 in
theorem ggX12_buyers_X12_no : GoodIn wsX12_buyers wsX12_no := goodIn_r _ [21, 14, 37, 38, 39, 40, 41, 42, 43, 44, 45, 46, 47, 48, 49, 50, 51, 52, 53, 54, 55, 56] (by decide +kernel) (by decide +kernel)
set_option maxRecDepth 20000 in
theorem gX12_buyers_X12_no : GoodIn wsX12_buyers (wsV RX12 176 RX12 yX12_no wsX12_no) := goodIn_app (goodIn_of _ (by decide +kernel)) ggX12_buyers_X12_no
set_option maxRecDepth 20000 in
theorem ggX12_buyers_X12_rests : GoodIn wsX12_buyers wsX12_rests := goodIn_r _ [25, 26, 27, 28, 5, 29, 30, 31, 32, 33, 1, 34, 35, 36, 37, 38, 39, 40, 41, 42, 43, 44, 45, 46, 47, 48, 49, 50, 51, 52, 53, 54, 55, 56] (by decide +kernel) (by decide +kernel)
set_option maxRecDepth 20000 in
theorem gX12_buyers_X12_rests : GoodIn wsX12_buyers (wsV RX12 274 RX12 yX12_rests wsX12_rests) := goodIn_app (goodIn_of _ (by decide +kernel)) ggX12_buyers_X12_rests
theorem dX12_buyers_0 : decode cX12_buyers 0 = .ok (.aload_n 0, 1) := by decide +kernel
theorem dX12_buyers_1 : decode cX12_buyers 1 = .ok (.iload_n 1, 1) := by decide +kernel
theorem dX12_buyers_2 : decode cX12_buyers 2 = .ok (.invokevirtual 89, 3) := by decide +kernel
theorem dX12_buyers_5 : decode cX12_buyers 5 = .ok (.ifCond .eq 8, 3) := by decide +kernel
theorem dX12_buyers_8 : decode cX12_buyers 8 = .ok (.iload_n 2, 1) := by decide +kernel
theorem dX12_buyers_9 : decode cX12_buyers 9 = .ok (.iconst (-1), 1) := by decide +kernel
theorem dX12_buyers_10 : decode cX12_buyers 10 = .ok (.if_icmp .ge 10, 3) := by decide +kernel
theorem dX12_buyers_13 : decode cX12_buyers 13 = .ok (.aload_n 0, 1) := by decide +kernel
theorem dX12_buyers_14 : decode cX12_buyers 14 = .ok (.bipush (-10), 2) := by decide +kernel
theorem dX12_buyers_16 : decode cX12_buyers 16 = .ok (.invokevirtual 77, 3) := by decide +kernel
theorem dX12_buyers_19 : decode cX12_buyers 19 = .ok (.ireturn, 1) := by decide +kernel
theorem dX12_buyers_20 : decode cX12_buyers 20 = .ok (.aload_n 0, 1) := by decide +kernel
theorem dX12_buyers_21 : decode cX12_buyers 21 = .ok (.getfield 7, 3) := by decide +kernel
theorem dX12_buyers_24 : decode cX12_buyers 24 = .ok (.iconst 3, 1) := by decide +kernel
theorem dX12_buyers_25 : decode cX12_buyers 25 = .ok (.iaload, 1) := by decide +kernel
theorem dX12_buyers_26 : decode cX12_buyers 26 = .ok (.iload_n 1, 1) := by decide +kernel
theorem dX12_buyers_27 : decode cX12_buyers 27 = .ok (.invokestatic 173, 3) := by decide +kernel
theorem dX12_buyers_30 : decode cX12_buyers 30 = .ok (.ifCond .eq 8, 3) := by decide +kernel
theorem dX12_buyers_33 : decode cX12_buyers 33 = .ok (.aload_n 0, 1) := by decide +kernel
theorem dX12_buyers_34 : decode cX12_buyers 34 = .ok (.invokevirtual 176, 3) := by decide +kernel
theorem dX12_buyers_37 : decode cX12_buyers 37 = .ok (.ireturn, 1) := by decide +kernel
theorem dX12_buyers_38 : decode cX12_buyers 38 = .ok (.iconst 0, 1) := by decide +kernel
theorem dX12_buyers_39 : decode cX12_buyers 39 = .ok (.istore_n 3, 1) := by decide +kernel
theorem dX12_buyers_40 : decode cX12_buyers 40 = .ok (.iconst 0, 1) := by decide +kernel
theorem dX12_buyers_41 : decode cX12_buyers 41 = .ok (.istore 4, 2) := by decide +kernel
theorem dX12_buyers_43 : decode cX12_buyers 43 = .ok (.iload 4, 2) := by decide +kernel
theorem dX12_buyers_45 : decode cX12_buyers 45 = .ok (.bipush 100, 2) := by decide +kernel
theorem dX12_buyers_47 : decode cX12_buyers 47 = .ok (.if_icmp .ge 38, 3) := by decide +kernel
theorem dX12_buyers_50 : decode cX12_buyers 50 = .ok (.aload_n 0, 1) := by decide +kernel
theorem dX12_buyers_51 : decode cX12_buyers 51 = .ok (.iload_n 1, 1) := by decide +kernel
theorem dX12_buyers_52 : decode cX12_buyers 52 = .ok (.iload 4, 2) := by decide +kernel
theorem dX12_buyers_54 : decode cX12_buyers 54 = .ok (.bipush 10, 2) := by decide +kernel
theorem dX12_buyers_56 : decode cX12_buyers 56 = .ok (.idiv, 1) := by decide +kernel
theorem dX12_buyers_57 : decode cX12_buyers 57 = .ok (.iload 4, 2) := by decide +kernel
theorem dX12_buyers_59 : decode cX12_buyers 59 = .ok (.bipush 10, 2) := by decide +kernel
theorem dX12_buyers_61 : decode cX12_buyers 61 = .ok (.irem, 1) := by decide +kernel
theorem dX12_buyers_62 : decode cX12_buyers 62 = .ok (.invokevirtual 274, 3) := by decide +kernel
theorem dX12_buyers_65 : decode cX12_buyers 65 = .ok (.ifCond .eq 14, 3) := by decide +kernel
theorem dX12_buyers_68 : decode cX12_buyers 68 = .ok (.iload_n 3, 1) := by decide +kernel
theorem dX12_buyers_69 : decode cX12_buyers 69 = .ok (.iload_n 2, 1) := by decide +kernel
theorem dX12_buyers_70 : decode cX12_buyers 70 = .ok (.if_icmp .ne 6, 3) := by decide +kernel
theorem dX12_buyers_73 : decode cX12_buyers 73 = .ok (.iload 4, 2) := by decide +kernel
theorem dX12_buyers_75 : decode cX12_buyers 75 = .ok (.ireturn, 1) := by decide +kernel
theorem dX12_buyers_76 : decode cX12_buyers 76 = .ok (.iinc 3 1, 3) := by decide +kernel
theorem dX12_buyers_79 : decode cX12_buyers 79 = .ok (.iinc 4 1, 3) := by decide +kernel
theorem dX12_buyers_82 : decode cX12_buyers 82 = .ok (.goto (-39), 3) := by decide +kernel
theorem dX12_buyers_85 : decode cX12_buyers 85 = .ok (.iload_n 2, 1) := by decide +kernel
theorem dX12_buyers_86 : decode cX12_buyers 86 = .ok (.iconst (-1), 1) := by decide +kernel
theorem dX12_buyers_87 : decode cX12_buyers 87 = .ok (.if_icmp .ne 7, 3) := by decide +kernel
theorem dX12_buyers_90 : decode cX12_buyers 90 = .ok (.iload_n 3, 1) := by decide +kernel
theorem dX12_buyers_91 : decode cX12_buyers 91 = .ok (.goto 5, 3) := by decide +kernel
theorem dX12_buyers_94 : decode cX12_buyers 94 = .ok (.bipush (-5), 2) := by decide +kernel
theorem dX12_buyers_96 : decode cX12_buyers 96 = .ok (.ireturn, 1) := by decide +kernel
set_option maxRecDepth 20000 in
theorem ggX12_refusals_X12_areKeepers : GoodIn wsX12_refusals wsX12_areKeepers := goodIn_r _ [10, 3, 11, 12, 9, 13, 29, 30, 31, 32, 33, 34, 35, 36, 37, 38, 39, 40, 41, 42, 43, 44, 45, 46, 47, 48] (by decide +kernel) (by decide +kernel)
set_option maxRecDepth 20000 in
theorem gX12_refusals_X12_areKeepers : GoodIn wsX12_refusals (wsV RX12 229 RX12 yX12_areKeepers wsX12_areKeepers) := goodIn_app (goodIn_of _ (by decide +kernel)) ggX12_refusals_X12_areKeepers
set_option maxRecDepth 20000 in
theorem ggX12_refusals_X12_in : GoodIn wsX12_refusals wsX12_in := goodIn_r _ [13] (by decide +kernel) (by decide +kernel)
set_option maxRecDepth 20000 in
theorem gX12_refusals_X12_in : GoodIn wsX12_refusals (va_wsS RX12 49 yX12_in wsX12_in) := goodIn_app (goodIn_of _ (by decide +kernel)) ggX12_refusals_X12_in
set_option maxRecDepth 20000 in
theorem ggX12_refusals_X12_bad : GoodIn wsX12_refusals wsX12_bad := goodIn_r _ [17, 18, 29, 30, 31, 32, 33, 34, 35, 36, 37, 38, 39, 40, 41, 42, 43, 44, 45, 46, 47, 48] (by decide +kernel) (by decide +kernel)
set_option maxRecDepth 20000 in
theorem gX12_refusals_X12_bad : GoodIn wsX12_refusals (wsV RX12 77 RX12 yX12_bad wsX12_bad) := goodIn_app (goodIn_of _ (by decide +kernel)) ggX12_refusals_X12_bad
set_option maxRecDepth 20000 in
theorem ggX12_refusals_X12_has : GoodIn wsX12_refusals wsX12_has := goodIn_r _ [21] (by decide +kernel) (by decide +kernel)
set_option maxRecDepth 20000 in
theorem gX12_refusals_X12_has : GoodIn wsX12_refusals (va_wsS RX12 173 yX12_has wsX12_has) := goodIn_app (goodIn_of _ (by decide +kernel)) ggX12_refusals_X12_has
set_option maxRecDepth 20000 in
theorem ggX12_refusals_X12_wouldLend : GoodIn wsX12_refusals wsX12_wouldLend := goodIn_r _ [25, 3, 26, 27, 9, 28, 29, 30, 31, 32, 33, 34, 35, 36, 37, 38, 39, 40, 41, 42, 43, 44, 45, 46, 47, 48] (by decide +kernel) (by decide +kernel)
set_option maxRecDepth 20000 in
theorem gX12_refusals_X12_wouldLend : GoodIn wsX12_refusals (wsV RX12 179 RX12 yX12_wouldLend wsX12_wouldLend) := goodIn_app (goodIn_of _ (by decide +kernel)) ggX12_refusals_X12_wouldLend
theorem dX12_refusals_0 : decode cX12_refusals 0 = .ok (.aload_n 0, 1) := by decide +kernel
theorem dX12_refusals_1 : decode cX12_refusals 1 = .ok (.iload_n 1, 1) := by decide +kernel
theorem dX12_refusals_2 : decode cX12_refusals 2 = .ok (.invokevirtual 229, 3) := by decide +kernel
theorem dX12_refusals_5 : decode cX12_refusals 5 = .ok (.ifCond .eq 27, 3) := by decide +kernel
theorem dX12_refusals_8 : decode cX12_refusals 8 = .ok (.iload_n 2, 1) := by decide +kernel
theorem dX12_refusals_9 : decode cX12_refusals 9 = .ok (.i2l, 1) := by decide +kernel
theorem dX12_refusals_10 : decode cX12_refusals 10 = .ok (.lconst 0, 1) := by decide +kernel
theorem dX12_refusals_11 : decode cX12_refusals 11 = .ok (.ldc2_w 171, 3) := by decide +kernel
theorem dX12_refusals_14 : decode cX12_refusals 14 = .ok (.invokestatic 49, 3) := by decide +kernel
theorem dX12_refusals_17 : decode cX12_refusals 17 = .ok (.ifCond .eq 15, 3) := by decide +kernel
theorem dX12_refusals_20 : decode cX12_refusals 20 = .ok (.iload_n 3, 1) := by decide +kernel
theorem dX12_refusals_21 : decode cX12_refusals 21 = .ok (.i2l, 1) := by decide +kernel
theorem dX12_refusals_22 : decode cX12_refusals 22 = .ok (.lconst 0, 1) := by decide +kernel
theorem dX12_refusals_23 : decode cX12_refusals 23 = .ok (.ldc2_w 277, 3) := by decide +kernel
theorem dX12_refusals_26 : decode cX12_refusals 26 = .ok (.invokestatic 49, 3) := by decide +kernel
theorem dX12_refusals_29 : decode cX12_refusals 29 = .ok (.ifCond .ne 10, 3) := by decide +kernel
theorem dX12_refusals_32 : decode cX12_refusals 32 = .ok (.aload_n 0, 1) := by decide +kernel
theorem dX12_refusals_33 : decode cX12_refusals 33 = .ok (.bipush (-2), 2) := by decide +kernel
theorem dX12_refusals_35 : decode cX12_refusals 35 = .ok (.invokevirtual 77, 3) := by decide +kernel
theorem dX12_refusals_38 : decode cX12_refusals 38 = .ok (.ireturn, 1) := by decide +kernel
theorem dX12_refusals_39 : decode cX12_refusals 39 = .ok (.lconst 1, 1) := by decide +kernel
theorem dX12_refusals_40 : decode cX12_refusals 40 = .ok (.lstore 4, 2) := by decide +kernel
theorem dX12_refusals_42 : decode cX12_refusals 42 = .ok (.lconst 1, 1) := by decide +kernel
theorem dX12_refusals_43 : decode cX12_refusals 43 = .ok (.lstore 6, 2) := by decide +kernel
theorem dX12_refusals_45 : decode cX12_refusals 45 = .ok (.iconst 0, 1) := by decide +kernel
theorem dX12_refusals_46 : decode cX12_refusals 46 = .ok (.istore 8, 2) := by decide +kernel
theorem dX12_refusals_48 : decode cX12_refusals 48 = .ok (.iload 8, 2) := by decide +kernel
theorem dX12_refusals_50 : decode cX12_refusals 50 = .ok (.aload_n 0, 1) := by decide +kernel
theorem dX12_refusals_51 : decode cX12_refusals 51 = .ok (.getfield 7, 3) := by decide +kernel
theorem dX12_refusals_54 : decode cX12_refusals 54 = .ok (.iconst 0, 1) := by decide +kernel
theorem dX12_refusals_55 : decode cX12_refusals 55 = .ok (.iaload, 1) := by decide +kernel
theorem dX12_refusals_56 : decode cX12_refusals 56 = .ok (.if_icmp .ge 64, 3) := by decide +kernel
theorem dX12_refusals_59 : decode cX12_refusals 59 = .ok (.iload_n 1, 1) := by decide +kernel
theorem dX12_refusals_60 : decode cX12_refusals 60 = .ok (.iload 8, 2) := by decide +kernel
theorem dX12_refusals_62 : decode cX12_refusals 62 = .ok (.invokestatic 173, 3) := by decide +kernel
theorem dX12_refusals_65 : decode cX12_refusals 65 = .ok (.ifCond .eq 49, 3) := by decide +kernel
theorem dX12_refusals_68 : decode cX12_refusals 68 = .ok (.aload_n 0, 1) := by decide +kernel
theorem dX12_refusals_69 : decode cX12_refusals 69 = .ok (.getfield 7, 3) := by decide +kernel
theorem dX12_refusals_72 : decode cX12_refusals 72 = .ok (.iconst 3, 1) := by decide +kernel
theorem dX12_refusals_73 : decode cX12_refusals 73 = .ok (.iaload, 1) := by decide +kernel
theorem dX12_refusals_74 : decode cX12_refusals 74 = .ok (.iload 8, 2) := by decide +kernel
theorem dX12_refusals_76 : decode cX12_refusals 76 = .ok (.invokestatic 173, 3) := by decide +kernel
theorem dX12_refusals_79 : decode cX12_refusals 79 = .ok (.ifCond .ne 35, 3) := by decide +kernel
theorem dX12_refusals_82 : decode cX12_refusals 82 = .ok (.lload 4, 2) := by decide +kernel
theorem dX12_refusals_84 : decode cX12_refusals 84 = .ok (.aload_n 0, 1) := by decide +kernel
theorem dX12_refusals_85 : decode cX12_refusals 85 = .ok (.iload 8, 2) := by decide +kernel
theorem dX12_refusals_87 : decode cX12_refusals 87 = .ok (.iload_n 2, 1) := by decide +kernel
theorem dX12_refusals_88 : decode cX12_refusals 88 = .ok (.invokevirtual 179, 3) := by decide +kernel
theorem dX12_refusals_91 : decode cX12_refusals 91 = .ok (.ifCond .eq 11, 3) := by decide +kernel
theorem dX12_refusals_94 : decode cX12_refusals 94 = .ok (.bipush 10, 2) := by decide +kernel
theorem dX12_refusals_96 : decode cX12_refusals 96 = .ok (.iload_n 3, 1) := by decide +kernel
theorem dX12_refusals_97 : decode cX12_refusals 97 = .ok (.isub, 1) := by decide +kernel
theorem dX12_refusals_98 : decode cX12_refusals 98 = .ok (.i2l, 1) := by decide +kernel
theorem dX12_refusals_99 : decode cX12_refusals 99 = .ok (.goto 4, 3) := by decide +kernel
theorem dX12_refusals_102 : decode cX12_refusals 102 = .ok (.lconst 0, 1) := by decide +kernel
theorem dX12_refusals_103 : decode cX12_refusals 103 = .ok (.lmul, 1) := by decide +kernel
theorem dX12_refusals_104 : decode cX12_refusals 104 = .ok (.lstore 4, 2) := by decide +kernel
theorem dX12_refusals_106 : decode cX12_refusals 106 = .ok (.lload 6, 2) := by decide +kernel
theorem dX12_refusals_108 : decode cX12_refusals 108 = .ok (.ldc2_w 277, 3) := by decide +kernel
theorem dX12_refusals_111 : decode cX12_refusals 111 = .ok (.lmul, 1) := by decide +kernel
theorem dX12_refusals_112 : decode cX12_refusals 112 = .ok (.lstore 6, 2) := by decide +kernel
theorem dX12_refusals_114 : decode cX12_refusals 114 = .ok (.iinc 8 1, 3) := by decide +kernel
theorem dX12_refusals_117 : decode cX12_refusals 117 = .ok (.goto (-69), 3) := by decide +kernel
theorem dX12_refusals_120 : decode cX12_refusals 120 = .ok (.lload 4, 2) := by decide +kernel
theorem dX12_refusals_122 : decode cX12_refusals 122 = .ok (.lstore 8, 2) := by decide +kernel
theorem dX12_refusals_124 : decode cX12_refusals 124 = .ok (.lload 6, 2) := by decide +kernel
theorem dX12_refusals_126 : decode cX12_refusals 126 = .ok (.lstore 10, 2) := by decide +kernel
theorem dX12_refusals_128 : decode cX12_refusals 128 = .ok (.lload 10, 2) := by decide +kernel
theorem dX12_refusals_130 : decode cX12_refusals 130 = .ok (.lconst 0, 1) := by decide +kernel
theorem dX12_refusals_131 : decode cX12_refusals 131 = .ok (.lcmp, 1) := by decide +kernel
theorem dX12_refusals_132 : decode cX12_refusals 132 = .ok (.ifCond .eq 21, 3) := by decide +kernel
theorem dX12_refusals_135 : decode cX12_refusals 135 = .ok (.lload 8, 2) := by decide +kernel
theorem dX12_refusals_137 : decode cX12_refusals 137 = .ok (.lload 10, 2) := by decide +kernel
theorem dX12_refusals_139 : decode cX12_refusals 139 = .ok (.lrem, 1) := by decide +kernel
theorem dX12_refusals_140 : decode cX12_refusals 140 = .ok (.lstore 12, 2) := by decide +kernel
theorem dX12_refusals_142 : decode cX12_refusals 142 = .ok (.lload 10, 2) := by decide +kernel
theorem dX12_refusals_144 : decode cX12_refusals 144 = .ok (.lstore 8, 2) := by decide +kernel
theorem dX12_refusals_146 : decode cX12_refusals 146 = .ok (.lload 12, 2) := by decide +kernel
theorem dX12_refusals_148 : decode cX12_refusals 148 = .ok (.lstore 10, 2) := by decide +kernel
theorem dX12_refusals_150 : decode cX12_refusals 150 = .ok (.goto (-22), 3) := by decide +kernel
theorem dX12_refusals_153 : decode cX12_refusals 153 = .ok (.aload_n 0, 1) := by decide +kernel
theorem dX12_refusals_154 : decode cX12_refusals 154 = .ok (.lload 4, 2) := by decide +kernel
theorem dX12_refusals_156 : decode cX12_refusals 156 = .ok (.lload 8, 2) := by decide +kernel
theorem dX12_refusals_158 : decode cX12_refusals 158 = .ok (.ldiv, 1) := by decide +kernel
theorem dX12_refusals_159 : decode cX12_refusals 159 = .ok (.putfield 20, 3) := by decide +kernel
theorem dX12_refusals_162 : decode cX12_refusals 162 = .ok (.aload_n 0, 1) := by decide +kernel
theorem dX12_refusals_163 : decode cX12_refusals 163 = .ok (.lload 6, 2) := by decide +kernel
theorem dX12_refusals_165 : decode cX12_refusals 165 = .ok (.lload 8, 2) := by decide +kernel
theorem dX12_refusals_167 : decode cX12_refusals 167 = .ok (.ldiv, 1) := by decide +kernel
theorem dX12_refusals_168 : decode cX12_refusals 168 = .ok (.putfield 24, 3) := by decide +kernel
theorem dX12_refusals_171 : decode cX12_refusals 171 = .ok (.iconst 1, 1) := by decide +kernel
theorem dX12_refusals_172 : decode cX12_refusals 172 = .ok (.ireturn, 1) := by decide +kernel
set_option maxRecDepth 20000 in
theorem ggX12_years_X12_in : GoodIn wsX12_years wsX12_in := goodIn_r _ [15] (by decide +kernel) (by decide +kernel)
set_option maxRecDepth 20000 in
theorem gX12_years_X12_in : GoodIn wsX12_years (va_wsS RX12 49 yX12_in wsX12_in) := goodIn_app (goodIn_of _ (by decide +kernel)) ggX12_years_X12_in
set_option maxRecDepth 20000 in
theorem ggX12_years_X12_bad : GoodIn wsX12_years wsX12_bad := goodIn_r _ [19, 20, 30, 31, 32, 33, 34, 35, 36, 37, 38, 39, 40, 41, 42, 43, 44, 45, 46, 47, 48, 49] (by decide +kernel) (by decide +kernel)
set_option maxRecDepth 20000 in
theorem gX12_years_X12_bad : GoodIn wsX12_years (wsV RX12 77 RX12 yX12_bad wsX12_bad) := goodIn_app (goodIn_of _ (by decide +kernel)) ggX12_years_X12_bad
set_option maxRecDepth 20000 in
theorem ggX12_years_X12_has : GoodIn wsX12_years wsX12_has := goodIn_r _ [23] (by decide +kernel) (by decide +kernel)
set_option maxRecDepth 20000 in
theorem gX12_years_X12_has : GoodIn wsX12_years (va_wsS RX12 173 yX12_has wsX12_has) := goodIn_app (goodIn_of _ (by decide +kernel)) ggX12_years_X12_has
set_option maxRecDepth 20000 in
theorem ggX12_years_X12_lends : GoodIn wsX12_years wsX12_lends := goodIn_r _ [26] (by decide +kernel) (by decide +kernel)
set_option maxRecDepth 20000 in
theorem gX12_years_X12_lends : GoodIn wsX12_years (va_wsS RX12 167 yX12_lends wsX12_lends) := goodIn_app (goodIn_of _ (by decide +kernel)) ggX12_years_X12_lends
set_option maxRecDepth 20000 in
theorem ggX12_years_X12_moodBehind : GoodIn wsX12_years wsX12_moodBehind := goodIn_r _ [29] (by decide +kernel) (by decide +kernel)
set_option maxRecDepth 20000 in
theorem gX12_years_X12_moodBehind : GoodIn wsX12_years (va_wsS RX12 185 yX12_moodBehind wsX12_moodBehind) := goodIn_app (goodIn_of _ (by decide +kernel)) ggX12_years_X12_moodBehind
theorem dX12_years_0 : decode cX12_years 0 = .ok (.iload_n 1, 1) := by decide +kernel
theorem dX12_years_1 : decode cX12_years 1 = .ok (.i2l, 1) := by decide +kernel
theorem dX12_years_2 : decode cX12_years 2 = .ok (.lconst 0, 1) := by decide +kernel
theorem dX12_years_3 : decode cX12_years 3 = .ok (.ldc2_w 279, 3) := by decide +kernel
theorem dX12_years_6 : decode cX12_years 6 = .ok (.invokestatic 49, 3) := by decide +kernel
theorem dX12_years_9 : decode cX12_years 9 = .ok (.ifCond .eq 15, 3) := by decide +kernel
theorem dX12_years_12 : decode cX12_years 12 = .ok (.iload_n 2, 1) := by decide +kernel
theorem dX12_years_13 : decode cX12_years 13 = .ok (.i2l, 1) := by decide +kernel
theorem dX12_years_14 : decode cX12_years 14 = .ok (.lconst 0, 1) := by decide +kernel
theorem dX12_years_15 : decode cX12_years 15 = .ok (.ldc2_w 281, 3) := by decide +kernel
theorem dX12_years_18 : decode cX12_years 18 = .ok (.invokestatic 49, 3) := by decide +kernel
theorem dX12_years_21 : decode cX12_years 21 = .ok (.ifCond .ne 10, 3) := by decide +kernel
theorem dX12_years_24 : decode cX12_years 24 = .ok (.aload_n 0, 1) := by decide +kernel
theorem dX12_years_25 : decode cX12_years 25 = .ok (.bipush (-2), 2) := by decide +kernel
theorem dX12_years_27 : decode cX12_years 27 = .ok (.invokevirtual 77, 3) := by decide +kernel
theorem dX12_years_30 : decode cX12_years 30 = .ok (.ireturn, 1) := by decide +kernel
theorem dX12_years_31 : decode cX12_years 31 = .ok (.iconst 0, 1) := by decide +kernel
theorem dX12_years_32 : decode cX12_years 32 = .ok (.istore_n 3, 1) := by decide +kernel
theorem dX12_years_33 : decode cX12_years 33 = .ok (.iload_n 3, 1) := by decide +kernel
theorem dX12_years_34 : decode cX12_years 34 = .ok (.bipush 7, 2) := by decide +kernel
theorem dX12_years_36 : decode cX12_years 36 = .ok (.if_icmp .ge 24, 3) := by decide +kernel
theorem dX12_years_39 : decode cX12_years 39 = .ok (.aload_n 0, 1) := by decide +kernel
theorem dX12_years_40 : decode cX12_years 40 = .ok (.getfield 42, 3) := by decide +kernel
theorem dX12_years_43 : decode cX12_years 43 = .ok (.iload_n 3, 1) := by decide +kernel
theorem dX12_years_44 : decode cX12_years 44 = .ok (.aload_n 0, 1) := by decide +kernel
theorem dX12_years_45 : decode cX12_years 45 = .ok (.getfield 7, 3) := by decide +kernel
theorem dX12_years_48 : decode cX12_years 48 = .ok (.bipush 32, 2) := by decide +kernel
theorem dX12_years_50 : decode cX12_years 50 = .ok (.iload_n 3, 1) := by decide +kernel
theorem dX12_years_51 : decode cX12_years 51 = .ok (.iadd, 1) := by decide +kernel
theorem dX12_years_52 : decode cX12_years 52 = .ok (.iaload, 1) := by decide +kernel
theorem dX12_years_53 : decode cX12_years 53 = .ok (.iastore, 1) := by decide +kernel
theorem dX12_years_54 : decode cX12_years 54 = .ok (.iinc 3 1, 3) := by decide +kernel
theorem dX12_years_57 : decode cX12_years 57 = .ok (.goto (-24), 3) := by decide +kernel
theorem dX12_years_60 : decode cX12_years 60 = .ok (.aload_n 0, 1) := by decide +kernel
theorem dX12_years_61 : decode cX12_years 61 = .ok (.getfield 7, 3) := by decide +kernel
theorem dX12_years_64 : decode cX12_years 64 = .ok (.iconst 3, 1) := by decide +kernel
theorem dX12_years_65 : decode cX12_years 65 = .ok (.iaload, 1) := by decide +kernel
theorem dX12_years_66 : decode cX12_years 66 = .ok (.istore_n 3, 1) := by decide +kernel
theorem dX12_years_67 : decode cX12_years 67 = .ok (.iload_n 1, 1) := by decide +kernel
theorem dX12_years_68 : decode cX12_years 68 = .ok (.i2l, 1) := by decide +kernel
theorem dX12_years_69 : decode cX12_years 69 = .ok (.lstore 4, 2) := by decide +kernel
theorem dX12_years_71 : decode cX12_years 71 = .ok (.iconst 0, 1) := by decide +kernel
theorem dX12_years_72 : decode cX12_years 72 = .ok (.istore 6, 2) := by decide +kernel
theorem dX12_years_74 : decode cX12_years 74 = .ok (.iconst 0, 1) := by decide +kernel
theorem dX12_years_75 : decode cX12_years 75 = .ok (.istore 7, 2) := by decide +kernel
theorem dX12_years_77 : decode cX12_years 77 = .ok (.iload 7, 2) := by decide +kernel
theorem dX12_years_79 : decode cX12_years 79 = .ok (.iload_n 2, 1) := by decide +kernel
theorem dX12_years_80 : decode cX12_years 80 = .ok (.if_icmp .ge 215, 3) := by decide +kernel
theorem dX12_years_83 : decode cX12_years 83 = .ok (.lload 4, 2) := by decide +kernel
theorem dX12_years_85 : decode cX12_years 85 = .ok (.ldc2_w 283, 3) := by decide +kernel
theorem dX12_years_88 : decode cX12_years 88 = .ok (.lmul, 1) := by decide +kernel
theorem dX12_years_89 : decode cX12_years 89 = .ok (.ldc2_w 285, 3) := by decide +kernel
theorem dX12_years_92 : decode cX12_years 92 = .ok (.ladd, 1) := by decide +kernel
theorem dX12_years_93 : decode cX12_years 93 = .ok (.ldc2_w 287, 3) := by decide +kernel
theorem dX12_years_96 : decode cX12_years 96 = .ok (.lrem, 1) := by decide +kernel
theorem dX12_years_97 : decode cX12_years 97 = .ok (.lstore 4, 2) := by decide +kernel
theorem dX12_years_99 : decode cX12_years 99 = .ok (.lload 4, 2) := by decide +kernel
theorem dX12_years_101 : decode cX12_years 101 = .ok (.ldc2_w 289, 3) := by decide +kernel
theorem dX12_years_104 : decode cX12_years 104 = .ok (.ldiv, 1) := by decide +kernel
theorem dX12_years_105 : decode cX12_years 105 = .ok (.ldc2_w 291, 3) := by decide +kernel
theorem dX12_years_108 : decode cX12_years 108 = .ok (.lrem, 1) := by decide +kernel
theorem dX12_years_109 : decode cX12_years 109 = .ok (.l2i, 1) := by decide +kernel
theorem dX12_years_110 : decode cX12_years 110 = .ok (.istore 8, 2) := by decide +kernel
theorem dX12_years_112 : decode cX12_years 112 = .ok (.lload 4, 2) := by decide +kernel
theorem dX12_years_114 : decode cX12_years 114 = .ok (.ldc2_w 293, 3) := by decide +kernel
theorem dX12_years_117 : decode cX12_years 117 = .ok (.ldiv, 1) := by decide +kernel
theorem dX12_years_118 : decode cX12_years 118 = .ok (.ldc2_w 277, 3) := by decide +kernel
theorem dX12_years_121 : decode cX12_years 121 = .ok (.lrem, 1) := by decide +kernel
theorem dX12_years_122 : decode cX12_years 122 = .ok (.l2i, 1) := by decide +kernel
theorem dX12_years_123 : decode cX12_years 123 = .ok (.istore 9, 2) := by decide +kernel
theorem dX12_years_125 : decode cX12_years 125 = .ok (.iload 8, 2) := by decide +kernel
theorem dX12_years_127 : decode cX12_years 127 = .ok (.aload_n 0, 1) := by decide +kernel
theorem dX12_years_128 : decode cX12_years 128 = .ok (.getfield 7, 3) := by decide +kernel
theorem dX12_years_131 : decode cX12_years 131 = .ok (.iconst 0, 1) := by decide +kernel
theorem dX12_years_132 : decode cX12_years 132 = .ok (.iaload, 1) := by decide +kernel
theorem dX12_years_133 : decode cX12_years 133 = .ok (.if_icmp .ge 80, 3) := by decide +kernel
theorem dX12_years_136 : decode cX12_years 136 = .ok (.iload_n 3, 1) := by decide +kernel
theorem dX12_years_137 : decode cX12_years 137 = .ok (.iload 8, 2) := by decide +kernel
theorem dX12_years_139 : decode cX12_years 139 = .ok (.invokestatic 173, 3) := by decide +kernel
theorem dX12_years_142 : decode cX12_years 142 = .ok (.ifCond .ne 71, 3) := by decide +kernel
theorem dX12_years_145 : decode cX12_years 145 = .ok (.aload_n 0, 1) := by decide +kernel
theorem dX12_years_146 : decode cX12_years 146 = .ok (.getfield 7, 3) := by decide +kernel
theorem dX12_years_149 : decode cX12_years 149 = .ok (.iconst 4, 1) := by decide +kernel
theorem dX12_years_150 : decode cX12_years 150 = .ok (.iload 8, 2) := by decide +kernel
theorem dX12_years_152 : decode cX12_years 152 = .ok (.iadd, 1) := by decide +kernel
theorem dX12_years_153 : decode cX12_years 153 = .ok (.iaload, 1) := by decide +kernel
theorem dX12_years_154 : decode cX12_years 154 = .ok (.aload_n 0, 1) := by decide +kernel
theorem dX12_years_155 : decode cX12_years 155 = .ok (.getfield 7, 3) := by decide +kernel
theorem dX12_years_158 : decode cX12_years 158 = .ok (.iconst 2, 1) := by decide +kernel
theorem dX12_years_159 : decode cX12_years 159 = .ok (.iaload, 1) := by decide +kernel
theorem dX12_years_160 : decode cX12_years 160 = .ok (.iload 7, 2) := by decide +kernel
theorem dX12_years_162 : decode cX12_years 162 = .ok (.iadd, 1) := by decide +kernel
theorem dX12_years_163 : decode cX12_years 163 = .ok (.aload_n 0, 1) := by decide +kernel
theorem dX12_years_164 : decode cX12_years 164 = .ok (.getfield 42, 3) := by decide +kernel
theorem dX12_years_167 : decode cX12_years 167 = .ok (.iload 8, 2) := by decide +kernel
theorem dX12_years_169 : decode cX12_years 169 = .ok (.iaload, 1) := by decide +kernel
theorem dX12_years_170 : decode cX12_years 170 = .ok (.iload 9, 2) := by decide +kernel
theorem dX12_years_172 : decode cX12_years 172 = .ok (.invokestatic 167, 3) := by decide +kernel
theorem dX12_years_175 : decode cX12_years 175 = .ok (.istore 10, 2) := by decide +kernel
theorem dX12_years_177 : decode cX12_years 177 = .ok (.aload_n 0, 1) := by decide +kernel
theorem dX12_years_178 : decode cX12_years 178 = .ok (.getfield 42, 3) := by decide +kernel
theorem dX12_years_181 : decode cX12_years 181 = .ok (.iload 8, 2) := by decide +kernel
theorem dX12_years_183 : decode cX12_years 183 = .ok (.aload_n 0, 1) := by decide +kernel
theorem dX12_years_184 : decode cX12_years 184 = .ok (.getfield 42, 3) := by decide +kernel
theorem dX12_years_187 : decode cX12_years 187 = .ok (.iload 8, 2) := by decide +kernel
theorem dX12_years_189 : decode cX12_years 189 = .ok (.iaload, 1) := by decide +kernel
theorem dX12_years_190 : decode cX12_years 190 = .ok (.iload 9, 2) := by decide +kernel
theorem dX12_years_192 : decode cX12_years 192 = .ok (.iload 10, 2) := by decide +kernel
theorem dX12_years_194 : decode cX12_years 194 = .ok (.invokestatic 185, 3) := by decide +kernel
theorem dX12_years_197 : decode cX12_years 197 = .ok (.iastore, 1) := by decide +kernel
theorem dX12_years_198 : decode cX12_years 198 = .ok (.iload 6, 2) := by decide +kernel
theorem dX12_years_200 : decode cX12_years 200 = .ok (.iload 10, 2) := by decide +kernel
theorem dX12_years_202 : decode cX12_years 202 = .ok (.ifCond .eq 7, 3) := by decide +kernel
theorem dX12_years_205 : decode cX12_years 205 = .ok (.iconst 1, 1) := by decide +kernel
theorem dX12_years_206 : decode cX12_years 206 = .ok (.goto 4, 3) := by decide +kernel
theorem dX12_years_209 : decode cX12_years 209 = .ok (.iconst 0, 1) := by decide +kernel
theorem dX12_years_210 : decode cX12_years 210 = .ok (.iadd, 1) := by decide +kernel
theorem dX12_years_211 : decode cX12_years 211 = .ok (.istore 6, 2) := by decide +kernel
theorem dX12_years_213 : decode cX12_years 213 = .ok (.iconst 0, 1) := by decide +kernel
theorem dX12_years_214 : decode cX12_years 214 = .ok (.istore_n 3, 1) := by decide +kernel
theorem dX12_years_215 : decode cX12_years 215 = .ok (.iconst 0, 1) := by decide +kernel
theorem dX12_years_216 : decode cX12_years 216 = .ok (.istore 10, 2) := by decide +kernel
theorem dX12_years_218 : decode cX12_years 218 = .ok (.iload 10, 2) := by decide +kernel
theorem dX12_years_220 : decode cX12_years 220 = .ok (.aload_n 0, 1) := by decide +kernel
theorem dX12_years_221 : decode cX12_years 221 = .ok (.getfield 7, 3) := by decide +kernel
theorem dX12_years_224 : decode cX12_years 224 = .ok (.iconst 0, 1) := by decide +kernel
theorem dX12_years_225 : decode cX12_years 225 = .ok (.iaload, 1) := by decide +kernel
theorem dX12_years_226 : decode cX12_years 226 = .ok (.if_icmp .ge 63, 3) := by decide +kernel
theorem dX12_years_229 : decode cX12_years 229 = .ok (.aload_n 0, 1) := by decide +kernel
theorem dX12_years_230 : decode cX12_years 230 = .ok (.getfield 42, 3) := by decide +kernel
theorem dX12_years_233 : decode cX12_years 233 = .ok (.iload 10, 2) := by decide +kernel
theorem dX12_years_235 : decode cX12_years 235 = .ok (.aload_n 0, 1) := by decide +kernel
theorem dX12_years_236 : decode cX12_years 236 = .ok (.getfield 42, 3) := by decide +kernel
theorem dX12_years_239 : decode cX12_years 239 = .ok (.iload 10, 2) := by decide +kernel
theorem dX12_years_241 : decode cX12_years 241 = .ok (.iaload, 1) := by decide +kernel
theorem dX12_years_242 : decode cX12_years 242 = .ok (.iconst 5, 1) := by decide +kernel
theorem dX12_years_243 : decode cX12_years 243 = .ok (.if_icmp .le 15, 3) := by decide +kernel
theorem dX12_years_246 : decode cX12_years 246 = .ok (.aload_n 0, 1) := by decide +kernel
theorem dX12_years_247 : decode cX12_years 247 = .ok (.getfield 42, 3) := by decide +kernel
theorem dX12_years_250 : decode cX12_years 250 = .ok (.iload 10, 2) := by decide +kernel
theorem dX12_years_252 : decode cX12_years 252 = .ok (.iaload, 1) := by decide +kernel
theorem dX12_years_253 : decode cX12_years 253 = .ok (.iconst 1, 1) := by decide +kernel
theorem dX12_years_254 : decode cX12_years 254 = .ok (.isub, 1) := by decide +kernel
theorem dX12_years_255 : decode cX12_years 255 = .ok (.goto 27, 3) := by decide +kernel
theorem dX12_years_258 : decode cX12_years 258 = .ok (.aload_n 0, 1) := by decide +kernel
theorem dX12_years_259 : decode cX12_years 259 = .ok (.getfield 42, 3) := by decide +kernel
theorem dX12_years_262 : decode cX12_years 262 = .ok (.iload 10, 2) := by decide +kernel
theorem dX12_years_264 : decode cX12_years 264 = .ok (.iaload, 1) := by decide +kernel
theorem dX12_years_265 : decode cX12_years 265 = .ok (.iconst 5, 1) := by decide +kernel
theorem dX12_years_266 : decode cX12_years 266 = .ok (.if_icmp .ge 15, 3) := by decide +kernel
theorem dX12_years_269 : decode cX12_years 269 = .ok (.aload_n 0, 1) := by decide +kernel
theorem dX12_years_270 : decode cX12_years 270 = .ok (.getfield 42, 3) := by decide +kernel
theorem dX12_years_273 : decode cX12_years 273 = .ok (.iload 10, 2) := by decide +kernel
theorem dX12_years_275 : decode cX12_years 275 = .ok (.iaload, 1) := by decide +kernel
theorem dX12_years_276 : decode cX12_years 276 = .ok (.iconst 1, 1) := by decide +kernel
theorem dX12_years_277 : decode cX12_years 277 = .ok (.iadd, 1) := by decide +kernel
theorem dX12_years_278 : decode cX12_years 278 = .ok (.goto 4, 3) := by decide +kernel
theorem dX12_years_281 : decode cX12_years 281 = .ok (.iconst 5, 1) := by decide +kernel
theorem dX12_years_282 : decode cX12_years 282 = .ok (.iastore, 1) := by decide +kernel
theorem dX12_years_283 : decode cX12_years 283 = .ok (.iinc 10 1, 3) := by decide +kernel
theorem dX12_years_286 : decode cX12_years 286 = .ok (.goto (-68), 3) := by decide +kernel
theorem dX12_years_289 : decode cX12_years 289 = .ok (.iinc 7 1, 3) := by decide +kernel
theorem dX12_years_292 : decode cX12_years 292 = .ok (.goto (-215), 3) := by decide +kernel
theorem dX12_years_295 : decode cX12_years 295 = .ok (.iload 6, 2) := by decide +kernel
theorem dX12_years_297 : decode cX12_years 297 = .ok (.ireturn, 1) := by decide +kernel
set_option maxRecDepth 20000 in
theorem ggX12_part_X12_bad : GoodIn wsX12_part wsX12_bad := goodIn_r _ [7, 8, 9, 10, 11, 12, 13, 14, 15, 16, 17, 18, 19, 20, 21, 22, 23, 24, 25, 26, 27, 28] (by decide +kernel) (by decide +kernel)
set_option maxRecDepth 20000 in
theorem gX12_part_X12_bad : GoodIn wsX12_part (wsV RX12 77 RX12 yX12_bad wsX12_bad) := goodIn_app (goodIn_of _ (by decide +kernel)) ggX12_part_X12_bad
theorem dX12_part_0 : decode cX12_part 0 = .ok (.iload_n 1, 1) := by decide +kernel
theorem dX12_part_1 : decode cX12_part 1 = .ok (.ifCond .ne 10, 3) := by decide +kernel
theorem dX12_part_4 : decode cX12_part 4 = .ok (.aload_n 0, 1) := by decide +kernel
theorem dX12_part_5 : decode cX12_part 5 = .ok (.getfield 20, 3) := by decide +kernel
theorem dX12_part_8 : decode cX12_part 8 = .ok (.goto 22, 3) := by decide +kernel
theorem dX12_part_11 : decode cX12_part 11 = .ok (.iload_n 1, 1) := by decide +kernel
theorem dX12_part_12 : decode cX12_part 12 = .ok (.iconst 1, 1) := by decide +kernel
theorem dX12_part_13 : decode cX12_part 13 = .ok (.if_icmp .ne 10, 3) := by decide +kernel
theorem dX12_part_16 : decode cX12_part 16 = .ok (.aload_n 0, 1) := by decide +kernel
theorem dX12_part_17 : decode cX12_part 17 = .ok (.getfield 24, 3) := by decide +kernel
theorem dX12_part_20 : decode cX12_part 20 = .ok (.goto 10, 3) := by decide +kernel
theorem dX12_part_23 : decode cX12_part 23 = .ok (.aload_n 0, 1) := by decide +kernel
theorem dX12_part_24 : decode cX12_part 24 = .ok (.bipush (-2), 2) := by decide +kernel
theorem dX12_part_26 : decode cX12_part 26 = .ok (.invokevirtual 77, 3) := by decide +kernel
theorem dX12_part_29 : decode cX12_part 29 = .ok (.i2l, 1) := by decide +kernel
theorem dX12_part_30 : decode cX12_part 30 = .ok (.lreturn, 1) := by decide +kernel
set_option maxRecDepth 20000 in
theorem ggX12_image_X12_in : GoodIn wsX12_image wsX12_in := goodIn_r _ [5] (by decide +kernel) (by decide +kernel)
set_option maxRecDepth 20000 in
theorem gX12_image_X12_in : GoodIn wsX12_image (va_wsS RX12 49 yX12_in wsX12_in) := goodIn_app (goodIn_of _ (by decide +kernel)) ggX12_image_X12_in
set_option maxRecDepth 20000 in
theorem ggX12_image_X12_bad : GoodIn wsX12_image wsX12_bad := goodIn_r _ [9, 10, 16, 17, 18, 19, 20, 21, 22, 23, 24, 25, 26, 27, 28, 29, 30, 31, 32, 33, 34, 35] (by decide +kernel) (by decide +kernel)
set_option maxRecDepth 20000 in
theorem gX12_image_X12_bad : GoodIn wsX12_image (wsV RX12 77 RX12 yX12_bad wsX12_bad) := goodIn_app (goodIn_of _ (by decide +kernel)) ggX12_image_X12_bad
set_option maxRecDepth 20000 in
theorem ggX12_image_X12_copy : GoodIn wsX12_image wsX12_copy := goodIn_r _ [14, 15, 16, 17, 18, 19, 20, 21, 22, 23, 24, 25, 26, 27, 28, 29, 30, 31, 32, 33, 34, 35] (by decide +kernel) (by decide +kernel)
set_option maxRecDepth 20000 in
theorem gX12_image_X12_copy : GoodIn wsX12_image (wsV RX12 159 RX12 yX12_copy wsX12_copy) := goodIn_app (goodIn_of _ (by decide +kernel)) ggX12_image_X12_copy
theorem dX12_image_0 : decode cX12_image 0 = .ok (.iload_n 1, 1) := by decide +kernel
theorem dX12_image_1 : decode cX12_image 1 = .ok (.i2l, 1) := by decide +kernel
theorem dX12_image_2 : decode cX12_image 2 = .ok (.lconst 0, 1) := by decide +kernel
theorem dX12_image_3 : decode cX12_image 3 = .ok (.lconst 1, 1) := by decide +kernel
theorem dX12_image_4 : decode cX12_image 4 = .ok (.invokestatic 49, 3) := by decide +kernel
theorem dX12_image_7 : decode cX12_image 7 = .ok (.ifCond .ne 10, 3) := by decide +kernel
theorem dX12_image_10 : decode cX12_image 10 = .ok (.aload_n 0, 1) := by decide +kernel
theorem dX12_image_11 : decode cX12_image 11 = .ok (.bipush (-2), 2) := by decide +kernel
theorem dX12_image_13 : decode cX12_image 13 = .ok (.invokevirtual 77, 3) := by decide +kernel
theorem dX12_image_16 : decode cX12_image 16 = .ok (.ireturn, 1) := by decide +kernel
theorem dX12_image_17 : decode cX12_image 17 = .ok (.aload_n 0, 1) := by decide +kernel
theorem dX12_image_18 : decode cX12_image 18 = .ok (.iconst 0, 1) := by decide +kernel
theorem dX12_image_19 : decode cX12_image 19 = .ok (.sipush 241, 3) := by decide +kernel
theorem dX12_image_22 : decode cX12_image 22 = .ok (.sipush 241, 3) := by decide +kernel
theorem dX12_image_25 : decode cX12_image 25 = .ok (.iload_n 1, 1) := by decide +kernel
theorem dX12_image_26 : decode cX12_image 26 = .ok (.imul, 1) := by decide +kernel
theorem dX12_image_27 : decode cX12_image 27 = .ok (.iadd, 1) := by decide +kernel
theorem dX12_image_28 : decode cX12_image 28 = .ok (.invokevirtual 159, 3) := by decide +kernel
theorem dX12_image_31 : decode cX12_image 31 = .ok (.aload_n 0, 1) := by decide +kernel
theorem dX12_image_32 : decode cX12_image 32 = .ok (.getfield 13, 3) := by decide +kernel
theorem dX12_image_35 : decode cX12_image 35 = .ok (.iload_n 1, 1) := by decide +kernel
theorem dX12_image_36 : decode cX12_image 36 = .ok (.iconst 1, 1) := by decide +kernel
theorem dX12_image_37 : decode cX12_image 37 = .ok (.bastore, 1) := by decide +kernel
theorem dX12_image_38 : decode cX12_image 38 = .ok (.iconst 1, 1) := by decide +kernel
theorem dX12_image_39 : decode cX12_image 39 = .ok (.ireturn, 1) := by decide +kernel
set_option maxRecDepth 20000 in
theorem ggX12_from_X12_in : GoodIn wsX12_from wsX12_in := goodIn_r _ [5] (by decide +kernel) (by decide +kernel)
set_option maxRecDepth 20000 in
theorem gX12_from_X12_in : GoodIn wsX12_from (va_wsS RX12 49 yX12_in wsX12_in) := goodIn_app (goodIn_of _ (by decide +kernel)) ggX12_from_X12_in
set_option maxRecDepth 20000 in
theorem ggX12_from_X12_bad : GoodIn wsX12_from wsX12_bad := goodIn_r _ [9, 10, 20, 21, 22, 23, 24, 25, 26, 27, 28, 29, 30, 31, 32, 33, 34, 35, 36, 37, 38, 39] (by decide +kernel) (by decide +kernel)
set_option maxRecDepth 20000 in
theorem gX12_from_X12_bad : GoodIn wsX12_from (wsV RX12 77 RX12 yX12_bad wsX12_bad) := goodIn_app (goodIn_of _ (by decide +kernel)) ggX12_from_X12_bad
set_option maxRecDepth 20000 in
theorem ggX12_from_X12_no : GoodIn wsX12_from wsX12_no := goodIn_r _ [14, 10, 20, 21, 22, 23, 24, 25, 26, 27, 28, 29, 30, 31, 32, 33, 34, 35, 36, 37, 38, 39] (by decide +kernel) (by decide +kernel)
set_option maxRecDepth 20000 in
theorem gX12_from_X12_no : GoodIn wsX12_from (wsV RX12 176 RX12 yX12_no wsX12_no) := goodIn_app (goodIn_of _ (by decide +kernel)) ggX12_from_X12_no
set_option maxRecDepth 20000 in
theorem ggX12_from_X12_copy : GoodIn wsX12_from wsX12_copy := goodIn_r _ [18, 19, 20, 21, 22, 23, 24, 25, 26, 27, 28, 29, 30, 31, 32, 33, 34, 35, 36, 37, 38, 39] (by decide +kernel) (by decide +kernel)
set_option maxRecDepth 20000 in
theorem gX12_from_X12_copy : GoodIn wsX12_from (wsV RX12 159 RX12 yX12_copy wsX12_copy) := goodIn_app (goodIn_of _ (by decide +kernel)) ggX12_from_X12_copy
theorem dX12_from_0 : decode cX12_from 0 = .ok (.iload_n 1, 1) := by decide +kernel
theorem dX12_from_1 : decode cX12_from 1 = .ok (.i2l, 1) := by decide +kernel
theorem dX12_from_2 : decode cX12_from 2 = .ok (.lconst 0, 1) := by decide +kernel
theorem dX12_from_3 : decode cX12_from 3 = .ok (.lconst 1, 1) := by decide +kernel
theorem dX12_from_4 : decode cX12_from 4 = .ok (.invokestatic 49, 3) := by decide +kernel
theorem dX12_from_7 : decode cX12_from 7 = .ok (.ifCond .ne 10, 3) := by decide +kernel
theorem dX12_from_10 : decode cX12_from 10 = .ok (.aload_n 0, 1) := by decide +kernel
theorem dX12_from_11 : decode cX12_from 11 = .ok (.bipush (-2), 2) := by decide +kernel
theorem dX12_from_13 : decode cX12_from 13 = .ok (.invokevirtual 77, 3) := by decide +kernel
theorem dX12_from_16 : decode cX12_from 16 = .ok (.ireturn, 1) := by decide +kernel
theorem dX12_from_17 : decode cX12_from 17 = .ok (.aload_n 0, 1) := by decide +kernel
theorem dX12_from_18 : decode cX12_from 18 = .ok (.getfield 13, 3) := by decide +kernel
theorem dX12_from_21 : decode cX12_from 21 = .ok (.iload_n 1, 1) := by decide +kernel
theorem dX12_from_22 : decode cX12_from 22 = .ok (.baload, 1) := by decide +kernel
theorem dX12_from_23 : decode cX12_from 23 = .ok (.ifCond .ne 8, 3) := by decide +kernel
theorem dX12_from_26 : decode cX12_from 26 = .ok (.aload_n 0, 1) := by decide +kernel
theorem dX12_from_27 : decode cX12_from 27 = .ok (.invokevirtual 176, 3) := by decide +kernel
theorem dX12_from_30 : decode cX12_from 30 = .ok (.ireturn, 1) := by decide +kernel
theorem dX12_from_31 : decode cX12_from 31 = .ok (.aload_n 0, 1) := by decide +kernel
theorem dX12_from_32 : decode cX12_from 32 = .ok (.sipush 241, 3) := by decide +kernel
theorem dX12_from_35 : decode cX12_from 35 = .ok (.sipush 241, 3) := by decide +kernel
theorem dX12_from_38 : decode cX12_from 38 = .ok (.iload_n 1, 1) := by decide +kernel
theorem dX12_from_39 : decode cX12_from 39 = .ok (.imul, 1) := by decide +kernel
theorem dX12_from_40 : decode cX12_from 40 = .ok (.iadd, 1) := by decide +kernel
theorem dX12_from_41 : decode cX12_from 41 = .ok (.iconst 0, 1) := by decide +kernel
theorem dX12_from_42 : decode cX12_from 42 = .ok (.invokevirtual 159, 3) := by decide +kernel
theorem dX12_from_45 : decode cX12_from 45 = .ok (.iconst 1, 1) := by decide +kernel
theorem dX12_from_46 : decode cX12_from 46 = .ok (.ireturn, 1) := by decide +kernel
set_option maxRecDepth 20000 in
theorem ggX12_status_X12_in : GoodIn wsX12_status wsX12_in := goodIn_r _ [6] (by decide +kernel) (by decide +kernel)
set_option maxRecDepth 20000 in
theorem gX12_status_X12_in : GoodIn wsX12_status (va_wsS RX12 49 yX12_in wsX12_in) := goodIn_app (goodIn_of _ (by decide +kernel)) ggX12_status_X12_in
set_option maxRecDepth 20000 in
theorem ggX12_status_X12_bad : GoodIn wsX12_status wsX12_bad := goodIn_r _ [10, 2, 11, 12, 13, 14, 15, 16, 17, 18, 19, 20, 21, 22, 23, 24, 25, 26, 27, 28, 29, 30] (by decide +kernel) (by decide +kernel)
set_option maxRecDepth 20000 in
theorem gX12_status_X12_bad : GoodIn wsX12_status (wsV RX12 77 RX12 yX12_bad wsX12_bad) := goodIn_app (goodIn_of _ (by decide +kernel)) ggX12_status_X12_bad
theorem dX12_status_0 : decode cX12_status 0 = .ok (.iload_n 1, 1) := by decide +kernel
theorem dX12_status_1 : decode cX12_status 1 = .ok (.i2l, 1) := by decide +kernel
theorem dX12_status_2 : decode cX12_status 2 = .ok (.lconst 0, 1) := by decide +kernel
theorem dX12_status_3 : decode cX12_status 3 = .ok (.ldc2_w 59, 3) := by decide +kernel
theorem dX12_status_6 : decode cX12_status 6 = .ok (.invokestatic 49, 3) := by decide +kernel
theorem dX12_status_9 : decode cX12_status 9 = .ok (.ifCond .eq 12, 3) := by decide +kernel
theorem dX12_status_12 : decode cX12_status 12 = .ok (.aload_n 0, 1) := by decide +kernel
theorem dX12_status_13 : decode cX12_status 13 = .ok (.getfield 27, 3) := by decide +kernel
theorem dX12_status_16 : decode cX12_status 16 = .ok (.iload_n 1, 1) := by decide +kernel
theorem dX12_status_17 : decode cX12_status 17 = .ok (.iaload, 1) := by decide +kernel
theorem dX12_status_18 : decode cX12_status 18 = .ok (.goto 8, 3) := by decide +kernel
theorem dX12_status_21 : decode cX12_status 21 = .ok (.aload_n 0, 1) := by decide +kernel
theorem dX12_status_22 : decode cX12_status 22 = .ok (.iconst (-1), 1) := by decide +kernel
theorem dX12_status_23 : decode cX12_status 23 = .ok (.invokevirtual 77, 3) := by decide +kernel
theorem dX12_status_26 : decode cX12_status 26 = .ok (.ireturn, 1) := by decide +kernel
set_option maxRecDepth 20000 in
theorem ggX12_countOf_X12_ones : GoodIn wsX12_countOf wsX12_ones := goodIn_r _ [6] (by decide +kernel) (by decide +kernel)
set_option maxRecDepth 20000 in
theorem gX12_countOf_X12_ones : GoodIn wsX12_countOf (va_wsS RX12 223 yX12_ones wsX12_ones) := goodIn_app (goodIn_of _ (by decide +kernel)) ggX12_countOf_X12_ones
set_option maxRecDepth 20000 in
theorem ggX12_countOf_X12_allStones : GoodIn wsX12_countOf wsX12_allStones := goodIn_r _ [10, 1, 11, 12, 13, 14, 15, 16, 17, 18, 19, 20, 21, 22, 23, 24, 25, 26, 27, 28, 29, 30] (by decide +kernel) (by decide +kernel)
set_option maxRecDepth 20000 in
theorem gX12_countOf_X12_allStones : GoodIn wsX12_countOf (wsV RX12 191 RX12 yX12_allStones wsX12_allStones) := goodIn_app (goodIn_of _ (by decide +kernel)) ggX12_countOf_X12_allStones
theorem dX12_countOf_0 : decode cX12_countOf 0 = .ok (.iload_n 1, 1) := by decide +kernel
theorem dX12_countOf_1 : decode cX12_countOf 1 = .ok (.tableswitch 119 0 8 #[51, 58, 65, 72, 82, 87, 95, 103, 111], 51) := by decide +kernel
theorem dX12_countOf_52 : decode cX12_countOf 52 = .ok (.aload_n 0, 1) := by decide +kernel
theorem dX12_countOf_53 : decode cX12_countOf 53 = .ok (.getfield 7, 3) := by decide +kernel
theorem dX12_countOf_56 : decode cX12_countOf 56 = .ok (.iconst 0, 1) := by decide +kernel
theorem dX12_countOf_57 : decode cX12_countOf 57 = .ok (.iaload, 1) := by decide +kernel
theorem dX12_countOf_58 : decode cX12_countOf 58 = .ok (.ireturn, 1) := by decide +kernel
theorem dX12_countOf_59 : decode cX12_countOf 59 = .ok (.aload_n 0, 1) := by decide +kernel
theorem dX12_countOf_60 : decode cX12_countOf 60 = .ok (.getfield 7, 3) := by decide +kernel
theorem dX12_countOf_63 : decode cX12_countOf 63 = .ok (.iconst 1, 1) := by decide +kernel
theorem dX12_countOf_64 : decode cX12_countOf 64 = .ok (.iaload, 1) := by decide +kernel
theorem dX12_countOf_65 : decode cX12_countOf 65 = .ok (.ireturn, 1) := by decide +kernel
theorem dX12_countOf_66 : decode cX12_countOf 66 = .ok (.aload_n 0, 1) := by decide +kernel
theorem dX12_countOf_67 : decode cX12_countOf 67 = .ok (.getfield 7, 3) := by decide +kernel
theorem dX12_countOf_70 : decode cX12_countOf 70 = .ok (.iconst 2, 1) := by decide +kernel
theorem dX12_countOf_71 : decode cX12_countOf 71 = .ok (.iaload, 1) := by decide +kernel
theorem dX12_countOf_72 : decode cX12_countOf 72 = .ok (.ireturn, 1) := by decide +kernel
theorem dX12_countOf_73 : decode cX12_countOf 73 = .ok (.aload_n 0, 1) := by decide +kernel
theorem dX12_countOf_74 : decode cX12_countOf 74 = .ok (.getfield 7, 3) := by decide +kernel
theorem dX12_countOf_77 : decode cX12_countOf 77 = .ok (.iconst 3, 1) := by decide +kernel
theorem dX12_countOf_78 : decode cX12_countOf 78 = .ok (.iaload, 1) := by decide +kernel
theorem dX12_countOf_79 : decode cX12_countOf 79 = .ok (.invokestatic 223, 3) := by decide +kernel
theorem dX12_countOf_82 : decode cX12_countOf 82 = .ok (.ireturn, 1) := by decide +kernel
theorem dX12_countOf_83 : decode cX12_countOf 83 = .ok (.aload_n 0, 1) := by decide +kernel
theorem dX12_countOf_84 : decode cX12_countOf 84 = .ok (.invokevirtual 191, 3) := by decide +kernel
theorem dX12_countOf_87 : decode cX12_countOf 87 = .ok (.ireturn, 1) := by decide +kernel
theorem dX12_countOf_88 : decode cX12_countOf 88 = .ok (.aload_n 0, 1) := by decide +kernel
theorem dX12_countOf_89 : decode cX12_countOf 89 = .ok (.getfield 7, 3) := by decide +kernel
theorem dX12_countOf_92 : decode cX12_countOf 92 = .ok (.bipush 43, 2) := by decide +kernel
theorem dX12_countOf_94 : decode cX12_countOf 94 = .ok (.iaload, 1) := by decide +kernel
theorem dX12_countOf_95 : decode cX12_countOf 95 = .ok (.ireturn, 1) := by decide +kernel
theorem dX12_countOf_96 : decode cX12_countOf 96 = .ok (.aload_n 0, 1) := by decide +kernel
theorem dX12_countOf_97 : decode cX12_countOf 97 = .ok (.getfield 7, 3) := by decide +kernel
theorem dX12_countOf_100 : decode cX12_countOf 100 = .ok (.bipush 62, 2) := by decide +kernel
theorem dX12_countOf_102 : decode cX12_countOf 102 = .ok (.iaload, 1) := by decide +kernel
theorem dX12_countOf_103 : decode cX12_countOf 103 = .ok (.ireturn, 1) := by decide +kernel
theorem dX12_countOf_104 : decode cX12_countOf 104 = .ok (.aload_n 0, 1) := by decide +kernel
theorem dX12_countOf_105 : decode cX12_countOf 105 = .ok (.getfield 7, 3) := by decide +kernel
theorem dX12_countOf_108 : decode cX12_countOf 108 = .ok (.bipush 87, 2) := by decide +kernel
theorem dX12_countOf_110 : decode cX12_countOf 110 = .ok (.iaload, 1) := by decide +kernel
theorem dX12_countOf_111 : decode cX12_countOf 111 = .ok (.ireturn, 1) := by decide +kernel
theorem dX12_countOf_112 : decode cX12_countOf 112 = .ok (.aload_n 0, 1) := by decide +kernel
theorem dX12_countOf_113 : decode cX12_countOf 113 = .ok (.getfield 7, 3) := by decide +kernel
theorem dX12_countOf_116 : decode cX12_countOf 116 = .ok (.bipush 112, 2) := by decide +kernel
theorem dX12_countOf_118 : decode cX12_countOf 118 = .ok (.iaload, 1) := by decide +kernel
theorem dX12_countOf_119 : decode cX12_countOf 119 = .ok (.ireturn, 1) := by decide +kernel
theorem dX12_countOf_120 : decode cX12_countOf 120 = .ok (.aload_n 0, 1) := by decide +kernel
theorem dX12_countOf_121 : decode cX12_countOf 121 = .ok (.getfield 45, 3) := by decide +kernel
theorem dX12_countOf_124 : decode cX12_countOf 124 = .ok (.ireturn, 1) := by decide +kernel
set_option maxRecDepth 20000 in
theorem ggX12_count_X12_in : GoodIn wsX12_count wsX12_in := goodIn_r _ [5] (by decide +kernel) (by decide +kernel)
set_option maxRecDepth 20000 in
theorem gX12_count_X12_in : GoodIn wsX12_count (va_wsS RX12 49 yX12_in wsX12_in) := goodIn_app (goodIn_of _ (by decide +kernel)) ggX12_count_X12_in
set_option maxRecDepth 20000 in
theorem ggX12_count_X12_countOf : GoodIn wsX12_count wsX12_countOf := goodIn_r _ [9, 10, 11, 12, 13, 4, 14, 15, 16, 17, 18, 24, 25, 26, 27, 28, 29, 30, 31, 32, 33, 34, 35, 36, 37, 38, 39, 40, 41, 42, 43] (by decide +kernel) (by decide +kernel)
