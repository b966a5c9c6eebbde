theorem dX9_enters_0 : decode cX9_enters 0 = .ok (.aload_n 0, 1) := by decide +kernel
theorem dX9_enters_1 : decode cX9_enters 1 = .ok (.getfield 73, 3) := by decide +kernel
theorem dX9_enters_4 : decode cX9_enters 4 = .ok (.aload_n 0, 1) := by decide +kernel
theorem dX9_enters_5 : decode cX9_enters 5 = .ok (.getfield 120, 3) := by decide +kernel
theorem dX9_enters_8 : decode cX9_enters 8 = .ok (.iconst 0, 1) := by decide +kernel
theorem dX9_enters_9 : decode cX9_enters 9 = .ok (.bastore, 1) := by decide +kernel
theorem dX9_enters_10 : decode cX9_enters 10 = .ok (.aload_n 0, 1) := by decide +kernel
theorem dX9_enters_11 : decode cX9_enters 11 = .ok (.getfield 76, 3) := by decide +kernel
theorem dX9_enters_14 : decode cX9_enters 14 = .ok (.aload_n 0, 1) := by decide +kernel
theorem dX9_enters_15 : decode cX9_enters 15 = .ok (.getfield 120, 3) := by decide +kernel
theorem dX9_enters_18 : decode cX9_enters 18 = .ok (.iconst 1, 1) := by decide +kernel
theorem dX9_enters_19 : decode cX9_enters 19 = .ok (.bastore, 1) := by decide +kernel
theorem dX9_enters_20 : decode cX9_enters 20 = .ok (.aload_n 0, 1) := by decide +kernel
theorem dX9_enters_21 : decode cX9_enters 21 = .ok (.getfield 79, 3) := by decide +kernel
theorem dX9_enters_24 : decode cX9_enters 24 = .ok (.aload_n 0, 1) := by decide +kernel
theorem dX9_enters_25 : decode cX9_enters 25 = .ok (.getfield 120, 3) := by decide +kernel
theorem dX9_enters_28 : decode cX9_enters 28 = .ok (.iconst 0, 1) := by decide +kernel
theorem dX9_enters_29 : decode cX9_enters 29 = .ok (.bastore, 1) := by decide +kernel
theorem dX9_enters_30 : decode cX9_enters 30 = .ok (.return_, 1) := by decide +kernel
set_option maxRecDepth 20000 in
theorem ggX9_asks_X9_source : GoodIn wsX9_asks wsX9_source := goodIn_r _ [7, 8, 9, 25, 26, 27, 28, 29, 30, 31, 32, 33, 34, 35, 36, 37, 38, 39, 40, 41, 42, 43, 44, 45, 46, 47, 48, 49, 50, 51, 52] (by decide +kernel) (by decide +kernel)
set_option maxRecDepth 20000 in
theorem gX9_asks_X9_source : GoodIn wsX9_asks (wsV RX9 89 RX9 yX9_source wsX9_source) := goodIn_app (goodIn_of _ (by decide +kernel)) ggX9_asks_X9_source
set_option maxRecDepth 20000 in
theorem ggX9_asks_X9_tells : GoodIn wsX9_asks wsX9_tells := goodIn_r _ [13, 14, 15, 16, 25, 26, 27, 28, 29, 30, 31, 32, 33, 34, 35, 36, 37, 38, 39, 40, 41, 42, 43, 44, 45, 46, 47, 48, 49, 50, 51, 52] (by decide +kernel) (by decide +kernel)
set_option maxRecDepth 20000 in
theorem gX9_asks_X9_tells : GoodIn wsX9_asks (wsV RX9 123 RX9 yX9_tells wsX9_tells) := goodIn_app (goodIn_of _ (by decide +kernel)) ggX9_asks_X9_tells
set_option maxRecDepth 20000 in
theorem ggX9_asks_X9_isDigit : GoodIn wsX9_asks wsX9_isDigit := goodIn_r _ [19] (by decide +kernel) (by decide +kernel)
set_option maxRecDepth 20000 in
theorem gX9_asks_X9_isDigit : GoodIn wsX9_asks (va_wsS RX9 109 yX9_isDigit wsX9_isDigit) := goodIn_app (goodIn_of _ (by decide +kernel)) ggX9_asks_X9_isDigit
set_option maxRecDepth 20000 in
theorem ggX9_asks_X9_valueOr : GoodIn wsX9_asks wsX9_valueOr := goodIn_r _ [23, 24, 3, 4, 5, 6, 7, 8, 9, 25, 26, 27, 28, 29, 30, 31, 32, 33, 34, 35, 36, 37, 38, 39, 40, 41, 42, 43, 44, 45, 46, 47, 48, 49, 50, 51, 52] (by decide +kernel) (by decide +kernel)
set_option maxRecDepth 20000 in
theorem gX9_asks_X9_valueOr : GoodIn wsX9_asks (wsV RX9 93 RX9 yX9_valueOr wsX9_valueOr) := goodIn_app (goodIn_of _ (by decide +kernel)) ggX9_asks_X9_valueOr
theorem dX9_asks_0 : decode cX9_asks 0 = .ok (.aload_n 0, 1) := by decide +kernel
theorem dX9_asks_1 : decode cX9_asks 1 = .ok (.getfield 82, 3) := by decide +kernel
theorem dX9_asks_4 : decode cX9_asks 4 = .ok (.iload_n 2, 1) := by decide +kernel
theorem dX9_asks_5 : decode cX9_asks 5 = .ok (.caload, 1) := by decide +kernel
theorem dX9_asks_6 : decode cX9_asks 6 = .ok (.istore_n 3, 1) := by decide +kernel
theorem dX9_asks_7 : decode cX9_asks 7 = .ok (.iload_n 3, 1) := by decide +kernel
theorem dX9_asks_8 : decode cX9_asks 8 = .ok (.bipush 107, 2) := by decide +kernel
theorem dX9_asks_10 : decode cX9_asks 10 = .ok (.if_icmp .ne 7, 3) := by decide +kernel
theorem dX9_asks_13 : decode cX9_asks 13 = .ok (.iconst 0, 1) := by decide +kernel
theorem dX9_asks_14 : decode cX9_asks 14 = .ok (.goto 34, 3) := by decide +kernel
theorem dX9_asks_17 : decode cX9_asks 17 = .ok (.iload_n 3, 1) := by decide +kernel
theorem dX9_asks_18 : decode cX9_asks 18 = .ok (.bipush 114, 2) := by decide +kernel
theorem dX9_asks_20 : decode cX9_asks 20 = .ok (.if_icmp .ne 7, 3) := by decide +kernel
theorem dX9_asks_23 : decode cX9_asks 23 = .ok (.iconst 1, 1) := by decide +kernel
theorem dX9_asks_24 : decode cX9_asks 24 = .ok (.goto 24, 3) := by decide +kernel
theorem dX9_asks_27 : decode cX9_asks 27 = .ok (.iload_n 3, 1) := by decide +kernel
theorem dX9_asks_28 : decode cX9_asks 28 = .ok (.bipush 121, 2) := by decide +kernel
theorem dX9_asks_30 : decode cX9_asks 30 = .ok (.if_icmp .ne 7, 3) := by decide +kernel
theorem dX9_asks_33 : decode cX9_asks 33 = .ok (.iconst 2, 1) := by decide +kernel
theorem dX9_asks_34 : decode cX9_asks 34 = .ok (.goto 14, 3) := by decide +kernel
theorem dX9_asks_37 : decode cX9_asks 37 = .ok (.iload_n 3, 1) := by decide +kernel
theorem dX9_asks_38 : decode cX9_asks 38 = .ok (.bipush 99, 2) := by decide +kernel
theorem dX9_asks_40 : decode cX9_asks 40 = .ok (.if_icmp .ne 7, 3) := by decide +kernel
theorem dX9_asks_43 : decode cX9_asks 43 = .ok (.iconst 3, 1) := by decide +kernel
theorem dX9_asks_44 : decode cX9_asks 44 = .ok (.goto 4, 3) := by decide +kernel
theorem dX9_asks_47 : decode cX9_asks 47 = .ok (.iconst 4, 1) := by decide +kernel
theorem dX9_asks_48 : decode cX9_asks 48 = .ok (.istore 4, 2) := by decide +kernel
theorem dX9_asks_50 : decode cX9_asks 50 = .ok (.aload_n 0, 1) := by decide +kernel
theorem dX9_asks_51 : decode cX9_asks 51 = .ok (.iload_n 1, 1) := by decide +kernel
theorem dX9_asks_52 : decode cX9_asks 52 = .ok (.iload 4, 2) := by decide +kernel
theorem dX9_asks_54 : decode cX9_asks 54 = .ok (.invokevirtual 89, 3) := by decide +kernel
theorem dX9_asks_57 : decode cX9_asks 57 = .ok (.ifCond .lt 7, 3) := by decide +kernel
theorem dX9_asks_60 : decode cX9_asks 60 = .ok (.iconst 1, 1) := by decide +kernel
theorem dX9_asks_61 : decode cX9_asks 61 = .ok (.goto 4, 3) := by decide +kernel
theorem dX9_asks_64 : decode cX9_asks 64 = .ok (.iconst 0, 1) := by decide +kernel
theorem dX9_asks_65 : decode cX9_asks 65 = .ok (.istore 5, 2) := by decide +kernel
theorem dX9_asks_67 : decode cX9_asks 67 = .ok (.aload_n 0, 1) := by decide +kernel
theorem dX9_asks_68 : decode cX9_asks 68 = .ok (.getfield 82, 3) := by decide +kernel
theorem dX9_asks_71 : decode cX9_asks 71 = .ok (.iload_n 2, 1) := by decide +kernel
theorem dX9_asks_72 : decode cX9_asks 72 = .ok (.iconst 1, 1) := by decide +kernel
theorem dX9_asks_73 : decode cX9_asks 73 = .ok (.iadd, 1) := by decide +kernel
theorem dX9_asks_74 : decode cX9_asks 74 = .ok (.caload, 1) := by decide +kernel
theorem dX9_asks_75 : decode cX9_asks 75 = .ok (.istore 6, 2) := by decide +kernel
theorem dX9_asks_77 : decode cX9_asks 77 = .ok (.iload 6, 2) := by decide +kernel
theorem dX9_asks_79 : decode cX9_asks 79 = .ok (.bipush 63, 2) := by decide +kernel
theorem dX9_asks_81 : decode cX9_asks 81 = .ok (.if_icmp .ne 13, 3) := by decide +kernel
theorem dX9_asks_84 : decode cX9_asks 84 = .ok (.aload_n 0, 1) := by decide +kernel
theorem dX9_asks_85 : decode cX9_asks 85 = .ok (.iload 5, 2) := by decide +kernel
theorem dX9_asks_87 : decode cX9_asks 87 = .ok (.invokevirtual 123, 3) := by decide +kernel
theorem dX9_asks_90 : decode cX9_asks 90 = .ok (.iload_n 2, 1) := by decide +kernel
theorem dX9_asks_91 : decode cX9_asks 91 = .ok (.iconst 2, 1) := by decide +kernel
theorem dX9_asks_92 : decode cX9_asks 92 = .ok (.iadd, 1) := by decide +kernel
theorem dX9_asks_93 : decode cX9_asks 93 = .ok (.ireturn, 1) := by decide +kernel
theorem dX9_asks_94 : decode cX9_asks 94 = .ok (.iconst 0, 1) := by decide +kernel
theorem dX9_asks_95 : decode cX9_asks 95 = .ok (.istore 7, 2) := by decide +kernel
theorem dX9_asks_97 : decode cX9_asks 97 = .ok (.iload_n 2, 1) := by decide +kernel
theorem dX9_asks_98 : decode cX9_asks 98 = .ok (.iconst 2, 1) := by decide +kernel
theorem dX9_asks_99 : decode cX9_asks 99 = .ok (.iadd, 1) := by decide +kernel
theorem dX9_asks_100 : decode cX9_asks 100 = .ok (.istore 8, 2) := by decide +kernel
theorem dX9_asks_102 : decode cX9_asks 102 = .ok (.iload 8, 2) := by decide +kernel
theorem dX9_asks_104 : decode cX9_asks 104 = .ok (.aload_n 0, 1) := by decide +kernel
theorem dX9_asks_105 : decode cX9_asks 105 = .ok (.getfield 127, 3) := by decide +kernel
theorem dX9_asks_108 : decode cX9_asks 108 = .ok (.if_icmp .ge 40, 3) := by decide +kernel
theorem dX9_asks_111 : decode cX9_asks 111 = .ok (.aload_n 0, 1) := by decide +kernel
theorem dX9_asks_112 : decode cX9_asks 112 = .ok (.getfield 82, 3) := by decide +kernel
theorem dX9_asks_115 : decode cX9_asks 115 = .ok (.iload 8, 2) := by decide +kernel
theorem dX9_asks_117 : decode cX9_asks 117 = .ok (.caload, 1) := by decide +kernel
theorem dX9_asks_118 : decode cX9_asks 118 = .ok (.invokestatic 109, 3) := by decide +kernel
theorem dX9_asks_121 : decode cX9_asks 121 = .ok (.ifCond .eq 27, 3) := by decide +kernel
theorem dX9_asks_124 : decode cX9_asks 124 = .ok (.bipush 10, 2) := by decide +kernel
theorem dX9_asks_126 : decode cX9_asks 126 = .ok (.iload 7, 2) := by decide +kernel
theorem dX9_asks_128 : decode cX9_asks 128 = .ok (.imul, 1) := by decide +kernel
theorem dX9_asks_129 : decode cX9_asks 129 = .ok (.aload_n 0, 1) := by decide +kernel
theorem dX9_asks_130 : decode cX9_asks 130 = .ok (.getfield 82, 3) := by decide +kernel
theorem dX9_asks_133 : decode cX9_asks 133 = .ok (.iload 8, 2) := by decide +kernel
theorem dX9_asks_135 : decode cX9_asks 135 = .ok (.caload, 1) := by decide +kernel
theorem dX9_asks_136 : decode cX9_asks 136 = .ok (.iadd, 1) := by decide +kernel
theorem dX9_asks_137 : decode cX9_asks 137 = .ok (.bipush 48, 2) := by decide +kernel
theorem dX9_asks_139 : decode cX9_asks 139 = .ok (.isub, 1) := by decide +kernel
theorem dX9_asks_140 : decode cX9_asks 140 = .ok (.istore 7, 2) := by decide +kernel
theorem dX9_asks_142 : decode cX9_asks 142 = .ok (.iinc 8 1, 3) := by decide +kernel
theorem dX9_asks_145 : decode cX9_asks 145 = .ok (.goto (-43), 3) := by decide +kernel
theorem dX9_asks_148 : decode cX9_asks 148 = .ok (.aload_n 0, 1) := by decide +kernel
theorem dX9_asks_149 : decode cX9_asks 149 = .ok (.iload_n 1, 1) := by decide +kernel
theorem dX9_asks_150 : decode cX9_asks 150 = .ok (.iload 4, 2) := by decide +kernel
theorem dX9_asks_152 : decode cX9_asks 152 = .ok (.iconst 0, 1) := by decide +kernel
theorem dX9_asks_153 : decode cX9_asks 153 = .ok (.invokevirtual 93, 3) := by decide +kernel
theorem dX9_asks_156 : decode cX9_asks 156 = .ok (.istore 9, 2) := by decide +kernel
theorem dX9_asks_158 : decode cX9_asks 158 = .ok (.aload_n 0, 1) := by decide +kernel
theorem dX9_asks_159 : decode cX9_asks 159 = .ok (.iload 5, 2) := by decide +kernel
theorem dX9_asks_161 : decode cX9_asks 161 = .ok (.ifCond .eq 48, 3) := by decide +kernel
theorem dX9_asks_164 : decode cX9_asks 164 = .ok (.iload 6, 2) := by decide +kernel
theorem dX9_asks_166 : decode cX9_asks 166 = .ok (.bipush 60, 2) := by decide +kernel
theorem dX9_asks_168 : decode cX9_asks 168 = .ok (.if_icmp .ne 13, 3) := by decide +kernel
theorem dX9_asks_171 : decode cX9_asks 171 = .ok (.iload 9, 2) := by decide +kernel
theorem dX9_asks_173 : decode cX9_asks 173 = .ok (.iload 7, 2) := by decide +kernel
theorem dX9_asks_175 : decode cX9_asks 175 = .ok (.if_icmp .ge 34, 3) := by decide +kernel
theorem dX9_asks_178 : decode cX9_asks 178 = .ok (.goto 27, 3) := by decide +kernel
theorem dX9_asks_181 : decode cX9_asks 181 = .ok (.iload 6, 2) := by decide +kernel
theorem dX9_asks_183 : decode cX9_asks 183 = .ok (.bipush 61, 2) := by decide +kernel
theorem dX9_asks_185 : decode cX9_asks 185 = .ok (.if_icmp .ne 13, 3) := by decide +kernel
theorem dX9_asks_188 : decode cX9_asks 188 = .ok (.iload 9, 2) := by decide +kernel
theorem dX9_asks_190 : decode cX9_asks 190 = .ok (.iload 7, 2) := by decide +kernel
theorem dX9_asks_192 : decode cX9_asks 192 = .ok (.if_icmp .ne 17, 3) := by decide +kernel
theorem dX9_asks_195 : decode cX9_asks 195 = .ok (.goto 10, 3) := by decide +kernel
theorem dX9_asks_198 : decode cX9_asks 198 = .ok (.iload 9, 2) := by decide +kernel
theorem dX9_asks_200 : decode cX9_asks 200 = .ok (.iload 7, 2) := by decide +kernel
theorem dX9_asks_202 : decode cX9_asks 202 = .ok (.if_icmp .le 7, 3) := by decide +kernel
theorem dX9_asks_205 : decode cX9_asks 205 = .ok (.iconst 1, 1) := by decide +kernel
theorem dX9_asks_206 : decode cX9_asks 206 = .ok (.goto 4, 3) := by decide +kernel
theorem dX9_asks_209 : decode cX9_asks 209 = .ok (.iconst 0, 1) := by decide +kernel
theorem dX9_asks_210 : decode cX9_asks 210 = .ok (.invokevirtual 123, 3) := by decide +kernel
theorem dX9_asks_213 : decode cX9_asks 213 = .ok (.iload 8, 2) := by decide +kernel
theorem dX9_asks_215 : decode cX9_asks 215 = .ok (.ireturn, 1) := by decide +kernel
set_option maxRecDepth 20000 in
theorem ggX9_isSo_X9_cover : GoodIn wsX9_isSo wsX9_cover := goodIn_r _ [6, 7, 8, 9, 10, 11, 12, 5, 13, 14, 15, 16, 17, 18, 19, 20, 35, 36, 37, 38, 39, 40, 41, 42, 43, 44, 45, 46, 47, 48, 49, 50, 51, 52, 53, 54, 55, 56, 57, 58, 59, 60, 61, 62] (by decide +kernel) (by decide +kernel)
set_option maxRecDepth 20000 in
theorem gX9_isSo_X9_cover : GoodIn wsX9_isSo (wsV RX9 130 RX9 yX9_cover wsX9_cover) := goodIn_app (goodIn_of _ (by decide +kernel)) ggX9_isSo_X9_cover
set_option maxRecDepth 20000 in
theorem ggX9_isSo_X9_group : GoodIn wsX9_isSo wsX9_group := goodIn_r _ [24, 25, 26, 35, 36, 37, 38, 39, 40, 41, 42, 43, 44, 45, 46, 47, 48, 49, 50, 51, 52, 53, 54, 55, 56, 57, 58, 59, 60, 61, 62] (by decide +kernel) (by decide +kernel)
set_option maxRecDepth 20000 in
theorem gX9_isSo_X9_group : GoodIn wsX9_isSo (wsV RX9 134 RX9 yX9_group wsX9_group) := goodIn_app (goodIn_of _ (by decide +kernel)) ggX9_isSo_X9_group
set_option maxRecDepth 20000 in
theorem ggX9_isSo_X9_keeper : GoodIn wsX9_isSo wsX9_keeper := goodIn_r _ [30, 25, 26, 31, 32, 33, 5, 34, 10, 11, 12, 13, 14, 15, 16, 17, 18, 19, 20, 35, 36, 37, 38, 39, 40, 41, 42, 43, 44, 45, 46, 47, 48, 49, 50, 51, 52, 53, 54, 55, 56, 57, 58, 59, 60, 61, 62] (by decide +kernel) (by decide +kernel)
set_option maxRecDepth 20000 in
theorem gX9_isSo_X9_keeper : GoodIn wsX9_isSo (wsV RX9 137 RX9 yX9_keeper wsX9_keeper) := goodIn_app (goodIn_of _ (by decide +kernel)) ggX9_isSo_X9_keeper
theorem dX9_isSo_0 : decode cX9_isSo 0 = .ok (.iload_n 2, 1) := by decide +kernel
theorem dX9_isSo_1 : decode cX9_isSo 1 = .ok (.tableswitch 90 115 118 #[31, 90, 75, 46], 31) := by decide +kernel
theorem dX9_isSo_32 : decode cX9_isSo 32 = .ok (.aload_n 0, 1) := by decide +kernel
theorem dX9_isSo_33 : decode cX9_isSo 33 = .ok (.getfield 29, 3) := by decide +kernel
theorem dX9_isSo_36 : decode cX9_isSo 36 = .ok (.iload_n 1, 1) := by decide +kernel
theorem dX9_isSo_37 : decode cX9_isSo 37 = .ok (.iaload, 1) := by decide +kernel
theorem dX9_isSo_38 : decode cX9_isSo 38 = .ok (.ifCond .lt 7, 3) := by decide +kernel
theorem dX9_isSo_41 : decode cX9_isSo 41 = .ok (.iconst 1, 1) := by decide +kernel
theorem dX9_isSo_42 : decode cX9_isSo 42 = .ok (.goto 4, 3) := by decide +kernel
theorem dX9_isSo_45 : decode cX9_isSo 45 = .ok (.iconst 0, 1) := by decide +kernel
theorem dX9_isSo_46 : decode cX9_isSo 46 = .ok (.ireturn, 1) := by decide +kernel
theorem dX9_isSo_47 : decode cX9_isSo 47 = .ok (.aload_n 0, 1) := by decide +kernel
theorem dX9_isSo_48 : decode cX9_isSo 48 = .ok (.getfield 29, 3) := by decide +kernel
theorem dX9_isSo_51 : decode cX9_isSo 51 = .ok (.iload_n 1, 1) := by decide +kernel
theorem dX9_isSo_52 : decode cX9_isSo 52 = .ok (.iaload, 1) := by decide +kernel
theorem dX9_isSo_53 : decode cX9_isSo 53 = .ok (.ifCond .lt 21, 3) := by decide +kernel
theorem dX9_isSo_56 : decode cX9_isSo 56 = .ok (.aload_n 0, 1) := by decide +kernel
theorem dX9_isSo_57 : decode cX9_isSo 57 = .ok (.aload_n 0, 1) := by decide +kernel
theorem dX9_isSo_58 : decode cX9_isSo 58 = .ok (.getfield 29, 3) := by decide +kernel
theorem dX9_isSo_61 : decode cX9_isSo 61 = .ok (.iload_n 1, 1) := by decide +kernel
theorem dX9_isSo_62 : decode cX9_isSo 62 = .ok (.iaload, 1) := by decide +kernel
theorem dX9_isSo_63 : decode cX9_isSo 63 = .ok (.invokevirtual 130, 3) := by decide +kernel
theorem dX9_isSo_66 : decode cX9_isSo 66 = .ok (.iload_n 1, 1) := by decide +kernel
theorem dX9_isSo_67 : decode cX9_isSo 67 = .ok (.if_icmp .ne 7, 3) := by decide +kernel
theorem dX9_isSo_70 : decode cX9_isSo 70 = .ok (.iconst 1, 1) := by decide +kernel
theorem dX9_isSo_71 : decode cX9_isSo 71 = .ok (.goto 4, 3) := by decide +kernel
theorem dX9_isSo_74 : decode cX9_isSo 74 = .ok (.iconst 0, 1) := by decide +kernel
theorem dX9_isSo_75 : decode cX9_isSo 75 = .ok (.ireturn, 1) := by decide +kernel
theorem dX9_isSo_76 : decode cX9_isSo 76 = .ok (.aload_n 0, 1) := by decide +kernel
theorem dX9_isSo_77 : decode cX9_isSo 77 = .ok (.iload_n 1, 1) := by decide +kernel
theorem dX9_isSo_78 : decode cX9_isSo 78 = .ok (.invokevirtual 134, 3) := by decide +kernel
theorem dX9_isSo_81 : decode cX9_isSo 81 = .ok (.iconst 1, 1) := by decide +kernel
theorem dX9_isSo_82 : decode cX9_isSo 82 = .ok (.if_icmp .le 7, 3) := by decide +kernel
theorem dX9_isSo_85 : decode cX9_isSo 85 = .ok (.iconst 1, 1) := by decide +kernel
theorem dX9_isSo_86 : decode cX9_isSo 86 = .ok (.goto 4, 3) := by decide +kernel
theorem dX9_isSo_89 : decode cX9_isSo 89 = .ok (.iconst 0, 1) := by decide +kernel
theorem dX9_isSo_90 : decode cX9_isSo 90 = .ok (.ireturn, 1) := by decide +kernel
theorem dX9_isSo_91 : decode cX9_isSo 91 = .ok (.aload_n 0, 1) := by decide +kernel
theorem dX9_isSo_92 : decode cX9_isSo 92 = .ok (.iload_n 1, 1) := by decide +kernel
theorem dX9_isSo_93 : decode cX9_isSo 93 = .ok (.invokevirtual 137, 3) := by decide +kernel
theorem dX9_isSo_96 : decode cX9_isSo 96 = .ok (.iload_n 1, 1) := by decide +kernel
theorem dX9_isSo_97 : decode cX9_isSo 97 = .ok (.if_icmp .ne 7, 3) := by decide +kernel
theorem dX9_isSo_100 : decode cX9_isSo 100 = .ok (.iconst 1, 1) := by decide +kernel
theorem dX9_isSo_101 : decode cX9_isSo 101 = .ok (.goto 4, 3) := by decide +kernel
theorem dX9_isSo_104 : decode cX9_isSo 104 = .ok (.iconst 0, 1) := by decide +kernel
theorem dX9_isSo_105 : decode cX9_isSo 105 = .ok (.ireturn, 1) := by decide +kernel
set_option maxRecDepth 20000 in
theorem ggX9_works_X9_isField : GoodIn wsX9_works wsX9_isField := goodIn_r _ [10] (by decide +kernel) (by decide +kernel)
set_option maxRecDepth 20000 in
theorem gX9_works_X9_isField : GoodIn wsX9_works (va_wsS RX9 105 yX9_isField wsX9_isField) := goodIn_app (goodIn_of _ (by decide +kernel)) ggX9_works_X9_isField
set_option maxRecDepth 20000 in
theorem ggX9_works_X9_asks : GoodIn wsX9_works wsX9_asks := goodIn_r _ [14, 1, 15, 16, 17, 18, 9, 19, 20, 21, 22, 23, 24, 25, 5, 3, 2, 26, 27, 28, 29, 30, 31, 32, 33, 68, 69, 70, 71, 72, 73, 74, 75, 76, 77, 78, 79, 80, 81, 82, 83, 84, 85, 86, 87, 88, 89, 90, 91, 92, 93, 94, 95] (by decide +kernel) (by decide +kernel)
set_option maxRecDepth 20000 in
theorem gX9_works_X9_asks : GoodIn wsX9_works (wsV RX9 140 RX9 yX9_asks wsX9_asks) := goodIn_app (goodIn_of _ (by decide +kernel)) ggX9_works_X9_asks
set_option maxRecDepth 20000 in
theorem ggX9_works_X9_enters : GoodIn wsX9_works wsX9_enters := goodIn_r _ [37, 4, 3, 5, 2, 68, 69, 70, 71, 72, 73, 74, 75, 76, 77, 78, 79, 80, 81, 82, 83, 84, 85, 86, 87, 88, 89, 90, 91, 92, 93, 94, 95] (by decide +kernel) (by decide +kernel)
set_option maxRecDepth 20000 in
theorem gX9_works_X9_enters : GoodIn wsX9_works (wsV RX9 143 RX9 yX9_enters wsX9_enters) := goodIn_app (goodIn_of _ (by decide +kernel)) ggX9_works_X9_enters
set_option maxRecDepth 20000 in
theorem ggX9_works_X9_tells : GoodIn wsX9_works wsX9_tells := goodIn_r _ [25, 5, 3, 2, 68, 69, 70, 71, 72, 73, 74, 75, 76, 77, 78, 79, 80, 81, 82, 83, 84, 85, 86, 87, 88, 89, 90, 91, 92, 93, 94, 95] (by decide +kernel) (by decide +kernel)
set_option maxRecDepth 20000 in
theorem gX9_works_X9_tells : GoodIn wsX9_works (wsV RX9 123 RX9 yX9_tells wsX9_tells) := goodIn_app (goodIn_of _ (by decide +kernel)) ggX9_works_X9_tells
set_option maxRecDepth 20000 in
theorem ggX9_works_X9_tags : GoodIn wsX9_works wsX9_tags := goodIn_r _ [41, 20, 33, 68, 69, 70, 71, 72, 73, 74, 75, 76, 77, 78, 79, 80, 81, 82, 83, 84, 85, 86, 87, 88, 89, 90, 91, 92, 93, 94, 95] (by decide +kernel) (by decide +kernel)
set_option maxRecDepth 20000 in
theorem gX9_works_X9_tags : GoodIn wsX9_works (wsV RX9 146 RX9 yX9_tags wsX9_tags) := goodIn_app (goodIn_of _ (by decide +kernel)) ggX9_works_X9_tags
set_option maxRecDepth 20000 in
theorem ggX9_works_X9_isSo : GoodIn wsX9_works wsX9_isSo := goodIn_r _ [45, 46, 47, 48, 49, 9, 50, 51, 52, 53, 29, 30, 31, 32, 33, 16, 17, 18, 19, 20, 21, 54, 55, 56, 57, 58, 59, 60, 61, 62, 63, 64, 65, 66, 67, 68, 69, 70, 71, 72, 73, 74, 75, 76, 77, 78, 79, 80, 81, 82, 83, 84, 85, 86, 87, 88, 89, 90, 91, 92, 93, 94, 95] (by decide +kernel) (by decide +kernel)
set_option maxRecDepth 20000 in
theorem gX9_works_X9_isSo : GoodIn wsX9_works (wsV RX9 149 RX9 yX9_isSo wsX9_isSo) := goodIn_app (goodIn_of _ (by decide +kernel)) ggX9_works_X9_isSo
theorem dX9_works_0 : decode cX9_works 0 = .ok (.aload_n 0, 1) := by decide +kernel
theorem dX9_works_1 : decode cX9_works 1 = .ok (.getfield 82, 3) := by decide +kernel
theorem dX9_works_4 : decode cX9_works 4 = .ok (.iload_n 2, 1) := by decide +kernel
theorem dX9_works_5 : decode cX9_works 5 = .ok (.caload, 1) := by decide +kernel
theorem dX9_works_6 : decode cX9_works 6 = .ok (.istore_n 3, 1) := by decide +kernel
theorem dX9_works_7 : decode cX9_works 7 = .ok (.iload_n 3, 1) := by decide +kernel
theorem dX9_works_8 : decode cX9_works 8 = .ok (.invokestatic 105, 3) := by decide +kernel
theorem dX9_works_11 : decode cX9_works 11 = .ok (.ifCond .eq 10, 3) := by decide +kernel
theorem dX9_works_14 : decode cX9_works 14 = .ok (.aload_n 0, 1) := by decide +kernel
theorem dX9_works_15 : decode cX9_works 15 = .ok (.iload_n 1, 1) := by decide +kernel
theorem dX9_works_16 : decode cX9_works 16 = .ok (.iload_n 2, 1) := by decide +kernel
theorem dX9_works_17 : decode cX9_works 17 = .ok (.invokevirtual 140, 3) := by decide +kernel
theorem dX9_works_20 : decode cX9_works 20 = .ok (.ireturn, 1) := by decide +kernel
theorem dX9_works_21 : decode cX9_works 21 = .ok (.iload_n 3, 1) := by decide +kernel
theorem dX9_works_22 : decode cX9_works 22 = .ok (.lookupswitch 295 #[(33, 66), (38, 165), (40, 96), (41, 114), (97, 257), (116, 221), (124, 169)], 66) := by decide +kernel
theorem dX9_works_88 : decode cX9_works 88 = .ok (.aload_n 0, 1) := by decide +kernel
theorem dX9_works_89 : decode cX9_works 89 = .ok (.getfield 79, 3) := by decide +kernel
theorem dX9_works_92 : decode cX9_works 92 = .ok (.aload_n 0, 1) := by decide +kernel
theorem dX9_works_93 : decode cX9_works 93 = .ok (.getfield 120, 3) := by decide +kernel
theorem dX9_works_96 : decode cX9_works 96 = .ok (.aload_n 0, 1) := by decide +kernel
theorem dX9_works_97 : decode cX9_works 97 = .ok (.getfield 79, 3) := by decide +kernel
theorem dX9_works_100 : decode cX9_works 100 = .ok (.aload_n 0, 1) := by decide +kernel
theorem dX9_works_101 : decode cX9_works 101 = .ok (.getfield 120, 3) := by decide +kernel
theorem dX9_works_104 : decode cX9_works 104 = .ok (.baload, 1) := by decide +kernel
theorem dX9_works_105 : decode cX9_works 105 = .ok (.ifCond .ne 7, 3) := by decide +kernel
theorem dX9_works_108 : decode cX9_works 108 = .ok (.iconst 1, 1) := by decide +kernel
theorem dX9_works_109 : decode cX9_works 109 = .ok (.goto 4, 3) := by decide +kernel
theorem dX9_works_112 : decode cX9_works 112 = .ok (.iconst 0, 1) := by decide +kernel
theorem dX9_works_113 : decode cX9_works 113 = .ok (.bastore, 1) := by decide +kernel
theorem dX9_works_114 : decode cX9_works 114 = .ok (.iload_n 2, 1) := by decide +kernel
theorem dX9_works_115 : decode cX9_works 115 = .ok (.iconst 1, 1) := by decide +kernel
theorem dX9_works_116 : decode cX9_works 116 = .ok (.iadd, 1) := by decide +kernel
theorem dX9_works_117 : decode cX9_works 117 = .ok (.ireturn, 1) := by decide +kernel
theorem dX9_works_118 : decode cX9_works 118 = .ok (.aload_n 0, 1) := by decide +kernel
theorem dX9_works_119 : decode cX9_works 119 = .ok (.dup, 1) := by decide +kernel
theorem dX9_works_120 : decode cX9_works 120 = .ok (.getfield 120, 3) := by decide +kernel
theorem dX9_works_123 : decode cX9_works 123 = .ok (.iconst 1, 1) := by decide +kernel
theorem dX9_works_124 : decode cX9_works 124 = .ok (.iadd, 1) := by decide +kernel
theorem dX9_works_125 : decode cX9_works 125 = .ok (.putfield 120, 3) := by decide +kernel
theorem dX9_works_128 : decode cX9_works 128 = .ok (.aload_n 0, 1) := by decide +kernel
theorem dX9_works_129 : decode cX9_works 129 = .ok (.invokevirtual 143, 3) := by decide +kernel
theorem dX9_works_132 : decode cX9_works 132 = .ok (.iload_n 2, 1) := by decide +kernel
theorem dX9_works_133 : decode cX9_works 133 = .ok (.iconst 1, 1) := by decide +kernel
theorem dX9_works_134 : decode cX9_works 134 = .ok (.iadd, 1) := by decide +kernel
theorem dX9_works_135 : decode cX9_works 135 = .ok (.ireturn, 1) := by decide +kernel
theorem dX9_works_136 : decode cX9_works 136 = .ok (.aload_n 0, 1) := by decide +kernel
theorem dX9_works_137 : decode cX9_works 137 = .ok (.dup, 1) := by decide +kernel
theorem dX9_works_138 : decode cX9_works 138 = .ok (.getfield 120, 3) := by decide +kernel
theorem dX9_works_141 : decode cX9_works 141 = .ok (.iconst 1, 1) := by decide +kernel
theorem dX9_works_142 : decode cX9_works 142 = .ok (.isub, 1) := by decide +kernel
theorem dX9_works_143 : decode cX9_works 143 = .ok (.putfield 120, 3) := by decide +kernel
theorem dX9_works_146 : decode cX9_works 146 = .ok (.aload_n 0, 1) := by decide +kernel
theorem dX9_works_147 : decode cX9_works 147 = .ok (.aload_n 0, 1) := by decide +kernel
theorem dX9_works_148 : decode cX9_works 148 = .ok (.getfield 73, 3) := by decide +kernel
theorem dX9_works_151 : decode cX9_works 151 = .ok (.aload_n 0, 1) := by decide +kernel
theorem dX9_works_152 : decode cX9_works 152 = .ok (.getfield 120, 3) := by decide +kernel
theorem dX9_works_155 : decode cX9_works 155 = .ok (.iconst 1, 1) := by decide +kernel
theorem dX9_works_156 : decode cX9_works 156 = .ok (.iadd, 1) := by decide +kernel
theorem dX9_works_157 : decode cX9_works 157 = .ok (.baload, 1) := by decide +kernel
theorem dX9_works_158 : decode cX9_works 158 = .ok (.ifCond .ne 17, 3) := by decide +kernel
theorem dX9_works_161 : decode cX9_works 161 = .ok (.aload_n 0, 1) := by decide +kernel
theorem dX9_works_162 : decode cX9_works 162 = .ok (.getfield 76, 3) := by decide +kernel
theorem dX9_works_165 : decode cX9_works 165 = .ok (.aload_n 0, 1) := by decide +kernel
theorem dX9_works_166 : decode cX9_works 166 = .ok (.getfield 120, 3) := by decide +kernel
theorem dX9_works_169 : decode cX9_works 169 = .ok (.iconst 1, 1) := by decide +kernel
theorem dX9_works_170 : decode cX9_works 170 = .ok (.iadd, 1) := by decide +kernel
theorem dX9_works_171 : decode cX9_works 171 = .ok (.baload, 1) := by decide +kernel
theorem dX9_works_172 : decode cX9_works 172 = .ok (.ifCond .eq 7, 3) := by decide +kernel
theorem dX9_works_175 : decode cX9_works 175 = .ok (.iconst 1, 1) := by decide +kernel
theorem dX9_works_176 : decode cX9_works 176 = .ok (.goto 4, 3) := by decide +kernel
theorem dX9_works_179 : decode cX9_works 179 = .ok (.iconst 0, 1) := by decide +kernel
theorem dX9_works_180 : decode cX9_works 180 = .ok (.invokevirtual 123, 3) := by decide +kernel
theorem dX9_works_183 : decode cX9_works 183 = .ok (.iload_n 2, 1) := by decide +kernel
theorem dX9_works_184 : decode cX9_works 184 = .ok (.iconst 1, 1) := by decide +kernel
theorem dX9_works_185 : decode cX9_works 185 = .ok (.iadd, 1) := by decide +kernel
theorem dX9_works_186 : decode cX9_works 186 = .ok (.ireturn, 1) := by decide +kernel
theorem dX9_works_187 : decode cX9_works 187 = .ok (.iload_n 2, 1) := by decide +kernel
theorem dX9_works_188 : decode cX9_works 188 = .ok (.iconst 1, 1) := by decide +kernel
theorem dX9_works_189 : decode cX9_works 189 = .ok (.iadd, 1) := by decide +kernel
theorem dX9_works_190 : decode cX9_works 190 = .ok (.ireturn, 1) := by decide +kernel
theorem dX9_works_191 : decode cX9_works 191 = .ok (.aload_n 0, 1) := by decide +kernel
theorem dX9_works_192 : decode cX9_works 192 = .ok (.getfield 73, 3) := by decide +kernel
theorem dX9_works_195 : decode cX9_works 195 = .ok (.aload_n 0, 1) := by decide +kernel
theorem dX9_works_196 : decode cX9_works 196 = .ok (.getfield 120, 3) := by decide +kernel
theorem dX9_works_199 : decode cX9_works 199 = .ok (.aload_n 0, 1) := by decide +kernel
theorem dX9_works_200 : decode cX9_works 200 = .ok (.getfield 73, 3) := by decide +kernel
theorem dX9_works_203 : decode cX9_works 203 = .ok (.aload_n 0, 1) := by decide +kernel
theorem dX9_works_204 : decode cX9_works 204 = .ok (.getfield 120, 3) := by decide +kernel
theorem dX9_works_207 : decode cX9_works 207 = .ok (.baload, 1) := by decide +kernel
theorem dX9_works_208 : decode cX9_works 208 = .ok (.ifCond .ne 15, 3) := by decide +kernel
theorem dX9_works_211 : decode cX9_works 211 = .ok (.aload_n 0, 1) := by decide +kernel
theorem dX9_works_212 : decode cX9_works 212 = .ok (.getfield 76, 3) := by decide +kernel
theorem dX9_works_215 : decode cX9_works 215 = .ok (.aload_n 0, 1) := by decide +kernel
theorem dX9_works_216 : decode cX9_works 216 = .ok (.getfield 120, 3) := by decide +kernel
theorem dX9_works_219 : decode cX9_works 219 = .ok (.baload, 1) := by decide +kernel
theorem dX9_works_220 : decode cX9_works 220 = .ok (.ifCond .eq 7, 3) := by decide +kernel
theorem dX9_works_223 : decode cX9_works 223 = .ok (.iconst 1, 1) := by decide +kernel
theorem dX9_works_224 : decode cX9_works 224 = .ok (.goto 4, 3) := by decide +kernel
theorem dX9_works_227 : decode cX9_works 227 = .ok (.iconst 0, 1) := by decide +kernel
theorem dX9_works_228 : decode cX9_works 228 = .ok (.bastore, 1) := by decide +kernel
theorem dX9_works_229 : decode cX9_works 229 = .ok (.aload_n 0, 1) := by decide +kernel
theorem dX9_works_230 : decode cX9_works 230 = .ok (.getfield 76, 3) := by decide +kernel
theorem dX9_works_233 : decode cX9_works 233 = .ok (.aload_n 0, 1) := by decide +kernel
theorem dX9_works_234 : decode cX9_works 234 = .ok (.getfield 120, 3) := by decide +kernel
theorem dX9_works_237 : decode cX9_works 237 = .ok (.iconst 1, 1) := by decide +kernel
theorem dX9_works_238 : decode cX9_works 238 = .ok (.bastore, 1) := by decide +kernel
theorem dX9_works_239 : decode cX9_works 239 = .ok (.iload_n 2, 1) := by decide +kernel
theorem dX9_works_240 : decode cX9_works 240 = .ok (.iconst 1, 1) := by decide +kernel
theorem dX9_works_241 : decode cX9_works 241 = .ok (.iadd, 1) := by decide +kernel
theorem dX9_works_242 : decode cX9_works 242 = .ok (.ireturn, 1) := by decide +kernel
theorem dX9_works_243 : decode cX9_works 243 = .ok (.aload_n 0, 1) := by decide +kernel
theorem dX9_works_244 : decode cX9_works 244 = .ok (.aload_n 0, 1) := by decide +kernel
theorem dX9_works_245 : decode cX9_works 245 = .ok (.iload_n 1, 1) := by decide +kernel
theorem dX9_works_246 : decode cX9_works 246 = .ok (.invokevirtual 146, 3) := by decide +kernel
theorem dX9_works_249 : decode cX9_works 249 = .ok (.aload_n 0, 1) := by decide +kernel
theorem dX9_works_250 : decode cX9_works 250 = .ok (.getfield 82, 3) := by decide +kernel
theorem dX9_works_253 : decode cX9_works 253 = .ok (.iload_n 2, 1) := by decide +kernel
theorem dX9_works_254 : decode cX9_works 254 = .ok (.iconst 1, 1) := by decide +kernel
theorem dX9_works_255 : decode cX9_works 255 = .ok (.iadd, 1) := by decide +kernel
theorem dX9_works_256 : decode cX9_works 256 = .ok (.caload, 1) := by decide +kernel
theorem dX9_works_257 : decode cX9_works 257 = .ok (.bipush 48, 2) := by decide +kernel
theorem dX9_works_259 : decode cX9_works 259 = .ok (.isub, 1) := by decide +kernel
theorem dX9_works_260 : decode cX9_works 260 = .ok (.ishr, 1) := by decide +kernel
theorem dX9_works_261 : decode cX9_works 261 = .ok (.iconst 1, 1) := by decide +kernel
theorem dX9_works_262 : decode cX9_works 262 = .ok (.iand, 1) := by decide +kernel
theorem dX9_works_263 : decode cX9_works 263 = .ok (.iconst 1, 1) := by decide +kernel
theorem dX9_works_264 : decode cX9_works 264 = .ok (.if_icmp .ne 7, 3) := by decide +kernel
theorem dX9_works_267 : decode cX9_works 267 = .ok (.iconst 1, 1) := by decide +kernel
theorem dX9_works_268 : decode cX9_works 268 = .ok (.goto 4, 3) := by decide +kernel
theorem dX9_works_271 : decode cX9_works 271 = .ok (.iconst 0, 1) := by decide +kernel
theorem dX9_works_272 : decode cX9_works 272 = .ok (.invokevirtual 123, 3) := by decide +kernel
theorem dX9_works_275 : decode cX9_works 275 = .ok (.iload_n 2, 1) := by decide +kernel
theorem dX9_works_276 : decode cX9_works 276 = .ok (.iconst 2, 1) := by decide +kernel
theorem dX9_works_277 : decode cX9_works 277 = .ok (.iadd, 1) := by decide +kernel
theorem dX9_works_278 : decode cX9_works 278 = .ok (.ireturn, 1) := by decide +kernel
theorem dX9_works_279 : decode cX9_works 279 = .ok (.aload_n 0, 1) := by decide +kernel
theorem dX9_works_280 : decode cX9_works 280 = .ok (.aload_n 0, 1) := by decide +kernel
theorem dX9_works_281 : decode cX9_works 281 = .ok (.getfield 57, 3) := by decide +kernel
theorem dX9_works_284 : decode cX9_works 284 = .ok (.aload_n 0, 1) := by decide +kernel
theorem dX9_works_285 : decode cX9_works 285 = .ok (.getfield 82, 3) := by decide +kernel
theorem dX9_works_288 : decode cX9_works 288 = .ok (.iload_n 2, 1) := by decide +kernel
theorem dX9_works_289 : decode cX9_works 289 = .ok (.iconst 1, 1) := by decide +kernel
theorem dX9_works_290 : decode cX9_works 290 = .ok (.iadd, 1) := by decide +kernel
theorem dX9_works_291 : decode cX9_works 291 = .ok (.caload, 1) := by decide +kernel
theorem dX9_works_292 : decode cX9_works 292 = .ok (.bipush 48, 2) := by decide +kernel
theorem dX9_works_294 : decode cX9_works 294 = .ok (.isub, 1) := by decide +kernel
theorem dX9_works_295 : decode cX9_works 295 = .ok (.laload, 1) := by decide +kernel
theorem dX9_works_296 : decode cX9_works 296 = .ok (.iload_n 1, 1) := by decide +kernel
theorem dX9_works_297 : decode cX9_works 297 = .ok (.lshr, 1) := by decide +kernel
theorem dX9_works_298 : decode cX9_works 298 = .ok (.lconst 1, 1) := by decide +kernel
theorem dX9_works_299 : decode cX9_works 299 = .ok (.land, 1) := by decide +kernel
theorem dX9_works_300 : decode cX9_works 300 = .ok (.lconst 1, 1) := by decide +kernel
theorem dX9_works_301 : decode cX9_works 301 = .ok (.lcmp, 1) := by decide +kernel
theorem dX9_works_302 : decode cX9_works 302 = .ok (.ifCond .ne 7, 3) := by decide +kernel
theorem dX9_works_305 : decode cX9_works 305 = .ok (.iconst 1, 1) := by decide +kernel
theorem dX9_works_306 : decode cX9_works 306 = .ok (.goto 4, 3) := by decide +kernel
theorem dX9_works_309 : decode cX9_works 309 = .ok (.iconst 0, 1) := by decide +kernel
theorem dX9_works_310 : decode cX9_works 310 = .ok (.invokevirtual 123, 3) := by decide +kernel
theorem dX9_works_313 : decode cX9_works 313 = .ok (.iload_n 2, 1) := by decide +kernel
theorem dX9_works_314 : decode cX9_works 314 = .ok (.iconst 2, 1) := by decide +kernel
theorem dX9_works_315 : decode cX9_works 315 = .ok (.iadd, 1) := by decide +kernel
theorem dX9_works_316 : decode cX9_works 316 = .ok (.ireturn, 1) := by decide +kernel
theorem dX9_works_317 : decode cX9_works 317 = .ok (.aload_n 0, 1) := by decide +kernel
theorem dX9_works_318 : decode cX9_works 318 = .ok (.aload_n 0, 1) := by decide +kernel
theorem dX9_works_319 : decode cX9_works 319 = .ok (.iload_n 1, 1) := by decide +kernel
theorem dX9_works_320 : decode cX9_works 320 = .ok (.iload_n 3, 1) := by decide +kernel
theorem dX9_works_321 : decode cX9_works 321 = .ok (.invokevirtual 149, 3) := by decide +kernel
theorem dX9_works_324 : decode cX9_works 324 = .ok (.invokevirtual 123, 3) := by decide +kernel
theorem dX9_works_327 : decode cX9_works 327 = .ok (.iload_n 2, 1) := by decide +kernel
theorem dX9_works_328 : decode cX9_works 328 = .ok (.iconst 1, 1) := by decide +kernel
theorem dX9_works_329 : decode cX9_works 329 = .ok (.iadd, 1) := by decide +kernel
theorem dX9_works_330 : decode cX9_works 330 = .ok (.ireturn, 1) := by decide +kernel
set_option maxRecDepth 20000 in
theorem ggX9_isRight_X9_enters : GoodIn wsX9_isRight wsX9_enters := goodIn_r _ [9, 3, 1, 4, 10, 72, 73, 74, 75, 76, 77, 78, 79, 80, 81, 82, 83, 84, 85, 86, 87, 88, 89, 90, 91, 92, 93, 94, 95, 96, 97, 98, 99] (by decide +kernel) (by decide +kernel)
set_option maxRecDepth 20000 in
theorem gX9_isRight_X9_enters : GoodIn wsX9_isRight (wsV RX9 143 RX9 yX9_enters wsX9_enters) := goodIn_app (goodIn_of _ (by decide +kernel)) ggX9_isRight_X9_enters
set_option maxRecDepth 20000 in
theorem ggX9_isRight_X9_works : GoodIn wsX9_isRight wsX9_works := goodIn_r _ [14, 15, 10, 1, 3, 4, 16, 17, 18, 8, 19, 20, 21, 22, 23, 2, 24, 25, 26, 27, 28, 29, 30, 31, 32, 33, 34, 35, 36, 37, 38, 39, 40, 41, 5, 6, 7, 9, 42, 43, 44, 45, 46, 47, 48, 49, 50, 51, 52, 53, 54, 55, 56, 57, 58, 59, 60, 61, 62, 63, 64, 65, 66, 67, 68, 69, 70, 71, 72, 73, 74, 75, 76, 77, 78, 79, 80, 81, 82, 83, 84, 85, 86, 87, 88, 89, 90, 91, 92, 93, 94, 95, 96, 97, 98, 99] (by decide +kernel) (by decide +kernel)
set_option maxRecDepth 20000 in
theorem gX9_isRight_X9_works : GoodIn wsX9_isRight (wsV RX9 153 RX9 yX9_works wsX9_works) := goodIn_app (goodIn_of _ (by decide +kernel)) ggX9_isRight_X9_works
theorem dX9_isRight_0 : decode cX9_isRight 0 = .ok (.aload_n 0, 1) := by decide +kernel
theorem dX9_isRight_1 : decode cX9_isRight 1 = .ok (.iconst 0, 1) := by decide +kernel
theorem dX9_isRight_2 : decode cX9_isRight 2 = .ok (.putfield 120, 3) := by decide +kernel
theorem dX9_isRight_5 : decode cX9_isRight 5 = .ok (.aload_n 0, 1) := by decide +kernel
theorem dX9_isRight_6 : decode cX9_isRight 6 = .ok (.invokevirtual 143, 3) := by decide +kernel
theorem dX9_isRight_9 : decode cX9_isRight 9 = .ok (.iconst 0, 1) := by decide +kernel
theorem dX9_isRight_10 : decode cX9_isRight 10 = .ok (.istore_n 2, 1) := by decide +kernel
theorem dX9_isRight_11 : decode cX9_isRight 11 = .ok (.iload_n 2, 1) := by decide +kernel
theorem dX9_isRight_12 : decode cX9_isRight 12 = .ok (.aload_n 0, 1) := by decide +kernel
theorem dX9_isRight_13 : decode cX9_isRight 13 = .ok (.getfield 127, 3) := by decide +kernel
theorem dX9_isRight_16 : decode cX9_isRight 16 = .ok (.if_icmp .ge 13, 3) := by decide +kernel
theorem dX9_isRight_19 : decode cX9_isRight 19 = .ok (.aload_n 0, 1) := by decide +kernel
theorem dX9_isRight_20 : decode cX9_isRight 20 = .ok (.iload_n 1, 1) := by decide +kernel
theorem dX9_isRight_21 : decode cX9_isRight 21 = .ok (.iload_n 2, 1) := by decide +kernel
theorem dX9_isRight_22 : decode cX9_isRight 22 = .ok (.invokevirtual 153, 3) := by decide +kernel
theorem dX9_isRight_25 : decode cX9_isRight 25 = .ok (.istore_n 2, 1) := by decide +kernel
theorem dX9_isRight_26 : decode cX9_isRight 26 = .ok (.goto (-15), 3) := by decide +kernel
theorem dX9_isRight_29 : decode cX9_isRight 29 = .ok (.aload_n 0, 1) := by decide +kernel
theorem dX9_isRight_30 : decode cX9_isRight 30 = .ok (.getfield 73, 3) := by decide +kernel
theorem dX9_isRight_33 : decode cX9_isRight 33 = .ok (.iconst 0, 1) := by decide +kernel
theorem dX9_isRight_34 : decode cX9_isRight 34 = .ok (.baload, 1) := by decide +kernel
theorem dX9_isRight_35 : decode cX9_isRight 35 = .ok (.ifCond .ne 12, 3) := by decide +kernel
theorem dX9_isRight_38 : decode cX9_isRight 38 = .ok (.aload_n 0, 1) := by decide +kernel
theorem dX9_isRight_39 : decode cX9_isRight 39 = .ok (.getfield 76, 3) := by decide +kernel
theorem dX9_isRight_42 : decode cX9_isRight 42 = .ok (.iconst 0, 1) := by decide +kernel
theorem dX9_isRight_43 : decode cX9_isRight 43 = .ok (.baload, 1) := by decide +kernel
theorem dX9_isRight_44 : decode cX9_isRight 44 = .ok (.ifCond .eq 7, 3) := by decide +kernel
theorem dX9_isRight_47 : decode cX9_isRight 47 = .ok (.iconst 1, 1) := by decide +kernel
theorem dX9_isRight_48 : decode cX9_isRight 48 = .ok (.goto 4, 3) := by decide +kernel
theorem dX9_isRight_51 : decode cX9_isRight 51 = .ok (.iconst 0, 1) := by decide +kernel
theorem dX9_isRight_52 : decode cX9_isRight 52 = .ok (.ireturn, 1) := by decide +kernel
theorem dX9_takesText_0 : decode cX9_takesText 0 = .ok (.aload_n 0, 1) := by decide +kernel
theorem dX9_takesText_1 : decode cX9_takesText 1 = .ok (.aload_n 0, 1) := by decide +kernel
theorem dX9_takesText_2 : decode cX9_takesText 2 = .ok (.getfield 112, 3) := by decide +kernel
theorem dX9_takesText_5 : decode cX9_takesText 5 = .ok (.putfield 127, 3) := by decide +kernel
theorem dX9_takesText_8 : decode cX9_takesText 8 = .ok (.iconst 0, 1) := by decide +kernel
theorem dX9_takesText_9 : decode cX9_takesText 9 = .ok (.istore_n 1, 1) := by decide +kernel
theorem dX9_takesText_10 : decode cX9_takesText 10 = .ok (.iload_n 1, 1) := by decide +kernel
theorem dX9_takesText_11 : decode cX9_takesText 11 = .ok (.aload_n 0, 1) := by decide +kernel
theorem dX9_takesText_12 : decode cX9_takesText 12 = .ok (.getfield 112, 3) := by decide +kernel
theorem dX9_takesText_15 : decode cX9_takesText 15 = .ok (.if_icmp .ge 21, 3) := by decide +kernel
theorem dX9_takesText_18 : decode cX9_takesText 18 = .ok (.aload_n 0, 1) := by decide +kernel
theorem dX9_takesText_19 : decode cX9_takesText 19 = .ok (.getfield 82, 3) := by decide +kernel
theorem dX9_takesText_22 : decode cX9_takesText 22 = .ok (.iload_n 1, 1) := by decide +kernel
theorem dX9_takesText_23 : decode cX9_takesText 23 = .ok (.aload_n 0, 1) := by decide +kernel
theorem dX9_takesText_24 : decode cX9_takesText 24 = .ok (.getfield 44, 3) := by decide +kernel
theorem dX9_takesText_27 : decode cX9_takesText 27 = .ok (.iload_n 1, 1) := by decide +kernel
theorem dX9_takesText_28 : decode cX9_takesText 28 = .ok (.caload, 1) := by decide +kernel
theorem dX9_takesText_29 : decode cX9_takesText 29 = .ok (.castore, 1) := by decide +kernel
theorem dX9_takesText_30 : decode cX9_takesText 30 = .ok (.iinc 1 1, 3) := by decide +kernel
theorem dX9_takesText_33 : decode cX9_takesText 33 = .ok (.goto (-23), 3) := by decide +kernel
theorem dX9_takesText_36 : decode cX9_takesText 36 = .ok (.return_, 1) := by decide +kernel
theorem dX9_takesAlbum_0 : decode cX9_takesAlbum 0 = .ok (.aload_n 0, 1) := by decide +kernel
theorem dX9_takesAlbum_1 : decode cX9_takesAlbum 1 = .ok (.aload_n 0, 1) := by decide +kernel
theorem dX9_takesAlbum_2 : decode cX9_takesAlbum 2 = .ok (.getfield 51, 3) := by decide +kernel
theorem dX9_takesAlbum_5 : decode cX9_takesAlbum 5 = .ok (.iload_n 1, 1) := by decide +kernel
theorem dX9_takesAlbum_6 : decode cX9_takesAlbum 6 = .ok (.iaload, 1) := by decide +kernel
theorem dX9_takesAlbum_7 : decode cX9_takesAlbum 7 = .ok (.putfield 127, 3) := by decide +kernel
theorem dX9_takesAlbum_10 : decode cX9_takesAlbum 10 = .ok (.iconst 0, 1) := by decide +kernel
theorem dX9_takesAlbum_11 : decode cX9_takesAlbum 11 = .ok (.istore_n 2, 1) := by decide +kernel
theorem dX9_takesAlbum_12 : decode cX9_takesAlbum 12 = .ok (.iload_n 2, 1) := by decide +kernel
theorem dX9_takesAlbum_13 : decode cX9_takesAlbum 13 = .ok (.aload_n 0, 1) := by decide +kernel
theorem dX9_takesAlbum_14 : decode cX9_takesAlbum 14 = .ok (.getfield 127, 3) := by decide +kernel
theorem dX9_takesAlbum_17 : decode cX9_takesAlbum 17 = .ok (.if_icmp .ge 26, 3) := by decide +kernel
theorem dX9_takesAlbum_20 : decode cX9_takesAlbum 20 = .ok (.aload_n 0, 1) := by decide +kernel
theorem dX9_takesAlbum_21 : decode cX9_takesAlbum 21 = .ok (.getfield 82, 3) := by decide +kernel
theorem dX9_takesAlbum_24 : decode cX9_takesAlbum 24 = .ok (.iload_n 2, 1) := by decide +kernel
theorem dX9_takesAlbum_25 : decode cX9_takesAlbum 25 = .ok (.aload_n 0, 1) := by decide +kernel
theorem dX9_takesAlbum_26 : decode cX9_takesAlbum 26 = .ok (.getfield 54, 3) := by decide +kernel
theorem dX9_takesAlbum_29 : decode cX9_takesAlbum 29 = .ok (.bipush 80, 2) := by decide +kernel
theorem dX9_takesAlbum_31 : decode cX9_takesAlbum 31 = .ok (.iload_n 1, 1) := by decide +kernel
theorem dX9_takesAlbum_32 : decode cX9_takesAlbum 32 = .ok (.imul, 1) := by decide +kernel
theorem dX9_takesAlbum_33 : decode cX9_takesAlbum 33 = .ok (.iload_n 2, 1) := by decide +kernel
theorem dX9_takesAlbum_34 : decode cX9_takesAlbum 34 = .ok (.iadd, 1) := by decide +kernel
theorem dX9_takesAlbum_35 : decode cX9_takesAlbum 35 = .ok (.caload, 1) := by decide +kernel
theorem dX9_takesAlbum_36 : decode cX9_takesAlbum 36 = .ok (.castore, 1) := by decide +kernel
theorem dX9_takesAlbum_37 : decode cX9_takesAlbum 37 = .ok (.iinc 2 1, 3) := by decide +kernel
theorem dX9_takesAlbum_40 : decode cX9_takesAlbum 40 = .ok (.goto (-28), 3) := by decide +kernel
theorem dX9_takesAlbum_43 : decode cX9_takesAlbum 43 = .ok (.return_, 1) := by decide +kernel
theorem dX9_names_0 : decode cX9_names 0 = .ok (.iconst 1, 1) := by decide +kernel
theorem dX9_names_1 : decode cX9_names 1 = .ok (.istore_n 2, 1) := by decide +kernel
theorem dX9_names_2 : decode cX9_names 2 = .ok (.iconst 0, 1) := by decide +kernel
theorem dX9_names_3 : decode cX9_names 3 = .ok (.istore_n 3, 1) := by decide +kernel
theorem dX9_names_4 : decode cX9_names 4 = .ok (.iload_n 3, 1) := by decide +kernel
theorem dX9_names_5 : decode cX9_names 5 = .ok (.iconst 1, 1) := by decide +kernel
theorem dX9_names_6 : decode cX9_names 6 = .ok (.iadd, 1) := by decide +kernel
theorem dX9_names_7 : decode cX9_names 7 = .ok (.aload_n 0, 1) := by decide +kernel
theorem dX9_names_8 : decode cX9_names 8 = .ok (.getfield 127, 3) := by decide +kernel
theorem dX9_names_11 : decode cX9_names 11 = .ok (.if_icmp .ge 66, 3) := by decide +kernel
theorem dX9_names_14 : decode cX9_names 14 = .ok (.aload_n 0, 1) := by decide +kernel
theorem dX9_names_15 : decode cX9_names 15 = .ok (.getfield 82, 3) := by decide +kernel
theorem dX9_names_18 : decode cX9_names 18 = .ok (.iload_n 3, 1) := by decide +kernel
theorem dX9_names_19 : decode cX9_names 19 = .ok (.iconst 1, 1) := by decide +kernel
theorem dX9_names_20 : decode cX9_names 20 = .ok (.iadd, 1) := by decide +kernel
theorem dX9_names_21 : decode cX9_names 21 = .ok (.caload, 1) := by decide +kernel
theorem dX9_names_22 : decode cX9_names 22 = .ok (.bipush 48, 2) := by decide +kernel
theorem dX9_names_24 : decode cX9_names 24 = .ok (.isub, 1) := by decide +kernel
theorem dX9_names_25 : decode cX9_names 25 = .ok (.istore 4, 2) := by decide +kernel
theorem dX9_names_27 : decode cX9_names 27 = .ok (.iload_n 2, 1) := by decide +kernel
theorem dX9_names_28 : decode cX9_names 28 = .ok (.ifCond .eq 41, 3) := by decide +kernel
theorem dX9_names_31 : decode cX9_names 31 = .ok (.aload_n 0, 1) := by decide +kernel
theorem dX9_names_32 : decode cX9_names 32 = .ok (.getfield 82, 3) := by decide +kernel
theorem dX9_names_35 : decode cX9_names 35 = .ok (.iload_n 3, 1) := by decide +kernel
theorem dX9_names_36 : decode cX9_names 36 = .ok (.caload, 1) := by decide +kernel
theorem dX9_names_37 : decode cX9_names 37 = .ok (.bipush 97, 2) := by decide +kernel
theorem dX9_names_39 : decode cX9_names 39 = .ok (.if_icmp .ne 26, 3) := by decide +kernel
theorem dX9_names_42 : decode cX9_names 42 = .ok (.iload 4, 2) := by decide +kernel
theorem dX9_names_44 : decode cX9_names 44 = .ok (.bipush 8, 2) := by decide +kernel
theorem dX9_names_46 : decode cX9_names 46 = .ok (.if_icmp .ge 23, 3) := by decide +kernel
theorem dX9_names_49 : decode cX9_names 49 = .ok (.iload 4, 2) := by decide +kernel
theorem dX9_names_51 : decode cX9_names 51 = .ok (.iload_n 1, 1) := by decide +kernel
theorem dX9_names_52 : decode cX9_names 52 = .ok (.if_icmp .ge 17, 3) := by decide +kernel
theorem dX9_names_55 : decode cX9_names 55 = .ok (.aload_n 0, 1) := by decide +kernel
theorem dX9_names_56 : decode cX9_names 56 = .ok (.getfield 48, 3) := by decide +kernel
theorem dX9_names_59 : decode cX9_names 59 = .ok (.iload 4, 2) := by decide +kernel
theorem dX9_names_61 : decode cX9_names 61 = .ok (.baload, 1) := by decide +kernel
theorem dX9_names_62 : decode cX9_names 62 = .ok (.ifCond .eq 7, 3) := by decide +kernel
theorem dX9_names_65 : decode cX9_names 65 = .ok (.iconst 1, 1) := by decide +kernel
theorem dX9_names_66 : decode cX9_names 66 = .ok (.goto 4, 3) := by decide +kernel
theorem dX9_names_69 : decode cX9_names 69 = .ok (.iconst 0, 1) := by decide +kernel
theorem dX9_names_70 : decode cX9_names 70 = .ok (.istore_n 2, 1) := by decide +kernel
theorem dX9_names_71 : decode cX9_names 71 = .ok (.iinc 3 1, 3) := by decide +kernel
theorem dX9_names_74 : decode cX9_names 74 = .ok (.goto (-70), 3) := by decide +kernel
theorem dX9_names_77 : decode cX9_names 77 = .ok (.iload_n 2, 1) := by decide +kernel
theorem dX9_names_78 : decode cX9_names 78 = .ok (.ireturn, 1) := by decide +kernel
set_option maxRecDepth 20000 in
theorem ggX9_isRule_X9_fault : GoodIn wsX9_isRule wsX9_fault := goodIn_r _ [5, 6, 7, 8, 9, 4, 10, 11, 12, 13, 14, 15, 16, 17, 18, 19, 31, 32, 33, 34, 35, 36, 37, 38, 39, 40, 41, 42, 43, 44, 45, 46, 47, 48, 49, 50, 51, 52, 53, 54, 55, 56, 57, 58] (by decide +kernel) (by decide +kernel)
set_option maxRecDepth 20000 in
theorem gX9_isRule_X9_fault : GoodIn wsX9_isRule (wsV RX9 156 RX9 yX9_fault wsX9_fault) := goodIn_app (goodIn_of _ (by decide +kernel)) ggX9_isRule_X9_fault
set_option maxRecDepth 20000 in
theorem ggX9_isRule_X9_takesText : GoodIn wsX9_isRule wsX9_takesText := goodIn_r _ [23, 6, 24, 25, 7, 31, 32, 33, 34, 35, 36, 37, 38, 39, 40, 41, 42, 43, 44, 45, 46, 47, 48, 49, 50, 51, 52, 53, 54, 55, 56, 57, 58] (by decide +kernel) (by decide +kernel)
set_option maxRecDepth 20000 in
theorem gX9_isRule_X9_takesText : GoodIn wsX9_isRule (wsV RX9 160 RX9 yX9_takesText wsX9_takesText) := goodIn_app (goodIn_of _ (by decide +kernel)) ggX9_isRule_X9_takesText
set_option maxRecDepth 20000 in
theorem ggX9_isRule_X9_names : GoodIn wsX9_isRule wsX9_names := goodIn_r _ [29, 24, 25, 30, 31, 32, 33, 34, 35, 36, 37, 38, 39, 40, 41, 42, 43, 44, 45, 46, 47, 48, 49, 50, 51, 52, 53, 54, 55, 56, 57, 58] (by decide +kernel) (by decide +kernel)
set_option maxRecDepth 20000 in
theorem gX9_isRule_X9_names : GoodIn wsX9_isRule (wsV RX9 163 RX9 yX9_names wsX9_names) := goodIn_app (goodIn_of _ (by decide +kernel)) ggX9_isRule_X9_names
theorem dX9_isRule_0 : decode cX9_isRule 0 = .ok (.aload_n 0, 1) := by decide +kernel
theorem dX9_isRule_1 : decode cX9_isRule 1 = .ok (.invokevirtual 156, 3) := by decide +kernel
theorem dX9_isRule_4 : decode cX9_isRule 4 = .ok (.bipush (-4), 2) := by decide +kernel
theorem dX9_isRule_6 : decode cX9_isRule 6 = .ok (.if_icmp .eq 5, 3) := by decide +kernel
theorem dX9_isRule_9 : decode cX9_isRule 9 = .ok (.iconst 0, 1) := by decide +kernel
theorem dX9_isRule_10 : decode cX9_isRule 10 = .ok (.ireturn, 1) := by decide +kernel
theorem dX9_isRule_11 : decode cX9_isRule 11 = .ok (.aload_n 0, 1) := by decide +kernel
theorem dX9_isRule_12 : decode cX9_isRule 12 = .ok (.invokevirtual 160, 3) := by decide +kernel
theorem dX9_isRule_15 : decode cX9_isRule 15 = .ok (.aload_n 0, 1) := by decide +kernel
theorem dX9_isRule_16 : decode cX9_isRule 16 = .ok (.iload_n 1, 1) := by decide +kernel
theorem dX9_isRule_17 : decode cX9_isRule 17 = .ok (.invokevirtual 163, 3) := by decide +kernel
theorem dX9_isRule_20 : decode cX9_isRule 20 = .ok (.ireturn, 1) := by decide +kernel
theorem dX9_notes_0 : decode cX9_notes 0 = .ok (.aload_n 0, 1) := by decide +kernel
theorem dX9_notes_1 : decode cX9_notes 1 = .ok (.getfield 167, 3) := by decide +kernel
theorem dX9_notes_4 : decode cX9_notes 4 = .ok (.bipush 24, 2) := by decide +kernel
theorem dX9_notes_6 : decode cX9_notes 6 = .ok (.if_icmp .ge 10, 3) := by decide +kernel
theorem dX9_notes_9 : decode cX9_notes 9 = .ok (.aload_n 0, 1) := by decide +kernel
theorem dX9_notes_10 : decode cX9_notes 10 = .ok (.getfield 167, 3) := by decide +kernel
theorem dX9_notes_13 : decode cX9_notes 13 = .ok (.goto 5, 3) := by decide +kernel
theorem dX9_notes_16 : decode cX9_notes 16 = .ok (.bipush 23, 2) := by decide +kernel
theorem dX9_notes_18 : decode cX9_notes 18 = .ok (.istore 4, 2) := by decide +kernel
theorem dX9_notes_20 : decode cX9_notes 20 = .ok (.iconst 3, 1) := by decide +kernel
theorem dX9_notes_21 : decode cX9_notes 21 = .ok (.iload 4, 2) := by decide +kernel
theorem dX9_notes_23 : decode cX9_notes 23 = .ok (.imul, 1) := by decide +kernel
theorem dX9_notes_24 : decode cX9_notes 24 = .ok (.iconst 1, 1) := by decide +kernel
theorem dX9_notes_25 : decode cX9_notes 25 = .ok (.isub, 1) := by decide +kernel
theorem dX9_notes_26 : decode cX9_notes 26 = .ok (.istore 5, 2) := by decide +kernel
theorem dX9_notes_28 : decode cX9_notes 28 = .ok (.iload 5, 2) := by decide +kernel
theorem dX9_notes_30 : decode cX9_notes 30 = .ok (.ifCond .lt 25, 3) := by decide +kernel
theorem dX9_notes_33 : decode cX9_notes 33 = .ok (.aload_n 0, 1) := by decide +kernel
theorem dX9_notes_34 : decode cX9_notes 34 = .ok (.getfield 70, 3) := by decide +kernel
theorem dX9_notes_37 : decode cX9_notes 37 = .ok (.iload 5, 2) := by decide +kernel
theorem dX9_notes_39 : decode cX9_notes 39 = .ok (.iconst 3, 1) := by decide +kernel
theorem dX9_notes_40 : decode cX9_notes 40 = .ok (.iadd, 1) := by decide +kernel
theorem dX9_notes_41 : decode cX9_notes 41 = .ok (.aload_n 0, 1) := by decide +kernel
theorem dX9_notes_42 : decode cX9_notes 42 = .ok (.getfield 70, 3) := by decide +kernel
theorem dX9_notes_45 : decode cX9_notes 45 = .ok (.iload 5, 2) := by decide +kernel
theorem dX9_notes_47 : decode cX9_notes 47 = .ok (.iaload, 1) := by decide +kernel
theorem dX9_notes_48 : decode cX9_notes 48 = .ok (.iastore, 1) := by decide +kernel
theorem dX9_notes_49 : decode cX9_notes 49 = .ok (.iinc 5 (-1), 3) := by decide +kernel
theorem dX9_notes_52 : decode cX9_notes 52 = .ok (.goto (-24), 3) := by decide +kernel
theorem dX9_notes_55 : decode cX9_notes 55 = .ok (.aload_n 0, 1) := by decide +kernel
theorem dX9_notes_56 : decode cX9_notes 56 = .ok (.getfield 70, 3) := by decide +kernel
theorem dX9_notes_59 : decode cX9_notes 59 = .ok (.iconst 0, 1) := by decide +kernel
theorem dX9_notes_60 : decode cX9_notes 60 = .ok (.iload_n 1, 1) := by decide +kernel
theorem dX9_notes_61 : decode cX9_notes 61 = .ok (.iastore, 1) := by decide +kernel
theorem dX9_notes_62 : decode cX9_notes 62 = .ok (.aload_n 0, 1) := by decide +kernel
theorem dX9_notes_63 : decode cX9_notes 63 = .ok (.getfield 70, 3) := by decide +kernel
theorem dX9_notes_66 : decode cX9_notes 66 = .ok (.iconst 1, 1) := by decide +kernel
theorem dX9_notes_67 : decode cX9_notes 67 = .ok (.iload_n 2, 1) := by decide +kernel
theorem dX9_notes_68 : decode cX9_notes 68 = .ok (.iastore, 1) := by decide +kernel
theorem dX9_notes_69 : decode cX9_notes 69 = .ok (.aload_n 0, 1) := by decide +kernel
theorem dX9_notes_70 : decode cX9_notes 70 = .ok (.getfield 70, 3) := by decide +kernel
theorem dX9_notes_73 : decode cX9_notes 73 = .ok (.iconst 2, 1) := by decide +kernel
theorem dX9_notes_74 : decode cX9_notes 74 = .ok (.iload_n 3, 1) := by decide +kernel
theorem dX9_notes_75 : decode cX9_notes 75 = .ok (.iastore, 1) := by decide +kernel
theorem dX9_notes_76 : decode cX9_notes 76 = .ok (.aload_n 0, 1) := by decide +kernel
theorem dX9_notes_77 : decode cX9_notes 77 = .ok (.iload 4, 2) := by decide +kernel
theorem dX9_notes_79 : decode cX9_notes 79 = .ok (.iconst 1, 1) := by decide +kernel
theorem dX9_notes_80 : decode cX9_notes 80 = .ok (.iadd, 1) := by decide +kernel
theorem dX9_notes_81 : decode cX9_notes 81 = .ok (.putfield 167, 3) := by decide +kernel
theorem dX9_notes_84 : decode cX9_notes 84 = .ok (.aload_n 0, 1) := by decide +kernel
theorem dX9_notes_85 : decode cX9_notes 85 = .ok (.getfield 67, 3) := by decide +kernel
theorem dX9_notes_88 : decode cX9_notes 88 = .ok (.iconst 2, 1) := by decide +kernel
theorem dX9_notes_89 : decode cX9_notes 89 = .ok (.iload_n 1, 1) := by decide +kernel
theorem dX9_notes_90 : decode cX9_notes 90 = .ok (.imul, 1) := by decide +kernel
theorem dX9_notes_91 : decode cX9_notes 91 = .ok (.iload_n 3, 1) := by decide +kernel
theorem dX9_notes_92 : decode cX9_notes 92 = .ok (.iadd, 1) := by decide +kernel
theorem dX9_notes_93 : decode cX9_notes 93 = .ok (.dup2, 1) := by decide +kernel
theorem dX9_notes_94 : decode cX9_notes 94 = .ok (.iaload, 1) := by decide +kernel
theorem dX9_notes_95 : decode cX9_notes 95 = .ok (.iconst 1, 1) := by decide +kernel
theorem dX9_notes_96 : decode cX9_notes 96 = .ok (.iadd, 1) := by decide +kernel
theorem dX9_notes_97 : decode cX9_notes 97 = .ok (.iastore, 1) := by decide +kernel
theorem dX9_notes_98 : decode cX9_notes 98 = .ok (.return_, 1) := by decide +kernel
set_option maxRecDepth 20000 in
theorem ggX9_settles_X9_takesAlbum : GoodIn wsX9_settles wsX9_takesAlbum := goodIn_r _ [8, 9, 10, 11, 12, 90, 91, 92, 93, 94, 95, 96, 97, 98, 99, 100, 101, 102, 103, 104, 105, 106, 107, 108, 109, 110, 111, 112, 113, 114, 115, 116, 117] (by decide +kernel) (by decide +kernel)
set_option maxRecDepth 20000 in
theorem gX9_settles_X9_takesAlbum : GoodIn wsX9_settles (wsV RX9 170 RX9 yX9_takesAlbum wsX9_takesAlbum) := goodIn_app (goodIn_of _ (by decide +kernel)) ggX9_settles_X9_takesAlbum
set_option maxRecDepth 20000 in
theorem ggX9_settles_X9_isRight : GoodIn wsX9_settles wsX9_isRight := goodIn_r _ [16, 17, 10, 18, 19, 20, 21, 22, 7, 23, 24, 25, 26, 27, 28, 11, 3, 29, 30, 31, 32, 33, 34, 35, 36, 37, 38, 39, 40, 41, 42, 43, 44, 45, 46, 47, 48, 49, 50, 51, 52, 53, 54, 55, 56, 57, 58, 59, 60, 61, 62, 63, 64, 65, 66, 67, 68, 69, 70, 71, 72, 73, 2, 74, 75, 76, 77, 78, 79, 80, 81, 82, 90, 91, 92, 93, 94, 95, 96, 97, 98, 99, 100, 101, 102, 103, 104, 105, 106, 107, 108, 109, 110, 111, 112, 113, 114, 115, 116, 117] (by decide +kernel) (by decide +kernel)
set_option maxRecDepth 20000 in
theorem gX9_settles_X9_isRight : GoodIn wsX9_settles (wsV RX9 173 RX9 yX9_isRight wsX9_isRight) := goodIn_app (goodIn_of _ (by decide +kernel)) ggX9_settles_X9_isRight
set_option maxRecDepth 20000 in
theorem ggX9_settles_X9_notes : GoodIn wsX9_settles wsX9_notes := goodIn_r _ [86, 87, 88, 89, 90, 91, 92, 93, 94, 95, 96, 97, 98, 99, 100, 101, 102, 103, 104, 105, 106, 107, 108, 109, 110, 111, 112, 113, 114, 115, 116, 117] (by decide +kernel) (by decide +kernel)
set_option maxRecDepth 20000 in
theorem gX9_settles_X9_notes : GoodIn wsX9_settles (wsV RX9 176 RX9 yX9_notes wsX9_notes) := goodIn_app (goodIn_of _ (by decide +kernel)) ggX9_settles_X9_notes
theorem dX9_settles_0 : decode cX9_settles 0 = .ok (.iconst 0, 1) := by decide +kernel
theorem dX9_settles_1 : decode cX9_settles 1 = .ok (.istore_n 1, 1) := by decide +kernel
theorem dX9_settles_2 : decode cX9_settles 2 = .ok (.iload_n 1, 1) := by decide +kernel
theorem dX9_settles_3 : decode cX9_settles 3 = .ok (.bipush 8, 2) := by decide +kernel
theorem dX9_settles_5 : decode cX9_settles 5 = .ok (.if_icmp .ge 143, 3) := by decide +kernel
theorem dX9_settles_8 : decode cX9_settles 8 = .ok (.lconst 0, 1) := by decide +kernel
theorem dX9_settles_9 : decode cX9_settles 9 = .ok (.lstore_n 2, 1) := by decide +kernel
theorem dX9_settles_10 : decode cX9_settles 10 = .ok (.aload_n 0, 1) := by decide +kernel
theorem dX9_settles_11 : decode cX9_settles 11 = .ok (.getfield 48, 3) := by decide +kernel
theorem dX9_settles_14 : decode cX9_settles 14 = .ok (.iload_n 1, 1) := by decide +kernel
theorem dX9_settles_15 : decode cX9_settles 15 = .ok (.baload, 1) := by decide +kernel
theorem dX9_settles_16 : decode cX9_settles 16 = .ok (.ifCond .eq 8, 3) := by decide +kernel
theorem dX9_settles_19 : decode cX9_settles 19 = .ok (.aload_n 0, 1) := by decide +kernel
theorem dX9_settles_20 : decode cX9_settles 20 = .ok (.iload_n 1, 1) := by decide +kernel
theorem dX9_settles_21 : decode cX9_settles 21 = .ok (.invokevirtual 170, 3) := by decide +kernel
theorem dX9_settles_24 : decode cX9_settles 24 = .ok (.iconst 0, 1) := by decide +kernel
theorem dX9_settles_25 : decode cX9_settles 25 = .ok (.istore 4, 2) := by decide +kernel
theorem dX9_settles_27 : decode cX9_settles 27 = .ok (.iload 4, 2) := by decide +kernel
theorem dX9_settles_29 : decode cX9_settles 29 = .ok (.bipush 40, 2) := by decide +kernel
theorem dX9_settles_31 : decode cX9_settles 31 = .ok (.if_icmp .ge 44, 3) := by decide +kernel
theorem dX9_settles_34 : decode cX9_settles 34 = .ok (.aload_n 0, 1) := by decide +kernel
theorem dX9_settles_35 : decode cX9_settles 35 = .ok (.getfield 48, 3) := by decide +kernel
theorem dX9_settles_38 : decode cX9_settles 38 = .ok (.iload_n 1, 1) := by decide +kernel
theorem dX9_settles_39 : decode cX9_settles 39 = .ok (.baload, 1) := by decide +kernel
theorem dX9_settles_40 : decode cX9_settles 40 = .ok (.ifCond .eq 29, 3) := by decide +kernel
theorem dX9_settles_43 : decode cX9_settles 43 = .ok (.aload_n 0, 1) := by decide +kernel
theorem dX9_settles_44 : decode cX9_settles 44 = .ok (.getfield 7, 3) := by decide +kernel
theorem dX9_settles_47 : decode cX9_settles 47 = .ok (.iload 4, 2) := by decide +kernel
theorem dX9_settles_49 : decode cX9_settles 49 = .ok (.baload, 1) := by decide +kernel
theorem dX9_settles_50 : decode cX9_settles 50 = .ok (.ifCond .eq 19, 3) := by decide +kernel
theorem dX9_settles_53 : decode cX9_settles 53 = .ok (.aload_n 0, 1) := by decide +kernel
theorem dX9_settles_54 : decode cX9_settles 54 = .ok (.iload 4, 2) := by decide +kernel
theorem dX9_settles_56 : decode cX9_settles 56 = .ok (.invokevirtual 173, 3) := by decide +kernel
theorem dX9_settles_59 : decode cX9_settles 59 = .ok (.ifCond .eq 10, 3) := by decide +kernel
theorem dX9_settles_62 : decode cX9_settles 62 = .ok (.lload_n 2, 1) := by decide +kernel
theorem dX9_settles_63 : decode cX9_settles 63 = .ok (.lconst 1, 1) := by decide +kernel
theorem dX9_settles_64 : decode cX9_settles 64 = .ok (.iload 4, 2) := by decide +kernel
theorem dX9_settles_66 : decode cX9_settles 66 = .ok (.lshl, 1) := by decide +kernel
theorem dX9_settles_67 : decode cX9_settles 67 = .ok (.lor, 1) := by decide +kernel
theorem dX9_settles_68 : decode cX9_settles 68 = .ok (.lstore_n 2, 1) := by decide +kernel
theorem dX9_settles_69 : decode cX9_settles 69 = .ok (.iinc 4 1, 3) := by decide +kernel
theorem dX9_settles_72 : decode cX9_settles 72 = .ok (.goto (-45), 3) := by decide +kernel
theorem dX9_settles_75 : decode cX9_settles 75 = .ok (.iconst 0, 1) := by decide +kernel
theorem dX9_settles_76 : decode cX9_settles 76 = .ok (.istore 4, 2) := by decide +kernel
theorem dX9_settles_78 : decode cX9_settles 78 = .ok (.iload 4, 2) := by decide +kernel
theorem dX9_settles_80 : decode cX9_settles 80 = .ok (.bipush 40, 2) := by decide +kernel
theorem dX9_settles_82 : decode cX9_settles 82 = .ok (.if_icmp .ge 53, 3) := by decide +kernel
theorem dX9_settles_85 : decode cX9_settles 85 = .ok (.aload_n 0, 1) := by decide +kernel
theorem dX9_settles_86 : decode cX9_settles 86 = .ok (.getfield 48, 3) := by decide +kernel
theorem dX9_settles_89 : decode cX9_settles 89 = .ok (.iload_n 1, 1) := by decide +kernel
theorem dX9_settles_90 : decode cX9_settles 90 = .ok (.baload, 1) := by decide +kernel
theorem dX9_settles_91 : decode cX9_settles 91 = .ok (.ifCond .eq 44, 3) := by decide +kernel
theorem dX9_settles_94 : decode cX9_settles 94 = .ok (.lload_n 2, 1) := by decide +kernel
theorem dX9_settles_95 : decode cX9_settles 95 = .ok (.iload 4, 2) := by decide +kernel
theorem dX9_settles_97 : decode cX9_settles 97 = .ok (.lshr, 1) := by decide +kernel
theorem dX9_settles_98 : decode cX9_settles 98 = .ok (.lconst 1, 1) := by decide +kernel
theorem dX9_settles_99 : decode cX9_settles 99 = .ok (.land, 1) := by decide +kernel
theorem dX9_settles_100 : decode cX9_settles 100 = .ok (.l2i, 1) := by decide +kernel
theorem dX9_settles_101 : decode cX9_settles 101 = .ok (.istore 5, 2) := by decide +kernel
theorem dX9_settles_103 : decode cX9_settles 103 = .ok (.iload 5, 2) := by decide +kernel
theorem dX9_settles_105 : decode cX9_settles 105 = .ok (.aload_n 0, 1) := by decide +kernel
theorem dX9_settles_106 : decode cX9_settles 106 = .ok (.getfield 57, 3) := by decide +kernel
theorem dX9_settles_109 : decode cX9_settles 109 = .ok (.iload_n 1, 1) := by decide +kernel
theorem dX9_settles_110 : decode cX9_settles 110 = .ok (.laload, 1) := by decide +kernel
theorem dX9_settles_111 : decode cX9_settles 111 = .ok (.iload 4, 2) := by decide +kernel
theorem dX9_settles_113 : decode cX9_settles 113 = .ok (.lshr, 1) := by decide +kernel
theorem dX9_settles_114 : decode cX9_settles 114 = .ok (.lconst 1, 1) := by decide +kernel
theorem dX9_settles_115 : decode cX9_settles 115 = .ok (.land, 1) := by decide +kernel
theorem dX9_settles_116 : decode cX9_settles 116 = .ok (.l2i, 1) := by decide +kernel
theorem dX9_settles_117 : decode cX9_settles 117 = .ok (.if_icmp .eq 12, 3) := by decide +kernel
theorem dX9_settles_120 : decode cX9_settles 120 = .ok (.aload_n 0, 1) := by decide +kernel
theorem dX9_settles_121 : decode cX9_settles 121 = .ok (.iload_n 1, 1) := by decide +kernel
theorem dX9_settles_122 : decode cX9_settles 122 = .ok (.iload 4, 2) := by decide +kernel
theorem dX9_settles_124 : decode cX9_settles 124 = .ok (.iload 5, 2) := by decide +kernel
theorem dX9_settles_126 : decode cX9_settles 126 = .ok (.invokevirtual 176, 3) := by decide +kernel
theorem dX9_settles_129 : decode cX9_settles 129 = .ok (.iinc 4 1, 3) := by decide +kernel
theorem dX9_settles_132 : decode cX9_settles 132 = .ok (.goto (-54), 3) := by decide +kernel
theorem dX9_settles_135 : decode cX9_settles 135 = .ok (.aload_n 0, 1) := by decide +kernel
theorem dX9_settles_136 : decode cX9_settles 136 = .ok (.getfield 57, 3) := by decide +kernel
theorem dX9_settles_139 : decode cX9_settles 139 = .ok (.iload_n 1, 1) := by decide +kernel
theorem dX9_settles_140 : decode cX9_settles 140 = .ok (.lload_n 2, 1) := by decide +kernel
theorem dX9_settles_141 : decode cX9_settles 141 = .ok (.lastore, 1) := by decide +kernel
theorem dX9_settles_142 : decode cX9_settles 142 = .ok (.iinc 1 1, 3) := by decide +kernel
theorem dX9_settles_145 : decode cX9_settles 145 = .ok (.goto (-143), 3) := by decide +kernel
theorem dX9_settles_148 : decode cX9_settles 148 = .ok (.return_, 1) := by decide +kernel
set_option maxRecDepth 20000 in
theorem ggX9_settled_X9_settles : GoodIn wsX9_settled wsX9_settles := goodIn_r _ [5, 6, 7, 8, 9, 10, 11, 4, 12, 13, 14, 15, 16, 17, 18, 19, 20, 21, 22, 23, 24, 25, 26, 27, 28, 29, 30, 31, 32, 33, 34, 35, 36, 37, 38, 39, 40, 41, 42, 43, 44, 45, 46, 47, 48, 49, 50, 51, 52, 53, 54, 55, 56, 57, 58, 59, 60, 61, 62, 63, 64, 65, 66, 67, 68, 69, 70, 71, 72, 73, 74, 75, 76, 77, 78, 79, 80, 81, 82, 83, 84, 85, 86, 87, 88, 89, 90, 91, 92, 93, 94, 95, 96, 97, 98, 99, 100, 101, 102, 103, 104, 105, 106, 107, 108, 109, 110, 111, 112, 113, 114, 115, 116, 117, 118, 119, 120, 121] (by decide +kernel) (by decide +kernel)
set_option maxRecDepth 20000 in
theorem gX9_settled_X9_settles : GoodIn wsX9_settled (wsV RX9 180 RX9 yX9_settles wsX9_settles) := goodIn_app (goodIn_of _ (by decide +kernel)) ggX9_settled_X9_settles
theorem dX9_settled_0 : decode cX9_settled 0 = .ok (.aload_n 0, 1) := by decide +kernel
theorem dX9_settled_1 : decode cX9_settled 1 = .ok (.invokevirtual 180, 3) := by decide +kernel
theorem dX9_settled_4 : decode cX9_settled 4 = .ok (.iload_n 1, 1) := by decide +kernel
theorem dX9_settled_5 : decode cX9_settled 5 = .ok (.ireturn, 1) := by decide +kernel
set_option maxRecDepth 20000 in
theorem ggX9_add_X9_in : GoodIn wsX9_add wsX9_in := goodIn_r _ [10] (by decide +kernel) (by decide +kernel)
set_option maxRecDepth 20000 in
theorem gX9_add_X9_in : GoodIn wsX9_add (va_wsS RX9 85 yX9_in wsX9_in) := goodIn_app (goodIn_of _ (by decide +kernel)) ggX9_add_X9_in
set_option maxRecDepth 20000 in
theorem ggX9_add_X9_settled : GoodIn wsX9_add wsX9_settled := goodIn_r _ [14, 15, 16, 17, 9, 18, 19, 2, 20, 21, 22, 23, 24, 25, 26, 27, 28, 29, 30, 31, 32, 33, 34, 35, 36, 37, 38, 39, 40, 41, 42, 43, 44, 45, 46, 47, 48, 49, 50, 51, 52, 53, 54, 55, 6, 56, 57, 58, 59, 60, 61, 62, 63, 64, 65, 66, 67, 68, 69, 70, 71, 72, 73, 74, 75, 76, 5, 77, 78, 79, 80, 81, 82, 83, 84, 85, 86, 87, 3, 88, 89, 90, 91, 92, 93, 94, 95, 96, 97, 98, 99, 100, 101, 102, 103, 104, 105, 106, 107, 108, 109, 110, 111, 112, 113, 114, 115, 116, 117, 118, 119, 120, 121, 122, 123, 124, 125, 126, 127, 128, 129, 130] (by decide +kernel) (by decide +kernel)
set_option maxRecDepth 20000 in
theorem gX9_add_X9_settled : GoodIn wsX9_add (wsV RX9 184 RX9 yX9_settled wsX9_settled) := goodIn_app (goodIn_of _ (by decide +kernel)) ggX9_add_X9_settled
theorem dX9_add_0 : decode cX9_add 0 = .ok (.iload_n 1, 1) := by decide +kernel
theorem dX9_add_1 : decode cX9_add 1 = .ok (.iconst 0, 1) := by decide +kernel
theorem dX9_add_2 : decode cX9_add 2 = .ok (.sipush 9999, 3) := by decide +kernel
theorem dX9_add_5 : decode cX9_add 5 = .ok (.invokestatic 85, 3) := by decide +kernel
theorem dX9_add_8 : decode cX9_add 8 = .ok (.ifCond .eq 13, 3) := by decide +kernel
theorem dX9_add_11 : decode cX9_add 11 = .ok (.iload_n 2, 1) := by decide +kernel
theorem dX9_add_12 : decode cX9_add 12 = .ok (.iconst 1, 1) := by decide +kernel
theorem dX9_add_13 : decode cX9_add 13 = .ok (.ldc 183, 2) := by decide +kernel
theorem dX9_add_15 : decode cX9_add 15 = .ok (.invokestatic 85, 3) := by decide +kernel
theorem dX9_add_18 : decode cX9_add 18 = .ok (.ifCond .ne 5, 3) := by decide +kernel
theorem dX9_add_21 : decode cX9_add 21 = .ok (.iconst (-1), 1) := by decide +kernel
theorem dX9_add_22 : decode cX9_add 22 = .ok (.ireturn, 1) := by decide +kernel
theorem dX9_add_23 : decode cX9_add 23 = .ok (.iconst 0, 1) := by decide +kernel
theorem dX9_add_24 : decode cX9_add 24 = .ok (.istore_n 3, 1) := by decide +kernel
theorem dX9_add_25 : decode cX9_add 25 = .ok (.iload_n 3, 1) := by decide +kernel
theorem dX9_add_26 : decode cX9_add 26 = .ok (.bipush 40, 2) := by decide +kernel
theorem dX9_add_28 : decode cX9_add 28 = .ok (.if_icmp .ge 18, 3) := by decide +kernel
theorem dX9_add_31 : decode cX9_add 31 = .ok (.aload_n 0, 1) := by decide +kernel
theorem dX9_add_32 : decode cX9_add 32 = .ok (.getfield 7, 3) := by decide +kernel
theorem dX9_add_35 : decode cX9_add 35 = .ok (.iload_n 3, 1) := by decide +kernel
theorem dX9_add_36 : decode cX9_add 36 = .ok (.baload, 1) := by decide +kernel
theorem dX9_add_37 : decode cX9_add 37 = .ok (.ifCond .eq 9, 3) := by decide +kernel
theorem dX9_add_40 : decode cX9_add 40 = .ok (.iinc 3 1, 3) := by decide +kernel
theorem dX9_add_43 : decode cX9_add 43 = .ok (.goto (-18), 3) := by decide +kernel
theorem dX9_add_46 : decode cX9_add 46 = .ok (.iload_n 3, 1) := by decide +kernel
theorem dX9_add_47 : decode cX9_add 47 = .ok (.bipush 40, 2) := by decide +kernel
theorem dX9_add_49 : decode cX9_add 49 = .ok (.if_icmp .ne 6, 3) := by decide +kernel
theorem dX9_add_52 : decode cX9_add 52 = .ok (.bipush (-3), 2) := by decide +kernel
theorem dX9_add_54 : decode cX9_add 54 = .ok (.ireturn, 1) := by decide +kernel
theorem dX9_add_55 : decode cX9_add 55 = .ok (.aload_n 0, 1) := by decide +kernel
theorem dX9_add_56 : decode cX9_add 56 = .ok (.getfield 7, 3) := by decide +kernel
theorem dX9_add_59 : decode cX9_add 59 = .ok (.iload_n 3, 1) := by decide +kernel
theorem dX9_add_60 : decode cX9_add 60 = .ok (.iconst 1, 1) := by decide +kernel
theorem dX9_add_61 : decode cX9_add 61 = .ok (.bastore, 1) := by decide +kernel
theorem dX9_add_62 : decode cX9_add 62 = .ok (.aload_n 0, 1) := by decide +kernel
theorem dX9_add_63 : decode cX9_add 63 = .ok (.getfield 13, 3) := by decide +kernel
theorem dX9_add_66 : decode cX9_add 66 = .ok (.iload_n 3, 1) := by decide +kernel
theorem dX9_add_67 : decode cX9_add 67 = .ok (.iload_n 1, 1) := by decide +kernel
theorem dX9_add_68 : decode cX9_add 68 = .ok (.iastore, 1) := by decide +kernel
theorem dX9_add_69 : decode cX9_add 69 = .ok (.aload_n 0, 1) := by decide +kernel
theorem dX9_add_70 : decode cX9_add 70 = .ok (.getfield 17, 3) := by decide +kernel
theorem dX9_add_73 : decode cX9_add 73 = .ok (.iload_n 3, 1) := by decide +kernel
theorem dX9_add_74 : decode cX9_add 74 = .ok (.iload_n 2, 1) := by decide +kernel
theorem dX9_add_75 : decode cX9_add 75 = .ok (.iastore, 1) := by decide +kernel
theorem dX9_add_76 : decode cX9_add 76 = .ok (.aload_n 0, 1) := by decide +kernel
theorem dX9_add_77 : decode cX9_add 77 = .ok (.getfield 29, 3) := by decide +kernel
theorem dX9_add_80 : decode cX9_add 80 = .ok (.iload_n 3, 1) := by decide +kernel
theorem dX9_add_81 : decode cX9_add 81 = .ok (.iconst (-1), 1) := by decide +kernel
theorem dX9_add_82 : decode cX9_add 82 = .ok (.iastore, 1) := by decide +kernel
theorem dX9_add_83 : decode cX9_add 83 = .ok (.iconst 0, 1) := by decide +kernel
theorem dX9_add_84 : decode cX9_add 84 = .ok (.istore 4, 2) := by decide +kernel
theorem dX9_add_86 : decode cX9_add 86 = .ok (.iload 4, 2) := by decide +kernel
theorem dX9_add_88 : decode cX9_add 88 = .ok (.bipush 18, 2) := by decide +kernel
theorem dX9_add_90 : decode cX9_add 90 = .ok (.if_icmp .ge 22, 3) := by decide +kernel
theorem dX9_add_93 : decode cX9_add 93 = .ok (.aload_n 0, 1) := by decide +kernel
theorem dX9_add_94 : decode cX9_add 94 = .ok (.getfield 20, 3) := by decide +kernel
theorem dX9_add_97 : decode cX9_add 97 = .ok (.bipush 18, 2) := by decide +kernel
theorem dX9_add_99 : decode cX9_add 99 = .ok (.iload_n 3, 1) := by decide +kernel
theorem dX9_add_100 : decode cX9_add 100 = .ok (.imul, 1) := by decide +kernel
theorem dX9_add_101 : decode cX9_add 101 = .ok (.iload 4, 2) := by decide +kernel
theorem dX9_add_103 : decode cX9_add 103 = .ok (.iadd, 1) := by decide +kernel
theorem dX9_add_104 : decode cX9_add 104 = .ok (.iconst 0, 1) := by decide +kernel
theorem dX9_add_105 : decode cX9_add 105 = .ok (.bastore, 1) := by decide +kernel
theorem dX9_add_106 : decode cX9_add 106 = .ok (.iinc 4 1, 3) := by decide +kernel
theorem dX9_add_109 : decode cX9_add 109 = .ok (.goto (-23), 3) := by decide +kernel
theorem dX9_add_112 : decode cX9_add 112 = .ok (.aload_n 0, 1) := by decide +kernel
theorem dX9_add_113 : decode cX9_add 113 = .ok (.iload_n 3, 1) := by decide +kernel
theorem dX9_add_114 : decode cX9_add 114 = .ok (.invokevirtual 184, 3) := by decide +kernel
theorem dX9_add_117 : decode cX9_add 117 = .ok (.ireturn, 1) := by decide +kernel
set_option maxRecDepth 20000 in
theorem ggX9_remove_X9_there : GoodIn wsX9_remove wsX9_there := goodIn_r _ [5, 6, 7, 8, 4, 9, 117, 118, 119, 120, 121, 122, 123, 124, 125, 126, 127, 128, 129, 130, 131, 132, 133, 134, 135, 136, 137, 138, 139, 140, 141, 142, 143, 144] (by decide +kernel) (by decide +kernel)
set_option maxRecDepth 20000 in
theorem gX9_remove_X9_there : GoodIn wsX9_remove (wsV RX9 187 RX9 yX9_there wsX9_there) := goodIn_app (goodIn_of _ (by decide +kernel)) ggX9_remove_X9_there
set_option maxRecDepth 20000 in
theorem ggX9_remove_X9_goes : GoodIn wsX9_remove wsX9_goes := goodIn_r _ [13, 6, 14, 15, 16, 4, 17, 18, 19, 20, 21, 117, 118, 119, 120, 121, 122, 123, 124, 125, 126, 127, 128, 129, 130, 131, 132, 133, 134, 135, 136, 137, 138, 139, 140, 141, 142, 143, 144] (by decide +kernel) (by decide +kernel)
set_option maxRecDepth 20000 in
theorem gX9_remove_X9_goes : GoodIn wsX9_remove (wsV RX9 190 RX9 yX9_goes wsX9_goes) := goodIn_app (goodIn_of _ (by decide +kernel)) ggX9_remove_X9_goes
set_option maxRecDepth 20000 in
theorem ggX9_remove_X9_fileCount : GoodIn wsX9_remove wsX9_fileCount := goodIn_r _ [25, 6, 117, 118, 119, 120, 121, 122, 123, 124, 125, 126, 127, 128, 129, 130, 131, 132, 133, 134, 135, 136, 137, 138, 139, 140, 141, 142, 143, 144] (by decide +kernel) (by decide +kernel)
set_option maxRecDepth 20000 in
theorem gX9_remove_X9_fileCount : GoodIn wsX9_remove (wsV RX9 193 RX9 yX9_fileCount wsX9_fileCount) := goodIn_app (goodIn_of _ (by decide +kernel)) ggX9_remove_X9_fileCount
set_option maxRecDepth 20000 in
theorem ggX9_remove_X9_settled : GoodIn wsX9_remove wsX9_settled := goodIn_r _ [29, 30, 31, 32, 4, 33, 34, 6, 35, 36, 37, 38, 39, 40, 41, 42, 43, 44, 45, 46, 47, 48, 49, 50, 51, 52, 53, 54, 55, 56, 57, 58, 59, 60, 61, 62, 63, 64, 65, 66, 67, 68, 69, 70, 71, 72, 73, 74, 75, 76, 77, 78, 79, 80, 81, 82, 83, 84, 85, 86, 87, 88, 89, 90, 91, 92, 18, 93, 94, 95, 96, 21, 19, 20, 97, 98, 99, 100, 101, 102, 103, 104, 105, 106, 107, 108, 109, 110, 111, 112, 113, 114, 115, 116, 117, 118, 119, 120, 121, 122, 123, 124, 125, 126, 127, 128, 129, 130, 131, 132, 133, 134, 135, 136, 137, 138, 139, 140, 141, 142, 143, 144] (by decide +kernel) (by decide +kernel)
set_option maxRecDepth 20000 in
theorem gX9_remove_X9_settled : GoodIn wsX9_remove (wsV RX9 184 RX9 yX9_settled wsX9_settled) := goodIn_app (goodIn_of _ (by decide +kernel)) ggX9_remove_X9_settled
theorem dX9_remove_0 : decode cX9_remove 0 = .ok (.aload_n 0, 1) := by decide +kernel
theorem dX9_remove_1 : decode cX9_remove 1 = .ok (.iload_n 1, 1) := by decide +kernel
theorem dX9_remove_2 : decode cX9_remove 2 = .ok (.invokevirtual 187, 3) := by decide +kernel
theorem dX9_remove_5 : decode cX9_remove 5 = .ok (.ifCond .ne 5, 3) := by decide +kernel
theorem dX9_remove_8 : decode cX9_remove 8 = .ok (.iconst (-1), 1) := by decide +kernel
theorem dX9_remove_9 : decode cX9_remove 9 = .ok (.ireturn, 1) := by decide +kernel
theorem dX9_remove_10 : decode cX9_remove 10 = .ok (.aload_n 0, 1) := by decide +kernel
theorem dX9_remove_11 : decode cX9_remove 11 = .ok (.iload_n 1, 1) := by decide +kernel
theorem dX9_remove_12 : decode cX9_remove 12 = .ok (.invokevirtual 190, 3) := by decide +kernel
theorem dX9_remove_15 : decode cX9_remove 15 = .ok (.aload_n 0, 1) := by decide +kernel
theorem dX9_remove_16 : decode cX9_remove 16 = .ok (.aload_n 0, 1) := by decide +kernel
theorem dX9_remove_17 : decode cX9_remove 17 = .ok (.invokevirtual 193, 3) := by decide +kernel
theorem dX9_remove_20 : decode cX9_remove 20 = .ok (.invokevirtual 184, 3) := by decide +kernel
theorem dX9_remove_23 : decode cX9_remove 23 = .ok (.ireturn, 1) := by decide +kernel
theorem dX9_fileCount_0 : decode cX9_fileCount 0 = .ok (.iconst 0, 1) := by decide +kernel
theorem dX9_fileCount_1 : decode cX9_fileCount 1 = .ok (.istore_n 1, 1) := by decide +kernel
theorem dX9_fileCount_2 : decode cX9_fileCount 2 = .ok (.iconst 0, 1) := by decide +kernel
theorem dX9_fileCount_3 : decode cX9_fileCount 3 = .ok (.istore_n 2, 1) := by decide +kernel
theorem dX9_fileCount_4 : decode cX9_fileCount 4 = .ok (.iload_n 2, 1) := by decide +kernel
theorem dX9_fileCount_5 : decode cX9_fileCount 5 = .ok (.bipush 40, 2) := by decide +kernel
theorem dX9_fileCount_7 : decode cX9_fileCount 7 = .ok (.if_icmp .ge 26, 3) := by decide +kernel
theorem dX9_fileCount_10 : decode cX9_fileCount 10 = .ok (.iload_n 1, 1) := by decide +kernel
theorem dX9_fileCount_11 : decode cX9_fileCount 11 = .ok (.aload_n 0, 1) := by decide +kernel
theorem dX9_fileCount_12 : decode cX9_fileCount 12 = .ok (.getfield 7, 3) := by decide +kernel
theorem dX9_fileCount_15 : decode cX9_fileCount 15 = .ok (.iload_n 2, 1) := by decide +kernel
theorem dX9_fileCount_16 : decode cX9_fileCount 16 = .ok (.baload, 1) := by decide +kernel
theorem dX9_fileCount_17 : decode cX9_fileCount 17 = .ok (.ifCond .eq 7, 3) := by decide +kernel
theorem dX9_fileCount_20 : decode cX9_fileCount 20 = .ok (.iconst 1, 1) := by decide +kernel
theorem dX9_fileCount_21 : decode cX9_fileCount 21 = .ok (.goto 4, 3) := by decide +kernel
theorem dX9_fileCount_24 : decode cX9_fileCount 24 = .ok (.iconst 0, 1) := by decide +kernel
theorem dX9_fileCount_25 : decode cX9_fileCount 25 = .ok (.iadd, 1) := by decide +kernel
theorem dX9_fileCount_26 : decode cX9_fileCount 26 = .ok (.istore_n 1, 1) := by decide +kernel
theorem dX9_fileCount_27 : decode cX9_fileCount 27 = .ok (.iinc 2 1, 3) := by decide +kernel
theorem dX9_fileCount_30 : decode cX9_fileCount 30 = .ok (.goto (-26), 3) := by decide +kernel
theorem dX9_fileCount_33 : decode cX9_fileCount 33 = .ok (.iload_n 1, 1) := by decide +kernel
theorem dX9_fileCount_34 : decode cX9_fileCount 34 = .ok (.ireturn, 1) := by decide +kernel
set_option maxRecDepth 20000 in
theorem ggX9_setDigest_X9_there : GoodIn wsX9_setDigest wsX9_there := goodIn_r _ [6, 7, 8, 9, 5, 10, 105, 106, 107, 108, 109, 110, 111, 112, 113, 114, 115, 116, 117, 118, 119, 120, 121, 122, 123, 124, 125, 126, 127, 128, 129, 130, 131, 132] (by decide +kernel) (by decide +kernel)
set_option maxRecDepth 20000 in
theorem gX9_setDigest_X9_there : GoodIn wsX9_setDigest (wsV RX9 187 RX9 yX9_there wsX9_there) := goodIn_app (goodIn_of _ (by decide +kernel)) ggX9_setDigest_X9_there
set_option maxRecDepth 20000 in
theorem ggX9_setDigest_X9_in : GoodIn wsX9_setDigest wsX9_in := goodIn_r _ [10] (by decide +kernel) (by decide +kernel)
set_option maxRecDepth 20000 in
theorem gX9_setDigest_X9_in : GoodIn wsX9_setDigest (va_wsS RX9 85 yX9_in wsX9_in) := goodIn_app (goodIn_of _ (by decide +kernel)) ggX9_setDigest_X9_in
set_option maxRecDepth 20000 in
theorem ggX9_setDigest_X9_settled : GoodIn wsX9_setDigest wsX9_settled := goodIn_r _ [14, 15, 16, 17, 5, 18, 19, 7, 20, 21, 22, 23, 24, 25, 26, 27, 28, 29, 30, 31, 32, 33, 34, 35, 36, 37, 38, 39, 40, 41, 42, 43, 44, 45, 46, 47, 48, 49, 50, 51, 52, 53, 54, 55, 56, 57, 58, 59, 60, 61, 62, 63, 64, 65, 66, 67, 68, 69, 70, 71, 72, 73, 74, 75, 76, 77, 78, 79, 80, 81, 82, 83, 84, 85, 86, 87, 88, 89, 1, 90, 91, 92, 93, 94, 95, 96, 97, 98, 99, 100, 101, 102, 103, 104, 105, 106, 107, 108, 109, 110, 111, 112, 113, 114, 115, 116, 117, 118, 119, 120, 121, 122, 123, 124, 125, 126, 127, 128, 129, 130, 131, 132] (by decide +kernel) (by decide +kernel)
set_option maxRecDepth 20000 in
theorem gX9_setDigest_X9_settled : GoodIn wsX9_setDigest (wsV RX9 184 RX9 yX9_settled wsX9_settled) := goodIn_app (goodIn_of _ (by decide +kernel)) ggX9_setDigest_X9_settled
theorem dX9_setDigest_0 : decode cX9_setDigest 0 = .ok (.aload_n 0, 1) := by decide +kernel
theorem dX9_setDigest_1 : decode cX9_setDigest 1 = .ok (.iload_n 1, 1) := by decide +kernel
theorem dX9_setDigest_2 : decode cX9_setDigest 2 = .ok (.invokevirtual 187, 3) := by decide +kernel
theorem dX9_setDigest_5 : decode cX9_setDigest 5 = .ok (.ifCond .eq 14, 3) := by decide +kernel
theorem dX9_setDigest_8 : decode cX9_setDigest 8 = .ok (.iload_n 2, 1) := by decide +kernel
theorem dX9_setDigest_9 : decode cX9_setDigest 9 = .ok (.iconst 0, 1) := by decide +kernel
theorem dX9_setDigest_10 : decode cX9_setDigest 10 = .ok (.sipush 9999, 3) := by decide +kernel
theorem dX9_setDigest_13 : decode cX9_setDigest 13 = .ok (.invokestatic 85, 3) := by decide +kernel
theorem dX9_setDigest_16 : decode cX9_setDigest 16 = .ok (.ifCond .ne 5, 3) := by decide +kernel
theorem dX9_setDigest_19 : decode cX9_setDigest 19 = .ok (.iconst (-1), 1) := by decide +kernel
theorem dX9_setDigest_20 : decode cX9_setDigest 20 = .ok (.ireturn, 1) := by decide +kernel
theorem dX9_setDigest_21 : decode cX9_setDigest 21 = .ok (.aload_n 0, 1) := by decide +kernel
theorem dX9_setDigest_22 : decode cX9_setDigest 22 = .ok (.getfield 13, 3) := by decide +kernel
theorem dX9_setDigest_25 : decode cX9_setDigest 25 = .ok (.iload_n 1, 1) := by decide +kernel
theorem dX9_setDigest_26 : decode cX9_setDigest 26 = .ok (.iaload, 1) := by decide +kernel
theorem dX9_setDigest_27 : decode cX9_setDigest 27 = .ok (.istore_n 3, 1) := by decide +kernel
theorem dX9_setDigest_28 : decode cX9_setDigest 28 = .ok (.aload_n 0, 1) := by decide +kernel
theorem dX9_setDigest_29 : decode cX9_setDigest 29 = .ok (.getfield 13, 3) := by decide +kernel
theorem dX9_setDigest_32 : decode cX9_setDigest 32 = .ok (.iload_n 1, 1) := by decide +kernel
theorem dX9_setDigest_33 : decode cX9_setDigest 33 = .ok (.iload_n 2, 1) := by decide +kernel
theorem dX9_setDigest_34 : decode cX9_setDigest 34 = .ok (.iastore, 1) := by decide +kernel
theorem dX9_setDigest_35 : decode cX9_setDigest 35 = .ok (.aload_n 0, 1) := by decide +kernel
theorem dX9_setDigest_36 : decode cX9_setDigest 36 = .ok (.iload_n 3, 1) := by decide +kernel
theorem dX9_setDigest_37 : decode cX9_setDigest 37 = .ok (.invokevirtual 184, 3) := by decide +kernel
theorem dX9_setDigest_40 : decode cX9_setDigest 40 = .ok (.ireturn, 1) := by decide +kernel
set_option maxRecDepth 20000 in
theorem ggX9_isCell_X9_there : GoodIn wsX9_isCell wsX9_there := goodIn_r _ [5, 6, 7, 8, 4, 9, 10, 11, 12, 13, 14, 15, 16, 17, 18, 19, 20, 21, 22, 23, 24, 25, 26, 27, 28, 29, 30, 31, 32, 33, 34, 35, 36, 37] (by decide +kernel) (by decide +kernel)
set_option maxRecDepth 20000 in
theorem gX9_isCell_X9_there : GoodIn wsX9_isCell (wsV RX9 187 RX9 yX9_there wsX9_there) := goodIn_app (goodIn_of _ (by decide +kernel)) ggX9_isCell_X9_there
set_option maxRecDepth 20000 in
theorem ggX9_isCell_X9_in : GoodIn wsX9_isCell wsX9_in := goodIn_r _ [9] (by decide +kernel) (by decide +kernel)
set_option maxRecDepth 20000 in
theorem gX9_isCell_X9_in : GoodIn wsX9_isCell (va_wsS RX9 85 yX9_in wsX9_in) := goodIn_app (goodIn_of _ (by decide +kernel)) ggX9_isCell_X9_in
theorem dX9_isCell_0 : decode cX9_isCell 0 = .ok (.aload_n 0, 1) := by decide +kernel
theorem dX9_isCell_1 : decode cX9_isCell 1 = .ok (.iload_n 1, 1) := by decide +kernel
theorem dX9_isCell_2 : decode cX9_isCell 2 = .ok (.invokevirtual 187, 3) := by decide +kernel
theorem dX9_isCell_5 : decode cX9_isCell 5 = .ok (.ifCond .eq 25, 3) := by decide +kernel
theorem dX9_isCell_8 : decode cX9_isCell 8 = .ok (.iload_n 2, 1) := by decide +kernel
theorem dX9_isCell_9 : decode cX9_isCell 9 = .ok (.iconst 0, 1) := by decide +kernel
theorem dX9_isCell_10 : decode cX9_isCell 10 = .ok (.iconst 2, 1) := by decide +kernel
theorem dX9_isCell_11 : decode cX9_isCell 11 = .ok (.invokestatic 85, 3) := by decide +kernel
theorem dX9_isCell_14 : decode cX9_isCell 14 = .ok (.ifCond .eq 16, 3) := by decide +kernel
theorem dX9_isCell_17 : decode cX9_isCell 17 = .ok (.iload_n 3, 1) := by decide +kernel
theorem dX9_isCell_18 : decode cX9_isCell 18 = .ok (.iconst 0, 1) := by decide +kernel
theorem dX9_isCell_19 : decode cX9_isCell 19 = .ok (.iconst 5, 1) := by decide +kernel
theorem dX9_isCell_20 : decode cX9_isCell 20 = .ok (.invokestatic 85, 3) := by decide +kernel
theorem dX9_isCell_23 : decode cX9_isCell 23 = .ok (.ifCond .eq 7, 3) := by decide +kernel
theorem dX9_isCell_26 : decode cX9_isCell 26 = .ok (.iconst 1, 1) := by decide +kernel
theorem dX9_isCell_27 : decode cX9_isCell 27 = .ok (.goto 4, 3) := by decide +kernel
theorem dX9_isCell_30 : decode cX9_isCell 30 = .ok (.iconst 0, 1) := by decide +kernel
theorem dX9_isCell_31 : decode cX9_isCell 31 = .ok (.ireturn, 1) := by decide +kernel
set_option maxRecDepth 20000 in
theorem ggX9_setValue_X9_isCell : GoodIn wsX9_setValue wsX9_isCell := goodIn_r _ [7, 8, 9, 10, 6, 11, 12, 13, 14, 15, 112, 113, 114, 115, 116, 117, 118, 119, 120, 121, 122, 123, 124, 125, 126, 127, 128, 129, 130, 131, 132, 133, 134, 135, 136, 137, 138, 139] (by decide +kernel) (by decide +kernel)
set_option maxRecDepth 20000 in
theorem gX9_setValue_X9_isCell : GoodIn wsX9_setValue (wsV RX9 196 RX9 yX9_isCell wsX9_isCell) := goodIn_app (goodIn_of _ (by decide +kernel)) ggX9_setValue_X9_isCell
set_option maxRecDepth 20000 in
theorem ggX9_setValue_X9_fits : GoodIn wsX9_setValue wsX9_fits := goodIn_r _ [18, 13, 14, 6, 15] (by decide +kernel) (by decide +kernel)
set_option maxRecDepth 20000 in
theorem gX9_setValue_X9_fits : GoodIn wsX9_setValue (va_wsS RX9 199 yX9_fits wsX9_fits) := goodIn_app (goodIn_of _ (by decide +kernel)) ggX9_setValue_X9_fits
set_option maxRecDepth 20000 in
theorem ggX9_setValue_X9_settled : GoodIn wsX9_setValue wsX9_settled := goodIn_r _ [22, 23, 24, 25, 6, 26, 27, 12, 28, 29, 30, 31, 32, 33, 34, 35, 36, 37, 38, 39, 40, 41, 42, 43, 44, 45, 46, 47, 48, 49, 50, 51, 52, 53, 54, 55, 56, 57, 58, 59, 60, 61, 62, 63, 1, 64, 65, 66, 67, 68, 69, 70, 71, 72, 73, 74, 75, 2, 76, 77, 78, 79, 80, 81, 82, 83, 84, 85, 86, 87, 88, 89, 90, 91, 92, 93, 94, 95, 96, 97, 98, 99, 100, 101, 102, 103, 104, 105, 106, 107, 108, 109, 110, 111, 112, 113, 114, 115, 116, 117, 118, 119, 120, 121, 122, 123, 124, 125, 126, 127, 128, 129, 130, 131, 132, 133, 134, 135, 136, 137, 138, 139] (by decide +kernel) (by decide +kernel)
set_option maxRecDepth 20000 in
theorem gX9_setValue_X9_settled : GoodIn wsX9_setValue (wsV RX9 184 RX9 yX9_settled wsX9_settled) := goodIn_app (goodIn_of _ (by decide +kernel)) ggX9_setValue_X9_settled
theorem dX9_setValue_0 : decode cX9_setValue 0 = .ok (.aload_n 0, 1) := by decide +kernel
theorem dX9_setValue_1 : decode cX9_setValue 1 = .ok (.iload_n 1, 1) := by decide +kernel
theorem dX9_setValue_2 : decode cX9_setValue 2 = .ok (.iload_n 2, 1) := by decide +kernel
theorem dX9_setValue_3 : decode cX9_setValue 3 = .ok (.iload_n 3, 1) := by decide +kernel
theorem dX9_setValue_4 : decode cX9_setValue 4 = .ok (.invokevirtual 196, 3) := by decide +kernel
theorem dX9_setValue_7 : decode cX9_setValue 7 = .ok (.ifCond .eq 12, 3) := by decide +kernel
theorem dX9_setValue_10 : decode cX9_setValue 10 = .ok (.iload_n 3, 1) := by decide +kernel
theorem dX9_setValue_11 : decode cX9_setValue 11 = .ok (.iload 4, 2) := by decide +kernel
theorem dX9_setValue_13 : decode cX9_setValue 13 = .ok (.invokestatic 199, 3) := by decide +kernel
theorem dX9_setValue_16 : decode cX9_setValue 16 = .ok (.ifCond .ne 5, 3) := by decide +kernel
theorem dX9_setValue_19 : decode cX9_setValue 19 = .ok (.iconst (-1), 1) := by decide +kernel
theorem dX9_setValue_20 : decode cX9_setValue 20 = .ok (.ireturn, 1) := by decide +kernel
theorem dX9_setValue_21 : decode cX9_setValue 21 = .ok (.bipush 18, 2) := by decide +kernel
theorem dX9_setValue_23 : decode cX9_setValue 23 = .ok (.iload_n 1, 1) := by decide +kernel
theorem dX9_setValue_24 : decode cX9_setValue 24 = .ok (.imul, 1) := by decide +kernel
theorem dX9_setValue_25 : decode cX9_setValue 25 = .ok (.bipush 6, 2) := by decide +kernel
theorem dX9_setValue_27 : decode cX9_setValue 27 = .ok (.iload_n 2, 1) := by decide +kernel
theorem dX9_setValue_28 : decode cX9_setValue 28 = .ok (.imul, 1) := by decide +kernel
theorem dX9_setValue_29 : decode cX9_setValue 29 = .ok (.iadd, 1) := by decide +kernel
theorem dX9_setValue_30 : decode cX9_setValue 30 = .ok (.iload_n 3, 1) := by decide +kernel
theorem dX9_setValue_31 : decode cX9_setValue 31 = .ok (.iadd, 1) := by decide +kernel
theorem dX9_setValue_32 : decode cX9_setValue 32 = .ok (.istore 5, 2) := by decide +kernel
theorem dX9_setValue_34 : decode cX9_setValue 34 = .ok (.aload_n 0, 1) := by decide +kernel
theorem dX9_setValue_35 : decode cX9_setValue 35 = .ok (.getfield 20, 3) := by decide +kernel
theorem dX9_setValue_38 : decode cX9_setValue 38 = .ok (.iload 5, 2) := by decide +kernel
theorem dX9_setValue_40 : decode cX9_setValue 40 = .ok (.baload, 1) := by decide +kernel
theorem dX9_setValue_41 : decode cX9_setValue 41 = .ok (.ifCond .eq 13, 3) := by decide +kernel
theorem dX9_setValue_44 : decode cX9_setValue 44 = .ok (.aload_n 0, 1) := by decide +kernel
theorem dX9_setValue_45 : decode cX9_setValue 45 = .ok (.getfield 23, 3) := by decide +kernel
theorem dX9_setValue_48 : decode cX9_setValue 48 = .ok (.iload 5, 2) := by decide +kernel
theorem dX9_setValue_50 : decode cX9_setValue 50 = .ok (.iaload, 1) := by decide +kernel
theorem dX9_setValue_51 : decode cX9_setValue 51 = .ok (.goto 5, 3) := by decide +kernel
theorem dX9_setValue_54 : decode cX9_setValue 54 = .ok (.bipush (-4), 2) := by decide +kernel
theorem dX9_setValue_56 : decode cX9_setValue 56 = .ok (.istore 6, 2) := by decide +kernel
theorem dX9_setValue_58 : decode cX9_setValue 58 = .ok (.aload_n 0, 1) := by decide +kernel
theorem dX9_setValue_59 : decode cX9_setValue 59 = .ok (.getfield 20, 3) := by decide +kernel
theorem dX9_setValue_62 : decode cX9_setValue 62 = .ok (.iload 5, 2) := by decide +kernel
theorem dX9_setValue_64 : decode cX9_setValue 64 = .ok (.iconst 1, 1) := by decide +kernel
theorem dX9_setValue_65 : decode cX9_setValue 65 = .ok (.bastore, 1) := by decide +kernel
theorem dX9_setValue_66 : decode cX9_setValue 66 = .ok (.aload_n 0, 1) := by decide +kernel
theorem dX9_setValue_67 : decode cX9_setValue 67 = .ok (.getfield 23, 3) := by decide +kernel
theorem dX9_setValue_70 : decode cX9_setValue 70 = .ok (.iload 5, 2) := by decide +kernel
theorem dX9_setValue_72 : decode cX9_setValue 72 = .ok (.iload 4, 2) := by decide +kernel
theorem dX9_setValue_74 : decode cX9_setValue 74 = .ok (.iastore, 1) := by decide +kernel
theorem dX9_setValue_75 : decode cX9_setValue 75 = .ok (.aload_n 0, 1) := by decide +kernel
theorem dX9_setValue_76 : decode cX9_setValue 76 = .ok (.iload 6, 2) := by decide +kernel
theorem dX9_setValue_78 : decode cX9_setValue 78 = .ok (.invokevirtual 184, 3) := by decide +kernel
theorem dX9_setValue_81 : decode cX9_setValue 81 = .ok (.ireturn, 1) := by decide +kernel
set_option maxRecDepth 20000 in
theorem ggX9_clearValue_X9_isCell : GoodIn wsX9_clearValue wsX9_isCell := goodIn_r _ [7, 8, 9, 10, 6, 11, 12, 13, 14, 15, 109, 110, 111, 112, 113, 114, 115, 116, 117, 118, 119, 120, 121, 122, 123, 124, 125, 126, 127, 128, 129, 130, 131, 132, 133, 134, 135, 136] (by decide +kernel) (by decide +kernel)
set_option maxRecDepth 20000 in
theorem gX9_clearValue_X9_isCell : GoodIn wsX9_clearValue (wsV RX9 196 RX9 yX9_isCell wsX9_isCell) := goodIn_app (goodIn_of _ (by decide +kernel)) ggX9_clearValue_X9_isCell
set_option maxRecDepth 20000 in
theorem ggX9_clearValue_X9_settled : GoodIn wsX9_clearValue wsX9_settled := goodIn_r _ [19, 20, 21, 22, 6, 23, 24, 12, 25, 26, 27, 28, 29, 30, 31, 32, 33, 34, 35, 36, 37, 38, 39, 40, 41, 42, 43, 44, 45, 46, 47, 48, 49, 50, 51, 52, 53, 54, 55, 56, 57, 58, 59, 60, 1, 61, 62, 63, 64, 65, 66, 67, 68, 69, 70, 71, 72, 2, 73, 74, 75, 76, 77, 78, 79, 80, 81, 82, 83, 84, 85, 86, 87, 88, 89, 90, 91, 92, 93, 94, 95, 96, 97, 98, 99, 100, 101, 102, 103, 104, 105, 106, 107, 108, 109, 110, 111, 112, 113, 114, 115, 116, 117, 118, 119, 120, 121, 122, 123, 124, 125, 126, 127, 128, 129, 130, 131, 132, 133, 134, 135, 136] (by decide +kernel) (by decide +kernel)
set_option maxRecDepth 20000 in
theorem gX9_clearValue_X9_settled : GoodIn wsX9_clearValue (wsV RX9 184 RX9 yX9_settled wsX9_settled) := goodIn_app (goodIn_of _ (by decide +kernel)) ggX9_clearValue_X9_settled
theorem dX9_clearValue_0 : decode cX9_clearValue 0 = .ok (.aload_n 0, 1) := by decide +kernel
theorem dX9_clearValue_1 : decode cX9_clearValue 1 = .ok (.iload_n 1, 1) := by decide +kernel
theorem dX9_clearValue_2 : decode cX9_clearValue 2 = .ok (.iload_n 2, 1) := by decide +kernel
theorem dX9_clearValue_3 : decode cX9_clearValue 3 = .ok (.iload_n 3, 1) := by decide +kernel
theorem dX9_clearValue_4 : decode cX9_clearValue 4 = .ok (.invokevirtual 196, 3) := by decide +kernel
theorem dX9_clearValue_7 : decode cX9_clearValue 7 = .ok (.ifCond .ne 5, 3) := by decide +kernel
theorem dX9_clearValue_10 : decode cX9_clearValue 10 = .ok (.iconst (-1), 1) := by decide +kernel
theorem dX9_clearValue_11 : decode cX9_clearValue 11 = .ok (.ireturn, 1) := by decide +kernel
theorem dX9_clearValue_12 : decode cX9_clearValue 12 = .ok (.bipush 18, 2) := by decide +kernel
theorem dX9_clearValue_14 : decode cX9_clearValue 14 = .ok (.iload_n 1, 1) := by decide +kernel
theorem dX9_clearValue_15 : decode cX9_clearValue 15 = .ok (.imul, 1) := by decide +kernel
theorem dX9_clearValue_16 : decode cX9_clearValue 16 = .ok (.bipush 6, 2) := by decide +kernel
theorem dX9_clearValue_18 : decode cX9_clearValue 18 = .ok (.iload_n 2, 1) := by decide +kernel
theorem dX9_clearValue_19 : decode cX9_clearValue 19 = .ok (.imul, 1) := by decide +kernel
theorem dX9_clearValue_20 : decode cX9_clearValue 20 = .ok (.iadd, 1) := by decide +kernel
theorem dX9_clearValue_21 : decode cX9_clearValue 21 = .ok (.iload_n 3, 1) := by decide +kernel
theorem dX9_clearValue_22 : decode cX9_clearValue 22 = .ok (.iadd, 1) := by decide +kernel
theorem dX9_clearValue_23 : decode cX9_clearValue 23 = .ok (.istore 4, 2) := by decide +kernel
theorem dX9_clearValue_25 : decode cX9_clearValue 25 = .ok (.aload_n 0, 1) := by decide +kernel
theorem dX9_clearValue_26 : decode cX9_clearValue 26 = .ok (.getfield 20, 3) := by decide +kernel
theorem dX9_clearValue_29 : decode cX9_clearValue 29 = .ok (.iload 4, 2) := by decide +kernel
theorem dX9_clearValue_31 : decode cX9_clearValue 31 = .ok (.baload, 1) := by decide +kernel
theorem dX9_clearValue_32 : decode cX9_clearValue 32 = .ok (.ifCond .ne 6, 3) := by decide +kernel
theorem dX9_clearValue_35 : decode cX9_clearValue 35 = .ok (.bipush (-4), 2) := by decide +kernel
theorem dX9_clearValue_37 : decode cX9_clearValue 37 = .ok (.ireturn, 1) := by decide +kernel
theorem dX9_clearValue_38 : decode cX9_clearValue 38 = .ok (.aload_n 0, 1) := by decide +kernel
theorem dX9_clearValue_39 : decode cX9_clearValue 39 = .ok (.getfield 20, 3) := by decide +kernel
theorem dX9_clearValue_42 : decode cX9_clearValue 42 = .ok (.iload 4, 2) := by decide +kernel
theorem dX9_clearValue_44 : decode cX9_clearValue 44 = .ok (.iconst 0, 1) := by decide +kernel
theorem dX9_clearValue_45 : decode cX9_clearValue 45 = .ok (.bastore, 1) := by decide +kernel
theorem dX9_clearValue_46 : decode cX9_clearValue 46 = .ok (.aload_n 0, 1) := by decide +kernel
theorem dX9_clearValue_47 : decode cX9_clearValue 47 = .ok (.aload_n 0, 1) := by decide +kernel
theorem dX9_clearValue_48 : decode cX9_clearValue 48 = .ok (.getfield 23, 3) := by decide +kernel
theorem dX9_clearValue_51 : decode cX9_clearValue 51 = .ok (.iload 4, 2) := by decide +kernel
theorem dX9_clearValue_53 : decode cX9_clearValue 53 = .ok (.iaload, 1) := by decide +kernel
theorem dX9_clearValue_54 : decode cX9_clearValue 54 = .ok (.invokevirtual 184, 3) := by decide +kernel
theorem dX9_clearValue_57 : decode cX9_clearValue 57 = .ok (.ireturn, 1) := by decide +kernel
set_option maxRecDepth 20000 in
theorem ggX9_value_X9_there : GoodIn wsX9_value wsX9_there := goodIn_r _ [7, 8, 9, 10, 6, 11, 27, 28, 29, 30, 31, 32, 33, 34, 35, 36, 37, 38, 39, 40, 41, 42, 43, 44, 45, 46, 47, 48, 49, 50, 51, 52, 53, 54] (by decide +kernel) (by decide +kernel)
set_option maxRecDepth 20000 in
theorem gX9_value_X9_there : GoodIn wsX9_value (wsV RX9 187 RX9 yX9_there wsX9_there) := goodIn_app (goodIn_of _ (by decide +kernel)) ggX9_value_X9_there
set_option maxRecDepth 20000 in
theorem ggX9_value_X9_in : GoodIn wsX9_value wsX9_in := goodIn_r _ [11] (by decide +kernel) (by decide +kernel)
set_option maxRecDepth 20000 in
theorem gX9_value_X9_in : GoodIn wsX9_value (va_wsS RX9 85 yX9_in wsX9_in) := goodIn_app (goodIn_of _ (by decide +kernel)) ggX9_value_X9_in
set_option maxRecDepth 20000 in
theorem ggX9_value_X9_valueOr : GoodIn wsX9_value wsX9_valueOr := goodIn_r _ [15, 16, 17, 18, 19, 6, 20, 21, 22, 27, 28, 29, 30, 31, 32, 33, 34, 35, 36, 37, 38, 39, 40, 41, 42, 43, 44, 45, 46, 47, 48, 49, 50, 51, 52, 53, 54] (by decide +kernel) (by decide +kernel)
set_option maxRecDepth 20000 in
theorem gX9_value_X9_valueOr : GoodIn wsX9_value (wsV RX9 93 RX9 yX9_valueOr wsX9_valueOr) := goodIn_app (goodIn_of _ (by decide +kernel)) ggX9_value_X9_valueOr
set_option maxRecDepth 20000 in
theorem ggX9_value_X9_tags : GoodIn wsX9_value wsX9_tags := goodIn_r _ [26, 21, 16, 27, 28, 29, 30, 31, 32, 33, 34, 35, 36, 37, 38, 39, 40, 41, 42, 43, 44, 45, 46, 47, 48, 49, 50, 51, 52, 53, 54] (by decide +kernel) (by decide +kernel)
set_option maxRecDepth 20000 in
theorem gX9_value_X9_tags : GoodIn wsX9_value (wsV RX9 146 RX9 yX9_tags wsX9_tags) := goodIn_app (goodIn_of _ (by decide +kernel)) ggX9_value_X9_tags
theorem dX9_value_0 : decode cX9_value 0 = .ok (.aload_n 0, 1) := by decide +kernel
theorem dX9_value_1 : decode cX9_value 1 = .ok (.iload_n 1, 1) := by decide +kernel
theorem dX9_value_2 : decode cX9_value 2 = .ok (.invokevirtual 187, 3) := by decide +kernel
theorem dX9_value_5 : decode cX9_value 5 = .ok (.ifCond .eq 13, 3) := by decide +kernel
theorem dX9_value_8 : decode cX9_value 8 = .ok (.iload_n 2, 1) := by decide +kernel
theorem dX9_value_9 : decode cX9_value 9 = .ok (.iconst 0, 1) := by decide +kernel
theorem dX9_value_10 : decode cX9_value 10 = .ok (.bipush 7, 2) := by decide +kernel
theorem dX9_value_12 : decode cX9_value 12 = .ok (.invokestatic 85, 3) := by decide +kernel
theorem dX9_value_15 : decode cX9_value 15 = .ok (.ifCond .ne 5, 3) := by decide +kernel
theorem dX9_value_18 : decode cX9_value 18 = .ok (.iconst (-1), 1) := by decide +kernel
theorem dX9_value_19 : decode cX9_value 19 = .ok (.ireturn, 1) := by decide +kernel
theorem dX9_value_20 : decode cX9_value 20 = .ok (.iload_n 2, 1) := by decide +kernel
theorem dX9_value_21 : decode cX9_value 21 = .ok (.iconst 5, 1) := by decide +kernel
theorem dX9_value_22 : decode cX9_value 22 = .ok (.if_icmp .ge 14, 3) := by decide +kernel
theorem dX9_value_25 : decode cX9_value 25 = .ok (.aload_n 0, 1) := by decide +kernel
theorem dX9_value_26 : decode cX9_value 26 = .ok (.iload_n 1, 1) := by decide +kernel
theorem dX9_value_27 : decode cX9_value 27 = .ok (.iload_n 2, 1) := by decide +kernel
theorem dX9_value_28 : decode cX9_value 28 = .ok (.bipush (-4), 2) := by decide +kernel
theorem dX9_value_30 : decode cX9_value 30 = .ok (.invokevirtual 93, 3) := by decide +kernel
theorem dX9_value_33 : decode cX9_value 33 = .ok (.goto 37, 3) := by decide +kernel
theorem dX9_value_36 : decode cX9_value 36 = .ok (.iload_n 2, 1) := by decide +kernel
theorem dX9_value_37 : decode cX9_value 37 = .ok (.iconst 5, 1) := by decide +kernel
theorem dX9_value_38 : decode cX9_value 38 = .ok (.if_icmp .ne 11, 3) := by decide +kernel
theorem dX9_value_41 : decode cX9_value 41 = .ok (.aload_n 0, 1) := by decide +kernel
theorem dX9_value_42 : decode cX9_value 42 = .ok (.iload_n 1, 1) := by decide +kernel
theorem dX9_value_43 : decode cX9_value 43 = .ok (.invokevirtual 146, 3) := by decide +kernel
theorem dX9_value_46 : decode cX9_value 46 = .ok (.goto 24, 3) := by decide +kernel
theorem dX9_value_49 : decode cX9_value 49 = .ok (.iload_n 2, 1) := by decide +kernel
theorem dX9_value_50 : decode cX9_value 50 = .ok (.bipush 6, 2) := by decide +kernel
theorem dX9_value_52 : decode cX9_value 52 = .ok (.if_icmp .ne 12, 3) := by decide +kernel
theorem dX9_value_55 : decode cX9_value 55 = .ok (.aload_n 0, 1) := by decide +kernel
theorem dX9_value_56 : decode cX9_value 56 = .ok (.getfield 13, 3) := by decide +kernel
theorem dX9_value_59 : decode cX9_value 59 = .ok (.iload_n 1, 1) := by decide +kernel
theorem dX9_value_60 : decode cX9_value 60 = .ok (.iaload, 1) := by decide +kernel
theorem dX9_value_61 : decode cX9_value 61 = .ok (.goto 9, 3) := by decide +kernel
theorem dX9_value_64 : decode cX9_value 64 = .ok (.aload_n 0, 1) := by decide +kernel
theorem dX9_value_65 : decode cX9_value 65 = .ok (.getfield 17, 3) := by decide +kernel
theorem dX9_value_68 : decode cX9_value 68 = .ok (.iload_n 1, 1) := by decide +kernel
theorem dX9_value_69 : decode cX9_value 69 = .ok (.iaload, 1) := by decide +kernel
theorem dX9_value_70 : decode cX9_value 70 = .ok (.ireturn, 1) := by decide +kernel
set_option maxRecDepth 20000 in
theorem ggX9_sourceOf_X9_there : GoodIn wsX9_sourceOf wsX9_there := goodIn_r _ [5, 6, 7, 8, 4, 9, 16, 17, 18, 19, 20, 21, 22, 23, 24, 25, 26, 27, 28, 29, 30, 31, 32, 33, 34, 35, 36, 37, 38, 39, 40, 41, 42, 43] (by decide +kernel) (by decide +kernel)
set_option maxRecDepth 20000 in
theorem gX9_sourceOf_X9_there : GoodIn wsX9_sourceOf (wsV RX9 187 RX9 yX9_there wsX9_there) := goodIn_app (goodIn_of _ (by decide +kernel)) ggX9_sourceOf_X9_there
set_option maxRecDepth 20000 in
theorem ggX9_sourceOf_X9_in : GoodIn wsX9_sourceOf wsX9_in := goodIn_r _ [9] (by decide +kernel) (by decide +kernel)
set_option maxRecDepth 20000 in
theorem gX9_sourceOf_X9_in : GoodIn wsX9_sourceOf (va_wsS RX9 85 yX9_in wsX9_in) := goodIn_app (goodIn_of _ (by decide +kernel)) ggX9_sourceOf_X9_in
set_option maxRecDepth 20000 in
theorem ggX9_sourceOf_X9_source : GoodIn wsX9_sourceOf wsX9_source := goodIn_r _ [13, 14, 15, 16, 17, 18, 19, 20, 21, 22, 23, 24, 25, 26, 27, 28, 29, 30, 31, 32, 33, 34, 35, 36, 37, 38, 39, 40, 41, 42, 43] (by decide +kernel) (by decide +kernel)
set_option maxRecDepth 20000 in
theorem gX9_sourceOf_X9_source : GoodIn wsX9_sourceOf (wsV RX9 89 RX9 yX9_source wsX9_source) := goodIn_app (goodIn_of _ (by decide +kernel)) ggX9_sourceOf_X9_source
theorem dX9_sourceOf_0 : decode cX9_sourceOf 0 = .ok (.aload_n 0, 1) := by decide +kernel
theorem dX9_sourceOf_1 : decode cX9_sourceOf 1 = .ok (.iload_n 1, 1) := by decide +kernel
theorem dX9_sourceOf_2 : decode cX9_sourceOf 2 = .ok (.invokevirtual 187, 3) := by decide +kernel
theorem dX9_sourceOf_5 : decode cX9_sourceOf 5 = .ok (.ifCond .eq 21, 3) := by decide +kernel
theorem dX9_sourceOf_8 : decode cX9_sourceOf 8 = .ok (.iload_n 2, 1) := by decide +kernel
theorem dX9_sourceOf_9 : decode cX9_sourceOf 9 = .ok (.iconst 0, 1) := by decide +kernel
theorem dX9_sourceOf_10 : decode cX9_sourceOf 10 = .ok (.iconst 4, 1) := by decide +kernel
theorem dX9_sourceOf_11 : decode cX9_sourceOf 11 = .ok (.invokestatic 85, 3) := by decide +kernel
theorem dX9_sourceOf_14 : decode cX9_sourceOf 14 = .ok (.ifCond .eq 12, 3) := by decide +kernel
theorem dX9_sourceOf_17 : decode cX9_sourceOf 17 = .ok (.aload_n 0, 1) := by decide +kernel
theorem dX9_sourceOf_18 : decode cX9_sourceOf 18 = .ok (.iload_n 1, 1) := by decide +kernel
theorem dX9_sourceOf_19 : decode cX9_sourceOf 19 = .ok (.iload_n 2, 1) := by decide +kernel
theorem dX9_sourceOf_20 : decode cX9_sourceOf 20 = .ok (.invokevirtual 89, 3) := by decide +kernel
theorem dX9_sourceOf_23 : decode cX9_sourceOf 23 = .ok (.goto 4, 3) := by decide +kernel
theorem dX9_sourceOf_26 : decode cX9_sourceOf 26 = .ok (.iconst (-1), 1) := by decide +kernel
theorem dX9_sourceOf_27 : decode cX9_sourceOf 27 = .ok (.ireturn, 1) := by decide +kernel
set_option maxRecDepth 20000 in
theorem ggX9_setOrder_X9_in : GoodIn wsX9_setOrder wsX9_in := goodIn_r _ [5] (by decide +kernel) (by decide +kernel)
set_option maxRecDepth 20000 in
theorem gX9_setOrder_X9_in : GoodIn wsX9_setOrder (va_wsS RX9 85 yX9_in wsX9_in) := goodIn_app (goodIn_of _ (by decide +kernel)) ggX9_setOrder_X9_in
set_option maxRecDepth 20000 in
theorem ggX9_setOrder_X9_settled : GoodIn wsX9_setOrder wsX9_settled := goodIn_r _ [9, 10, 11, 12, 4, 13, 14, 15, 16, 17, 18, 19, 20, 21, 22, 23, 24, 25, 26, 27, 28, 29, 30, 31, 32, 33, 34, 35, 36, 37, 38, 39, 40, 41, 42, 43, 44, 45, 46, 47, 48, 49, 50, 51, 52, 1, 53, 54, 55, 56, 57, 58, 59, 60, 61, 62, 63, 64, 65, 66, 67, 68, 69, 70, 71, 72, 73, 74, 75, 76, 77, 78, 79, 80, 81, 82, 83, 84, 85, 86, 87, 88, 89, 90, 91, 92, 93, 94, 95, 96, 97, 98, 99, 100, 101, 102, 103, 104, 105, 106, 107, 108, 109, 110, 111, 112, 113, 114, 115, 116, 117, 118, 119, 120, 121, 122, 123, 124, 125, 126, 127, 128] (by decide +kernel) (by decide +kernel)
set_option maxRecDepth 20000 in
theorem gX9_setOrder_X9_settled : GoodIn wsX9_setOrder (wsV RX9 184 RX9 yX9_settled wsX9_settled) := goodIn_app (goodIn_of _ (by decide +kernel)) ggX9_setOrder_X9_settled
theorem dX9_setOrder_0 : decode cX9_setOrder 0 = .ok (.iload_n 1, 1) := by decide +kernel
theorem dX9_setOrder_1 : decode cX9_setOrder 1 = .ok (.iconst 0, 1) := by decide +kernel
theorem dX9_setOrder_2 : decode cX9_setOrder 2 = .ok (.iconst 2, 1) := by decide +kernel
theorem dX9_setOrder_3 : decode cX9_setOrder 3 = .ok (.invokestatic 85, 3) := by decide +kernel
theorem dX9_setOrder_6 : decode cX9_setOrder 6 = .ok (.ifCond .eq 25, 3) := by decide +kernel
theorem dX9_setOrder_9 : decode cX9_setOrder 9 = .ok (.iload_n 2, 1) := by decide +kernel
theorem dX9_setOrder_10 : decode cX9_setOrder 10 = .ok (.iconst 0, 1) := by decide +kernel
theorem dX9_setOrder_11 : decode cX9_setOrder 11 = .ok (.iconst 2, 1) := by decide +kernel
theorem dX9_setOrder_12 : decode cX9_setOrder 12 = .ok (.invokestatic 85, 3) := by decide +kernel
theorem dX9_setOrder_15 : decode cX9_setOrder 15 = .ok (.ifCond .eq 16, 3) := by decide +kernel
theorem dX9_setOrder_18 : decode cX9_setOrder 18 = .ok (.iload_n 3, 1) := by decide +kernel
theorem dX9_setOrder_19 : decode cX9_setOrder 19 = .ok (.iconst 0, 1) := by decide +kernel
theorem dX9_setOrder_20 : decode cX9_setOrder 20 = .ok (.iconst 2, 1) := by decide +kernel
theorem dX9_setOrder_21 : decode cX9_setOrder 21 = .ok (.invokestatic 85, 3) := by decide +kernel
theorem dX9_setOrder_24 : decode cX9_setOrder 24 = .ok (.ifCond .eq 7, 3) := by decide +kernel
theorem dX9_setOrder_27 : decode cX9_setOrder 27 = .ok (.iconst 1, 1) := by decide +kernel
theorem dX9_setOrder_28 : decode cX9_setOrder 28 = .ok (.goto 4, 3) := by decide +kernel
theorem dX9_setOrder_31 : decode cX9_setOrder 31 = .ok (.iconst 0, 1) := by decide +kernel
theorem dX9_setOrder_32 : decode cX9_setOrder 32 = .ok (.istore 4, 2) := by decide +kernel
theorem dX9_setOrder_34 : decode cX9_setOrder 34 = .ok (.iload 4, 2) := by decide +kernel
theorem dX9_setOrder_36 : decode cX9_setOrder 36 = .ok (.ifCond .eq 18, 3) := by decide +kernel
theorem dX9_setOrder_39 : decode cX9_setOrder 39 = .ok (.iload_n 1, 1) := by decide +kernel
theorem dX9_setOrder_40 : decode cX9_setOrder 40 = .ok (.iload_n 2, 1) := by decide +kernel
theorem dX9_setOrder_41 : decode cX9_setOrder 41 = .ok (.if_icmp .eq 13, 3) := by decide +kernel
theorem dX9_setOrder_44 : decode cX9_setOrder 44 = .ok (.iload_n 1, 1) := by decide +kernel
theorem dX9_setOrder_45 : decode cX9_setOrder 45 = .ok (.iload_n 3, 1) := by decide +kernel
theorem dX9_setOrder_46 : decode cX9_setOrder 46 = .ok (.if_icmp .eq 8, 3) := by decide +kernel
theorem dX9_setOrder_49 : decode cX9_setOrder 49 = .ok (.iload_n 2, 1) := by decide +kernel
theorem dX9_setOrder_50 : decode cX9_setOrder 50 = .ok (.iload_n 3, 1) := by decide +kernel
theorem dX9_setOrder_51 : decode cX9_setOrder 51 = .ok (.if_icmp .ne 5, 3) := by decide +kernel
theorem dX9_setOrder_54 : decode cX9_setOrder 54 = .ok (.iconst (-1), 1) := by decide +kernel
theorem dX9_setOrder_55 : decode cX9_setOrder 55 = .ok (.ireturn, 1) := by decide +kernel
theorem dX9_setOrder_56 : decode cX9_setOrder 56 = .ok (.bipush 100, 2) := by decide +kernel
theorem dX9_setOrder_58 : decode cX9_setOrder 58 = .ok (.aload_n 0, 1) := by decide +kernel
theorem dX9_setOrder_59 : decode cX9_setOrder 59 = .ok (.getfield 26, 3) := by decide +kernel
theorem dX9_setOrder_62 : decode cX9_setOrder 62 = .ok (.iconst 0, 1) := by decide +kernel
theorem dX9_setOrder_63 : decode cX9_setOrder 63 = .ok (.iaload, 1) := by decide +kernel
theorem dX9_setOrder_64 : decode cX9_setOrder 64 = .ok (.imul, 1) := by decide +kernel
theorem dX9_setOrder_65 : decode cX9_setOrder 65 = .ok (.bipush 10, 2) := by decide +kernel
theorem dX9_setOrder_67 : decode cX9_setOrder 67 = .ok (.aload_n 0, 1) := by decide +kernel
theorem dX9_setOrder_68 : decode cX9_setOrder 68 = .ok (.getfield 26, 3) := by decide +kernel
theorem dX9_setOrder_71 : decode cX9_setOrder 71 = .ok (.iconst 1, 1) := by decide +kernel
theorem dX9_setOrder_72 : decode cX9_setOrder 72 = .ok (.iaload, 1) := by decide +kernel
theorem dX9_setOrder_73 : decode cX9_setOrder 73 = .ok (.imul, 1) := by decide +kernel
theorem dX9_setOrder_74 : decode cX9_setOrder 74 = .ok (.iadd, 1) := by decide +kernel
theorem dX9_setOrder_75 : decode cX9_setOrder 75 = .ok (.aload_n 0, 1) := by decide +kernel
theorem dX9_setOrder_76 : decode cX9_setOrder 76 = .ok (.getfield 26, 3) := by decide +kernel
theorem dX9_setOrder_79 : decode cX9_setOrder 79 = .ok (.iconst 2, 1) := by decide +kernel
theorem dX9_setOrder_80 : decode cX9_setOrder 80 = .ok (.iaload, 1) := by decide +kernel
theorem dX9_setOrder_81 : decode cX9_setOrder 81 = .ok (.iadd, 1) := by decide +kernel
theorem dX9_setOrder_82 : decode cX9_setOrder 82 = .ok (.istore 5, 2) := by decide +kernel
theorem dX9_setOrder_84 : decode cX9_setOrder 84 = .ok (.aload_n 0, 1) := by decide +kernel
theorem dX9_setOrder_85 : decode cX9_setOrder 85 = .ok (.getfield 26, 3) := by decide +kernel
theorem dX9_setOrder_88 : decode cX9_setOrder 88 = .ok (.iconst 0, 1) := by decide +kernel
theorem dX9_setOrder_89 : decode cX9_setOrder 89 = .ok (.iload_n 1, 1) := by decide +kernel
theorem dX9_setOrder_90 : decode cX9_setOrder 90 = .ok (.iastore, 1) := by decide +kernel
theorem dX9_setOrder_91 : decode cX9_setOrder 91 = .ok (.aload_n 0, 1) := by decide +kernel
theorem dX9_setOrder_92 : decode cX9_setOrder 92 = .ok (.getfield 26, 3) := by decide +kernel
theorem dX9_setOrder_95 : decode cX9_setOrder 95 = .ok (.iconst 1, 1) := by decide +kernel
theorem dX9_setOrder_96 : decode cX9_setOrder 96 = .ok (.iload_n 2, 1) := by decide +kernel
theorem dX9_setOrder_97 : decode cX9_setOrder 97 = .ok (.iastore, 1) := by decide +kernel
theorem dX9_setOrder_98 : decode cX9_setOrder 98 = .ok (.aload_n 0, 1) := by decide +kernel
theorem dX9_setOrder_99 : decode cX9_setOrder 99 = .ok (.getfield 26, 3) := by decide +kernel
theorem dX9_setOrder_102 : decode cX9_setOrder 102 = .ok (.iconst 2, 1) := by decide +kernel
theorem dX9_setOrder_103 : decode cX9_setOrder 103 = .ok (.iload_n 3, 1) := by decide +kernel
theorem dX9_setOrder_104 : decode cX9_setOrder 104 = .ok (.iastore, 1) := by decide +kernel
theorem dX9_setOrder_105 : decode cX9_setOrder 105 = .ok (.aload_n 0, 1) := by decide +kernel
theorem dX9_setOrder_106 : decode cX9_setOrder 106 = .ok (.iload 5, 2) := by decide +kernel
theorem dX9_setOrder_108 : decode cX9_setOrder 108 = .ok (.invokevirtual 184, 3) := by decide +kernel
theorem dX9_setOrder_111 : decode cX9_setOrder 111 = .ok (.ireturn, 1) := by decide +kernel
set_option maxRecDepth 20000 in
theorem ggX9_keeperOf_X9_there : GoodIn wsX9_keeperOf wsX9_there := goodIn_r _ [5, 6, 7, 8, 4, 9, 30, 31, 32, 33, 34, 35, 36, 37, 38, 39, 40, 41, 42, 43, 44, 45, 46, 47, 48, 49, 50, 51, 52, 53, 54, 55, 56, 57] (by decide +kernel) (by decide +kernel)
set_option maxRecDepth 20000 in
theorem gX9_keeperOf_X9_there : GoodIn wsX9_keeperOf (wsV RX9 187 RX9 yX9_there wsX9_there) := goodIn_app (goodIn_of _ (by decide +kernel)) ggX9_keeperOf_X9_there
set_option maxRecDepth 20000 in
theorem ggX9_keeperOf_X9_keeper : GoodIn wsX9_keeperOf wsX9_keeper := goodIn_r _ [13, 6, 14, 15, 16, 17, 4, 18, 19, 20, 21, 22, 23, 24, 25, 26, 27, 28, 29, 30, 31, 32, 33, 34, 35, 36, 37, 38, 39, 40, 41, 42, 43, 44, 45, 46, 47, 48, 49, 50, 51, 52, 53, 54, 55, 56, 57] (by decide +kernel) (by decide +kernel)
set_option maxRecDepth 20000 in
theorem gX9_keeperOf_X9_keeper : GoodIn wsX9_keeperOf (wsV RX9 137 RX9 yX9_keeper wsX9_keeper) := goodIn_app (goodIn_of _ (by decide +kernel)) ggX9_keeperOf_X9_keeper
theorem dX9_keeperOf_0 : decode cX9_keeperOf 0 = .ok (.aload_n 0, 1) := by decide +kernel
theorem dX9_keeperOf_1 : decode cX9_keeperOf 1 = .ok (.iload_n 1, 1) := by decide +kernel
theorem dX9_keeperOf_2 : decode cX9_keeperOf 2 = .ok (.invokevirtual 187, 3) := by decide +kernel
theorem dX9_keeperOf_5 : decode cX9_keeperOf 5 = .ok (.ifCond .eq 11, 3) := by decide +kernel
theorem dX9_keeperOf_8 : decode cX9_keeperOf 8 = .ok (.aload_n 0, 1) := by decide +kernel
theorem dX9_keeperOf_9 : decode cX9_keeperOf 9 = .ok (.iload_n 1, 1) := by decide +kernel
theorem dX9_keeperOf_10 : decode cX9_keeperOf 10 = .ok (.invokevirtual 137, 3) := by decide +kernel
theorem dX9_keeperOf_13 : decode cX9_keeperOf 13 = .ok (.goto 4, 3) := by decide +kernel
theorem dX9_keeperOf_16 : decode cX9_keeperOf 16 = .ok (.iconst (-1), 1) := by decide +kernel
theorem dX9_keeperOf_17 : decode cX9_keeperOf 17 = .ok (.ireturn, 1) := by decide +kernel
set_option maxRecDepth 20000 in
theorem ggX9_groupSize_X9_there : GoodIn wsX9_groupSize wsX9_there := goodIn_r _ [5, 6, 7, 8, 4, 9, 15, 16, 17, 18, 19, 20, 21, 22, 23, 24, 25, 26, 27, 28, 29, 30, 31, 32, 33, 34, 35, 36, 37, 38, 39, 40, 41, 42] (by decide +kernel) (by decide +kernel)
set_option maxRecDepth 20000 in
theorem gX9_groupSize_X9_there : GoodIn wsX9_groupSize (wsV RX9 187 RX9 yX9_there wsX9_there) := goodIn_app (goodIn_of _ (by decide +kernel)) ggX9_groupSize_X9_there
set_option maxRecDepth 20000 in
theorem ggX9_groupSize_X9_group : GoodIn wsX9_groupSize wsX9_group := goodIn_r _ [13, 6, 14, 15, 16, 17, 18, 19, 20, 21, 22, 23, 24, 25, 26, 27, 28, 29, 30, 31, 32, 33, 34, 35, 36, 37, 38, 39, 40, 41, 42] (by decide +kernel) (by decide +kernel)
set_option maxRecDepth 20000 in
theorem gX9_groupSize_X9_group : GoodIn wsX9_groupSize (wsV RX9 134 RX9 yX9_group wsX9_group) := goodIn_app (goodIn_of _ (by decide +kernel)) ggX9_groupSize_X9_group
theorem dX9_groupSize_0 : decode cX9_groupSize 0 = .ok (.aload_n 0, 1) := by decide +kernel
theorem dX9_groupSize_1 : decode cX9_groupSize 1 = .ok (.iload_n 1, 1) := by decide +kernel
theorem dX9_groupSize_2 : decode cX9_groupSize 2 = .ok (.invokevirtual 187, 3) := by decide +kernel
theorem dX9_groupSize_5 : decode cX9_groupSize 5 = .ok (.ifCond .eq 11, 3) := by decide +kernel
theorem dX9_groupSize_8 : decode cX9_groupSize 8 = .ok (.aload_n 0, 1) := by decide +kernel
theorem dX9_groupSize_9 : decode cX9_groupSize 9 = .ok (.iload_n 1, 1) := by decide +kernel
theorem dX9_groupSize_10 : decode cX9_groupSize 10 = .ok (.invokevirtual 134, 3) := by decide +kernel
theorem dX9_groupSize_13 : decode cX9_groupSize 13 = .ok (.goto 4, 3) := by decide +kernel
theorem dX9_groupSize_16 : decode cX9_groupSize 16 = .ok (.iconst (-1), 1) := by decide +kernel
theorem dX9_groupSize_17 : decode cX9_groupSize 17 = .ok (.ireturn, 1) := by decide +kernel
set_option maxRecDepth 20000 in
theorem ggX9_wasted_X9_keeper : GoodIn wsX9_wasted wsX9_keeper := goodIn_r _ [7, 1, 8, 9, 10, 11, 6, 12, 13, 14, 15, 16, 17, 18, 19, 20, 21, 22, 23, 24, 25, 26, 27, 28, 29, 30, 31, 32, 33, 34, 35, 36, 37, 38, 39, 40, 41, 42, 43, 44, 45, 46, 47, 48, 49, 50, 51] (by decide +kernel) (by decide +kernel)
set_option maxRecDepth 20000 in
theorem gX9_wasted_X9_keeper : GoodIn wsX9_wasted (wsV RX9 137 RX9 yX9_keeper wsX9_keeper) := goodIn_app (goodIn_of _ (by decide +kernel)) ggX9_wasted_X9_keeper
theorem dX9_wasted_0 : decode cX9_wasted 0 = .ok (.iconst 0, 1) := by decide +kernel
theorem dX9_wasted_1 : decode cX9_wasted 1 = .ok (.istore_n 1, 1) := by decide +kernel
theorem dX9_wasted_2 : decode cX9_wasted 2 = .ok (.iconst 0, 1) := by decide +kernel
theorem dX9_wasted_3 : decode cX9_wasted 3 = .ok (.istore_n 2, 1) := by decide +kernel
theorem dX9_wasted_4 : decode cX9_wasted 4 = .ok (.iload_n 2, 1) := by decide +kernel
theorem dX9_wasted_5 : decode cX9_wasted 5 = .ok (.bipush 40, 2) := by decide +kernel
theorem dX9_wasted_7 : decode cX9_wasted 7 = .ok (.if_icmp .ge 40, 3) := by decide +kernel
theorem dX9_wasted_10 : decode cX9_wasted 10 = .ok (.iload_n 1, 1) := by decide +kernel
theorem dX9_wasted_11 : decode cX9_wasted 11 = .ok (.aload_n 0, 1) := by decide +kernel
theorem dX9_wasted_12 : decode cX9_wasted 12 = .ok (.getfield 7, 3) := by decide +kernel
theorem dX9_wasted_15 : decode cX9_wasted 15 = .ok (.iload_n 2, 1) := by decide +kernel
theorem dX9_wasted_16 : decode cX9_wasted 16 = .ok (.baload, 1) := by decide +kernel
theorem dX9_wasted_17 : decode cX9_wasted 17 = .ok (.ifCond .eq 21, 3) := by decide +kernel
theorem dX9_wasted_20 : decode cX9_wasted 20 = .ok (.aload_n 0, 1) := by decide +kernel
theorem dX9_wasted_21 : decode cX9_wasted 21 = .ok (.iload_n 2, 1) := by decide +kernel
theorem dX9_wasted_22 : decode cX9_wasted 22 = .ok (.invokevirtual 137, 3) := by decide +kernel
theorem dX9_wasted_25 : decode cX9_wasted 25 = .ok (.iload_n 2, 1) := by decide +kernel
theorem dX9_wasted_26 : decode cX9_wasted 26 = .ok (.if_icmp .eq 12, 3) := by decide +kernel
theorem dX9_wasted_29 : decode cX9_wasted 29 = .ok (.aload_n 0, 1) := by decide +kernel
theorem dX9_wasted_30 : decode cX9_wasted 30 = .ok (.getfield 17, 3) := by decide +kernel
theorem dX9_wasted_33 : decode cX9_wasted 33 = .ok (.iload_n 2, 1) := by decide +kernel
theorem dX9_wasted_34 : decode cX9_wasted 34 = .ok (.iaload, 1) := by decide +kernel
theorem dX9_wasted_35 : decode cX9_wasted 35 = .ok (.goto 4, 3) := by decide +kernel
theorem dX9_wasted_38 : decode cX9_wasted 38 = .ok (.iconst 0, 1) := by decide +kernel
theorem dX9_wasted_39 : decode cX9_wasted 39 = .ok (.iadd, 1) := by decide +kernel
theorem dX9_wasted_40 : decode cX9_wasted 40 = .ok (.istore_n 1, 1) := by decide +kernel
theorem dX9_wasted_41 : decode cX9_wasted 41 = .ok (.iinc 2 1, 3) := by decide +kernel
theorem dX9_wasted_44 : decode cX9_wasted 44 = .ok (.goto (-40), 3) := by decide +kernel
theorem dX9_wasted_47 : decode cX9_wasted 47 = .ok (.iload_n 1, 1) := by decide +kernel
theorem dX9_wasted_48 : decode cX9_wasted 48 = .ok (.ireturn, 1) := by decide +kernel
set_option maxRecDepth 20000 in
theorem ggX9_merge_X9_there : GoodIn wsX9_merge wsX9_there := goodIn_r _ [7, 1, 8, 9, 6, 10, 117, 118, 119, 120, 121, 122, 123, 124, 125, 126, 127, 128, 129, 130, 131, 132, 133, 134, 135, 136, 137, 138, 139, 140, 141, 142, 143, 144] (by decide +kernel) (by decide +kernel)
set_option maxRecDepth 20000 in
theorem gX9_merge_X9_there : GoodIn wsX9_merge (wsV RX9 187 RX9 yX9_there wsX9_there) := goodIn_app (goodIn_of _ (by decide +kernel)) ggX9_merge_X9_there
set_option maxRecDepth 20000 in
theorem ggX9_merge_X9_group : GoodIn wsX9_merge wsX9_group := goodIn_r _ [14, 1, 2, 117, 118, 119, 120, 121, 122, 123, 124, 125, 126, 127, 128, 129, 130, 131, 132, 133, 134, 135, 136, 137, 138, 139, 140, 141, 142, 143, 144] (by decide +kernel) (by decide +kernel)
set_option maxRecDepth 20000 in
theorem gX9_merge_X9_group : GoodIn wsX9_merge (wsV RX9 134 RX9 yX9_group wsX9_group) := goodIn_app (goodIn_of _ (by decide +kernel)) ggX9_merge_X9_group
set_option maxRecDepth 20000 in
theorem ggX9_merge_X9_keeper : GoodIn wsX9_merge wsX9_keeper := goodIn_r _ [18, 1, 2, 19, 20, 21, 6, 22, 23, 24, 25, 26, 27, 28, 29, 30, 31, 32, 33, 117, 118, 119, 120, 121, 122, 123, 124, 125, 126, 127, 128, 129, 130, 131, 132, 133, 134, 135, 136, 137, 138, 139, 140, 141, 142, 143, 144] (by decide +kernel) (by decide +kernel)
set_option maxRecDepth 20000 in
theorem gX9_merge_X9_keeper : GoodIn wsX9_merge (wsV RX9 137 RX9 yX9_keeper wsX9_keeper) := goodIn_app (goodIn_of _ (by decide +kernel)) ggX9_merge_X9_keeper
set_option maxRecDepth 20000 in
theorem ggX9_merge_X9_gives : GoodIn wsX9_merge wsX9_gives := goodIn_r _ [37, 32, 27, 117, 118, 119, 120, 121, 122, 123, 124, 125, 126, 127, 128, 129, 130, 131, 132, 133, 134, 135, 136, 137, 138, 139, 140, 141, 142, 143, 144] (by decide +kernel) (by decide +kernel)
set_option maxRecDepth 20000 in
theorem gX9_merge_X9_gives : GoodIn wsX9_merge (wsV RX9 202 RX9 yX9_gives wsX9_gives) := goodIn_app (goodIn_of _ (by decide +kernel)) ggX9_merge_X9_gives
set_option maxRecDepth 20000 in
theorem ggX9_merge_X9_goes : GoodIn wsX9_merge wsX9_goes := goodIn_r _ [41, 1, 42, 43, 44, 6, 45, 46, 47, 48, 49, 117, 118, 119, 120, 121, 122, 123, 124, 125, 126, 127, 128, 129, 130, 131, 132, 133, 134, 135, 136, 137, 138, 139, 140, 141, 142, 143, 144] (by decide +kernel) (by decide +kernel)
set_option maxRecDepth 20000 in
theorem gX9_merge_X9_goes : GoodIn wsX9_merge (wsV RX9 190 RX9 yX9_goes wsX9_goes) := goodIn_app (goodIn_of _ (by decide +kernel)) ggX9_merge_X9_goes
set_option maxRecDepth 20000 in
theorem ggX9_merge_X9_settled : GoodIn wsX9_merge wsX9_settled := goodIn_r _ [53, 54, 55, 56, 6, 57, 58, 1, 59, 60, 61, 62, 63, 64, 65, 66, 67, 68, 69, 70, 71, 72, 73, 74, 75, 76, 77, 78, 79, 80, 81, 82, 83, 84, 85, 86, 87, 88, 89, 90, 28, 29, 30, 31, 32, 33, 91, 92, 93, 94, 95, 96, 97, 23, 24, 25, 26, 27, 98, 99, 100, 101, 102, 103, 104, 105, 46, 106, 107, 108, 109, 49, 47, 48, 11, 12, 13, 14, 2, 15, 16, 17, 18, 19, 20, 21, 22, 110, 111, 112, 113, 114, 115, 116, 117, 118, 119, 120, 121, 122, 123, 124, 125, 126, 127, 128, 129, 130, 131, 132, 133, 134, 135, 136, 137, 138, 139, 140, 141, 142, 143, 144] (by decide +kernel) (by decide +kernel)
set_option maxRecDepth 20000 in
theorem gX9_merge_X9_settled : GoodIn wsX9_merge (wsV RX9 184 RX9 yX9_settled wsX9_settled) := goodIn_app (goodIn_of _ (by decide +kernel)) ggX9_merge_X9_settled
theorem dX9_merge_0 : decode cX9_merge 0 = .ok (.aload_n 0, 1) := by decide +kernel
theorem dX9_merge_1 : decode cX9_merge 1 = .ok (.iload_n 1, 1) := by decide +kernel
theorem dX9_merge_2 : decode cX9_merge 2 = .ok (.invokevirtual 187, 3) := by decide +kernel
theorem dX9_merge_5 : decode cX9_merge 5 = .ok (.ifCond .ne 5, 3) := by decide +kernel
theorem dX9_merge_8 : decode cX9_merge 8 = .ok (.iconst (-1), 1) := by decide +kernel
theorem dX9_merge_9 : decode cX9_merge 9 = .ok (.ireturn, 1) := by decide +kernel
theorem dX9_merge_10 : decode cX9_merge 10 = .ok (.aload_n 0, 1) := by decide +kernel
theorem dX9_merge_11 : decode cX9_merge 11 = .ok (.iload_n 1, 1) := by decide +kernel
theorem dX9_merge_12 : decode cX9_merge 12 = .ok (.invokevirtual 134, 3) := by decide +kernel
theorem dX9_merge_15 : decode cX9_merge 15 = .ok (.istore_n 2, 1) := by decide +kernel
theorem dX9_merge_16 : decode cX9_merge 16 = .ok (.iload_n 2, 1) := by decide +kernel
theorem dX9_merge_17 : decode cX9_merge 17 = .ok (.iconst 1, 1) := by decide +kernel
theorem dX9_merge_18 : decode cX9_merge 18 = .ok (.if_icmp .ne 6, 3) := by decide +kernel
theorem dX9_merge_21 : decode cX9_merge 21 = .ok (.bipush (-2), 2) := by decide +kernel
theorem dX9_merge_23 : decode cX9_merge 23 = .ok (.ireturn, 1) := by decide +kernel
theorem dX9_merge_24 : decode cX9_merge 24 = .ok (.aload_n 0, 1) := by decide +kernel
theorem dX9_merge_25 : decode cX9_merge 25 = .ok (.iload_n 1, 1) := by decide +kernel
theorem dX9_merge_26 : decode cX9_merge 26 = .ok (.invokevirtual 137, 3) := by decide +kernel
theorem dX9_merge_29 : decode cX9_merge 29 = .ok (.istore_n 3, 1) := by decide +kernel
theorem dX9_merge_30 : decode cX9_merge 30 = .ok (.iconst 0, 1) := by decide +kernel
theorem dX9_merge_31 : decode cX9_merge 31 = .ok (.istore 4, 2) := by decide +kernel
theorem dX9_merge_33 : decode cX9_merge 33 = .ok (.iload 4, 2) := by decide +kernel
theorem dX9_merge_35 : decode cX9_merge 35 = .ok (.bipush 40, 2) := by decide +kernel
theorem dX9_merge_37 : decode cX9_merge 37 = .ok (.if_icmp .ge 48, 3) := by decide +kernel
theorem dX9_merge_40 : decode cX9_merge 40 = .ok (.aload_n 0, 1) := by decide +kernel
theorem dX9_merge_41 : decode cX9_merge 41 = .ok (.getfield 7, 3) := by decide +kernel
theorem dX9_merge_44 : decode cX9_merge 44 = .ok (.iload 4, 2) := by decide +kernel
theorem dX9_merge_46 : decode cX9_merge 46 = .ok (.baload, 1) := by decide +kernel
theorem dX9_merge_47 : decode cX9_merge 47 = .ok (.ifCond .eq 32, 3) := by decide +kernel
theorem dX9_merge_50 : decode cX9_merge 50 = .ok (.iload 4, 2) := by decide +kernel
theorem dX9_merge_52 : decode cX9_merge 52 = .ok (.iload_n 3, 1) := by decide +kernel
theorem dX9_merge_53 : decode cX9_merge 53 = .ok (.if_icmp .eq 26, 3) := by decide +kernel
theorem dX9_merge_56 : decode cX9_merge 56 = .ok (.aload_n 0, 1) := by decide +kernel
theorem dX9_merge_57 : decode cX9_merge 57 = .ok (.getfield 13, 3) := by decide +kernel
theorem dX9_merge_60 : decode cX9_merge 60 = .ok (.iload 4, 2) := by decide +kernel
theorem dX9_merge_62 : decode cX9_merge 62 = .ok (.iaload, 1) := by decide +kernel
theorem dX9_merge_63 : decode cX9_merge 63 = .ok (.aload_n 0, 1) := by decide +kernel
theorem dX9_merge_64 : decode cX9_merge 64 = .ok (.getfield 13, 3) := by decide +kernel
theorem dX9_merge_67 : decode cX9_merge 67 = .ok (.iload_n 3, 1) := by decide +kernel
theorem dX9_merge_68 : decode cX9_merge 68 = .ok (.iaload, 1) := by decide +kernel
theorem dX9_merge_69 : decode cX9_merge 69 = .ok (.if_icmp .ne 10, 3) := by decide +kernel
theorem dX9_merge_72 : decode cX9_merge 72 = .ok (.aload_n 0, 1) := by decide +kernel
theorem dX9_merge_73 : decode cX9_merge 73 = .ok (.iload 4, 2) := by decide +kernel
theorem dX9_merge_75 : decode cX9_merge 75 = .ok (.iload_n 3, 1) := by decide +kernel
theorem dX9_merge_76 : decode cX9_merge 76 = .ok (.invokevirtual 202, 3) := by decide +kernel
theorem dX9_merge_79 : decode cX9_merge 79 = .ok (.iinc 4 1, 3) := by decide +kernel
theorem dX9_merge_82 : decode cX9_merge 82 = .ok (.goto (-49), 3) := by decide +kernel
theorem dX9_merge_85 : decode cX9_merge 85 = .ok (.iconst 0, 1) := by decide +kernel
theorem dX9_merge_86 : decode cX9_merge 86 = .ok (.istore 4, 2) := by decide +kernel
theorem dX9_merge_88 : decode cX9_merge 88 = .ok (.iload 4, 2) := by decide +kernel
theorem dX9_merge_90 : decode cX9_merge 90 = .ok (.bipush 40, 2) := by decide +kernel
theorem dX9_merge_92 : decode cX9_merge 92 = .ok (.if_icmp .ge 47, 3) := by decide +kernel
theorem dX9_merge_95 : decode cX9_merge 95 = .ok (.aload_n 0, 1) := by decide +kernel
theorem dX9_merge_96 : decode cX9_merge 96 = .ok (.getfield 7, 3) := by decide +kernel
theorem dX9_merge_99 : decode cX9_merge 99 = .ok (.iload 4, 2) := by decide +kernel
theorem dX9_merge_101 : decode cX9_merge 101 = .ok (.baload, 1) := by decide +kernel
theorem dX9_merge_102 : decode cX9_merge 102 = .ok (.ifCond .eq 31, 3) := by decide +kernel
theorem dX9_merge_105 : decode cX9_merge 105 = .ok (.iload 4, 2) := by decide +kernel
theorem dX9_merge_107 : decode cX9_merge 107 = .ok (.iload_n 3, 1) := by decide +kernel
theorem dX9_merge_108 : decode cX9_merge 108 = .ok (.if_icmp .eq 25, 3) := by decide +kernel
theorem dX9_merge_111 : decode cX9_merge 111 = .ok (.aload_n 0, 1) := by decide +kernel
theorem dX9_merge_112 : decode cX9_merge 112 = .ok (.getfield 13, 3) := by decide +kernel
theorem dX9_merge_115 : decode cX9_merge 115 = .ok (.iload 4, 2) := by decide +kernel
theorem dX9_merge_117 : decode cX9_merge 117 = .ok (.iaload, 1) := by decide +kernel
theorem dX9_merge_118 : decode cX9_merge 118 = .ok (.aload_n 0, 1) := by decide +kernel
theorem dX9_merge_119 : decode cX9_merge 119 = .ok (.getfield 13, 3) := by decide +kernel
theorem dX9_merge_122 : decode cX9_merge 122 = .ok (.iload_n 3, 1) := by decide +kernel
theorem dX9_merge_123 : decode cX9_merge 123 = .ok (.iaload, 1) := by decide +kernel
theorem dX9_merge_124 : decode cX9_merge 124 = .ok (.if_icmp .ne 9, 3) := by decide +kernel
theorem dX9_merge_127 : decode cX9_merge 127 = .ok (.aload_n 0, 1) := by decide +kernel
theorem dX9_merge_128 : decode cX9_merge 128 = .ok (.iload 4, 2) := by decide +kernel
theorem dX9_merge_130 : decode cX9_merge 130 = .ok (.invokevirtual 190, 3) := by decide +kernel
theorem dX9_merge_133 : decode cX9_merge 133 = .ok (.iinc 4 1, 3) := by decide +kernel
theorem dX9_merge_136 : decode cX9_merge 136 = .ok (.goto (-48), 3) := by decide +kernel
theorem dX9_merge_139 : decode cX9_merge 139 = .ok (.aload_n 0, 1) := by decide +kernel
theorem dX9_merge_140 : decode cX9_merge 140 = .ok (.iload_n 2, 1) := by decide +kernel
theorem dX9_merge_141 : decode cX9_merge 141 = .ok (.iconst 1, 1) := by decide +kernel
theorem dX9_merge_142 : decode cX9_merge 142 = .ok (.isub, 1) := by decide +kernel
theorem dX9_merge_143 : decode cX9_merge 143 = .ok (.invokevirtual 184, 3) := by decide +kernel
theorem dX9_merge_146 : decode cX9_merge 146 = .ok (.ireturn, 1) := by decide +kernel
theorem dX9_gives_0 : decode cX9_gives 0 = .ok (.iconst 0, 1) := by decide +kernel
theorem dX9_gives_1 : decode cX9_gives 1 = .ok (.istore_n 3, 1) := by decide +kernel
theorem dX9_gives_2 : decode cX9_gives 2 = .ok (.iload_n 3, 1) := by decide +kernel
theorem dX9_gives_3 : decode cX9_gives 3 = .ok (.bipush 18, 2) := by decide +kernel
theorem dX9_gives_5 : decode cX9_gives 5 = .ok (.if_icmp .ge 103, 3) := by decide +kernel
theorem dX9_gives_8 : decode cX9_gives 8 = .ok (.bipush 18, 2) := by decide +kernel
theorem dX9_gives_10 : decode cX9_gives 10 = .ok (.iload_n 1, 1) := by decide +kernel
theorem dX9_gives_11 : decode cX9_gives 11 = .ok (.imul, 1) := by decide +kernel
theorem dX9_gives_12 : decode cX9_gives 12 = .ok (.iload_n 3, 1) := by decide +kernel
theorem dX9_gives_13 : decode cX9_gives 13 = .ok (.iadd, 1) := by decide +kernel
theorem dX9_gives_14 : decode cX9_gives 14 = .ok (.istore 4, 2) := by decide +kernel
theorem dX9_gives_16 : decode cX9_gives 16 = .ok (.bipush 18, 2) := by decide +kernel
theorem dX9_gives_18 : decode cX9_gives 18 = .ok (.iload_n 2, 1) := by decide +kernel
theorem dX9_gives_19 : decode cX9_gives 19 = .ok (.imul, 1) := by decide +kernel
theorem dX9_gives_20 : decode cX9_gives 20 = .ok (.iload_n 3, 1) := by decide +kernel
theorem dX9_gives_21 : decode cX9_gives 21 = .ok (.iadd, 1) := by decide +kernel
theorem dX9_gives_22 : decode cX9_gives 22 = .ok (.istore 5, 2) := by decide +kernel
theorem dX9_gives_24 : decode cX9_gives 24 = .ok (.aload_n 0, 1) := by decide +kernel
theorem dX9_gives_25 : decode cX9_gives 25 = .ok (.getfield 20, 3) := by decide +kernel
theorem dX9_gives_28 : decode cX9_gives 28 = .ok (.iload 4, 2) := by decide +kernel
theorem dX9_gives_30 : decode cX9_gives 30 = .ok (.baload, 1) := by decide +kernel
theorem dX9_gives_31 : decode cX9_gives 31 = .ok (.ifCond .eq 71, 3) := by decide +kernel
theorem dX9_gives_34 : decode cX9_gives 34 = .ok (.aload_n 0, 1) := by decide +kernel
theorem dX9_gives_35 : decode cX9_gives 35 = .ok (.getfield 23, 3) := by decide +kernel
theorem dX9_gives_38 : decode cX9_gives 38 = .ok (.iload 5, 2) := by decide +kernel
theorem dX9_gives_40 : decode cX9_gives 40 = .ok (.aload_n 0, 1) := by decide +kernel
theorem dX9_gives_41 : decode cX9_gives 41 = .ok (.getfield 20, 3) := by decide +kernel
theorem dX9_gives_44 : decode cX9_gives 44 = .ok (.iload 5, 2) := by decide +kernel
theorem dX9_gives_46 : decode cX9_gives 46 = .ok (.baload, 1) := by decide +kernel
theorem dX9_gives_47 : decode cX9_gives 47 = .ok (.ifCond .ne 13, 3) := by decide +kernel
theorem dX9_gives_50 : decode cX9_gives 50 = .ok (.aload_n 0, 1) := by decide +kernel
theorem dX9_gives_51 : decode cX9_gives 51 = .ok (.getfield 23, 3) := by decide +kernel
theorem dX9_gives_54 : decode cX9_gives 54 = .ok (.iload 4, 2) := by decide +kernel
theorem dX9_gives_56 : decode cX9_gives 56 = .ok (.iaload, 1) := by decide +kernel
theorem dX9_gives_57 : decode cX9_gives 57 = .ok (.goto 36, 3) := by decide +kernel
theorem dX9_gives_60 : decode cX9_gives 60 = .ok (.iload_n 3, 1) := by decide +kernel
theorem dX9_gives_61 : decode cX9_gives 61 = .ok (.bipush 6, 2) := by decide +kernel
theorem dX9_gives_63 : decode cX9_gives 63 = .ok (.irem, 1) := by decide +kernel
theorem dX9_gives_64 : decode cX9_gives 64 = .ok (.iconst 5, 1) := by decide +kernel
theorem dX9_gives_65 : decode cX9_gives 65 = .ok (.if_icmp .ne 21, 3) := by decide +kernel
theorem dX9_gives_68 : decode cX9_gives 68 = .ok (.aload_n 0, 1) := by decide +kernel
theorem dX9_gives_69 : decode cX9_gives 69 = .ok (.getfield 23, 3) := by decide +kernel
theorem dX9_gives_72 : decode cX9_gives 72 = .ok (.iload 5, 2) := by decide +kernel
theorem dX9_gives_74 : decode cX9_gives 74 = .ok (.iaload, 1) := by decide +kernel
theorem dX9_gives_75 : decode cX9_gives 75 = .ok (.aload_n 0, 1) := by decide +kernel
theorem dX9_gives_76 : decode cX9_gives 76 = .ok (.getfield 23, 3) := by decide +kernel
theorem dX9_gives_79 : decode cX9_gives 79 = .ok (.iload 4, 2) := by decide +kernel
theorem dX9_gives_81 : decode cX9_gives 81 = .ok (.iaload, 1) := by decide +kernel
theorem dX9_gives_82 : decode cX9_gives 82 = .ok (.ior, 1) := by decide +kernel
theorem dX9_gives_83 : decode cX9_gives 83 = .ok (.goto 10, 3) := by decide +kernel
theorem dX9_gives_86 : decode cX9_gives 86 = .ok (.aload_n 0, 1) := by decide +kernel
theorem dX9_gives_87 : decode cX9_gives 87 = .ok (.getfield 23, 3) := by decide +kernel
theorem dX9_gives_90 : decode cX9_gives 90 = .ok (.iload 5, 2) := by decide +kernel
theorem dX9_gives_92 : decode cX9_gives 92 = .ok (.iaload, 1) := by decide +kernel
theorem dX9_gives_93 : decode cX9_gives 93 = .ok (.iastore, 1) := by decide +kernel
theorem dX9_gives_94 : decode cX9_gives 94 = .ok (.aload_n 0, 1) := by decide +kernel
theorem dX9_gives_95 : decode cX9_gives 95 = .ok (.getfield 20, 3) := by decide +kernel
theorem dX9_gives_98 : decode cX9_gives 98 = .ok (.iload 5, 2) := by decide +kernel
theorem dX9_gives_100 : decode cX9_gives 100 = .ok (.iconst 1, 1) := by decide +kernel
theorem dX9_gives_101 : decode cX9_gives 101 = .ok (.bastore, 1) := by decide +kernel
theorem dX9_gives_102 : decode cX9_gives 102 = .ok (.iinc 3 1, 3) := by decide +kernel
theorem dX9_gives_105 : decode cX9_gives 105 = .ok (.goto (-103), 3) := by decide +kernel
theorem dX9_gives_108 : decode cX9_gives 108 = .ok (.return_, 1) := by decide +kernel
set_option maxRecDepth 20000 in
theorem ggX9_stack_X9_there : GoodIn wsX9_stack wsX9_there := goodIn_r _ [10, 11, 12, 13, 9, 14, 106, 107, 108, 109, 110, 111, 112, 113, 114, 115, 116, 117, 118, 119, 120, 121, 122, 123, 124, 125, 126, 127, 128, 129, 130, 131, 132, 133] (by decide +kernel) (by decide +kernel)
set_option maxRecDepth 20000 in
theorem gX9_stack_X9_there : GoodIn wsX9_stack (wsV RX9 187 RX9 yX9_there wsX9_there) := goodIn_app (goodIn_of _ (by decide +kernel)) ggX9_stack_X9_there
set_option maxRecDepth 20000 in
theorem ggX9_stack_X9_settled : GoodIn wsX9_stack wsX9_settled := goodIn_r _ [18, 19, 20, 21, 9, 22, 23, 11, 24, 25, 26, 27, 28, 29, 30, 31, 32, 33, 34, 35, 36, 37, 38, 39, 40, 41, 42, 43, 44, 45, 46, 47, 48, 49, 50, 51, 52, 53, 54, 55, 56, 57, 58, 59, 60, 61, 62, 63, 64, 65, 66, 67, 68, 69, 70, 71, 72, 73, 74, 75, 76, 77, 78, 79, 80, 81, 1, 82, 83, 84, 85, 4, 3, 2, 86, 87, 88, 89, 90, 91, 92, 93, 94, 95, 96, 97, 98, 99, 100, 101, 102, 103, 104, 105, 106, 107, 108, 109, 110, 111, 112, 113, 114, 115, 116, 117, 118, 119, 120, 121, 122, 123, 124, 125, 126, 127, 128, 129, 130, 131, 132, 133] (by decide +kernel) (by decide +kernel)
set_option maxRecDepth 20000 in
theorem gX9_stack_X9_settled : GoodIn wsX9_stack (wsV RX9 184 RX9 yX9_settled wsX9_settled) := goodIn_app (goodIn_of _ (by decide +kernel)) ggX9_stack_X9_settled
theorem dX9_stack_0 : decode cX9_stack 0 = .ok (.aload_n 0, 1) := by decide +kernel
theorem dX9_stack_1 : decode cX9_stack 1 = .ok (.iload_n 1, 1) := by decide +kernel
theorem dX9_stack_2 : decode cX9_stack 2 = .ok (.invokevirtual 187, 3) := by decide +kernel
theorem dX9_stack_5 : decode cX9_stack 5 = .ok (.ifCond .eq 16, 3) := by decide +kernel
theorem dX9_stack_8 : decode cX9_stack 8 = .ok (.aload_n 0, 1) := by decide +kernel
theorem dX9_stack_9 : decode cX9_stack 9 = .ok (.iload_n 2, 1) := by decide +kernel
theorem dX9_stack_10 : decode cX9_stack 10 = .ok (.invokevirtual 187, 3) := by decide +kernel
theorem dX9_stack_13 : decode cX9_stack 13 = .ok (.ifCond .eq 8, 3) := by decide +kernel
theorem dX9_stack_16 : decode cX9_stack 16 = .ok (.iload_n 1, 1) := by decide +kernel
theorem dX9_stack_17 : decode cX9_stack 17 = .ok (.iload_n 2, 1) := by decide +kernel
theorem dX9_stack_18 : decode cX9_stack 18 = .ok (.if_icmp .ne 5, 3) := by decide +kernel
theorem dX9_stack_21 : decode cX9_stack 21 = .ok (.iconst (-1), 1) := by decide +kernel
theorem dX9_stack_22 : decode cX9_stack 22 = .ok (.ireturn, 1) := by decide +kernel
theorem dX9_stack_23 : decode cX9_stack 23 = .ok (.aload_n 0, 1) := by decide +kernel
theorem dX9_stack_24 : decode cX9_stack 24 = .ok (.getfield 29, 3) := by decide +kernel
theorem dX9_stack_27 : decode cX9_stack 27 = .ok (.iload_n 1, 1) := by decide +kernel
theorem dX9_stack_28 : decode cX9_stack 28 = .ok (.iaload, 1) := by decide +kernel
theorem dX9_stack_29 : decode cX9_stack 29 = .ok (.ifCond .ge 12, 3) := by decide +kernel
theorem dX9_stack_32 : decode cX9_stack 32 = .ok (.aload_n 0, 1) := by decide +kernel
theorem dX9_stack_33 : decode cX9_stack 33 = .ok (.getfield 29, 3) := by decide +kernel
theorem dX9_stack_36 : decode cX9_stack 36 = .ok (.iload_n 2, 1) := by decide +kernel
theorem dX9_stack_37 : decode cX9_stack 37 = .ok (.iaload, 1) := by decide +kernel
theorem dX9_stack_38 : decode cX9_stack 38 = .ok (.ifCond .lt 6, 3) := by decide +kernel
theorem dX9_stack_41 : decode cX9_stack 41 = .ok (.bipush (-2), 2) := by decide +kernel
theorem dX9_stack_43 : decode cX9_stack 43 = .ok (.ireturn, 1) := by decide +kernel
theorem dX9_stack_44 : decode cX9_stack 44 = .ok (.iconst 0, 1) := by decide +kernel
theorem dX9_stack_45 : decode cX9_stack 45 = .ok (.istore_n 3, 1) := by decide +kernel
theorem dX9_stack_46 : decode cX9_stack 46 = .ok (.iload_n 3, 1) := by decide +kernel
theorem dX9_stack_47 : decode cX9_stack 47 = .ok (.bipush 10, 2) := by decide +kernel
theorem dX9_stack_49 : decode cX9_stack 49 = .ok (.if_icmp .ge 18, 3) := by decide +kernel
theorem dX9_stack_52 : decode cX9_stack 52 = .ok (.aload_n 0, 1) := by decide +kernel
theorem dX9_stack_53 : decode cX9_stack 53 = .ok (.getfield 32, 3) := by decide +kernel
theorem dX9_stack_56 : decode cX9_stack 56 = .ok (.iload_n 3, 1) := by decide +kernel
theorem dX9_stack_57 : decode cX9_stack 57 = .ok (.iaload, 1) := by decide +kernel
theorem dX9_stack_58 : decode cX9_stack 58 = .ok (.ifCond .le 9, 3) := by decide +kernel
theorem dX9_stack_61 : decode cX9_stack 61 = .ok (.iinc 3 1, 3) := by decide +kernel
theorem dX9_stack_64 : decode cX9_stack 64 = .ok (.goto (-18), 3) := by decide +kernel
theorem dX9_stack_67 : decode cX9_stack 67 = .ok (.iload_n 3, 1) := by decide +kernel
theorem dX9_stack_68 : decode cX9_stack 68 = .ok (.bipush 10, 2) := by decide +kernel
theorem dX9_stack_70 : decode cX9_stack 70 = .ok (.if_icmp .ne 6, 3) := by decide +kernel
theorem dX9_stack_73 : decode cX9_stack 73 = .ok (.bipush (-3), 2) := by decide +kernel
theorem dX9_stack_75 : decode cX9_stack 75 = .ok (.ireturn, 1) := by decide +kernel
theorem dX9_stack_76 : decode cX9_stack 76 = .ok (.aload_n 0, 1) := by decide +kernel
theorem dX9_stack_77 : decode cX9_stack 77 = .ok (.getfield 32, 3) := by decide +kernel
theorem dX9_stack_80 : decode cX9_stack 80 = .ok (.iload_n 3, 1) := by decide +kernel
theorem dX9_stack_81 : decode cX9_stack 81 = .ok (.iconst 2, 1) := by decide +kernel
theorem dX9_stack_82 : decode cX9_stack 82 = .ok (.iastore, 1) := by decide +kernel
theorem dX9_stack_83 : decode cX9_stack 83 = .ok (.aload_n 0, 1) := by decide +kernel
theorem dX9_stack_84 : decode cX9_stack 84 = .ok (.getfield 35, 3) := by decide +kernel
theorem dX9_stack_87 : decode cX9_stack 87 = .ok (.bipush 8, 2) := by decide +kernel
theorem dX9_stack_89 : decode cX9_stack 89 = .ok (.iload_n 3, 1) := by decide +kernel
theorem dX9_stack_90 : decode cX9_stack 90 = .ok (.imul, 1) := by decide +kernel
theorem dX9_stack_91 : decode cX9_stack 91 = .ok (.iload_n 1, 1) := by decide +kernel
theorem dX9_stack_92 : decode cX9_stack 92 = .ok (.iastore, 1) := by decide +kernel
theorem dX9_stack_93 : decode cX9_stack 93 = .ok (.aload_n 0, 1) := by decide +kernel
theorem dX9_stack_94 : decode cX9_stack 94 = .ok (.getfield 35, 3) := by decide +kernel
theorem dX9_stack_97 : decode cX9_stack 97 = .ok (.bipush 8, 2) := by decide +kernel
theorem dX9_stack_99 : decode cX9_stack 99 = .ok (.iload_n 3, 1) := by decide +kernel
theorem dX9_stack_100 : decode cX9_stack 100 = .ok (.imul, 1) := by decide +kernel
theorem dX9_stack_101 : decode cX9_stack 101 = .ok (.iconst 1, 1) := by decide +kernel
theorem dX9_stack_102 : decode cX9_stack 102 = .ok (.iadd, 1) := by decide +kernel
theorem dX9_stack_103 : decode cX9_stack 103 = .ok (.iload_n 2, 1) := by decide +kernel
theorem dX9_stack_104 : decode cX9_stack 104 = .ok (.iastore, 1) := by decide +kernel
theorem dX9_stack_105 : decode cX9_stack 105 = .ok (.aload_n 0, 1) := by decide +kernel
theorem dX9_stack_106 : decode cX9_stack 106 = .ok (.getfield 38, 3) := by decide +kernel
theorem dX9_stack_109 : decode cX9_stack 109 = .ok (.iload_n 3, 1) := by decide +kernel
theorem dX9_stack_110 : decode cX9_stack 110 = .ok (.iconst (-1), 1) := by decide +kernel
theorem dX9_stack_111 : decode cX9_stack 111 = .ok (.iastore, 1) := by decide +kernel
theorem dX9_stack_112 : decode cX9_stack 112 = .ok (.aload_n 0, 1) := by decide +kernel
theorem dX9_stack_113 : decode cX9_stack 113 = .ok (.getfield 41, 3) := by decide +kernel
theorem dX9_stack_116 : decode cX9_stack 116 = .ok (.iload_n 3, 1) := by decide +kernel
theorem dX9_stack_117 : decode cX9_stack 117 = .ok (.iconst 0, 1) := by decide +kernel
theorem dX9_stack_118 : decode cX9_stack 118 = .ok (.bastore, 1) := by decide +kernel
theorem dX9_stack_119 : decode cX9_stack 119 = .ok (.aload_n 0, 1) := by decide +kernel
theorem dX9_stack_120 : decode cX9_stack 120 = .ok (.getfield 29, 3) := by decide +kernel
theorem dX9_stack_123 : decode cX9_stack 123 = .ok (.iload_n 1, 1) := by decide +kernel
theorem dX9_stack_124 : decode cX9_stack 124 = .ok (.iload_n 3, 1) := by decide +kernel
theorem dX9_stack_125 : decode cX9_stack 125 = .ok (.iastore, 1) := by decide +kernel
theorem dX9_stack_126 : decode cX9_stack 126 = .ok (.aload_n 0, 1) := by decide +kernel
theorem dX9_stack_127 : decode cX9_stack 127 = .ok (.getfield 29, 3) := by decide +kernel
theorem dX9_stack_130 : decode cX9_stack 130 = .ok (.iload_n 2, 1) := by decide +kernel
theorem dX9_stack_131 : decode cX9_stack 131 = .ok (.iload_n 3, 1) := by decide +kernel
theorem dX9_stack_132 : decode cX9_stack 132 = .ok (.iastore, 1) := by decide +kernel
theorem dX9_stack_133 : decode cX9_stack 133 = .ok (.aload_n 0, 1) := by decide +kernel
theorem dX9_stack_134 : decode cX9_stack 134 = .ok (.iload_n 3, 1) := by decide +kernel
theorem dX9_stack_135 : decode cX9_stack 135 = .ok (.invokevirtual 184, 3) := by decide +kernel
theorem dX9_stack_138 : decode cX9_stack 138 = .ok (.ireturn, 1) := by decide +kernel
set_option maxRecDepth 20000 in
theorem ggX9_putInto_X9_isStack : GoodIn wsX9_putInto wsX9_isStack := goodIn_r _ [8, 1, 9, 10, 7, 11, 109, 110, 111, 112, 113, 114, 115, 116, 117, 118, 119, 120, 121, 122, 123, 124, 125, 126, 127, 128, 129, 130, 131, 132, 133, 134, 135, 136] (by decide +kernel) (by decide +kernel)
set_option maxRecDepth 20000 in
theorem gX9_putInto_X9_isStack : GoodIn wsX9_putInto (wsV RX9 206 RX9 yX9_isStack wsX9_isStack) := goodIn_app (goodIn_of _ (by decide +kernel)) ggX9_putInto_X9_isStack
set_option maxRecDepth 20000 in
theorem ggX9_putInto_X9_there : GoodIn wsX9_putInto wsX9_there := goodIn_r _ [15, 16, 9, 10, 7, 11, 109, 110, 111, 112, 113, 114, 115, 116, 117, 118, 119, 120, 121, 122, 123, 124, 125, 126, 127, 128, 129, 130, 131, 132, 133, 134, 135, 136] (by decide +kernel) (by decide +kernel)
set_option maxRecDepth 20000 in
theorem gX9_putInto_X9_there : GoodIn wsX9_putInto (wsV RX9 187 RX9 yX9_there wsX9_there) := goodIn_app (goodIn_of _ (by decide +kernel)) ggX9_putInto_X9_there
set_option maxRecDepth 20000 in
theorem ggX9_putInto_X9_in : GoodIn wsX9_putInto wsX9_in := goodIn_r _ [11] (by decide +kernel) (by decide +kernel)
set_option maxRecDepth 20000 in
theorem gX9_putInto_X9_in : GoodIn wsX9_putInto (va_wsS RX9 85 yX9_in wsX9_in) := goodIn_app (goodIn_of _ (by decide +kernel)) ggX9_putInto_X9_in
set_option maxRecDepth 20000 in
theorem ggX9_putInto_X9_settled : GoodIn wsX9_putInto wsX9_settled := goodIn_r _ [20, 21, 22, 23, 7, 24, 25, 16, 26, 27, 28, 29, 30, 31, 32, 33, 34, 35, 36, 37, 38, 39, 40, 41, 42, 43, 44, 45, 46, 47, 48, 49, 50, 51, 52, 53, 54, 55, 56, 57, 58, 59, 60, 61, 62, 63, 64, 65, 66, 67, 68, 69, 70, 71, 72, 73, 74, 75, 76, 77, 78, 79, 80, 81, 82, 83, 2, 84, 85, 86, 87, 88, 3, 1, 89, 90, 91, 92, 93, 94, 95, 96, 97, 98, 99, 100, 101, 102, 103, 104, 105, 106, 107, 108, 109, 110, 111, 112, 113, 114, 115, 116, 117, 118, 119, 120, 121, 122, 123, 124, 125, 126, 127, 128, 129, 130, 131, 132, 133, 134, 135, 136] (by decide +kernel) (by decide +kernel)
set_option maxRecDepth 20000 in
theorem gX9_putInto_X9_settled : GoodIn wsX9_putInto (wsV RX9 184 RX9 yX9_settled wsX9_settled) := goodIn_app (goodIn_of _ (by decide +kernel)) ggX9_putInto_X9_settled
theorem dX9_putInto_0 : decode cX9_putInto 0 = .ok (.aload_n 0, 1) := by decide +kernel
theorem dX9_putInto_1 : decode cX9_putInto 1 = .ok (.iload_n 1, 1) := by decide +kernel
theorem dX9_putInto_2 : decode cX9_putInto 2 = .ok (.invokevirtual 206, 3) := by decide +kernel
theorem dX9_putInto_5 : decode cX9_putInto 5 = .ok (.ifCond .eq 25, 3) := by decide +kernel
theorem dX9_putInto_8 : decode cX9_putInto 8 = .ok (.aload_n 0, 1) := by decide +kernel
theorem dX9_putInto_9 : decode cX9_putInto 9 = .ok (.iload_n 2, 1) := by decide +kernel
theorem dX9_putInto_10 : decode cX9_putInto 10 = .ok (.invokevirtual 187, 3) := by decide +kernel
theorem dX9_putInto_13 : decode cX9_putInto 13 = .ok (.ifCond .eq 17, 3) := by decide +kernel
theorem dX9_putInto_16 : decode cX9_putInto 16 = .ok (.iload_n 3, 1) := by decide +kernel
theorem dX9_putInto_17 : decode cX9_putInto 17 = .ok (.iconst 0, 1) := by decide +kernel
theorem dX9_putInto_18 : decode cX9_putInto 18 = .ok (.aload_n 0, 1) := by decide +kernel
theorem dX9_putInto_19 : decode cX9_putInto 19 = .ok (.getfield 32, 3) := by decide +kernel
theorem dX9_putInto_22 : decode cX9_putInto 22 = .ok (.iload_n 1, 1) := by decide +kernel
theorem dX9_putInto_23 : decode cX9_putInto 23 = .ok (.iaload, 1) := by decide +kernel
theorem dX9_putInto_24 : decode cX9_putInto 24 = .ok (.invokestatic 85, 3) := by decide +kernel
theorem dX9_putInto_27 : decode cX9_putInto 27 = .ok (.ifCond .ne 5, 3) := by decide +kernel
theorem dX9_putInto_30 : decode cX9_putInto 30 = .ok (.iconst (-1), 1) := by decide +kernel
theorem dX9_putInto_31 : decode cX9_putInto 31 = .ok (.ireturn, 1) := by decide +kernel
theorem dX9_putInto_32 : decode cX9_putInto 32 = .ok (.aload_n 0, 1) := by decide +kernel
theorem dX9_putInto_33 : decode cX9_putInto 33 = .ok (.getfield 29, 3) := by decide +kernel
theorem dX9_putInto_36 : decode cX9_putInto 36 = .ok (.iload_n 2, 1) := by decide +kernel
theorem dX9_putInto_37 : decode cX9_putInto 37 = .ok (.iaload, 1) := by decide +kernel
theorem dX9_putInto_38 : decode cX9_putInto 38 = .ok (.ifCond .lt 6, 3) := by decide +kernel
theorem dX9_putInto_41 : decode cX9_putInto 41 = .ok (.bipush (-2), 2) := by decide +kernel
theorem dX9_putInto_43 : decode cX9_putInto 43 = .ok (.ireturn, 1) := by decide +kernel
theorem dX9_putInto_44 : decode cX9_putInto 44 = .ok (.aload_n 0, 1) := by decide +kernel
theorem dX9_putInto_45 : decode cX9_putInto 45 = .ok (.getfield 32, 3) := by decide +kernel
theorem dX9_putInto_48 : decode cX9_putInto 48 = .ok (.iload_n 1, 1) := by decide +kernel
theorem dX9_putInto_49 : decode cX9_putInto 49 = .ok (.iaload, 1) := by decide +kernel
theorem dX9_putInto_50 : decode cX9_putInto 50 = .ok (.bipush 8, 2) := by decide +kernel
theorem dX9_putInto_52 : decode cX9_putInto 52 = .ok (.if_icmp .ne 6, 3) := by decide +kernel
theorem dX9_putInto_55 : decode cX9_putInto 55 = .ok (.bipush (-3), 2) := by decide +kernel
theorem dX9_putInto_57 : decode cX9_putInto 57 = .ok (.ireturn, 1) := by decide +kernel
theorem dX9_putInto_58 : decode cX9_putInto 58 = .ok (.aload_n 0, 1) := by decide +kernel
theorem dX9_putInto_59 : decode cX9_putInto 59 = .ok (.getfield 32, 3) := by decide +kernel
theorem dX9_putInto_62 : decode cX9_putInto 62 = .ok (.iload_n 1, 1) := by decide +kernel
theorem dX9_putInto_63 : decode cX9_putInto 63 = .ok (.iaload, 1) := by decide +kernel
theorem dX9_putInto_64 : decode cX9_putInto 64 = .ok (.istore 4, 2) := by decide +kernel
theorem dX9_putInto_66 : decode cX9_putInto 66 = .ok (.iload 4, 2) := by decide +kernel
theorem dX9_putInto_68 : decode cX9_putInto 68 = .ok (.iload_n 3, 1) := by decide +kernel
theorem dX9_putInto_69 : decode cX9_putInto 69 = .ok (.if_icmp .le 35, 3) := by decide +kernel
theorem dX9_putInto_72 : decode cX9_putInto 72 = .ok (.aload_n 0, 1) := by decide +kernel
theorem dX9_putInto_73 : decode cX9_putInto 73 = .ok (.getfield 35, 3) := by decide +kernel
theorem dX9_putInto_76 : decode cX9_putInto 76 = .ok (.bipush 8, 2) := by decide +kernel
theorem dX9_putInto_78 : decode cX9_putInto 78 = .ok (.iload_n 1, 1) := by decide +kernel
theorem dX9_putInto_79 : decode cX9_putInto 79 = .ok (.imul, 1) := by decide +kernel
theorem dX9_putInto_80 : decode cX9_putInto 80 = .ok (.iload 4, 2) := by decide +kernel
theorem dX9_putInto_82 : decode cX9_putInto 82 = .ok (.iadd, 1) := by decide +kernel
theorem dX9_putInto_83 : decode cX9_putInto 83 = .ok (.aload_n 0, 1) := by decide +kernel
theorem dX9_putInto_84 : decode cX9_putInto 84 = .ok (.getfield 35, 3) := by decide +kernel
theorem dX9_putInto_87 : decode cX9_putInto 87 = .ok (.bipush 8, 2) := by decide +kernel
theorem dX9_putInto_89 : decode cX9_putInto 89 = .ok (.iload_n 1, 1) := by decide +kernel
theorem dX9_putInto_90 : decode cX9_putInto 90 = .ok (.imul, 1) := by decide +kernel
theorem dX9_putInto_91 : decode cX9_putInto 91 = .ok (.iload 4, 2) := by decide +kernel
theorem dX9_putInto_93 : decode cX9_putInto 93 = .ok (.iadd, 1) := by decide +kernel
theorem dX9_putInto_94 : decode cX9_putInto 94 = .ok (.iconst 1, 1) := by decide +kernel
theorem dX9_putInto_95 : decode cX9_putInto 95 = .ok (.isub, 1) := by decide +kernel
theorem dX9_putInto_96 : decode cX9_putInto 96 = .ok (.iaload, 1) := by decide +kernel
theorem dX9_putInto_97 : decode cX9_putInto 97 = .ok (.iastore, 1) := by decide +kernel
theorem dX9_putInto_98 : decode cX9_putInto 98 = .ok (.iinc 4 (-1), 3) := by decide +kernel
theorem dX9_putInto_101 : decode cX9_putInto 101 = .ok (.goto (-35), 3) := by decide +kernel
theorem dX9_putInto_104 : decode cX9_putInto 104 = .ok (.aload_n 0, 1) := by decide +kernel
theorem dX9_putInto_105 : decode cX9_putInto 105 = .ok (.getfield 35, 3) := by decide +kernel
theorem dX9_putInto_108 : decode cX9_putInto 108 = .ok (.bipush 8, 2) := by decide +kernel
theorem dX9_putInto_110 : decode cX9_putInto 110 = .ok (.iload_n 1, 1) := by decide +kernel
theorem dX9_putInto_111 : decode cX9_putInto 111 = .ok (.imul, 1) := by decide +kernel
theorem dX9_putInto_112 : decode cX9_putInto 112 = .ok (.iload_n 3, 1) := by decide +kernel
theorem dX9_putInto_113 : decode cX9_putInto 113 = .ok (.iadd, 1) := by decide +kernel
theorem dX9_putInto_114 : decode cX9_putInto 114 = .ok (.iload_n 2, 1) := by decide +kernel
theorem dX9_putInto_115 : decode cX9_putInto 115 = .ok (.iastore, 1) := by decide +kernel
theorem dX9_putInto_116 : decode cX9_putInto 116 = .ok (.aload_n 0, 1) := by decide +kernel
theorem dX9_putInto_117 : decode cX9_putInto 117 = .ok (.getfield 29, 3) := by decide +kernel
theorem dX9_putInto_120 : decode cX9_putInto 120 = .ok (.iload_n 2, 1) := by decide +kernel
theorem dX9_putInto_121 : decode cX9_putInto 121 = .ok (.iload_n 1, 1) := by decide +kernel
theorem dX9_putInto_122 : decode cX9_putInto 122 = .ok (.iastore, 1) := by decide +kernel
theorem dX9_putInto_123 : decode cX9_putInto 123 = .ok (.aload_n 0, 1) := by decide +kernel
theorem dX9_putInto_124 : decode cX9_putInto 124 = .ok (.getfield 32, 3) := by decide +kernel
theorem dX9_putInto_127 : decode cX9_putInto 127 = .ok (.iload_n 1, 1) := by decide +kernel
theorem dX9_putInto_128 : decode cX9_putInto 128 = .ok (.dup2, 1) := by decide +kernel
theorem dX9_putInto_129 : decode cX9_putInto 129 = .ok (.iaload, 1) := by decide +kernel
theorem dX9_putInto_130 : decode cX9_putInto 130 = .ok (.iconst 1, 1) := by decide +kernel
theorem dX9_putInto_131 : decode cX9_putInto 131 = .ok (.iadd, 1) := by decide +kernel
theorem dX9_putInto_132 : decode cX9_putInto 132 = .ok (.iastore, 1) := by decide +kernel
theorem dX9_putInto_133 : decode cX9_putInto 133 = .ok (.aload_n 0, 1) := by decide +kernel
theorem dX9_putInto_134 : decode cX9_putInto 134 = .ok (.aload_n 0, 1) := by decide +kernel
theorem dX9_putInto_135 : decode cX9_putInto 135 = .ok (.getfield 32, 3) := by decide +kernel
theorem dX9_putInto_138 : decode cX9_putInto 138 = .ok (.iload_n 1, 1) := by decide +kernel
theorem dX9_putInto_139 : decode cX9_putInto 139 = .ok (.iaload, 1) := by decide +kernel
theorem dX9_putInto_140 : decode cX9_putInto 140 = .ok (.invokevirtual 184, 3) := by decide +kernel
theorem dX9_putInto_143 : decode cX9_putInto 143 = .ok (.ireturn, 1) := by decide +kernel
set_option maxRecDepth 20000 in
theorem ggX9_takeOut_X9_there : GoodIn wsX9_takeOut wsX9_there := goodIn_r _ [7, 8, 9, 10, 6, 11, 109, 110, 111, 112, 113, 114, 115, 116, 117, 118, 119, 120, 121, 122, 123, 124, 125, 126, 127, 128, 129, 130, 131, 132, 133, 134, 135, 136] (by decide +kernel) (by decide +kernel)
set_option maxRecDepth 20000 in
theorem gX9_takeOut_X9_there : GoodIn wsX9_takeOut (wsV RX9 187 RX9 yX9_there wsX9_there) := goodIn_app (goodIn_of _ (by decide +kernel)) ggX9_takeOut_X9_there
set_option maxRecDepth 20000 in
theorem ggX9_takeOut_X9_leaves : GoodIn wsX9_takeOut wsX9_leaves := goodIn_r _ [15, 1, 16, 2, 17, 109, 110, 111, 112, 113, 114, 115, 116, 117, 118, 119, 120, 121, 122, 123, 124, 125, 126, 127, 128, 129, 130, 131, 132, 133, 134, 135, 136] (by decide +kernel) (by decide +kernel)
set_option maxRecDepth 20000 in
theorem gX9_takeOut_X9_leaves : GoodIn wsX9_takeOut (wsV RX9 101 RX9 yX9_leaves wsX9_leaves) := goodIn_app (goodIn_of _ (by decide +kernel)) ggX9_takeOut_X9_leaves
set_option maxRecDepth 20000 in
theorem ggX9_takeOut_X9_settled : GoodIn wsX9_takeOut wsX9_settled := goodIn_r _ [21, 22, 23, 24, 6, 25, 26, 8, 27, 28, 29, 30, 31, 32, 33, 34, 35, 36, 37, 38, 39, 40, 41, 42, 43, 44, 45, 46, 47, 48, 49, 50, 51, 52, 53, 54, 55, 56, 57, 58, 59, 60, 61, 62, 63, 64, 65, 66, 67, 68, 69, 70, 71, 72, 73, 74, 75, 76, 77, 78, 79, 80, 81, 82, 83, 84, 1, 85, 86, 87, 88, 17, 16, 2, 89, 90, 91, 92, 93, 94, 95, 96, 97, 98, 99, 100, 101, 102, 103, 104, 105, 106, 107, 108, 109, 110, 111, 112, 113, 114, 115, 116, 117, 118, 119, 120, 121, 122, 123, 124, 125, 126, 127, 128, 129, 130, 131, 132, 133, 134, 135, 136] (by decide +kernel) (by decide +kernel)
set_option maxRecDepth 20000 in
theorem gX9_takeOut_X9_settled : GoodIn wsX9_takeOut (wsV RX9 184 RX9 yX9_settled wsX9_settled) := goodIn_app (goodIn_of _ (by decide +kernel)) ggX9_takeOut_X9_settled
theorem dX9_takeOut_0 : decode cX9_takeOut 0 = .ok (.aload_n 0, 1) := by decide +kernel
theorem dX9_takeOut_1 : decode cX9_takeOut 1 = .ok (.iload_n 1, 1) := by decide +kernel
theorem dX9_takeOut_2 : decode cX9_takeOut 2 = .ok (.invokevirtual 187, 3) := by decide +kernel
theorem dX9_takeOut_5 : decode cX9_takeOut 5 = .ok (.ifCond .ne 5, 3) := by decide +kernel
theorem dX9_takeOut_8 : decode cX9_takeOut 8 = .ok (.iconst (-1), 1) := by decide +kernel
theorem dX9_takeOut_9 : decode cX9_takeOut 9 = .ok (.ireturn, 1) := by decide +kernel
theorem dX9_takeOut_10 : decode cX9_takeOut 10 = .ok (.aload_n 0, 1) := by decide +kernel
theorem dX9_takeOut_11 : decode cX9_takeOut 11 = .ok (.getfield 29, 3) := by decide +kernel
theorem dX9_takeOut_14 : decode cX9_takeOut 14 = .ok (.iload_n 1, 1) := by decide +kernel
theorem dX9_takeOut_15 : decode cX9_takeOut 15 = .ok (.iaload, 1) := by decide +kernel
theorem dX9_takeOut_16 : decode cX9_takeOut 16 = .ok (.istore_n 2, 1) := by decide +kernel
theorem dX9_takeOut_17 : decode cX9_takeOut 17 = .ok (.iload_n 2, 1) := by decide +kernel
theorem dX9_takeOut_18 : decode cX9_takeOut 18 = .ok (.ifCond .ge 6, 3) := by decide +kernel
theorem dX9_takeOut_21 : decode cX9_takeOut 21 = .ok (.bipush (-2), 2) := by decide +kernel
theorem dX9_takeOut_23 : decode cX9_takeOut 23 = .ok (.ireturn, 1) := by decide +kernel
theorem dX9_takeOut_24 : decode cX9_takeOut 24 = .ok (.aload_n 0, 1) := by decide +kernel
theorem dX9_takeOut_25 : decode cX9_takeOut 25 = .ok (.iload_n 1, 1) := by decide +kernel
theorem dX9_takeOut_26 : decode cX9_takeOut 26 = .ok (.invokevirtual 101, 3) := by decide +kernel
theorem dX9_takeOut_29 : decode cX9_takeOut 29 = .ok (.aload_n 0, 1) := by decide +kernel
theorem dX9_takeOut_30 : decode cX9_takeOut 30 = .ok (.aload_n 0, 1) := by decide +kernel
theorem dX9_takeOut_31 : decode cX9_takeOut 31 = .ok (.getfield 32, 3) := by decide +kernel
theorem dX9_takeOut_34 : decode cX9_takeOut 34 = .ok (.iload_n 2, 1) := by decide +kernel
theorem dX9_takeOut_35 : decode cX9_takeOut 35 = .ok (.iaload, 1) := by decide +kernel
theorem dX9_takeOut_36 : decode cX9_takeOut 36 = .ok (.invokevirtual 184, 3) := by decide +kernel
theorem dX9_takeOut_39 : decode cX9_takeOut 39 = .ok (.ireturn, 1) := by decide +kernel
set_option maxRecDepth 20000 in
theorem ggX9_chooseCover_X9_isStack : GoodIn wsX9_chooseCover wsX9_isStack := goodIn_r _ [7, 8, 9, 10, 6, 11, 109, 110, 111, 112, 113, 114, 115, 116, 117, 118, 119, 120, 121, 122, 123, 124, 125, 126, 127, 128, 129, 130, 131, 132, 133, 134, 135, 136] (by decide +kernel) (by decide +kernel)
set_option maxRecDepth 20000 in
theorem gX9_chooseCover_X9_isStack : GoodIn wsX9_chooseCover (wsV RX9 206 RX9 yX9_isStack wsX9_isStack) := goodIn_app (goodIn_of _ (by decide +kernel)) ggX9_chooseCover_X9_isStack
set_option maxRecDepth 20000 in
theorem ggX9_chooseCover_X9_there : GoodIn wsX9_chooseCover wsX9_there := goodIn_r _ [15, 16, 9, 10, 6, 11, 109, 110, 111, 112, 113, 114, 115, 116, 117, 118, 119, 120, 121, 122, 123, 124, 125, 126, 127, 128, 129, 130, 131, 132, 133, 134, 135, 136] (by decide +kernel) (by decide +kernel)
set_option maxRecDepth 20000 in
theorem gX9_chooseCover_X9_there : GoodIn wsX9_chooseCover (wsV RX9 187 RX9 yX9_there wsX9_there) := goodIn_app (goodIn_of _ (by decide +kernel)) ggX9_chooseCover_X9_there
set_option maxRecDepth 20000 in
theorem ggX9_chooseCover_X9_cover : GoodIn wsX9_chooseCover wsX9_cover := goodIn_r _ [20, 2, 21, 8, 22, 23, 24, 6, 25, 26, 27, 28, 29, 30, 31, 32, 109, 110, 111, 112, 113, 114, 115, 116, 117, 118, 119, 120, 121, 122, 123, 124, 125, 126, 127, 128, 129, 130, 131, 132, 133, 134, 135, 136] (by decide +kernel) (by decide +kernel)
set_option maxRecDepth 20000 in
theorem gX9_chooseCover_X9_cover : GoodIn wsX9_chooseCover (wsV RX9 130 RX9 yX9_cover wsX9_cover) := goodIn_app (goodIn_of _ (by decide +kernel)) ggX9_chooseCover_X9_cover
set_option maxRecDepth 20000 in
theorem ggX9_chooseCover_X9_settled : GoodIn wsX9_chooseCover wsX9_settled := goodIn_r _ [36, 37, 38, 39, 6, 40, 41, 16, 42, 43, 44, 45, 46, 47, 48, 49, 50, 51, 52, 53, 54, 55, 56, 57, 58, 59, 60, 61, 62, 63, 64, 65, 66, 67, 68, 69, 70, 71, 72, 73, 27, 28, 29, 30, 31, 32, 74, 75, 76, 77, 78, 79, 80, 22, 23, 24, 25, 26, 81, 82, 83, 84, 85, 86, 87, 88, 1, 17, 18, 19, 20, 2, 21, 8, 89, 90, 91, 92, 93, 94, 95, 96, 97, 98, 99, 100, 101, 102, 103, 104, 105, 106, 107, 108, 109, 110, 111, 112, 113, 114, 115, 116, 117, 118, 119, 120, 121, 122, 123, 124, 125, 126, 127, 128, 129, 130, 131, 132, 133, 134, 135, 136] (by decide +kernel) (by decide +kernel)
set_option maxRecDepth 20000 in
theorem gX9_chooseCover_X9_settled : GoodIn wsX9_chooseCover (wsV RX9 184 RX9 yX9_settled wsX9_settled) := goodIn_app (goodIn_of _ (by decide +kernel)) ggX9_chooseCover_X9_settled
theorem dX9_chooseCover_0 : decode cX9_chooseCover 0 = .ok (.aload_n 0, 1) := by decide +kernel
theorem dX9_chooseCover_1 : decode cX9_chooseCover 1 = .ok (.iload_n 1, 1) := by decide +kernel
theorem dX9_chooseCover_2 : decode cX9_chooseCover 2 = .ok (.invokevirtual 206, 3) := by decide +kernel
theorem dX9_chooseCover_5 : decode cX9_chooseCover 5 = .ok (.ifCond .eq 16, 3) := by decide +kernel
theorem dX9_chooseCover_8 : decode cX9_chooseCover 8 = .ok (.iload_n 2, 1) := by decide +kernel
theorem dX9_chooseCover_9 : decode cX9_chooseCover 9 = .ok (.iconst (-1), 1) := by decide +kernel
theorem dX9_chooseCover_10 : decode cX9_chooseCover 10 = .ok (.if_icmp .eq 13, 3) := by decide +kernel
theorem dX9_chooseCover_13 : decode cX9_chooseCover 13 = .ok (.aload_n 0, 1) := by decide +kernel
theorem dX9_chooseCover_14 : decode cX9_chooseCover 14 = .ok (.iload_n 2, 1) := by decide +kernel
theorem dX9_chooseCover_15 : decode cX9_chooseCover 15 = .ok (.invokevirtual 187, 3) := by decide +kernel
theorem dX9_chooseCover_18 : decode cX9_chooseCover 18 = .ok (.ifCond .ne 5, 3) := by decide +kernel
theorem dX9_chooseCover_21 : decode cX9_chooseCover 21 = .ok (.iconst (-1), 1) := by decide +kernel
theorem dX9_chooseCover_22 : decode cX9_chooseCover 22 = .ok (.ireturn, 1) := by decide +kernel
theorem dX9_chooseCover_23 : decode cX9_chooseCover 23 = .ok (.iload_n 2, 1) := by decide +kernel
theorem dX9_chooseCover_24 : decode cX9_chooseCover 24 = .ok (.ifCond .lt 16, 3) := by decide +kernel
theorem dX9_chooseCover_27 : decode cX9_chooseCover 27 = .ok (.aload_n 0, 1) := by decide +kernel
theorem dX9_chooseCover_28 : decode cX9_chooseCover 28 = .ok (.getfield 29, 3) := by decide +kernel
theorem dX9_chooseCover_31 : decode cX9_chooseCover 31 = .ok (.iload_n 2, 1) := by decide +kernel
theorem dX9_chooseCover_32 : decode cX9_chooseCover 32 = .ok (.iaload, 1) := by decide +kernel
theorem dX9_chooseCover_33 : decode cX9_chooseCover 33 = .ok (.iload_n 1, 1) := by decide +kernel
theorem dX9_chooseCover_34 : decode cX9_chooseCover 34 = .ok (.if_icmp .eq 6, 3) := by decide +kernel
theorem dX9_chooseCover_37 : decode cX9_chooseCover 37 = .ok (.bipush (-2), 2) := by decide +kernel
theorem dX9_chooseCover_39 : decode cX9_chooseCover 39 = .ok (.ireturn, 1) := by decide +kernel
theorem dX9_chooseCover_40 : decode cX9_chooseCover 40 = .ok (.aload_n 0, 1) := by decide +kernel
theorem dX9_chooseCover_41 : decode cX9_chooseCover 41 = .ok (.getfield 38, 3) := by decide +kernel
theorem dX9_chooseCover_44 : decode cX9_chooseCover 44 = .ok (.iload_n 1, 1) := by decide +kernel
theorem dX9_chooseCover_45 : decode cX9_chooseCover 45 = .ok (.iload_n 2, 1) := by decide +kernel
theorem dX9_chooseCover_46 : decode cX9_chooseCover 46 = .ok (.iastore, 1) := by decide +kernel
theorem dX9_chooseCover_47 : decode cX9_chooseCover 47 = .ok (.aload_n 0, 1) := by decide +kernel
theorem dX9_chooseCover_48 : decode cX9_chooseCover 48 = .ok (.aload_n 0, 1) := by decide +kernel
theorem dX9_chooseCover_49 : decode cX9_chooseCover 49 = .ok (.iload_n 1, 1) := by decide +kernel
theorem dX9_chooseCover_50 : decode cX9_chooseCover 50 = .ok (.invokevirtual 130, 3) := by decide +kernel
theorem dX9_chooseCover_53 : decode cX9_chooseCover 53 = .ok (.invokevirtual 184, 3) := by decide +kernel
theorem dX9_chooseCover_56 : decode cX9_chooseCover 56 = .ok (.ireturn, 1) := by decide +kernel
set_option maxRecDepth 20000 in
theorem ggX9_collapse_X9_isStack : GoodIn wsX9_collapse wsX9_isStack := goodIn_r _ [6, 7, 8, 9, 5, 10, 11, 12, 13, 14, 15, 16, 17, 18, 19, 20, 21, 22, 23, 24, 25, 26, 27, 28, 29, 30, 31, 32, 33, 34, 35, 36, 37, 38] (by decide +kernel) (by decide +kernel)
set_option maxRecDepth 20000 in
theorem gX9_collapse_X9_isStack : GoodIn wsX9_collapse (wsV RX9 206 RX9 yX9_isStack wsX9_isStack) := goodIn_app (goodIn_of _ (by decide +kernel)) ggX9_collapse_X9_isStack
set_option maxRecDepth 20000 in
theorem ggX9_collapse_X9_in : GoodIn wsX9_collapse wsX9_in := goodIn_r _ [10] (by decide +kernel) (by decide +kernel)
set_option maxRecDepth 20000 in
theorem gX9_collapse_X9_in : GoodIn wsX9_collapse (va_wsS RX9 85 yX9_in wsX9_in) := goodIn_app (goodIn_of _ (by decide +kernel)) ggX9_collapse_X9_in
theorem dX9_collapse_0 : decode cX9_collapse 0 = .ok (.aload_n 0, 1) := by decide +kernel
theorem dX9_collapse_1 : decode cX9_collapse 1 = .ok (.iload_n 1, 1) := by decide +kernel
theorem dX9_collapse_2 : decode cX9_collapse 2 = .ok (.invokevirtual 206, 3) := by decide +kernel
theorem dX9_collapse_5 : decode cX9_collapse 5 = .ok (.ifCond .eq 12, 3) := by decide +kernel
theorem dX9_collapse_8 : decode cX9_collapse 8 = .ok (.iload_n 2, 1) := by decide +kernel
theorem dX9_collapse_9 : decode cX9_collapse 9 = .ok (.iconst 0, 1) := by decide +kernel
theorem dX9_collapse_10 : decode cX9_collapse 10 = .ok (.iconst 1, 1) := by decide +kernel
theorem dX9_collapse_11 : decode cX9_collapse 11 = .ok (.invokestatic 85, 3) := by decide +kernel
theorem dX9_collapse_14 : decode cX9_collapse 14 = .ok (.ifCond .ne 5, 3) := by decide +kernel
theorem dX9_collapse_17 : decode cX9_collapse 17 = .ok (.iconst (-1), 1) := by decide +kernel
theorem dX9_collapse_18 : decode cX9_collapse 18 = .ok (.ireturn, 1) := by decide +kernel
theorem dX9_collapse_19 : decode cX9_collapse 19 = .ok (.aload_n 0, 1) := by decide +kernel
theorem dX9_collapse_20 : decode cX9_collapse 20 = .ok (.getfield 41, 3) := by decide +kernel
theorem dX9_collapse_23 : decode cX9_collapse 23 = .ok (.iload_n 1, 1) := by decide +kernel
theorem dX9_collapse_24 : decode cX9_collapse 24 = .ok (.baload, 1) := by decide +kernel
theorem dX9_collapse_25 : decode cX9_collapse 25 = .ok (.ifCond .eq 7, 3) := by decide +kernel
theorem dX9_collapse_28 : decode cX9_collapse 28 = .ok (.iconst 1, 1) := by decide +kernel
theorem dX9_collapse_29 : decode cX9_collapse 29 = .ok (.goto 4, 3) := by decide +kernel
theorem dX9_collapse_32 : decode cX9_collapse 32 = .ok (.iconst 0, 1) := by decide +kernel
theorem dX9_collapse_33 : decode cX9_collapse 33 = .ok (.istore_n 3, 1) := by decide +kernel
theorem dX9_collapse_34 : decode cX9_collapse 34 = .ok (.aload_n 0, 1) := by decide +kernel
theorem dX9_collapse_35 : decode cX9_collapse 35 = .ok (.getfield 41, 3) := by decide +kernel
theorem dX9_collapse_38 : decode cX9_collapse 38 = .ok (.iload_n 1, 1) := by decide +kernel
theorem dX9_collapse_39 : decode cX9_collapse 39 = .ok (.iload_n 2, 1) := by decide +kernel
theorem dX9_collapse_40 : decode cX9_collapse 40 = .ok (.iconst 1, 1) := by decide +kernel
theorem dX9_collapse_41 : decode cX9_collapse 41 = .ok (.if_icmp .ne 7, 3) := by decide +kernel
theorem dX9_collapse_44 : decode cX9_collapse 44 = .ok (.iconst 1, 1) := by decide +kernel
theorem dX9_collapse_45 : decode cX9_collapse 45 = .ok (.goto 4, 3) := by decide +kernel
theorem dX9_collapse_48 : decode cX9_collapse 48 = .ok (.iconst 0, 1) := by decide +kernel
theorem dX9_collapse_49 : decode cX9_collapse 49 = .ok (.bastore, 1) := by decide +kernel
theorem dX9_collapse_50 : decode cX9_collapse 50 = .ok (.iload_n 3, 1) := by decide +kernel
theorem dX9_collapse_51 : decode cX9_collapse 51 = .ok (.ireturn, 1) := by decide +kernel
set_option maxRecDepth 20000 in
theorem ggX9_stackOf_X9_there : GoodIn wsX9_stackOf wsX9_there := goodIn_r _ [6, 7, 8, 9, 5, 10, 11, 12, 13, 14, 15, 16, 17, 18, 19, 20, 21, 22, 23, 24, 25, 26, 27, 28, 29, 30, 31, 32, 33, 34, 35, 36, 37, 38] (by decide +kernel) (by decide +kernel)
set_option maxRecDepth 20000 in
theorem gX9_stackOf_X9_there : GoodIn wsX9_stackOf (wsV RX9 187 RX9 yX9_there wsX9_there) := goodIn_app (goodIn_of _ (by decide +kernel)) ggX9_stackOf_X9_there
theorem dX9_stackOf_0 : decode cX9_stackOf 0 = .ok (.aload_n 0, 1) := by decide +kernel
theorem dX9_stackOf_1 : decode cX9_stackOf 1 = .ok (.iload_n 1, 1) := by decide +kernel
theorem dX9_stackOf_2 : decode cX9_stackOf 2 = .ok (.invokevirtual 187, 3) := by decide +kernel
theorem dX9_stackOf_5 : decode cX9_stackOf 5 = .ok (.ifCond .ne 7, 3) := by decide +kernel
theorem dX9_stackOf_8 : decode cX9_stackOf 8 = .ok (.iconst (-1), 1) := by decide +kernel
theorem dX9_stackOf_9 : decode cX9_stackOf 9 = .ok (.goto 23, 3) := by decide +kernel
theorem dX9_stackOf_12 : decode cX9_stackOf 12 = .ok (.aload_n 0, 1) := by decide +kernel
theorem dX9_stackOf_13 : decode cX9_stackOf 13 = .ok (.getfield 29, 3) := by decide +kernel
theorem dX9_stackOf_16 : decode cX9_stackOf 16 = .ok (.iload_n 1, 1) := by decide +kernel
theorem dX9_stackOf_17 : decode cX9_stackOf 17 = .ok (.iaload, 1) := by decide +kernel
theorem dX9_stackOf_18 : decode cX9_stackOf 18 = .ok (.ifCond .ge 8, 3) := by decide +kernel
theorem dX9_stackOf_21 : decode cX9_stackOf 21 = .ok (.bipush (-4), 2) := by decide +kernel
theorem dX9_stackOf_23 : decode cX9_stackOf 23 = .ok (.goto 9, 3) := by decide +kernel
theorem dX9_stackOf_26 : decode cX9_stackOf 26 = .ok (.aload_n 0, 1) := by decide +kernel
theorem dX9_stackOf_27 : decode cX9_stackOf 27 = .ok (.getfield 29, 3) := by decide +kernel
theorem dX9_stackOf_30 : decode cX9_stackOf 30 = .ok (.iload_n 1, 1) := by decide +kernel
theorem dX9_stackOf_31 : decode cX9_stackOf 31 = .ok (.iaload, 1) := by decide +kernel
theorem dX9_stackOf_32 : decode cX9_stackOf 32 = .ok (.ireturn, 1) := by decide +kernel
set_option maxRecDepth 20000 in
theorem ggX9_coverOf_X9_isStack : GoodIn wsX9_coverOf wsX9_isStack := goodIn_r _ [5, 6, 7, 8, 4, 9, 27, 28, 29, 30, 31, 32, 33, 34, 35, 36, 37, 38, 39, 40, 41, 42, 43, 44, 45, 46, 47, 48, 49, 50, 51, 52, 53, 54] (by decide +kernel) (by decide +kernel)
set_option maxRecDepth 20000 in
theorem gX9_coverOf_X9_isStack : GoodIn wsX9_coverOf (wsV RX9 206 RX9 yX9_isStack wsX9_isStack) := goodIn_app (goodIn_of _ (by decide +kernel)) ggX9_coverOf_X9_isStack
set_option maxRecDepth 20000 in
theorem ggX9_coverOf_X9_cover : GoodIn wsX9_coverOf wsX9_cover := goodIn_r _ [13, 14, 15, 6, 16, 17, 18, 4, 19, 20, 21, 22, 23, 24, 25, 26, 27, 28, 29, 30, 31, 32, 33, 34, 35, 36, 37, 38, 39, 40, 41, 42, 43, 44, 45, 46, 47, 48, 49, 50, 51, 52, 53, 54] (by decide +kernel) (by decide +kernel)
set_option maxRecDepth 20000 in
theorem gX9_coverOf_X9_cover : GoodIn wsX9_coverOf (wsV RX9 130 RX9 yX9_cover wsX9_cover) := goodIn_app (goodIn_of _ (by decide +kernel)) ggX9_coverOf_X9_cover
theorem dX9_coverOf_0 : decode cX9_coverOf 0 = .ok (.aload_n 0, 1) := by decide +kernel
theorem dX9_coverOf_1 : decode cX9_coverOf 1 = .ok (.iload_n 1, 1) := by decide +kernel
theorem dX9_coverOf_2 : decode cX9_coverOf 2 = .ok (.invokevirtual 206, 3) := by decide +kernel
theorem dX9_coverOf_5 : decode cX9_coverOf 5 = .ok (.ifCond .eq 11, 3) := by decide +kernel
theorem dX9_coverOf_8 : decode cX9_coverOf 8 = .ok (.aload_n 0, 1) := by decide +kernel
theorem dX9_coverOf_9 : decode cX9_coverOf 9 = .ok (.iload_n 1, 1) := by decide +kernel
theorem dX9_coverOf_10 : decode cX9_coverOf 10 = .ok (.invokevirtual 130, 3) := by decide +kernel
theorem dX9_coverOf_13 : decode cX9_coverOf 13 = .ok (.goto 4, 3) := by decide +kernel
theorem dX9_coverOf_16 : decode cX9_coverOf 16 = .ok (.iconst (-1), 1) := by decide +kernel
theorem dX9_coverOf_17 : decode cX9_coverOf 17 = .ok (.ireturn, 1) := by decide +kernel
set_option maxRecDepth 20000 in
theorem ggX9_stackAt_X9_isStack : GoodIn wsX9_stackAt wsX9_isStack := goodIn_r _ [7, 1, 8, 9, 6, 10, 11, 12, 13, 14, 15, 16, 17, 18, 19, 20, 21, 22, 23, 24, 25, 26, 27, 28, 29, 30, 31, 32, 33, 34, 35, 36, 37, 38] (by decide +kernel) (by decide +kernel)
set_option maxRecDepth 20000 in
theorem gX9_stackAt_X9_isStack : GoodIn wsX9_stackAt (wsV RX9 206 RX9 yX9_isStack wsX9_isStack) := goodIn_app (goodIn_of _ (by decide +kernel)) ggX9_stackAt_X9_isStack
theorem dX9_stackAt_0 : decode cX9_stackAt 0 = .ok (.aload_n 0, 1) := by decide +kernel
theorem dX9_stackAt_1 : decode cX9_stackAt 1 = .ok (.iload_n 1, 1) := by decide +kernel
theorem dX9_stackAt_2 : decode cX9_stackAt 2 = .ok (.invokevirtual 206, 3) := by decide +kernel
theorem dX9_stackAt_5 : decode cX9_stackAt 5 = .ok (.ifCond .eq 7, 3) := by decide +kernel
theorem dX9_stackAt_8 : decode cX9_stackAt 8 = .ok (.iload_n 2, 1) := by decide +kernel
theorem dX9_stackAt_9 : decode cX9_stackAt 9 = .ok (.ifCond .ge 5, 3) := by decide +kernel
theorem dX9_stackAt_12 : decode cX9_stackAt 12 = .ok (.iconst (-1), 1) := by decide +kernel
theorem dX9_stackAt_13 : decode cX9_stackAt 13 = .ok (.ireturn, 1) := by decide +kernel
theorem dX9_stackAt_14 : decode cX9_stackAt 14 = .ok (.iload_n 2, 1) := by decide +kernel
theorem dX9_stackAt_15 : decode cX9_stackAt 15 = .ok (.aload_n 0, 1) := by decide +kernel
theorem dX9_stackAt_16 : decode cX9_stackAt 16 = .ok (.getfield 32, 3) := by decide +kernel
theorem dX9_stackAt_19 : decode cX9_stackAt 19 = .ok (.iload_n 1, 1) := by decide +kernel
theorem dX9_stackAt_20 : decode cX9_stackAt 20 = .ok (.iaload, 1) := by decide +kernel
theorem dX9_stackAt_21 : decode cX9_stackAt 21 = .ok (.if_icmp .ge 17, 3) := by decide +kernel
theorem dX9_stackAt_24 : decode cX9_stackAt 24 = .ok (.aload_n 0, 1) := by decide +kernel
theorem dX9_stackAt_25 : decode cX9_stackAt 25 = .ok (.getfield 35, 3) := by decide +kernel
theorem dX9_stackAt_28 : decode cX9_stackAt 28 = .ok (.bipush 8, 2) := by decide +kernel
theorem dX9_stackAt_30 : decode cX9_stackAt 30 = .ok (.iload_n 1, 1) := by decide +kernel
theorem dX9_stackAt_31 : decode cX9_stackAt 31 = .ok (.imul, 1) := by decide +kernel
theorem dX9_stackAt_32 : decode cX9_stackAt 32 = .ok (.iload_n 2, 1) := by decide +kernel
theorem dX9_stackAt_33 : decode cX9_stackAt 33 = .ok (.iadd, 1) := by decide +kernel
theorem dX9_stackAt_34 : decode cX9_stackAt 34 = .ok (.iaload, 1) := by decide +kernel
theorem dX9_stackAt_35 : decode cX9_stackAt 35 = .ok (.goto 5, 3) := by decide +kernel
theorem dX9_stackAt_38 : decode cX9_stackAt 38 = .ok (.bipush (-4), 2) := by decide +kernel
theorem dX9_stackAt_40 : decode cX9_stackAt 40 = .ok (.ireturn, 1) := by decide +kernel
set_option maxRecDepth 20000 in
theorem ggX9_type_X9_in : GoodIn wsX9_type wsX9_in := goodIn_r _ [6] (by decide +kernel) (by decide +kernel)
set_option maxRecDepth 20000 in
theorem gX9_type_X9_in : GoodIn wsX9_type (va_wsS RX9 85 yX9_in wsX9_in) := goodIn_app (goodIn_of _ (by decide +kernel)) ggX9_type_X9_in
theorem dX9_type_0 : decode cX9_type 0 = .ok (.iload_n 1, 1) := by decide +kernel
theorem dX9_type_1 : decode cX9_type 1 = .ok (.bipush 33, 2) := by decide +kernel
theorem dX9_type_3 : decode cX9_type 3 = .ok (.bipush 126, 2) := by decide +kernel
theorem dX9_type_5 : decode cX9_type 5 = .ok (.invokestatic 85, 3) := by decide +kernel
theorem dX9_type_8 : decode cX9_type 8 = .ok (.ifCond .ne 5, 3) := by decide +kernel
theorem dX9_type_11 : decode cX9_type 11 = .ok (.iconst (-1), 1) := by decide +kernel
theorem dX9_type_12 : decode cX9_type 12 = .ok (.ireturn, 1) := by decide +kernel
theorem dX9_type_13 : decode cX9_type 13 = .ok (.aload_n 0, 1) := by decide +kernel
theorem dX9_type_14 : decode cX9_type 14 = .ok (.getfield 112, 3) := by decide +kernel
theorem dX9_type_17 : decode cX9_type 17 = .ok (.bipush 80, 2) := by decide +kernel
theorem dX9_type_19 : decode cX9_type 19 = .ok (.if_icmp .ne 6, 3) := by decide +kernel
theorem dX9_type_22 : decode cX9_type 22 = .ok (.bipush (-3), 2) := by decide +kernel
theorem dX9_type_24 : decode cX9_type 24 = .ok (.ireturn, 1) := by decide +kernel
theorem dX9_type_25 : decode cX9_type 25 = .ok (.aload_n 0, 1) := by decide +kernel
theorem dX9_type_26 : decode cX9_type 26 = .ok (.getfield 44, 3) := by decide +kernel
theorem dX9_type_29 : decode cX9_type 29 = .ok (.aload_n 0, 1) := by decide +kernel
theorem dX9_type_30 : decode cX9_type 30 = .ok (.getfield 112, 3) := by decide +kernel
theorem dX9_type_33 : decode cX9_type 33 = .ok (.iload_n 1, 1) := by decide +kernel
theorem dX9_type_34 : decode cX9_type 34 = .ok (.i2c, 1) := by decide +kernel
theorem dX9_type_35 : decode cX9_type 35 = .ok (.castore, 1) := by decide +kernel
theorem dX9_type_36 : decode cX9_type 36 = .ok (.aload_n 0, 1) := by decide +kernel
theorem dX9_type_37 : decode cX9_type 37 = .ok (.dup, 1) := by decide +kernel
theorem dX9_type_38 : decode cX9_type 38 = .ok (.getfield 112, 3) := by decide +kernel
theorem dX9_type_41 : decode cX9_type 41 = .ok (.iconst 1, 1) := by decide +kernel
theorem dX9_type_42 : decode cX9_type 42 = .ok (.iadd, 1) := by decide +kernel
theorem dX9_type_43 : decode cX9_type 43 = .ok (.putfield 112, 3) := by decide +kernel
theorem dX9_type_46 : decode cX9_type 46 = .ok (.aload_n 0, 1) := by decide +kernel
theorem dX9_type_47 : decode cX9_type 47 = .ok (.getfield 112, 3) := by decide +kernel
theorem dX9_type_50 : decode cX9_type 50 = .ok (.ireturn, 1) := by decide +kernel
theorem dX9_clearRule_0 : decode cX9_clearRule 0 = .ok (.aload_n 0, 1) := by decide +kernel
theorem dX9_clearRule_1 : decode cX9_clearRule 1 = .ok (.getfield 112, 3) := by decide +kernel
theorem dX9_clearRule_4 : decode cX9_clearRule 4 = .ok (.istore_n 1, 1) := by decide +kernel
theorem dX9_clearRule_5 : decode cX9_clearRule 5 = .ok (.aload_n 0, 1) := by decide +kernel
theorem dX9_clearRule_6 : decode cX9_clearRule 6 = .ok (.iconst 0, 1) := by decide +kernel
theorem dX9_clearRule_7 : decode cX9_clearRule 7 = .ok (.putfield 112, 3) := by decide +kernel
theorem dX9_clearRule_10 : decode cX9_clearRule 10 = .ok (.iload_n 1, 1) := by decide +kernel
theorem dX9_clearRule_11 : decode cX9_clearRule 11 = .ok (.ireturn, 1) := by decide +kernel
set_option maxRecDepth 20000 in
theorem ggX9_satisfies_X9_there : GoodIn wsX9_satisfies wsX9_there := goodIn_r _ [5, 6, 7, 8, 4, 9, 105, 106, 107, 108, 109, 110, 111, 112, 113, 114, 115, 116, 117, 118, 119, 120, 121, 122, 123, 124, 125, 126, 127, 128, 129, 130, 131, 132] (by decide +kernel) (by decide +kernel)
set_option maxRecDepth 20000 in
theorem gX9_satisfies_X9_there : GoodIn wsX9_satisfies (wsV RX9 187 RX9 yX9_there wsX9_there) := goodIn_app (goodIn_of _ (by decide +kernel)) ggX9_satisfies_X9_there
set_option maxRecDepth 20000 in
theorem ggX9_satisfies_X9_isRule : GoodIn wsX9_satisfies wsX9_isRule := goodIn_r _ [13, 14, 15, 16, 4, 17, 18, 19, 20, 21, 22, 23, 24, 25, 26, 27, 28, 7, 8, 9, 29, 30, 31, 32, 33, 34, 35, 36, 37, 38, 39, 105, 106, 107, 108, 109, 110, 111, 112, 113, 114, 115, 116, 117, 118, 119, 120, 121, 122, 123, 124, 125, 126, 127, 128, 129, 130, 131, 132] (by decide +kernel) (by decide +kernel)
set_option maxRecDepth 20000 in
theorem gX9_satisfies_X9_isRule : GoodIn wsX9_satisfies (wsV RX9 209 RX9 yX9_isRule wsX9_isRule) := goodIn_app (goodIn_of _ (by decide +kernel)) ggX9_satisfies_X9_isRule
set_option maxRecDepth 20000 in
theorem ggX9_satisfies_X9_isRight : GoodIn wsX9_satisfies wsX9_isRight := goodIn_r _ [43, 44, 33, 45, 46, 47, 48, 49, 4, 50, 51, 52, 53, 54, 55, 34, 56, 23, 24, 25, 57, 58, 59, 60, 61, 62, 63, 64, 65, 66, 67, 68, 69, 70, 26, 27, 28, 71, 72, 73, 74, 75, 76, 77, 78, 79, 80, 81, 82, 83, 84, 85, 86, 87, 88, 89, 90, 91, 92, 93, 94, 95, 6, 96, 97, 98, 99, 100, 101, 102, 103, 104, 105, 106, 107, 108, 109, 110, 111, 112, 113, 114, 115, 116, 117, 118, 119, 120, 121, 122, 123, 124, 125, 126, 127, 128, 129, 130, 131, 132] (by decide +kernel) (by decide +kernel)
set_option maxRecDepth 20000 in
theorem gX9_satisfies_X9_isRight : GoodIn wsX9_satisfies (wsV RX9 173 RX9 yX9_isRight wsX9_isRight) := goodIn_app (goodIn_of _ (by decide +kernel)) ggX9_satisfies_X9_isRight
theorem dX9_satisfies_0 : decode cX9_satisfies 0 = .ok (.aload_n 0, 1) := by decide +kernel
theorem dX9_satisfies_1 : decode cX9_satisfies 1 = .ok (.iload_n 1, 1) := by decide +kernel
theorem dX9_satisfies_2 : decode cX9_satisfies 2 = .ok (.invokevirtual 187, 3) := by decide +kernel
theorem dX9_satisfies_5 : decode cX9_satisfies 5 = .ok (.ifCond .ne 5, 3) := by decide +kernel
theorem dX9_satisfies_8 : decode cX9_satisfies 8 = .ok (.iconst (-1), 1) := by decide +kernel
theorem dX9_satisfies_9 : decode cX9_satisfies 9 = .ok (.ireturn, 1) := by decide +kernel
theorem dX9_satisfies_10 : decode cX9_satisfies 10 = .ok (.aload_n 0, 1) := by decide +kernel
theorem dX9_satisfies_11 : decode cX9_satisfies 11 = .ok (.bipush 8, 2) := by decide +kernel
theorem dX9_satisfies_13 : decode cX9_satisfies 13 = .ok (.invokevirtual 209, 3) := by decide +kernel
theorem dX9_satisfies_16 : decode cX9_satisfies 16 = .ok (.ifCond .ne 8, 3) := by decide +kernel
theorem dX9_satisfies_19 : decode cX9_satisfies 19 = .ok (.bipush (-2), 2) := by decide +kernel
theorem dX9_satisfies_21 : decode cX9_satisfies 21 = .ok (.goto 16, 3) := by decide +kernel
theorem dX9_satisfies_24 : decode cX9_satisfies 24 = .ok (.aload_n 0, 1) := by decide +kernel
theorem dX9_satisfies_25 : decode cX9_satisfies 25 = .ok (.iload_n 1, 1) := by decide +kernel
theorem dX9_satisfies_26 : decode cX9_satisfies 26 = .ok (.invokevirtual 173, 3) := by decide +kernel
theorem dX9_satisfies_29 : decode cX9_satisfies 29 = .ok (.ifCond .eq 7, 3) := by decide +kernel
theorem dX9_satisfies_32 : decode cX9_satisfies 32 = .ok (.iconst 1, 1) := by decide +kernel
theorem dX9_satisfies_33 : decode cX9_satisfies 33 = .ok (.goto 4, 3) := by decide +kernel
theorem dX9_satisfies_36 : decode cX9_satisfies 36 = .ok (.iconst 0, 1) := by decide +kernel
theorem dX9_satisfies_37 : decode cX9_satisfies 37 = .ok (.ireturn, 1) := by decide +kernel
set_option maxRecDepth 20000 in
theorem ggX9_select_X9_isRule : GoodIn wsX9_select wsX9_isRule := goodIn_r _ [6, 7, 8, 9, 5, 10, 11, 12, 13, 14, 15, 16, 17, 18, 19, 20, 21, 22, 23, 24, 25, 26, 27, 28, 29, 30, 31, 32, 33, 34, 35, 101, 102, 103, 104, 105, 106, 107, 108, 109, 110, 111, 112, 113, 114, 115, 116, 117, 118, 119, 120, 121, 122, 123, 124, 125, 126, 127, 128] (by decide +kernel) (by decide +kernel)
set_option maxRecDepth 20000 in
theorem gX9_select_X9_isRule : GoodIn wsX9_select (wsV RX9 209 RX9 yX9_isRule wsX9_isRule) := goodIn_app (goodIn_of _ (by decide +kernel)) ggX9_select_X9_isRule
set_option maxRecDepth 20000 in
theorem ggX9_select_X9_isRight : GoodIn wsX9_select wsX9_isRight := goodIn_r _ [39, 40, 29, 41, 42, 43, 44, 45, 5, 46, 47, 48, 49, 50, 51, 30, 52, 16, 17, 18, 53, 54, 55, 56, 57, 58, 59, 60, 61, 62, 63, 64, 65, 66, 19, 20, 21, 67, 68, 69, 70, 71, 72, 73, 74, 75, 76, 77, 78, 79, 80, 81, 82, 83, 84, 85, 86, 87, 88, 89, 90, 91, 1, 92, 93, 94, 95, 96, 97, 98, 99, 100, 101, 102, 103, 104, 105, 106, 107, 108, 109, 110, 111, 112, 113, 114, 115, 116, 117, 118, 119, 120, 121, 122, 123, 124, 125, 126, 127, 128] (by decide +kernel) (by decide +kernel)
set_option maxRecDepth 20000 in
theorem gX9_select_X9_isRight : GoodIn wsX9_select (wsV RX9 173 RX9 yX9_isRight wsX9_isRight) := goodIn_app (goodIn_of _ (by decide +kernel)) ggX9_select_X9_isRight
theorem dX9_select_0 : decode cX9_select 0 = .ok (.aload_n 0, 1) := by decide +kernel
theorem dX9_select_1 : decode cX9_select 1 = .ok (.bipush 8, 2) := by decide +kernel
theorem dX9_select_3 : decode cX9_select 3 = .ok (.invokevirtual 209, 3) := by decide +kernel
theorem dX9_select_6 : decode cX9_select 6 = .ok (.ifCond .ne 6, 3) := by decide +kernel
theorem dX9_select_9 : decode cX9_select 9 = .ok (.bipush (-2), 2) := by decide +kernel
theorem dX9_select_11 : decode cX9_select 11 = .ok (.ireturn, 1) := by decide +kernel
theorem dX9_select_12 : decode cX9_select 12 = .ok (.iconst 0, 1) := by decide +kernel
theorem dX9_select_13 : decode cX9_select 13 = .ok (.istore_n 1, 1) := by decide +kernel
theorem dX9_select_14 : decode cX9_select 14 = .ok (.iconst 0, 1) := by decide +kernel
theorem dX9_select_15 : decode cX9_select 15 = .ok (.istore_n 2, 1) := by decide +kernel
theorem dX9_select_16 : decode cX9_select 16 = .ok (.iload_n 2, 1) := by decide +kernel
theorem dX9_select_17 : decode cX9_select 17 = .ok (.bipush 40, 2) := by decide +kernel
theorem dX9_select_19 : decode cX9_select 19 = .ok (.if_icmp .ge 34, 3) := by decide +kernel
theorem dX9_select_22 : decode cX9_select 22 = .ok (.iload_n 1, 1) := by decide +kernel
theorem dX9_select_23 : decode cX9_select 23 = .ok (.aload_n 0, 1) := by decide +kernel
theorem dX9_select_24 : decode cX9_select 24 = .ok (.getfield 7, 3) := by decide +kernel
theorem dX9_select_27 : decode cX9_select 27 = .ok (.iload_n 2, 1) := by decide +kernel
theorem dX9_select_28 : decode cX9_select 28 = .ok (.baload, 1) := by decide +kernel
theorem dX9_select_29 : decode cX9_select 29 = .ok (.ifCond .eq 15, 3) := by decide +kernel
theorem dX9_select_32 : decode cX9_select 32 = .ok (.aload_n 0, 1) := by decide +kernel
theorem dX9_select_33 : decode cX9_select 33 = .ok (.iload_n 2, 1) := by decide +kernel
theorem dX9_select_34 : decode cX9_select 34 = .ok (.invokevirtual 173, 3) := by decide +kernel
theorem dX9_select_37 : decode cX9_select 37 = .ok (.ifCond .eq 7, 3) := by decide +kernel
theorem dX9_select_40 : decode cX9_select 40 = .ok (.iconst 1, 1) := by decide +kernel
theorem dX9_select_41 : decode cX9_select 41 = .ok (.goto 4, 3) := by decide +kernel
theorem dX9_select_44 : decode cX9_select 44 = .ok (.iconst 0, 1) := by decide +kernel
theorem dX9_select_45 : decode cX9_select 45 = .ok (.iadd, 1) := by decide +kernel
theorem dX9_select_46 : decode cX9_select 46 = .ok (.istore_n 1, 1) := by decide +kernel
theorem dX9_select_47 : decode cX9_select 47 = .ok (.iinc 2 1, 3) := by decide +kernel
theorem dX9_select_50 : decode cX9_select 50 = .ok (.goto (-34), 3) := by decide +kernel
theorem dX9_select_53 : decode cX9_select 53 = .ok (.iload_n 1, 1) := by decide +kernel
theorem dX9_select_54 : decode cX9_select 54 = .ok (.ireturn, 1) := by decide +kernel
set_option maxRecDepth 20000 in
theorem ggX9_there8_X9_in : GoodIn wsX9_there8 wsX9_in := goodIn_r _ [5] (by decide +kernel) (by decide +kernel)
set_option maxRecDepth 20000 in
theorem gX9_there8_X9_in : GoodIn wsX9_there8 (va_wsS RX9 85 yX9_in wsX9_in) := goodIn_app (goodIn_of _ (by decide +kernel)) ggX9_there8_X9_in
theorem dX9_there8_0 : decode cX9_there8 0 = .ok (.iload_n 1, 1) := by decide +kernel
theorem dX9_there8_1 : decode cX9_there8 1 = .ok (.iconst 0, 1) := by decide +kernel
theorem dX9_there8_2 : decode cX9_there8 2 = .ok (.bipush 7, 2) := by decide +kernel
theorem dX9_there8_4 : decode cX9_there8 4 = .ok (.invokestatic 85, 3) := by decide +kernel
theorem dX9_there8_7 : decode cX9_there8 7 = .ok (.ifCond .eq 16, 3) := by decide +kernel
theorem dX9_there8_10 : decode cX9_there8 10 = .ok (.aload_n 0, 1) := by decide +kernel
theorem dX9_there8_11 : decode cX9_there8 11 = .ok (.getfield 48, 3) := by decide +kernel
theorem dX9_there8_14 : decode cX9_there8 14 = .ok (.iload_n 1, 1) := by decide +kernel
theorem dX9_there8_15 : decode cX9_there8 15 = .ok (.baload, 1) := by decide +kernel
theorem dX9_there8_16 : decode cX9_there8 16 = .ok (.ifCond .eq 7, 3) := by decide +kernel
theorem dX9_there8_19 : decode cX9_there8 19 = .ok (.iconst 1, 1) := by decide +kernel
theorem dX9_there8_20 : decode cX9_there8 20 = .ok (.goto 4, 3) := by decide +kernel
theorem dX9_there8_23 : decode cX9_there8 23 = .ok (.iconst 0, 1) := by decide +kernel
theorem dX9_there8_24 : decode cX9_there8 24 = .ok (.ireturn, 1) := by decide +kernel
theorem dX9_rules_0 : decode cX9_rules 0 = .ok (.aload_n 0, 1) := by decide +kernel
theorem dX9_rules_1 : decode cX9_rules 1 = .ok (.getfield 51, 3) := by decide +kernel
theorem dX9_rules_4 : decode cX9_rules 4 = .ok (.iload_n 1, 1) := by decide +kernel
theorem dX9_rules_5 : decode cX9_rules 5 = .ok (.aload_n 0, 1) := by decide +kernel
theorem dX9_rules_6 : decode cX9_rules 6 = .ok (.getfield 112, 3) := by decide +kernel
theorem dX9_rules_9 : decode cX9_rules 9 = .ok (.iastore, 1) := by decide +kernel
theorem dX9_rules_10 : decode cX9_rules 10 = .ok (.iconst 0, 1) := by decide +kernel
theorem dX9_rules_11 : decode cX9_rules 11 = .ok (.istore_n 2, 1) := by decide +kernel
theorem dX9_rules_12 : decode cX9_rules 12 = .ok (.iload_n 2, 1) := by decide +kernel
theorem dX9_rules_13 : decode cX9_rules 13 = .ok (.aload_n 0, 1) := by decide +kernel
theorem dX9_rules_14 : decode cX9_rules 14 = .ok (.getfield 112, 3) := by decide +kernel
theorem dX9_rules_17 : decode cX9_rules 17 = .ok (.if_icmp .ge 26, 3) := by decide +kernel
theorem dX9_rules_20 : decode cX9_rules 20 = .ok (.aload_n 0, 1) := by decide +kernel
theorem dX9_rules_21 : decode cX9_rules 21 = .ok (.getfield 54, 3) := by decide +kernel
theorem dX9_rules_24 : decode cX9_rules 24 = .ok (.bipush 80, 2) := by decide +kernel
theorem dX9_rules_26 : decode cX9_rules 26 = .ok (.iload_n 1, 1) := by decide +kernel
theorem dX9_rules_27 : decode cX9_rules 27 = .ok (.imul, 1) := by decide +kernel
theorem dX9_rules_28 : decode cX9_rules 28 = .ok (.iload_n 2, 1) := by decide +kernel
theorem dX9_rules_29 : decode cX9_rules 29 = .ok (.iadd, 1) := by decide +kernel
theorem dX9_rules_30 : decode cX9_rules 30 = .ok (.aload_n 0, 1) := by decide +kernel
theorem dX9_rules_31 : decode cX9_rules 31 = .ok (.getfield 44, 3) := by decide +kernel
theorem dX9_rules_34 : decode cX9_rules 34 = .ok (.iload_n 2, 1) := by decide +kernel
theorem dX9_rules_35 : decode cX9_rules 35 = .ok (.caload, 1) := by decide +kernel
theorem dX9_rules_36 : decode cX9_rules 36 = .ok (.castore, 1) := by decide +kernel
theorem dX9_rules_37 : decode cX9_rules 37 = .ok (.iinc 2 1, 3) := by decide +kernel
theorem dX9_rules_40 : decode cX9_rules 40 = .ok (.goto (-28), 3) := by decide +kernel
theorem dX9_rules_43 : decode cX9_rules 43 = .ok (.return_, 1) := by decide +kernel
set_option maxRecDepth 20000 in
theorem ggX9_makeAlbum_X9_isRule : GoodIn wsX9_makeAlbum wsX9_isRule := goodIn_r _ [10, 11, 12, 13, 9, 14, 15, 16, 17, 18, 19, 20, 21, 22, 23, 24, 25, 26, 27, 28, 29, 30, 31, 32, 33, 34, 35, 36, 37, 38, 1, 128, 129, 130, 131, 132, 133, 134, 135, 136, 137, 138, 139, 140, 141, 142, 143, 144, 145, 146, 147, 148, 149, 150, 151, 152, 153, 154, 155] (by decide +kernel) (by decide +kernel)
set_option maxRecDepth 20000 in
theorem gX9_makeAlbum_X9_isRule : GoodIn wsX9_makeAlbum (wsV RX9 209 RX9 yX9_isRule wsX9_isRule) := goodIn_app (goodIn_of _ (by decide +kernel)) ggX9_makeAlbum_X9_isRule
set_option maxRecDepth 20000 in
theorem ggX9_makeAlbum_X9_rules : GoodIn wsX9_makeAlbum wsX9_rules := goodIn_r _ [42, 43, 15, 44, 16, 128, 129, 130, 131, 132, 133, 134, 135, 136, 137, 138, 139, 140, 141, 142, 143, 144, 145, 146, 147, 148, 149, 150, 151, 152, 153, 154, 155] (by decide +kernel) (by decide +kernel)
set_option maxRecDepth 20000 in
theorem gX9_makeAlbum_X9_rules : GoodIn wsX9_makeAlbum (wsV RX9 212 RX9 yX9_rules wsX9_rules) := goodIn_app (goodIn_of _ (by decide +kernel)) ggX9_makeAlbum_X9_rules
set_option maxRecDepth 20000 in
theorem ggX9_makeAlbum_X9_settled : GoodIn wsX9_makeAlbum wsX9_settled := goodIn_r _ [48, 49, 50, 51, 9, 52, 1, 53, 2, 54, 55, 56, 57, 43, 33, 34, 44, 58, 59, 60, 61, 62, 63, 64, 65, 66, 67, 68, 69, 70, 71, 72, 73, 20, 21, 22, 74, 75, 76, 77, 78, 79, 80, 81, 82, 83, 84, 85, 86, 87, 23, 24, 25, 88, 89, 90, 91, 92, 93, 94, 95, 96, 97, 98, 99, 100, 101, 102, 103, 104, 105, 106, 107, 108, 109, 110, 111, 112, 113, 114, 115, 116, 117, 118, 119, 120, 121, 122, 123, 124, 125, 126, 127, 5, 128, 129, 130, 131, 132, 133, 134, 135, 136, 137, 138, 139, 140, 141, 142, 143, 144, 145, 146, 147, 148, 149, 150, 151, 152, 153, 154, 155] (by decide +kernel) (by decide +kernel)
set_option maxRecDepth 20000 in
theorem gX9_makeAlbum_X9_settled : GoodIn wsX9_makeAlbum (wsV RX9 184 RX9 yX9_settled wsX9_settled) := goodIn_app (goodIn_of _ (by decide +kernel)) ggX9_makeAlbum_X9_settled
theorem dX9_makeAlbum_0 : decode cX9_makeAlbum 0 = .ok (.iconst 0, 1) := by decide +kernel
theorem dX9_makeAlbum_1 : decode cX9_makeAlbum 1 = .ok (.istore_n 1, 1) := by decide +kernel
theorem dX9_makeAlbum_2 : decode cX9_makeAlbum 2 = .ok (.iload_n 1, 1) := by decide +kernel
theorem dX9_makeAlbum_3 : decode cX9_makeAlbum 3 = .ok (.bipush 8, 2) := by decide +kernel
theorem dX9_makeAlbum_5 : decode cX9_makeAlbum 5 = .ok (.if_icmp .ge 18, 3) := by decide +kernel
theorem dX9_makeAlbum_8 : decode cX9_makeAlbum 8 = .ok (.aload_n 0, 1) := by decide +kernel
theorem dX9_makeAlbum_9 : decode cX9_makeAlbum 9 = .ok (.getfield 48, 3) := by decide +kernel
theorem dX9_makeAlbum_12 : decode cX9_makeAlbum 12 = .ok (.iload_n 1, 1) := by decide +kernel
theorem dX9_makeAlbum_13 : decode cX9_makeAlbum 13 = .ok (.baload, 1) := by decide +kernel
theorem dX9_makeAlbum_14 : decode cX9_makeAlbum 14 = .ok (.ifCond .eq 9, 3) := by decide +kernel
theorem dX9_makeAlbum_17 : decode cX9_makeAlbum 17 = .ok (.iinc 1 1, 3) := by decide +kernel
theorem dX9_makeAlbum_20 : decode cX9_makeAlbum 20 = .ok (.goto (-18), 3) := by decide +kernel
theorem dX9_makeAlbum_23 : decode cX9_makeAlbum 23 = .ok (.aload_n 0, 1) := by decide +kernel
theorem dX9_makeAlbum_24 : decode cX9_makeAlbum 24 = .ok (.iload_n 1, 1) := by decide +kernel
theorem dX9_makeAlbum_25 : decode cX9_makeAlbum 25 = .ok (.invokevirtual 209, 3) := by decide +kernel
theorem dX9_makeAlbum_28 : decode cX9_makeAlbum 28 = .ok (.ifCond .ne 6, 3) := by decide +kernel
theorem dX9_makeAlbum_31 : decode cX9_makeAlbum 31 = .ok (.bipush (-2), 2) := by decide +kernel
theorem dX9_makeAlbum_33 : decode cX9_makeAlbum 33 = .ok (.ireturn, 1) := by decide +kernel
theorem dX9_makeAlbum_34 : decode cX9_makeAlbum 34 = .ok (.iload_n 1, 1) := by decide +kernel
theorem dX9_makeAlbum_35 : decode cX9_makeAlbum 35 = .ok (.bipush 8, 2) := by decide +kernel
theorem dX9_makeAlbum_37 : decode cX9_makeAlbum 37 = .ok (.if_icmp .ne 6, 3) := by decide +kernel
theorem dX9_makeAlbum_40 : decode cX9_makeAlbum 40 = .ok (.bipush (-3), 2) := by decide +kernel
theorem dX9_makeAlbum_42 : decode cX9_makeAlbum 42 = .ok (.ireturn, 1) := by decide +kernel
theorem dX9_makeAlbum_43 : decode cX9_makeAlbum 43 = .ok (.aload_n 0, 1) := by decide +kernel
theorem dX9_makeAlbum_44 : decode cX9_makeAlbum 44 = .ok (.iload_n 1, 1) := by decide +kernel
theorem dX9_makeAlbum_45 : decode cX9_makeAlbum 45 = .ok (.invokevirtual 212, 3) := by decide +kernel
theorem dX9_makeAlbum_48 : decode cX9_makeAlbum 48 = .ok (.aload_n 0, 1) := by decide +kernel
theorem dX9_makeAlbum_49 : decode cX9_makeAlbum 49 = .ok (.getfield 48, 3) := by decide +kernel
theorem dX9_makeAlbum_52 : decode cX9_makeAlbum 52 = .ok (.iload_n 1, 1) := by decide +kernel
theorem dX9_makeAlbum_53 : decode cX9_makeAlbum 53 = .ok (.iconst 1, 1) := by decide +kernel
theorem dX9_makeAlbum_54 : decode cX9_makeAlbum 54 = .ok (.bastore, 1) := by decide +kernel
theorem dX9_makeAlbum_55 : decode cX9_makeAlbum 55 = .ok (.aload_n 0, 1) := by decide +kernel
theorem dX9_makeAlbum_56 : decode cX9_makeAlbum 56 = .ok (.getfield 57, 3) := by decide +kernel
theorem dX9_makeAlbum_59 : decode cX9_makeAlbum 59 = .ok (.iload_n 1, 1) := by decide +kernel
theorem dX9_makeAlbum_60 : decode cX9_makeAlbum 60 = .ok (.lconst 0, 1) := by decide +kernel
theorem dX9_makeAlbum_61 : decode cX9_makeAlbum 61 = .ok (.lastore, 1) := by decide +kernel
theorem dX9_makeAlbum_62 : decode cX9_makeAlbum 62 = .ok (.aload_n 0, 1) := by decide +kernel
theorem dX9_makeAlbum_63 : decode cX9_makeAlbum 63 = .ok (.getfield 61, 3) := by decide +kernel
theorem dX9_makeAlbum_66 : decode cX9_makeAlbum 66 = .ok (.iload_n 1, 1) := by decide +kernel
theorem dX9_makeAlbum_67 : decode cX9_makeAlbum 67 = .ok (.iconst 1, 1) := by decide +kernel
theorem dX9_makeAlbum_68 : decode cX9_makeAlbum 68 = .ok (.iastore, 1) := by decide +kernel
theorem dX9_makeAlbum_69 : decode cX9_makeAlbum 69 = .ok (.aload_n 0, 1) := by decide +kernel
theorem dX9_makeAlbum_70 : decode cX9_makeAlbum 70 = .ok (.getfield 64, 3) := by decide +kernel
theorem dX9_makeAlbum_73 : decode cX9_makeAlbum 73 = .ok (.iload_n 1, 1) := by decide +kernel
theorem dX9_makeAlbum_74 : decode cX9_makeAlbum 74 = .ok (.iconst 1, 1) := by decide +kernel
theorem dX9_makeAlbum_75 : decode cX9_makeAlbum 75 = .ok (.bastore, 1) := by decide +kernel
theorem dX9_makeAlbum_76 : decode cX9_makeAlbum 76 = .ok (.aload_n 0, 1) := by decide +kernel
theorem dX9_makeAlbum_77 : decode cX9_makeAlbum 77 = .ok (.getfield 67, 3) := by decide +kernel
theorem dX9_makeAlbum_80 : decode cX9_makeAlbum 80 = .ok (.iconst 2, 1) := by decide +kernel
theorem dX9_makeAlbum_81 : decode cX9_makeAlbum 81 = .ok (.iload_n 1, 1) := by decide +kernel
theorem dX9_makeAlbum_82 : decode cX9_makeAlbum 82 = .ok (.imul, 1) := by decide +kernel
theorem dX9_makeAlbum_83 : decode cX9_makeAlbum 83 = .ok (.iconst 0, 1) := by decide +kernel
theorem dX9_makeAlbum_84 : decode cX9_makeAlbum 84 = .ok (.iastore, 1) := by decide +kernel
theorem dX9_makeAlbum_85 : decode cX9_makeAlbum 85 = .ok (.aload_n 0, 1) := by decide +kernel
theorem dX9_makeAlbum_86 : decode cX9_makeAlbum 86 = .ok (.getfield 67, 3) := by decide +kernel
theorem dX9_makeAlbum_89 : decode cX9_makeAlbum 89 = .ok (.iconst 2, 1) := by decide +kernel
theorem dX9_makeAlbum_90 : decode cX9_makeAlbum 90 = .ok (.iload_n 1, 1) := by decide +kernel
theorem dX9_makeAlbum_91 : decode cX9_makeAlbum 91 = .ok (.imul, 1) := by decide +kernel
theorem dX9_makeAlbum_92 : decode cX9_makeAlbum 92 = .ok (.iconst 1, 1) := by decide +kernel
theorem dX9_makeAlbum_93 : decode cX9_makeAlbum 93 = .ok (.iadd, 1) := by decide +kernel
theorem dX9_makeAlbum_94 : decode cX9_makeAlbum 94 = .ok (.iconst 0, 1) := by decide +kernel
theorem dX9_makeAlbum_95 : decode cX9_makeAlbum 95 = .ok (.iastore, 1) := by decide +kernel
theorem dX9_makeAlbum_96 : decode cX9_makeAlbum 96 = .ok (.aload_n 0, 1) := by decide +kernel
theorem dX9_makeAlbum_97 : decode cX9_makeAlbum 97 = .ok (.iload_n 1, 1) := by decide +kernel
theorem dX9_makeAlbum_98 : decode cX9_makeAlbum 98 = .ok (.invokevirtual 184, 3) := by decide +kernel
theorem dX9_makeAlbum_101 : decode cX9_makeAlbum 101 = .ok (.ireturn, 1) := by decide +kernel
set_option maxRecDepth 20000 in
theorem ggX9_removeAlbum_X9_there8 : GoodIn wsX9_removeAlbum wsX9_there8 := goodIn_r _ [9, 1, 10, 11, 8, 12, 13, 14, 15, 16, 17, 18, 19, 20, 21, 22, 23, 24, 25, 26, 27, 28, 29, 30, 31, 32, 33, 34, 35, 36, 37, 38, 39, 40] (by decide +kernel) (by decide +kernel)
set_option maxRecDepth 20000 in
theorem gX9_removeAlbum_X9_there8 : GoodIn wsX9_removeAlbum (wsV RX9 214 RX9 yX9_there8 wsX9_there8) := goodIn_app (goodIn_of _ (by decide +kernel)) ggX9_removeAlbum_X9_there8
theorem dX9_removeAlbum_0 : decode cX9_removeAlbum 0 = .ok (.aload_n 0, 1) := by decide +kernel
theorem dX9_removeAlbum_1 : decode cX9_removeAlbum 1 = .ok (.iload_n 1, 1) := by decide +kernel
theorem dX9_removeAlbum_2 : decode cX9_removeAlbum 2 = .ok (.invokevirtual 214, 3) := by decide +kernel
theorem dX9_removeAlbum_5 : decode cX9_removeAlbum 5 = .ok (.ifCond .ne 5, 3) := by decide +kernel
theorem dX9_removeAlbum_8 : decode cX9_removeAlbum 8 = .ok (.iconst (-1), 1) := by decide +kernel
theorem dX9_removeAlbum_9 : decode cX9_removeAlbum 9 = .ok (.ireturn, 1) := by decide +kernel
theorem dX9_removeAlbum_10 : decode cX9_removeAlbum 10 = .ok (.iconst 0, 1) := by decide +kernel
theorem dX9_removeAlbum_11 : decode cX9_removeAlbum 11 = .ok (.istore_n 2, 1) := by decide +kernel
theorem dX9_removeAlbum_12 : decode cX9_removeAlbum 12 = .ok (.iconst 0, 1) := by decide +kernel
theorem dX9_removeAlbum_13 : decode cX9_removeAlbum 13 = .ok (.istore_n 3, 1) := by decide +kernel
theorem dX9_removeAlbum_14 : decode cX9_removeAlbum 14 = .ok (.iload_n 3, 1) := by decide +kernel
theorem dX9_removeAlbum_15 : decode cX9_removeAlbum 15 = .ok (.bipush 8, 2) := by decide +kernel
theorem dX9_removeAlbum_17 : decode cX9_removeAlbum 17 = .ok (.if_icmp .ge 89, 3) := by decide +kernel
theorem dX9_removeAlbum_20 : decode cX9_removeAlbum 20 = .ok (.iload_n 3, 1) := by decide +kernel
theorem dX9_removeAlbum_21 : decode cX9_removeAlbum 21 = .ok (.iload_n 1, 1) := by decide +kernel
theorem dX9_removeAlbum_22 : decode cX9_removeAlbum 22 = .ok (.if_icmp .eq 78, 3) := by decide +kernel
theorem dX9_removeAlbum_25 : decode cX9_removeAlbum 25 = .ok (.aload_n 0, 1) := by decide +kernel
theorem dX9_removeAlbum_26 : decode cX9_removeAlbum 26 = .ok (.getfield 48, 3) := by decide +kernel
theorem dX9_removeAlbum_29 : decode cX9_removeAlbum 29 = .ok (.iload_n 3, 1) := by decide +kernel
theorem dX9_removeAlbum_30 : decode cX9_removeAlbum 30 = .ok (.baload, 1) := by decide +kernel
theorem dX9_removeAlbum_31 : decode cX9_removeAlbum 31 = .ok (.ifCond .eq 69, 3) := by decide +kernel
theorem dX9_removeAlbum_34 : decode cX9_removeAlbum 34 = .ok (.iinc 2 1, 3) := by decide +kernel
theorem dX9_removeAlbum_37 : decode cX9_removeAlbum 37 = .ok (.iconst 0, 1) := by decide +kernel
theorem dX9_removeAlbum_38 : decode cX9_removeAlbum 38 = .ok (.istore 4, 2) := by decide +kernel
theorem dX9_removeAlbum_40 : decode cX9_removeAlbum 40 = .ok (.iload 4, 2) := by decide +kernel
theorem dX9_removeAlbum_42 : decode cX9_removeAlbum 42 = .ok (.iconst 1, 1) := by decide +kernel
theorem dX9_removeAlbum_43 : decode cX9_removeAlbum 43 = .ok (.iadd, 1) := by decide +kernel
theorem dX9_removeAlbum_44 : decode cX9_removeAlbum 44 = .ok (.aload_n 0, 1) := by decide +kernel
theorem dX9_removeAlbum_45 : decode cX9_removeAlbum 45 = .ok (.getfield 51, 3) := by decide +kernel
theorem dX9_removeAlbum_48 : decode cX9_removeAlbum 48 = .ok (.iload_n 3, 1) := by decide +kernel
theorem dX9_removeAlbum_49 : decode cX9_removeAlbum 49 = .ok (.iaload, 1) := by decide +kernel
theorem dX9_removeAlbum_50 : decode cX9_removeAlbum 50 = .ok (.if_icmp .ge 50, 3) := by decide +kernel
theorem dX9_removeAlbum_53 : decode cX9_removeAlbum 53 = .ok (.aload_n 0, 1) := by decide +kernel
theorem dX9_removeAlbum_54 : decode cX9_removeAlbum 54 = .ok (.getfield 54, 3) := by decide +kernel
theorem dX9_removeAlbum_57 : decode cX9_removeAlbum 57 = .ok (.bipush 80, 2) := by decide +kernel
theorem dX9_removeAlbum_59 : decode cX9_removeAlbum 59 = .ok (.iload_n 3, 1) := by decide +kernel
theorem dX9_removeAlbum_60 : decode cX9_removeAlbum 60 = .ok (.imul, 1) := by decide +kernel
theorem dX9_removeAlbum_61 : decode cX9_removeAlbum 61 = .ok (.iload 4, 2) := by decide +kernel
theorem dX9_removeAlbum_63 : decode cX9_removeAlbum 63 = .ok (.iadd, 1) := by decide +kernel
theorem dX9_removeAlbum_64 : decode cX9_removeAlbum 64 = .ok (.caload, 1) := by decide +kernel
theorem dX9_removeAlbum_65 : decode cX9_removeAlbum 65 = .ok (.bipush 97, 2) := by decide +kernel
theorem dX9_removeAlbum_67 : decode cX9_removeAlbum 67 = .ok (.if_icmp .ne 27, 3) := by decide +kernel
theorem dX9_removeAlbum_70 : decode cX9_removeAlbum 70 = .ok (.aload_n 0, 1) := by decide +kernel
theorem dX9_removeAlbum_71 : decode cX9_removeAlbum 71 = .ok (.getfield 54, 3) := by decide +kernel
theorem dX9_removeAlbum_74 : decode cX9_removeAlbum 74 = .ok (.bipush 80, 2) := by decide +kernel
theorem dX9_removeAlbum_76 : decode cX9_removeAlbum 76 = .ok (.iload_n 3, 1) := by decide +kernel
theorem dX9_removeAlbum_77 : decode cX9_removeAlbum 77 = .ok (.imul, 1) := by decide +kernel
theorem dX9_removeAlbum_78 : decode cX9_removeAlbum 78 = .ok (.iload 4, 2) := by decide +kernel
theorem dX9_removeAlbum_80 : decode cX9_removeAlbum 80 = .ok (.iadd, 1) := by decide +kernel
theorem dX9_removeAlbum_81 : decode cX9_removeAlbum 81 = .ok (.iconst 1, 1) := by decide +kernel
theorem dX9_removeAlbum_82 : decode cX9_removeAlbum 82 = .ok (.iadd, 1) := by decide +kernel
theorem dX9_removeAlbum_83 : decode cX9_removeAlbum 83 = .ok (.caload, 1) := by decide +kernel
theorem dX9_removeAlbum_84 : decode cX9_removeAlbum 84 = .ok (.bipush 48, 2) := by decide +kernel
theorem dX9_removeAlbum_86 : decode cX9_removeAlbum 86 = .ok (.isub, 1) := by decide +kernel
theorem dX9_removeAlbum_87 : decode cX9_removeAlbum 87 = .ok (.iload_n 1, 1) := by decide +kernel
theorem dX9_removeAlbum_88 : decode cX9_removeAlbum 88 = .ok (.if_icmp .ne 6, 3) := by decide +kernel
theorem dX9_removeAlbum_91 : decode cX9_removeAlbum 91 = .ok (.bipush (-2), 2) := by decide +kernel
theorem dX9_removeAlbum_93 : decode cX9_removeAlbum 93 = .ok (.ireturn, 1) := by decide +kernel
theorem dX9_removeAlbum_94 : decode cX9_removeAlbum 94 = .ok (.iinc 4 1, 3) := by decide +kernel
theorem dX9_removeAlbum_97 : decode cX9_removeAlbum 97 = .ok (.goto (-57), 3) := by decide +kernel
theorem dX9_removeAlbum_100 : decode cX9_removeAlbum 100 = .ok (.iinc 3 1, 3) := by decide +kernel
theorem dX9_removeAlbum_103 : decode cX9_removeAlbum 103 = .ok (.goto (-89), 3) := by decide +kernel
theorem dX9_removeAlbum_106 : decode cX9_removeAlbum 106 = .ok (.aload_n 0, 1) := by decide +kernel
theorem dX9_removeAlbum_107 : decode cX9_removeAlbum 107 = .ok (.getfield 48, 3) := by decide +kernel
theorem dX9_removeAlbum_110 : decode cX9_removeAlbum 110 = .ok (.iload_n 1, 1) := by decide +kernel
theorem dX9_removeAlbum_111 : decode cX9_removeAlbum 111 = .ok (.iconst 0, 1) := by decide +kernel
theorem dX9_removeAlbum_112 : decode cX9_removeAlbum 112 = .ok (.bastore, 1) := by decide +kernel
theorem dX9_removeAlbum_113 : decode cX9_removeAlbum 113 = .ok (.aload_n 0, 1) := by decide +kernel
theorem dX9_removeAlbum_114 : decode cX9_removeAlbum 114 = .ok (.getfield 57, 3) := by decide +kernel
theorem dX9_removeAlbum_117 : decode cX9_removeAlbum 117 = .ok (.iload_n 1, 1) := by decide +kernel
theorem dX9_removeAlbum_118 : decode cX9_removeAlbum 118 = .ok (.lconst 0, 1) := by decide +kernel
theorem dX9_removeAlbum_119 : decode cX9_removeAlbum 119 = .ok (.lastore, 1) := by decide +kernel
theorem dX9_removeAlbum_120 : decode cX9_removeAlbum 120 = .ok (.iload_n 2, 1) := by decide +kernel
theorem dX9_removeAlbum_121 : decode cX9_removeAlbum 121 = .ok (.ireturn, 1) := by decide +kernel
theorem dX9_count40_0 : decode cX9_count40 0 = .ok (.iconst 0, 1) := by decide +kernel
theorem dX9_count40_1 : decode cX9_count40 1 = .ok (.istore_n 3, 1) := by decide +kernel
theorem dX9_count40_2 : decode cX9_count40 2 = .ok (.iconst 0, 1) := by decide +kernel
theorem dX9_count40_3 : decode cX9_count40 3 = .ok (.istore 4, 2) := by decide +kernel
theorem dX9_count40_5 : decode cX9_count40 5 = .ok (.iload 4, 2) := by decide +kernel
theorem dX9_count40_7 : decode cX9_count40 7 = .ok (.bipush 40, 2) := by decide +kernel
theorem dX9_count40_9 : decode cX9_count40 9 = .ok (.if_icmp .ge 19, 3) := by decide +kernel
theorem dX9_count40_12 : decode cX9_count40 12 = .ok (.iload_n 3, 1) := by decide +kernel
theorem dX9_count40_13 : decode cX9_count40 13 = .ok (.lload_n 1, 1) := by decide +kernel
theorem dX9_count40_14 : decode cX9_count40 14 = .ok (.iload 4, 2) := by decide +kernel
theorem dX9_count40_16 : decode cX9_count40 16 = .ok (.lshr, 1) := by decide +kernel
theorem dX9_count40_17 : decode cX9_count40 17 = .ok (.lconst 1, 1) := by decide +kernel
theorem dX9_count40_18 : decode cX9_count40 18 = .ok (.land, 1) := by decide +kernel
theorem dX9_count40_19 : decode cX9_count40 19 = .ok (.l2i, 1) := by decide +kernel
theorem dX9_count40_20 : decode cX9_count40 20 = .ok (.iadd, 1) := by decide +kernel
theorem dX9_count40_21 : decode cX9_count40 21 = .ok (.istore_n 3, 1) := by decide +kernel
theorem dX9_count40_22 : decode cX9_count40 22 = .ok (.iinc 4 1, 3) := by decide +kernel
theorem dX9_count40_25 : decode cX9_count40 25 = .ok (.goto (-20), 3) := by decide +kernel
theorem dX9_count40_28 : decode cX9_count40 28 = .ok (.iload_n 3, 1) := by decide +kernel
theorem dX9_count40_29 : decode cX9_count40 29 = .ok (.ireturn, 1) := by decide +kernel
set_option maxRecDepth 20000 in
theorem ggX9_changeRule_X9_there8 : GoodIn wsX9_changeRule wsX9_there8 := goodIn_r _ [6, 7, 8, 9, 5, 10, 130, 131, 132, 133, 134, 135, 136, 137, 138, 139, 140, 141, 142, 143, 144, 145, 146, 147, 148, 149, 150, 151, 152, 153, 154, 155, 156, 157] (by decide +kernel) (by decide +kernel)
set_option maxRecDepth 20000 in
theorem gX9_changeRule_X9_there8 : GoodIn wsX9_changeRule (wsV RX9 214 RX9 yX9_there8 wsX9_there8) := goodIn_app (goodIn_of _ (by decide +kernel)) ggX9_changeRule_X9_there8
set_option maxRecDepth 20000 in
theorem ggX9_changeRule_X9_isRule : GoodIn wsX9_changeRule wsX9_isRule := goodIn_r _ [14, 15, 16, 17, 5, 18, 19, 20, 21, 22, 23, 24, 25, 26, 27, 28, 29, 8, 9, 10, 30, 31, 32, 33, 34, 35, 36, 37, 38, 39, 7, 130, 131, 132, 133, 134, 135, 136, 137, 138, 139, 140, 141, 142, 143, 144, 145, 146, 147, 148, 149, 150, 151, 152, 153, 154, 155, 156, 157] (by decide +kernel) (by decide +kernel)
set_option maxRecDepth 20000 in
theorem gX9_changeRule_X9_isRule : GoodIn wsX9_changeRule (wsV RX9 209 RX9 yX9_isRule wsX9_isRule) := goodIn_app (goodIn_of _ (by decide +kernel)) ggX9_changeRule_X9_isRule
set_option maxRecDepth 20000 in
theorem ggX9_changeRule_X9_rules : GoodIn wsX9_changeRule wsX9_rules := goodIn_r _ [43, 44, 19, 45, 20, 130, 131, 132, 133, 134, 135, 136, 137, 138, 139, 140, 141, 142, 143, 144, 145, 146, 147, 148, 149, 150, 151, 152, 153, 154, 155, 156, 157] (by decide +kernel) (by decide +kernel)
set_option maxRecDepth 20000 in
theorem gX9_changeRule_X9_rules : GoodIn wsX9_changeRule (wsV RX9 212 RX9 yX9_rules wsX9_rules) := goodIn_app (goodIn_of _ (by decide +kernel)) ggX9_changeRule_X9_rules
set_option maxRecDepth 20000 in
theorem ggX9_changeRule_X9_settles : GoodIn wsX9_changeRule wsX9_settles := goodIn_r _ [49, 7, 50, 1, 51, 52, 53, 5, 54, 44, 34, 35, 45, 55, 56, 57, 58, 59, 60, 61, 62, 63, 64, 65, 66, 67, 68, 69, 70, 24, 25, 26, 71, 72, 73, 74, 75, 76, 77, 78, 79, 80, 81, 82, 83, 84, 27, 28, 29, 85, 86, 87, 88, 89, 90, 91, 92, 93, 94, 95, 96, 97, 98, 99, 100, 101, 102, 103, 104, 105, 106, 107, 108, 109, 110, 111, 112, 113, 114, 115, 116, 117, 118, 119, 120, 121, 122, 123, 124, 125, 130, 131, 132, 133, 134, 135, 136, 137, 138, 139, 140, 141, 142, 143, 144, 145, 146, 147, 148, 149, 150, 151, 152, 153, 154, 155, 156, 157] (by decide +kernel) (by decide +kernel)
set_option maxRecDepth 20000 in
theorem gX9_changeRule_X9_settles : GoodIn wsX9_changeRule (wsV RX9 180 RX9 yX9_settles wsX9_settles) := goodIn_app (goodIn_of _ (by decide +kernel)) ggX9_changeRule_X9_settles
set_option maxRecDepth 20000 in
theorem ggX9_changeRule_X9_count40 : GoodIn wsX9_changeRule wsX9_count40 := goodIn_r _ [129] (by decide +kernel) (by decide +kernel)
set_option maxRecDepth 20000 in
theorem gX9_changeRule_X9_count40 : GoodIn wsX9_changeRule (wsV RX9 217 RX9 yX9_count40 wsX9_count40) := goodIn_app (goodIn_of _ (by decide +kernel)) ggX9_changeRule_X9_count40
theorem dX9_changeRule_0 : decode cX9_changeRule 0 = .ok (.aload_n 0, 1) := by decide +kernel
theorem dX9_changeRule_1 : decode cX9_changeRule 1 = .ok (.iload_n 1, 1) := by decide +kernel
theorem dX9_changeRule_2 : decode cX9_changeRule 2 = .ok (.invokevirtual 214, 3) := by decide +kernel
theorem dX9_changeRule_5 : decode cX9_changeRule 5 = .ok (.ifCond .ne 5, 3) := by decide +kernel
theorem dX9_changeRule_8 : decode cX9_changeRule 8 = .ok (.iconst (-1), 1) := by decide +kernel
theorem dX9_changeRule_9 : decode cX9_changeRule 9 = .ok (.ireturn, 1) := by decide +kernel
theorem dX9_changeRule_10 : decode cX9_changeRule 10 = .ok (.aload_n 0, 1) := by decide +kernel
theorem dX9_changeRule_11 : decode cX9_changeRule 11 = .ok (.iload_n 1, 1) := by decide +kernel
theorem dX9_changeRule_12 : decode cX9_changeRule 12 = .ok (.invokevirtual 209, 3) := by decide +kernel
theorem dX9_changeRule_15 : decode cX9_changeRule 15 = .ok (.ifCond .ne 6, 3) := by decide +kernel
theorem dX9_changeRule_18 : decode cX9_changeRule 18 = .ok (.bipush (-2), 2) := by decide +kernel
theorem dX9_changeRule_20 : decode cX9_changeRule 20 = .ok (.ireturn, 1) := by decide +kernel
theorem dX9_changeRule_21 : decode cX9_changeRule 21 = .ok (.aload_n 0, 1) := by decide +kernel
theorem dX9_changeRule_22 : decode cX9_changeRule 22 = .ok (.iload_n 1, 1) := by decide +kernel
theorem dX9_changeRule_23 : decode cX9_changeRule 23 = .ok (.invokevirtual 212, 3) := by decide +kernel
theorem dX9_changeRule_26 : decode cX9_changeRule 26 = .ok (.aload_n 0, 1) := by decide +kernel
theorem dX9_changeRule_27 : decode cX9_changeRule 27 = .ok (.invokevirtual 180, 3) := by decide +kernel
theorem dX9_changeRule_30 : decode cX9_changeRule 30 = .ok (.aload_n 0, 1) := by decide +kernel
theorem dX9_changeRule_31 : decode cX9_changeRule 31 = .ok (.aload_n 0, 1) := by decide +kernel
theorem dX9_changeRule_32 : decode cX9_changeRule 32 = .ok (.getfield 57, 3) := by decide +kernel
theorem dX9_changeRule_35 : decode cX9_changeRule 35 = .ok (.iload_n 1, 1) := by decide +kernel
theorem dX9_changeRule_36 : decode cX9_changeRule 36 = .ok (.laload, 1) := by decide +kernel
theorem dX9_changeRule_37 : decode cX9_changeRule 37 = .ok (.invokevirtual 217, 3) := by decide +kernel
theorem dX9_changeRule_40 : decode cX9_changeRule 40 = .ok (.ireturn, 1) := by decide +kernel
set_option maxRecDepth 20000 in
theorem ggX9_albumSize_X9_there8 : GoodIn wsX9_albumSize wsX9_there8 := goodIn_r _ [6, 7, 8, 9, 5, 10, 15, 16, 17, 18, 19, 20, 21, 22, 23, 24, 25, 26, 27, 28, 29, 30, 31, 32, 33, 34, 35, 36, 37, 38, 39, 40, 41, 42] (by decide +kernel) (by decide +kernel)
set_option maxRecDepth 20000 in
theorem gX9_albumSize_X9_there8 : GoodIn wsX9_albumSize (wsV RX9 214 RX9 yX9_there8 wsX9_there8) := goodIn_app (goodIn_of _ (by decide +kernel)) ggX9_albumSize_X9_there8
set_option maxRecDepth 20000 in
theorem ggX9_albumSize_X9_count40 : GoodIn wsX9_albumSize wsX9_count40 := goodIn_r _ [14] (by decide +kernel) (by decide +kernel)
set_option maxRecDepth 20000 in
theorem gX9_albumSize_X9_count40 : GoodIn wsX9_albumSize (wsV RX9 217 RX9 yX9_count40 wsX9_count40) := goodIn_app (goodIn_of _ (by decide +kernel)) ggX9_albumSize_X9_count40
theorem dX9_albumSize_0 : decode cX9_albumSize 0 = .ok (.aload_n 0, 1) := by decide +kernel
theorem dX9_albumSize_1 : decode cX9_albumSize 1 = .ok (.iload_n 1, 1) := by decide +kernel
theorem dX9_albumSize_2 : decode cX9_albumSize 2 = .ok (.invokevirtual 214, 3) := by decide +kernel
theorem dX9_albumSize_5 : decode cX9_albumSize 5 = .ok (.ifCond .eq 16, 3) := by decide +kernel
theorem dX9_albumSize_8 : decode cX9_albumSize 8 = .ok (.aload_n 0, 1) := by decide +kernel
theorem dX9_albumSize_9 : decode cX9_albumSize 9 = .ok (.aload_n 0, 1) := by decide +kernel
theorem dX9_albumSize_10 : decode cX9_albumSize 10 = .ok (.getfield 57, 3) := by decide +kernel
theorem dX9_albumSize_13 : decode cX9_albumSize 13 = .ok (.iload_n 1, 1) := by decide +kernel
theorem dX9_albumSize_14 : decode cX9_albumSize 14 = .ok (.laload, 1) := by decide +kernel
theorem dX9_albumSize_15 : decode cX9_albumSize 15 = .ok (.invokevirtual 217, 3) := by decide +kernel
theorem dX9_albumSize_18 : decode cX9_albumSize 18 = .ok (.goto 4, 3) := by decide +kernel
theorem dX9_albumSize_21 : decode cX9_albumSize 21 = .ok (.iconst (-1), 1) := by decide +kernel
theorem dX9_albumSize_22 : decode cX9_albumSize 22 = .ok (.ireturn, 1) := by decide +kernel
set_option maxRecDepth 20000 in
theorem ggX9_isIn_X9_there8 : GoodIn wsX9_isIn wsX9_there8 := goodIn_r _ [6, 7, 8, 9, 5, 10, 16, 17, 18, 19, 20, 21, 22, 23, 24, 25, 26, 27, 28, 29, 30, 31, 32, 33, 34, 35, 36, 37, 38, 39, 40, 41, 42, 43] (by decide +kernel) (by decide +kernel)
set_option maxRecDepth 20000 in
theorem gX9_isIn_X9_there8 : GoodIn wsX9_isIn (wsV RX9 214 RX9 yX9_there8 wsX9_there8) := goodIn_app (goodIn_of _ (by decide +kernel)) ggX9_isIn_X9_there8
set_option maxRecDepth 20000 in
theorem ggX9_isIn_X9_there : GoodIn wsX9_isIn wsX9_there := goodIn_r _ [14, 15, 8, 9, 5, 10, 16, 17, 18, 19, 20, 21, 22, 23, 24, 25, 26, 27, 28, 29, 30, 31, 32, 33, 34, 35, 36, 37, 38, 39, 40, 41, 42, 43] (by decide +kernel) (by decide +kernel)
set_option maxRecDepth 20000 in
theorem gX9_isIn_X9_there : GoodIn wsX9_isIn (wsV RX9 187 RX9 yX9_there wsX9_there) := goodIn_app (goodIn_of _ (by decide +kernel)) ggX9_isIn_X9_there
theorem dX9_isIn_0 : decode cX9_isIn 0 = .ok (.aload_n 0, 1) := by decide +kernel
theorem dX9_isIn_1 : decode cX9_isIn 1 = .ok (.iload_n 1, 1) := by decide +kernel
theorem dX9_isIn_2 : decode cX9_isIn 2 = .ok (.invokevirtual 214, 3) := by decide +kernel
theorem dX9_isIn_5 : decode cX9_isIn 5 = .ok (.ifCond .eq 25, 3) := by decide +kernel
theorem dX9_isIn_8 : decode cX9_isIn 8 = .ok (.aload_n 0, 1) := by decide +kernel
theorem dX9_isIn_9 : decode cX9_isIn 9 = .ok (.iload_n 2, 1) := by decide +kernel
theorem dX9_isIn_10 : decode cX9_isIn 10 = .ok (.invokevirtual 187, 3) := by decide +kernel
theorem dX9_isIn_13 : decode cX9_isIn 13 = .ok (.ifCond .eq 17, 3) := by decide +kernel
theorem dX9_isIn_16 : decode cX9_isIn 16 = .ok (.aload_n 0, 1) := by decide +kernel
theorem dX9_isIn_17 : decode cX9_isIn 17 = .ok (.getfield 57, 3) := by decide +kernel
theorem dX9_isIn_20 : decode cX9_isIn 20 = .ok (.iload_n 1, 1) := by decide +kernel
theorem dX9_isIn_21 : decode cX9_isIn 21 = .ok (.laload, 1) := by decide +kernel
theorem dX9_isIn_22 : decode cX9_isIn 22 = .ok (.iload_n 2, 1) := by decide +kernel
theorem dX9_isIn_23 : decode cX9_isIn 23 = .ok (.lshr, 1) := by decide +kernel
theorem dX9_isIn_24 : decode cX9_isIn 24 = .ok (.lconst 1, 1) := by decide +kernel
theorem dX9_isIn_25 : decode cX9_isIn 25 = .ok (.land, 1) := by decide +kernel
theorem dX9_isIn_26 : decode cX9_isIn 26 = .ok (.l2i, 1) := by decide +kernel
theorem dX9_isIn_27 : decode cX9_isIn 27 = .ok (.goto 4, 3) := by decide +kernel
theorem dX9_isIn_30 : decode cX9_isIn 30 = .ok (.iconst (-1), 1) := by decide +kernel
theorem dX9_isIn_31 : decode cX9_isIn 31 = .ok (.ireturn, 1) := by decide +kernel
set_option maxRecDepth 20000 in
theorem ggX9_sortBy_X9_there8 : GoodIn wsX9_sortBy wsX9_there8 := goodIn_r _ [7, 8, 9, 10, 6, 11, 12, 13, 14, 15, 16, 17, 18, 19, 20, 21, 22, 23, 24, 25, 26, 27, 28, 29, 30, 31, 32, 33, 34, 35, 36, 37, 38, 39] (by decide +kernel) (by decide +kernel)
set_option maxRecDepth 20000 in
theorem gX9_sortBy_X9_there8 : GoodIn wsX9_sortBy (wsV RX9 214 RX9 yX9_there8 wsX9_there8) := goodIn_app (goodIn_of _ (by decide +kernel)) ggX9_sortBy_X9_there8
set_option maxRecDepth 20000 in
theorem ggX9_sortBy_X9_in : GoodIn wsX9_sortBy wsX9_in := goodIn_r _ [11] (by decide +kernel) (by decide +kernel)
set_option maxRecDepth 20000 in
theorem gX9_sortBy_X9_in : GoodIn wsX9_sortBy (va_wsS RX9 85 yX9_in wsX9_in) := goodIn_app (goodIn_of _ (by decide +kernel)) ggX9_sortBy_X9_in
theorem dX9_sortBy_0 : decode cX9_sortBy 0 = .ok (.aload_n 0, 1) := by decide +kernel
theorem dX9_sortBy_1 : decode cX9_sortBy 1 = .ok (.iload_n 1, 1) := by decide +kernel
theorem dX9_sortBy_2 : decode cX9_sortBy 2 = .ok (.invokevirtual 214, 3) := by decide +kernel
theorem dX9_sortBy_5 : decode cX9_sortBy 5 = .ok (.ifCond .eq 21, 3) := by decide +kernel
theorem dX9_sortBy_8 : decode cX9_sortBy 8 = .ok (.iload_n 2, 1) := by decide +kernel
theorem dX9_sortBy_9 : decode cX9_sortBy 9 = .ok (.iconst 0, 1) := by decide +kernel
theorem dX9_sortBy_10 : decode cX9_sortBy 10 = .ok (.iconst 4, 1) := by decide +kernel
theorem dX9_sortBy_11 : decode cX9_sortBy 11 = .ok (.invokestatic 85, 3) := by decide +kernel
theorem dX9_sortBy_14 : decode cX9_sortBy 14 = .ok (.ifCond .eq 12, 3) := by decide +kernel
theorem dX9_sortBy_17 : decode cX9_sortBy 17 = .ok (.iload_n 3, 1) := by decide +kernel
theorem dX9_sortBy_18 : decode cX9_sortBy 18 = .ok (.iconst 0, 1) := by decide +kernel
theorem dX9_sortBy_19 : decode cX9_sortBy 19 = .ok (.iconst 1, 1) := by decide +kernel
theorem dX9_sortBy_20 : decode cX9_sortBy 20 = .ok (.invokestatic 85, 3) := by decide +kernel
theorem dX9_sortBy_23 : decode cX9_sortBy 23 = .ok (.ifCond .ne 5, 3) := by decide +kernel
theorem dX9_sortBy_26 : decode cX9_sortBy 26 = .ok (.iconst (-1), 1) := by decide +kernel
theorem dX9_sortBy_27 : decode cX9_sortBy 27 = .ok (.ireturn, 1) := by decide +kernel
theorem dX9_sortBy_28 : decode cX9_sortBy 28 = .ok (.bipush 10, 2) := by decide +kernel
theorem dX9_sortBy_30 : decode cX9_sortBy 30 = .ok (.aload_n 0, 1) := by decide +kernel
theorem dX9_sortBy_31 : decode cX9_sortBy 31 = .ok (.getfield 61, 3) := by decide +kernel
theorem dX9_sortBy_34 : decode cX9_sortBy 34 = .ok (.iload_n 1, 1) := by decide +kernel
theorem dX9_sortBy_35 : decode cX9_sortBy 35 = .ok (.iaload, 1) := by decide +kernel
theorem dX9_sortBy_36 : decode cX9_sortBy 36 = .ok (.imul, 1) := by decide +kernel
theorem dX9_sortBy_37 : decode cX9_sortBy 37 = .ok (.aload_n 0, 1) := by decide +kernel
theorem dX9_sortBy_38 : decode cX9_sortBy 38 = .ok (.getfield 64, 3) := by decide +kernel
theorem dX9_sortBy_41 : decode cX9_sortBy 41 = .ok (.iload_n 1, 1) := by decide +kernel
theorem dX9_sortBy_42 : decode cX9_sortBy 42 = .ok (.baload, 1) := by decide +kernel
theorem dX9_sortBy_43 : decode cX9_sortBy 43 = .ok (.ifCond .eq 7, 3) := by decide +kernel
theorem dX9_sortBy_46 : decode cX9_sortBy 46 = .ok (.iconst 1, 1) := by decide +kernel
theorem dX9_sortBy_47 : decode cX9_sortBy 47 = .ok (.goto 4, 3) := by decide +kernel
theorem dX9_sortBy_50 : decode cX9_sortBy 50 = .ok (.iconst 0, 1) := by decide +kernel
theorem dX9_sortBy_51 : decode cX9_sortBy 51 = .ok (.iadd, 1) := by decide +kernel
theorem dX9_sortBy_52 : decode cX9_sortBy 52 = .ok (.istore 4, 2) := by decide +kernel
theorem dX9_sortBy_54 : decode cX9_sortBy 54 = .ok (.aload_n 0, 1) := by decide +kernel
theorem dX9_sortBy_55 : decode cX9_sortBy 55 = .ok (.getfield 61, 3) := by decide +kernel
theorem dX9_sortBy_58 : decode cX9_sortBy 58 = .ok (.iload_n 1, 1) := by decide +kernel
theorem dX9_sortBy_59 : decode cX9_sortBy 59 = .ok (.iload_n 2, 1) := by decide +kernel
theorem dX9_sortBy_60 : decode cX9_sortBy 60 = .ok (.iastore, 1) := by decide +kernel
theorem dX9_sortBy_61 : decode cX9_sortBy 61 = .ok (.aload_n 0, 1) := by decide +kernel
theorem dX9_sortBy_62 : decode cX9_sortBy 62 = .ok (.getfield 64, 3) := by decide +kernel
theorem dX9_sortBy_65 : decode cX9_sortBy 65 = .ok (.iload_n 1, 1) := by decide +kernel
theorem dX9_sortBy_66 : decode cX9_sortBy 66 = .ok (.iload_n 3, 1) := by decide +kernel
theorem dX9_sortBy_67 : decode cX9_sortBy 67 = .ok (.iconst 1, 1) := by decide +kernel
theorem dX9_sortBy_68 : decode cX9_sortBy 68 = .ok (.if_icmp .ne 7, 3) := by decide +kernel
theorem dX9_sortBy_71 : decode cX9_sortBy 71 = .ok (.iconst 1, 1) := by decide +kernel
theorem dX9_sortBy_72 : decode cX9_sortBy 72 = .ok (.goto 4, 3) := by decide +kernel
theorem dX9_sortBy_75 : decode cX9_sortBy 75 = .ok (.iconst 0, 1) := by decide +kernel
theorem dX9_sortBy_76 : decode cX9_sortBy 76 = .ok (.bastore, 1) := by decide +kernel
theorem dX9_sortBy_77 : decode cX9_sortBy 77 = .ok (.iload 4, 2) := by decide +kernel
theorem dX9_sortBy_79 : decode cX9_sortBy 79 = .ok (.ireturn, 1) := by decide +kernel
set_option maxRecDepth 20000 in
theorem ggX9_isShown_X9_cover : GoodIn wsX9_isShown wsX9_cover := goodIn_r _ [9, 10, 4, 11, 12, 13, 14, 8, 15, 16, 17, 18, 19, 20, 21, 22, 23, 24, 25, 26, 27, 28, 29, 30, 31, 32, 33, 34, 35, 36, 37, 38, 39, 40, 41, 42, 43, 44, 45, 46, 47, 48, 49, 50] (by decide +kernel) (by decide +kernel)
set_option maxRecDepth 20000 in
theorem gX9_isShown_X9_cover : GoodIn wsX9_isShown (wsV RX9 130 RX9 yX9_cover wsX9_cover) := goodIn_app (goodIn_of _ (by decide +kernel)) ggX9_isShown_X9_cover
theorem dX9_isShown_0 : decode cX9_isShown 0 = .ok (.aload_n 0, 1) := by decide +kernel
theorem dX9_isShown_1 : decode cX9_isShown 1 = .ok (.getfield 29, 3) := by decide +kernel
theorem dX9_isShown_4 : decode cX9_isShown 4 = .ok (.iload_n 2, 1) := by decide +kernel
theorem dX9_isShown_5 : decode cX9_isShown 5 = .ok (.iaload, 1) := by decide +kernel
theorem dX9_isShown_6 : decode cX9_isShown 6 = .ok (.istore_n 3, 1) := by decide +kernel
theorem dX9_isShown_7 : decode cX9_isShown 7 = .ok (.aload_n 0, 1) := by decide +kernel
theorem dX9_isShown_8 : decode cX9_isShown 8 = .ok (.getfield 57, 3) := by decide +kernel
theorem dX9_isShown_11 : decode cX9_isShown 11 = .ok (.iload_n 1, 1) := by decide +kernel
theorem dX9_isShown_12 : decode cX9_isShown 12 = .ok (.laload, 1) := by decide +kernel
theorem dX9_isShown_13 : decode cX9_isShown 13 = .ok (.iload_n 2, 1) := by decide +kernel
theorem dX9_isShown_14 : decode cX9_isShown 14 = .ok (.lshr, 1) := by decide +kernel
theorem dX9_isShown_15 : decode cX9_isShown 15 = .ok (.lconst 1, 1) := by decide +kernel
theorem dX9_isShown_16 : decode cX9_isShown 16 = .ok (.land, 1) := by decide +kernel
theorem dX9_isShown_17 : decode cX9_isShown 17 = .ok (.lconst 0, 1) := by decide +kernel
theorem dX9_isShown_18 : decode cX9_isShown 18 = .ok (.lcmp, 1) := by decide +kernel
theorem dX9_isShown_19 : decode cX9_isShown 19 = .ok (.ifCond .eq 16, 3) := by decide +kernel
theorem dX9_isShown_22 : decode cX9_isShown 22 = .ok (.iload_n 3, 1) := by decide +kernel
theorem dX9_isShown_23 : decode cX9_isShown 23 = .ok (.ifCond .lt 12, 3) := by decide +kernel
theorem dX9_isShown_26 : decode cX9_isShown 26 = .ok (.aload_n 0, 1) := by decide +kernel
theorem dX9_isShown_27 : decode cX9_isShown 27 = .ok (.getfield 41, 3) := by decide +kernel
theorem dX9_isShown_30 : decode cX9_isShown 30 = .ok (.iload_n 3, 1) := by decide +kernel
theorem dX9_isShown_31 : decode cX9_isShown 31 = .ok (.baload, 1) := by decide +kernel
theorem dX9_isShown_32 : decode cX9_isShown 32 = .ok (.ifCond .ne 24, 3) := by decide +kernel
theorem dX9_isShown_35 : decode cX9_isShown 35 = .ok (.aload_n 0, 1) := by decide +kernel
theorem dX9_isShown_36 : decode cX9_isShown 36 = .ok (.getfield 57, 3) := by decide +kernel
theorem dX9_isShown_39 : decode cX9_isShown 39 = .ok (.iload_n 1, 1) := by decide +kernel
theorem dX9_isShown_40 : decode cX9_isShown 40 = .ok (.laload, 1) := by decide +kernel
theorem dX9_isShown_41 : decode cX9_isShown 41 = .ok (.iload_n 2, 1) := by decide +kernel
theorem dX9_isShown_42 : decode cX9_isShown 42 = .ok (.lshr, 1) := by decide +kernel
theorem dX9_isShown_43 : decode cX9_isShown 43 = .ok (.lconst 1, 1) := by decide +kernel
theorem dX9_isShown_44 : decode cX9_isShown 44 = .ok (.land, 1) := by decide +kernel
theorem dX9_isShown_45 : decode cX9_isShown 45 = .ok (.lconst 1, 1) := by decide +kernel
theorem dX9_isShown_46 : decode cX9_isShown 46 = .ok (.lcmp, 1) := by decide +kernel
theorem dX9_isShown_47 : decode cX9_isShown 47 = .ok (.ifCond .ne 7, 3) := by decide +kernel
theorem dX9_isShown_50 : decode cX9_isShown 50 = .ok (.iconst 1, 1) := by decide +kernel
theorem dX9_isShown_51 : decode cX9_isShown 51 = .ok (.goto 4, 3) := by decide +kernel
theorem dX9_isShown_54 : decode cX9_isShown 54 = .ok (.iconst 0, 1) := by decide +kernel
theorem dX9_isShown_55 : decode cX9_isShown 55 = .ok (.ireturn, 1) := by decide +kernel
theorem dX9_isShown_56 : decode cX9_isShown 56 = .ok (.aload_n 0, 1) := by decide +kernel
theorem dX9_isShown_57 : decode cX9_isShown 57 = .ok (.iload_n 3, 1) := by decide +kernel
theorem dX9_isShown_58 : decode cX9_isShown 58 = .ok (.invokevirtual 130, 3) := by decide +kernel
theorem dX9_isShown_61 : decode cX9_isShown 61 = .ok (.istore 4, 2) := by decide +kernel
theorem dX9_isShown_63 : decode cX9_isShown 63 = .ok (.aload_n 0, 1) := by decide +kernel
theorem dX9_isShown_64 : decode cX9_isShown 64 = .ok (.getfield 57, 3) := by decide +kernel
theorem dX9_isShown_67 : decode cX9_isShown 67 = .ok (.iload_n 1, 1) := by decide +kernel
theorem dX9_isShown_68 : decode cX9_isShown 68 = .ok (.laload, 1) := by decide +kernel
theorem dX9_isShown_69 : decode cX9_isShown 69 = .ok (.iload 4, 2) := by decide +kernel
theorem dX9_isShown_71 : decode cX9_isShown 71 = .ok (.lshr, 1) := by decide +kernel
theorem dX9_isShown_72 : decode cX9_isShown 72 = .ok (.lconst 1, 1) := by decide +kernel
theorem dX9_isShown_73 : decode cX9_isShown 73 = .ok (.land, 1) := by decide +kernel
theorem dX9_isShown_74 : decode cX9_isShown 74 = .ok (.lconst 1, 1) := by decide +kernel
theorem dX9_isShown_75 : decode cX9_isShown 75 = .ok (.lcmp, 1) := by decide +kernel
theorem dX9_isShown_76 : decode cX9_isShown 76 = .ok (.ifCond .ne 15, 3) := by decide +kernel
theorem dX9_isShown_79 : decode cX9_isShown 79 = .ok (.iload_n 2, 1) := by decide +kernel
theorem dX9_isShown_80 : decode cX9_isShown 80 = .ok (.iload 4, 2) := by decide +kernel
theorem dX9_isShown_82 : decode cX9_isShown 82 = .ok (.if_icmp .ne 7, 3) := by decide +kernel
theorem dX9_isShown_85 : decode cX9_isShown 85 = .ok (.iconst 1, 1) := by decide +kernel
theorem dX9_isShown_86 : decode cX9_isShown 86 = .ok (.goto 4, 3) := by decide +kernel
theorem dX9_isShown_89 : decode cX9_isShown 89 = .ok (.iconst 0, 1) := by decide +kernel
theorem dX9_isShown_90 : decode cX9_isShown 90 = .ok (.ireturn, 1) := by decide +kernel
theorem dX9_isShown_91 : decode cX9_isShown 91 = .ok (.iconst 0, 1) := by decide +kernel
theorem dX9_isShown_92 : decode cX9_isShown 92 = .ok (.istore 5, 2) := by decide +kernel
theorem dX9_isShown_94 : decode cX9_isShown 94 = .ok (.aload_n 0, 1) := by decide +kernel
theorem dX9_isShown_95 : decode cX9_isShown 95 = .ok (.getfield 57, 3) := by decide +kernel
theorem dX9_isShown_98 : decode cX9_isShown 98 = .ok (.iload_n 1, 1) := by decide +kernel
theorem dX9_isShown_99 : decode cX9_isShown 99 = .ok (.laload, 1) := by decide +kernel
theorem dX9_isShown_100 : decode cX9_isShown 100 = .ok (.aload_n 0, 1) := by decide +kernel
theorem dX9_isShown_101 : decode cX9_isShown 101 = .ok (.getfield 35, 3) := by decide +kernel
theorem dX9_isShown_104 : decode cX9_isShown 104 = .ok (.bipush 8, 2) := by decide +kernel
theorem dX9_isShown_106 : decode cX9_isShown 106 = .ok (.iload_n 3, 1) := by decide +kernel
theorem dX9_isShown_107 : decode cX9_isShown 107 = .ok (.imul, 1) := by decide +kernel
theorem dX9_isShown_108 : decode cX9_isShown 108 = .ok (.iload 5, 2) := by decide +kernel
theorem dX9_isShown_110 : decode cX9_isShown 110 = .ok (.iadd, 1) := by decide +kernel
theorem dX9_isShown_111 : decode cX9_isShown 111 = .ok (.iaload, 1) := by decide +kernel
theorem dX9_isShown_112 : decode cX9_isShown 112 = .ok (.lshr, 1) := by decide +kernel
theorem dX9_isShown_113 : decode cX9_isShown 113 = .ok (.lconst 1, 1) := by decide +kernel
theorem dX9_isShown_114 : decode cX9_isShown 114 = .ok (.land, 1) := by decide +kernel
theorem dX9_isShown_115 : decode cX9_isShown 115 = .ok (.lconst 0, 1) := by decide +kernel
theorem dX9_isShown_116 : decode cX9_isShown 116 = .ok (.lcmp, 1) := by decide +kernel
theorem dX9_isShown_117 : decode cX9_isShown 117 = .ok (.ifCond .ne 9, 3) := by decide +kernel
theorem dX9_isShown_120 : decode cX9_isShown 120 = .ok (.iinc 5 1, 3) := by decide +kernel
theorem dX9_isShown_123 : decode cX9_isShown 123 = .ok (.goto (-29), 3) := by decide +kernel
theorem dX9_isShown_126 : decode cX9_isShown 126 = .ok (.aload_n 0, 1) := by decide +kernel
theorem dX9_isShown_127 : decode cX9_isShown 127 = .ok (.getfield 35, 3) := by decide +kernel
theorem dX9_isShown_130 : decode cX9_isShown 130 = .ok (.bipush 8, 2) := by decide +kernel
theorem dX9_isShown_132 : decode cX9_isShown 132 = .ok (.iload_n 3, 1) := by decide +kernel
theorem dX9_isShown_133 : decode cX9_isShown 133 = .ok (.imul, 1) := by decide +kernel
theorem dX9_isShown_134 : decode cX9_isShown 134 = .ok (.iload 5, 2) := by decide +kernel
theorem dX9_isShown_136 : decode cX9_isShown 136 = .ok (.iadd, 1) := by decide +kernel
theorem dX9_isShown_137 : decode cX9_isShown 137 = .ok (.iaload, 1) := by decide +kernel
theorem dX9_isShown_138 : decode cX9_isShown 138 = .ok (.iload_n 2, 1) := by decide +kernel
theorem dX9_isShown_139 : decode cX9_isShown 139 = .ok (.if_icmp .ne 7, 3) := by decide +kernel
theorem dX9_isShown_142 : decode cX9_isShown 142 = .ok (.iconst 1, 1) := by decide +kernel
theorem dX9_isShown_143 : decode cX9_isShown 143 = .ok (.goto 4, 3) := by decide +kernel
theorem dX9_isShown_146 : decode cX9_isShown 146 = .ok (.iconst 0, 1) := by decide +kernel
theorem dX9_isShown_147 : decode cX9_isShown 147 = .ok (.ireturn, 1) := by decide +kernel
set_option maxRecDepth 20000 in
theorem ggX9_isAhead_X9_valueOr : GoodIn wsX9_isAhead wsX9_valueOr := goodIn_r _ [7, 8, 9, 10, 11, 6, 12, 13, 14, 15, 16, 17, 18, 19, 20, 21, 22, 23, 24, 25, 26, 27, 28, 29, 30, 31, 32, 33, 34, 35, 36, 37, 38, 39, 40, 41, 42] (by decide +kernel) (by decide +kernel)
set_option maxRecDepth 20000 in
theorem gX9_isAhead_X9_valueOr : GoodIn wsX9_isAhead (wsV RX9 93 RX9 yX9_valueOr wsX9_valueOr) := goodIn_app (goodIn_of _ (by decide +kernel)) ggX9_isAhead_X9_valueOr
theorem dX9_isAhead_0 : decode cX9_isAhead 0 = .ok (.aload_n 0, 1) := by decide +kernel
theorem dX9_isAhead_1 : decode cX9_isAhead 1 = .ok (.iload_n 2, 1) := by decide +kernel
theorem dX9_isAhead_2 : decode cX9_isAhead 2 = .ok (.aload_n 0, 1) := by decide +kernel
theorem dX9_isAhead_3 : decode cX9_isAhead 3 = .ok (.getfield 61, 3) := by decide +kernel
theorem dX9_isAhead_6 : decode cX9_isAhead 6 = .ok (.iload_n 1, 1) := by decide +kernel
theorem dX9_isAhead_7 : decode cX9_isAhead 7 = .ok (.iaload, 1) := by decide +kernel
theorem dX9_isAhead_8 : decode cX9_isAhead 8 = .ok (.iconst (-1), 1) := by decide +kernel
theorem dX9_isAhead_9 : decode cX9_isAhead 9 = .ok (.invokevirtual 93, 3) := by decide +kernel
theorem dX9_isAhead_12 : decode cX9_isAhead 12 = .ok (.istore 4, 2) := by decide +kernel
theorem dX9_isAhead_14 : decode cX9_isAhead 14 = .ok (.aload_n 0, 1) := by decide +kernel
theorem dX9_isAhead_15 : decode cX9_isAhead 15 = .ok (.iload_n 3, 1) := by decide +kernel
theorem dX9_isAhead_16 : decode cX9_isAhead 16 = .ok (.aload_n 0, 1) := by decide +kernel
theorem dX9_isAhead_17 : decode cX9_isAhead 17 = .ok (.getfield 61, 3) := by decide +kernel
theorem dX9_isAhead_20 : decode cX9_isAhead 20 = .ok (.iload_n 1, 1) := by decide +kernel
theorem dX9_isAhead_21 : decode cX9_isAhead 21 = .ok (.iaload, 1) := by decide +kernel
theorem dX9_isAhead_22 : decode cX9_isAhead 22 = .ok (.iconst (-1), 1) := by decide +kernel
theorem dX9_isAhead_23 : decode cX9_isAhead 23 = .ok (.invokevirtual 93, 3) := by decide +kernel
theorem dX9_isAhead_26 : decode cX9_isAhead 26 = .ok (.istore 5, 2) := by decide +kernel
theorem dX9_isAhead_28 : decode cX9_isAhead 28 = .ok (.iload 4, 2) := by decide +kernel
theorem dX9_isAhead_30 : decode cX9_isAhead 30 = .ok (.iload 5, 2) := by decide +kernel
theorem dX9_isAhead_32 : decode cX9_isAhead 32 = .ok (.if_icmp .ne 14, 3) := by decide +kernel
theorem dX9_isAhead_35 : decode cX9_isAhead 35 = .ok (.iload_n 2, 1) := by decide +kernel
theorem dX9_isAhead_36 : decode cX9_isAhead 36 = .ok (.iload_n 3, 1) := by decide +kernel
theorem dX9_isAhead_37 : decode cX9_isAhead 37 = .ok (.if_icmp .ge 7, 3) := by decide +kernel
theorem dX9_isAhead_40 : decode cX9_isAhead 40 = .ok (.iconst 1, 1) := by decide +kernel
theorem dX9_isAhead_41 : decode cX9_isAhead 41 = .ok (.goto 4, 3) := by decide +kernel
theorem dX9_isAhead_44 : decode cX9_isAhead 44 = .ok (.iconst 0, 1) := by decide +kernel
theorem dX9_isAhead_45 : decode cX9_isAhead 45 = .ok (.ireturn, 1) := by decide +kernel
theorem dX9_isAhead_46 : decode cX9_isAhead 46 = .ok (.iload 5, 2) := by decide +kernel
theorem dX9_isAhead_48 : decode cX9_isAhead 48 = .ok (.ifCond .lt 34, 3) := by decide +kernel
theorem dX9_isAhead_51 : decode cX9_isAhead 51 = .ok (.iload 4, 2) := by decide +kernel
theorem dX9_isAhead_53 : decode cX9_isAhead 53 = .ok (.ifCond .lt 33, 3) := by decide +kernel
theorem dX9_isAhead_56 : decode cX9_isAhead 56 = .ok (.aload_n 0, 1) := by decide +kernel
theorem dX9_isAhead_57 : decode cX9_isAhead 57 = .ok (.getfield 64, 3) := by decide +kernel
theorem dX9_isAhead_60 : decode cX9_isAhead 60 = .ok (.iload_n 1, 1) := by decide +kernel
theorem dX9_isAhead_61 : decode cX9_isAhead 61 = .ok (.baload, 1) := by decide +kernel
theorem dX9_isAhead_62 : decode cX9_isAhead 62 = .ok (.ifCond .eq 13, 3) := by decide +kernel
theorem dX9_isAhead_65 : decode cX9_isAhead 65 = .ok (.iload 4, 2) := by decide +kernel
theorem dX9_isAhead_67 : decode cX9_isAhead 67 = .ok (.iload 5, 2) := by decide +kernel
theorem dX9_isAhead_69 : decode cX9_isAhead 69 = .ok (.if_icmp .le 17, 3) := by decide +kernel
theorem dX9_isAhead_72 : decode cX9_isAhead 72 = .ok (.goto 10, 3) := by decide +kernel
theorem dX9_isAhead_75 : decode cX9_isAhead 75 = .ok (.iload 4, 2) := by decide +kernel
theorem dX9_isAhead_77 : decode cX9_isAhead 77 = .ok (.iload 5, 2) := by decide +kernel
theorem dX9_isAhead_79 : decode cX9_isAhead 79 = .ok (.if_icmp .ge 7, 3) := by decide +kernel
theorem dX9_isAhead_82 : decode cX9_isAhead 82 = .ok (.iconst 1, 1) := by decide +kernel
theorem dX9_isAhead_83 : decode cX9_isAhead 83 = .ok (.goto 4, 3) := by decide +kernel
theorem dX9_isAhead_86 : decode cX9_isAhead 86 = .ok (.iconst 0, 1) := by decide +kernel
theorem dX9_isAhead_87 : decode cX9_isAhead 87 = .ok (.ireturn, 1) := by decide +kernel
set_option maxRecDepth 20000 in
theorem ggX9_shown_X9_isShown : GoodIn wsX9_shown wsX9_isShown := goodIn_r _ [5, 6, 7, 8, 9, 10, 11, 12, 4, 13, 14, 15, 16, 17, 18, 19, 20, 21, 22, 23, 24, 25, 26, 27, 28, 29, 30, 31, 32, 33, 34, 35, 36, 37, 38, 39, 40, 41, 42, 43, 44, 45, 46, 47, 48, 49, 50, 51, 52, 53, 54] (by decide +kernel) (by decide +kernel)
set_option maxRecDepth 20000 in
theorem gX9_shown_X9_isShown : GoodIn wsX9_shown (wsV RX9 221 RX9 yX9_isShown wsX9_isShown) := goodIn_app (goodIn_of _ (by decide +kernel)) ggX9_shown_X9_isShown
theorem dX9_shown_0 : decode cX9_shown 0 = .ok (.iconst 0, 1) := by decide +kernel
theorem dX9_shown_1 : decode cX9_shown 1 = .ok (.istore_n 2, 1) := by decide +kernel
theorem dX9_shown_2 : decode cX9_shown 2 = .ok (.iconst 0, 1) := by decide +kernel
theorem dX9_shown_3 : decode cX9_shown 3 = .ok (.istore_n 3, 1) := by decide +kernel
theorem dX9_shown_4 : decode cX9_shown 4 = .ok (.iload_n 3, 1) := by decide +kernel
theorem dX9_shown_5 : decode cX9_shown 5 = .ok (.bipush 40, 2) := by decide +kernel
theorem dX9_shown_7 : decode cX9_shown 7 = .ok (.if_icmp .ge 26, 3) := by decide +kernel
theorem dX9_shown_10 : decode cX9_shown 10 = .ok (.iload_n 2, 1) := by decide +kernel
theorem dX9_shown_11 : decode cX9_shown 11 = .ok (.aload_n 0, 1) := by decide +kernel
theorem dX9_shown_12 : decode cX9_shown 12 = .ok (.iload_n 1, 1) := by decide +kernel
theorem dX9_shown_13 : decode cX9_shown 13 = .ok (.iload_n 3, 1) := by decide +kernel
theorem dX9_shown_14 : decode cX9_shown 14 = .ok (.invokevirtual 221, 3) := by decide +kernel
theorem dX9_shown_17 : decode cX9_shown 17 = .ok (.ifCond .eq 7, 3) := by decide +kernel
theorem dX9_shown_20 : decode cX9_shown 20 = .ok (.iconst 1, 1) := by decide +kernel
theorem dX9_shown_21 : decode cX9_shown 21 = .ok (.goto 4, 3) := by decide +kernel
theorem dX9_shown_24 : decode cX9_shown 24 = .ok (.iconst 0, 1) := by decide +kernel
theorem dX9_shown_25 : decode cX9_shown 25 = .ok (.iadd, 1) := by decide +kernel
theorem dX9_shown_26 : decode cX9_shown 26 = .ok (.istore_n 2, 1) := by decide +kernel
theorem dX9_shown_27 : decode cX9_shown 27 = .ok (.iinc 3 1, 3) := by decide +kernel
theorem dX9_shown_30 : decode cX9_shown 30 = .ok (.goto (-26), 3) := by decide +kernel
theorem dX9_shown_33 : decode cX9_shown 33 = .ok (.iload_n 2, 1) := by decide +kernel
theorem dX9_shown_34 : decode cX9_shown 34 = .ok (.ireturn, 1) := by decide +kernel
set_option maxRecDepth 20000 in
theorem ggX9_viewSize_X9_there8 : GoodIn wsX9_viewSize wsX9_there8 := goodIn_r _ [5, 6, 7, 8, 4, 9, 39, 40, 41, 42, 43, 44, 45, 46, 47, 48, 49, 50, 51, 52, 53, 54, 55, 56, 57, 58, 59, 60, 61, 62, 63, 64, 65, 66] (by decide +kernel) (by decide +kernel)
set_option maxRecDepth 20000 in
theorem gX9_viewSize_X9_there8 : GoodIn wsX9_viewSize (wsV RX9 214 RX9 yX9_there8 wsX9_there8) := goodIn_app (goodIn_of _ (by decide +kernel)) ggX9_viewSize_X9_there8
set_option maxRecDepth 20000 in
theorem ggX9_viewSize_X9_shown : GoodIn wsX9_viewSize wsX9_shown := goodIn_r _ [13, 14, 15, 16, 4, 17, 18, 19, 20, 21, 22, 23, 24, 25, 26, 27, 28, 29, 30, 31, 32, 33, 34, 35, 36, 37, 38, 39, 40, 41, 42, 43, 44, 45, 46, 47, 48, 49, 50, 51, 52, 53, 54, 55, 56, 57, 58, 59, 60, 61, 62, 63, 64, 65, 66] (by decide +kernel) (by decide +kernel)
set_option maxRecDepth 20000 in
theorem gX9_viewSize_X9_shown : GoodIn wsX9_viewSize (wsV RX9 224 RX9 yX9_shown wsX9_shown) := goodIn_app (goodIn_of _ (by decide +kernel)) ggX9_viewSize_X9_shown
theorem dX9_viewSize_0 : decode cX9_viewSize 0 = .ok (.aload_n 0, 1) := by decide +kernel
theorem dX9_viewSize_1 : decode cX9_viewSize 1 = .ok (.iload_n 1, 1) := by decide +kernel
theorem dX9_viewSize_2 : decode cX9_viewSize 2 = .ok (.invokevirtual 214, 3) := by decide +kernel
theorem dX9_viewSize_5 : decode cX9_viewSize 5 = .ok (.ifCond .eq 11, 3) := by decide +kernel
theorem dX9_viewSize_8 : decode cX9_viewSize 8 = .ok (.aload_n 0, 1) := by decide +kernel
theorem dX9_viewSize_9 : decode cX9_viewSize 9 = .ok (.iload_n 1, 1) := by decide +kernel
theorem dX9_viewSize_10 : decode cX9_viewSize 10 = .ok (.invokevirtual 224, 3) := by decide +kernel
theorem dX9_viewSize_13 : decode cX9_viewSize 13 = .ok (.goto 4, 3) := by decide +kernel
theorem dX9_viewSize_16 : decode cX9_viewSize 16 = .ok (.iconst (-1), 1) := by decide +kernel
theorem dX9_viewSize_17 : decode cX9_viewSize 17 = .ok (.ireturn, 1) := by decide +kernel
set_option maxRecDepth 20000 in
theorem ggX9_viewAt_X9_there8 : GoodIn wsX9_viewAt wsX9_there8 := goodIn_r _ [5, 6, 7, 8, 4, 9, 41, 42, 43, 44, 45, 46, 47, 48, 49, 50, 51, 52, 53, 54, 55, 56, 57, 58, 59, 60, 61, 62, 63, 64, 65, 66, 67, 68] (by decide +kernel) (by decide +kernel)
set_option maxRecDepth 20000 in
theorem gX9_viewAt_X9_there8 : GoodIn wsX9_viewAt (wsV RX9 214 RX9 yX9_there8 wsX9_there8) := goodIn_app (goodIn_of _ (by decide +kernel)) ggX9_viewAt_X9_there8
set_option maxRecDepth 20000 in
theorem ggX9_viewAt_X9_isShown : GoodIn wsX9_viewAt wsX9_isShown := goodIn_r _ [13, 14, 15, 16, 17, 18, 19, 20, 4, 21, 22, 23, 24, 25, 26, 27, 28, 29, 30, 31, 32, 33, 34, 41, 42, 43, 44, 45, 46, 47, 48, 49, 50, 51, 52, 53, 54, 55, 56, 57, 58, 59, 60, 61, 62, 63, 64, 65, 66, 67, 68] (by decide +kernel) (by decide +kernel)
set_option maxRecDepth 20000 in
theorem gX9_viewAt_X9_isShown : GoodIn wsX9_viewAt (wsV RX9 221 RX9 yX9_isShown wsX9_isShown) := goodIn_app (goodIn_of _ (by decide +kernel)) ggX9_viewAt_X9_isShown
set_option maxRecDepth 20000 in
theorem ggX9_viewAt_X9_isAhead : GoodIn wsX9_viewAt wsX9_isAhead := goodIn_r _ [38, 39, 40, 24, 25, 26, 4, 27, 28, 29, 30, 31, 32, 33, 34, 41, 42, 43, 44, 45, 46, 47, 48, 49, 50, 51, 52, 53, 54, 55, 56, 57, 58, 59, 60, 61, 62, 63, 64, 65, 66, 67, 68] (by decide +kernel) (by decide +kernel)
set_option maxRecDepth 20000 in
theorem gX9_viewAt_X9_isAhead : GoodIn wsX9_viewAt (wsV RX9 227 RX9 yX9_isAhead wsX9_isAhead) := goodIn_app (goodIn_of _ (by decide +kernel)) ggX9_viewAt_X9_isAhead
theorem dX9_viewAt_0 : decode cX9_viewAt 0 = .ok (.aload_n 0, 1) := by decide +kernel
theorem dX9_viewAt_1 : decode cX9_viewAt 1 = .ok (.iload_n 1, 1) := by decide +kernel
theorem dX9_viewAt_2 : decode cX9_viewAt 2 = .ok (.invokevirtual 214, 3) := by decide +kernel
theorem dX9_viewAt_5 : decode cX9_viewAt 5 = .ok (.ifCond .eq 7, 3) := by decide +kernel
theorem dX9_viewAt_8 : decode cX9_viewAt 8 = .ok (.iload_n 2, 1) := by decide +kernel
theorem dX9_viewAt_9 : decode cX9_viewAt 9 = .ok (.ifCond .ge 5, 3) := by decide +kernel
theorem dX9_viewAt_12 : decode cX9_viewAt 12 = .ok (.iconst (-1), 1) := by decide +kernel
theorem dX9_viewAt_13 : decode cX9_viewAt 13 = .ok (.ireturn, 1) := by decide +kernel
theorem dX9_viewAt_14 : decode cX9_viewAt 14 = .ok (.iconst 0, 1) := by decide +kernel
theorem dX9_viewAt_15 : decode cX9_viewAt 15 = .ok (.istore_n 3, 1) := by decide +kernel
theorem dX9_viewAt_16 : decode cX9_viewAt 16 = .ok (.iload_n 3, 1) := by decide +kernel
theorem dX9_viewAt_17 : decode cX9_viewAt 17 = .ok (.bipush 40, 2) := by decide +kernel
theorem dX9_viewAt_19 : decode cX9_viewAt 19 = .ok (.if_icmp .ge 91, 3) := by decide +kernel
theorem dX9_viewAt_22 : decode cX9_viewAt 22 = .ok (.iconst 0, 1) := by decide +kernel
theorem dX9_viewAt_23 : decode cX9_viewAt 23 = .ok (.istore 4, 2) := by decide +kernel
theorem dX9_viewAt_25 : decode cX9_viewAt 25 = .ok (.iconst 0, 1) := by decide +kernel
theorem dX9_viewAt_26 : decode cX9_viewAt 26 = .ok (.istore 5, 2) := by decide +kernel
theorem dX9_viewAt_28 : decode cX9_viewAt 28 = .ok (.iload 5, 2) := by decide +kernel
theorem dX9_viewAt_30 : decode cX9_viewAt 30 = .ok (.bipush 40, 2) := by decide +kernel
theorem dX9_viewAt_32 : decode cX9_viewAt 32 = .ok (.if_icmp .ge 55, 3) := by decide +kernel
theorem dX9_viewAt_35 : decode cX9_viewAt 35 = .ok (.aload_n 0, 1) := by decide +kernel
theorem dX9_viewAt_36 : decode cX9_viewAt 36 = .ok (.iload_n 1, 1) := by decide +kernel
theorem dX9_viewAt_37 : decode cX9_viewAt 37 = .ok (.iload_n 3, 1) := by decide +kernel
theorem dX9_viewAt_38 : decode cX9_viewAt 38 = .ok (.invokevirtual 221, 3) := by decide +kernel
theorem dX9_viewAt_41 : decode cX9_viewAt 41 = .ok (.ifCond .eq 46, 3) := by decide +kernel
theorem dX9_viewAt_44 : decode cX9_viewAt 44 = .ok (.iload 4, 2) := by decide +kernel
theorem dX9_viewAt_46 : decode cX9_viewAt 46 = .ok (.iload 5, 2) := by decide +kernel
theorem dX9_viewAt_48 : decode cX9_viewAt 48 = .ok (.iload_n 3, 1) := by decide +kernel
theorem dX9_viewAt_49 : decode cX9_viewAt 49 = .ok (.if_icmp .eq 28, 3) := by decide +kernel
theorem dX9_viewAt_52 : decode cX9_viewAt 52 = .ok (.aload_n 0, 1) := by decide +kernel
theorem dX9_viewAt_53 : decode cX9_viewAt 53 = .ok (.iload_n 1, 1) := by decide +kernel
theorem dX9_viewAt_54 : decode cX9_viewAt 54 = .ok (.iload 5, 2) := by decide +kernel
theorem dX9_viewAt_56 : decode cX9_viewAt 56 = .ok (.invokevirtual 221, 3) := by decide +kernel
theorem dX9_viewAt_59 : decode cX9_viewAt 59 = .ok (.ifCond .eq 18, 3) := by decide +kernel
theorem dX9_viewAt_62 : decode cX9_viewAt 62 = .ok (.aload_n 0, 1) := by decide +kernel
theorem dX9_viewAt_63 : decode cX9_viewAt 63 = .ok (.iload_n 1, 1) := by decide +kernel
theorem dX9_viewAt_64 : decode cX9_viewAt 64 = .ok (.iload 5, 2) := by decide +kernel
theorem dX9_viewAt_66 : decode cX9_viewAt 66 = .ok (.iload_n 3, 1) := by decide +kernel
theorem dX9_viewAt_67 : decode cX9_viewAt 67 = .ok (.invokevirtual 227, 3) := by decide +kernel
theorem dX9_viewAt_70 : decode cX9_viewAt 70 = .ok (.ifCond .eq 7, 3) := by decide +kernel
theorem dX9_viewAt_73 : decode cX9_viewAt 73 = .ok (.iconst 1, 1) := by decide +kernel
theorem dX9_viewAt_74 : decode cX9_viewAt 74 = .ok (.goto 4, 3) := by decide +kernel
theorem dX9_viewAt_77 : decode cX9_viewAt 77 = .ok (.iconst 0, 1) := by decide +kernel
theorem dX9_viewAt_78 : decode cX9_viewAt 78 = .ok (.iadd, 1) := by decide +kernel
theorem dX9_viewAt_79 : decode cX9_viewAt 79 = .ok (.istore 4, 2) := by decide +kernel
theorem dX9_viewAt_81 : decode cX9_viewAt 81 = .ok (.iinc 5 1, 3) := by decide +kernel
theorem dX9_viewAt_84 : decode cX9_viewAt 84 = .ok (.goto (-56), 3) := by decide +kernel
theorem dX9_viewAt_87 : decode cX9_viewAt 87 = .ok (.aload_n 0, 1) := by decide +kernel
theorem dX9_viewAt_88 : decode cX9_viewAt 88 = .ok (.iload_n 1, 1) := by decide +kernel
theorem dX9_viewAt_89 : decode cX9_viewAt 89 = .ok (.iload_n 3, 1) := by decide +kernel
theorem dX9_viewAt_90 : decode cX9_viewAt 90 = .ok (.invokevirtual 221, 3) := by decide +kernel
theorem dX9_viewAt_93 : decode cX9_viewAt 93 = .ok (.ifCond .eq 11, 3) := by decide +kernel
theorem dX9_viewAt_96 : decode cX9_viewAt 96 = .ok (.iload 4, 2) := by decide +kernel
theorem dX9_viewAt_98 : decode cX9_viewAt 98 = .ok (.iload_n 2, 1) := by decide +kernel
theorem dX9_viewAt_99 : decode cX9_viewAt 99 = .ok (.if_icmp .ne 5, 3) := by decide +kernel
theorem dX9_viewAt_102 : decode cX9_viewAt 102 = .ok (.iload_n 3, 1) := by decide +kernel
theorem dX9_viewAt_103 : decode cX9_viewAt 103 = .ok (.ireturn, 1) := by decide +kernel
theorem dX9_viewAt_104 : decode cX9_viewAt 104 = .ok (.iinc 3 1, 3) := by decide +kernel
theorem dX9_viewAt_107 : decode cX9_viewAt 107 = .ok (.goto (-91), 3) := by decide +kernel
theorem dX9_viewAt_110 : decode cX9_viewAt 110 = .ok (.bipush (-4), 2) := by decide +kernel
theorem dX9_viewAt_112 : decode cX9_viewAt 112 = .ok (.ireturn, 1) := by decide +kernel
theorem dX9_journalSize_0 : decode cX9_journalSize 0 = .ok (.aload_n 0, 1) := by decide +kernel
theorem dX9_journalSize_1 : decode cX9_journalSize 1 = .ok (.getfield 167, 3) := by decide +kernel
theorem dX9_journalSize_4 : decode cX9_journalSize 4 = .ok (.ireturn, 1) := by decide +kernel
set_option maxRecDepth 20000 in
theorem ggX9_journalAt_X9_in : GoodIn wsX9_journalAt wsX9_in := goodIn_r _ [6] (by decide +kernel) (by decide +kernel)
set_option maxRecDepth 20000 in
theorem gX9_journalAt_X9_in : GoodIn wsX9_journalAt (va_wsS RX9 85 yX9_in wsX9_in) := goodIn_app (goodIn_of _ (by decide +kernel)) ggX9_journalAt_X9_in
theorem dX9_journalAt_0 : decode cX9_journalAt 0 = .ok (.iload_n 1, 1) := by decide +kernel
theorem dX9_journalAt_1 : decode cX9_journalAt 1 = .ok (.ifCond .lt 12, 3) := by decide +kernel
theorem dX9_journalAt_4 : decode cX9_journalAt 4 = .ok (.iload_n 2, 1) := by decide +kernel
theorem dX9_journalAt_5 : decode cX9_journalAt 5 = .ok (.iconst 0, 1) := by decide +kernel
theorem dX9_journalAt_6 : decode cX9_journalAt 6 = .ok (.iconst 2, 1) := by decide +kernel
theorem dX9_journalAt_7 : decode cX9_journalAt 7 = .ok (.invokestatic 85, 3) := by decide +kernel
theorem dX9_journalAt_10 : decode cX9_journalAt 10 = .ok (.ifCond .ne 5, 3) := by decide +kernel
theorem dX9_journalAt_13 : decode cX9_journalAt 13 = .ok (.iconst (-1), 1) := by decide +kernel
theorem dX9_journalAt_14 : decode cX9_journalAt 14 = .ok (.ireturn, 1) := by decide +kernel
theorem dX9_journalAt_15 : decode cX9_journalAt 15 = .ok (.iload_n 1, 1) := by decide +kernel
theorem dX9_journalAt_16 : decode cX9_journalAt 16 = .ok (.aload_n 0, 1) := by decide +kernel
theorem dX9_journalAt_17 : decode cX9_journalAt 17 = .ok (.getfield 167, 3) := by decide +kernel
theorem dX9_journalAt_20 : decode cX9_journalAt 20 = .ok (.if_icmp .ge 16, 3) := by decide +kernel
theorem dX9_journalAt_23 : decode cX9_journalAt 23 = .ok (.aload_n 0, 1) := by decide +kernel
theorem dX9_journalAt_24 : decode cX9_journalAt 24 = .ok (.getfield 70, 3) := by decide +kernel
theorem dX9_journalAt_27 : decode cX9_journalAt 27 = .ok (.iconst 3, 1) := by decide +kernel
theorem dX9_journalAt_28 : decode cX9_journalAt 28 = .ok (.iload_n 1, 1) := by decide +kernel
theorem dX9_journalAt_29 : decode cX9_journalAt 29 = .ok (.imul, 1) := by decide +kernel
theorem dX9_journalAt_30 : decode cX9_journalAt 30 = .ok (.iload_n 2, 1) := by decide +kernel
theorem dX9_journalAt_31 : decode cX9_journalAt 31 = .ok (.iadd, 1) := by decide +kernel
theorem dX9_journalAt_32 : decode cX9_journalAt 32 = .ok (.iaload, 1) := by decide +kernel
theorem dX9_journalAt_33 : decode cX9_journalAt 33 = .ok (.goto 5, 3) := by decide +kernel
theorem dX9_journalAt_36 : decode cX9_journalAt 36 = .ok (.bipush (-4), 2) := by decide +kernel
theorem dX9_journalAt_38 : decode cX9_journalAt 38 = .ok (.ireturn, 1) := by decide +kernel
set_option maxRecDepth 20000 in
theorem ggX9_turnover_X9_there8 : GoodIn wsX9_turnover wsX9_there8 := goodIn_r _ [6, 7, 8, 9, 5, 10, 11, 12, 13, 14, 15, 16, 17, 18, 19, 20, 21, 22, 23, 24, 25, 26, 27, 28, 29, 30, 31, 32, 33, 34, 35, 36, 37, 38] (by decide +kernel) (by decide +kernel)
set_option maxRecDepth 20000 in
theorem gX9_turnover_X9_there8 : GoodIn wsX9_turnover (wsV RX9 214 RX9 yX9_there8 wsX9_there8) := goodIn_app (goodIn_of _ (by decide +kernel)) ggX9_turnover_X9_there8
set_option maxRecDepth 20000 in
theorem ggX9_turnover_X9_in : GoodIn wsX9_turnover wsX9_in := goodIn_r _ [10] (by decide +kernel) (by decide +kernel)
set_option maxRecDepth 20000 in
theorem gX9_turnover_X9_in : GoodIn wsX9_turnover (va_wsS RX9 85 yX9_in wsX9_in) := goodIn_app (goodIn_of _ (by decide +kernel)) ggX9_turnover_X9_in
theorem dX9_turnover_0 : decode cX9_turnover 0 = .ok (.aload_n 0, 1) := by decide +kernel
theorem dX9_turnover_1 : decode cX9_turnover 1 = .ok (.iload_n 1, 1) := by decide +kernel
theorem dX9_turnover_2 : decode cX9_turnover 2 = .ok (.invokevirtual 214, 3) := by decide +kernel
theorem dX9_turnover_5 : decode cX9_turnover 5 = .ok (.ifCond .eq 25, 3) := by decide +kernel
theorem dX9_turnover_8 : decode cX9_turnover 8 = .ok (.iload_n 2, 1) := by decide +kernel
theorem dX9_turnover_9 : decode cX9_turnover 9 = .ok (.iconst 0, 1) := by decide +kernel
theorem dX9_turnover_10 : decode cX9_turnover 10 = .ok (.iconst 1, 1) := by decide +kernel
theorem dX9_turnover_11 : decode cX9_turnover 11 = .ok (.invokestatic 85, 3) := by decide +kernel
theorem dX9_turnover_14 : decode cX9_turnover 14 = .ok (.ifCond .eq 16, 3) := by decide +kernel
theorem dX9_turnover_17 : decode cX9_turnover 17 = .ok (.aload_n 0, 1) := by decide +kernel
theorem dX9_turnover_18 : decode cX9_turnover 18 = .ok (.getfield 67, 3) := by decide +kernel
theorem dX9_turnover_21 : decode cX9_turnover 21 = .ok (.iconst 2, 1) := by decide +kernel
theorem dX9_turnover_22 : decode cX9_turnover 22 = .ok (.iload_n 1, 1) := by decide +kernel
theorem dX9_turnover_23 : decode cX9_turnover 23 = .ok (.imul, 1) := by decide +kernel
theorem dX9_turnover_24 : decode cX9_turnover 24 = .ok (.iload_n 2, 1) := by decide +kernel
theorem dX9_turnover_25 : decode cX9_turnover 25 = .ok (.iadd, 1) := by decide +kernel
theorem dX9_turnover_26 : decode cX9_turnover 26 = .ok (.iaload, 1) := by decide +kernel
theorem dX9_turnover_27 : decode cX9_turnover 27 = .ok (.goto 4, 3) := by decide +kernel
theorem dX9_turnover_30 : decode cX9_turnover 30 = .ok (.iconst (-1), 1) := by decide +kernel
theorem dX9_turnover_31 : decode cX9_turnover 31 = .ok (.ireturn, 1) := by decide +kernel
set_option maxRecDepth 20000 in
theorem ggX9_count_X9_keeper : GoodIn wsX9_count wsX9_keeper := goodIn_r _ [10, 3, 11, 12, 13, 14, 9, 15, 16, 17, 18, 19, 20, 21, 22, 23, 24, 25, 26, 31, 32, 33, 34, 35, 36, 37, 38, 39, 40, 41, 42, 43, 44, 45, 46, 47, 48, 49, 50, 51, 52, 53, 54, 55, 56, 57, 58] (by decide +kernel) (by decide +kernel)
set_option maxRecDepth 20000 in
theorem gX9_count_X9_keeper : GoodIn wsX9_count (wsV RX9 137 RX9 yX9_keeper wsX9_keeper) := goodIn_app (goodIn_of _ (by decide +kernel)) ggX9_count_X9_keeper
set_option maxRecDepth 20000 in
theorem ggX9_count_X9_group : GoodIn wsX9_count wsX9_group := goodIn_r _ [30, 3, 11, 31, 32, 33, 34, 35, 36, 37, 38, 39, 40, 41, 42, 43, 44, 45, 46, 47, 48, 49, 50, 51, 52, 53, 54, 55, 56, 57, 58] (by decide +kernel) (by decide +kernel)
set_option maxRecDepth 20000 in
theorem gX9_count_X9_group : GoodIn wsX9_count (wsV RX9 134 RX9 yX9_group wsX9_group) := goodIn_app (goodIn_of _ (by decide +kernel)) ggX9_count_X9_group
theorem dX9_count_0 : decode cX9_count 0 = .ok (.iconst 0, 1) := by decide +kernel
theorem dX9_count_1 : decode cX9_count 1 = .ok (.istore_n 2, 1) := by decide +kernel
theorem dX9_count_2 : decode cX9_count 2 = .ok (.iconst 0, 1) := by decide +kernel
theorem dX9_count_3 : decode cX9_count 3 = .ok (.istore_n 3, 1) := by decide +kernel
theorem dX9_count_4 : decode cX9_count 4 = .ok (.iload_n 3, 1) := by decide +kernel
theorem dX9_count_5 : decode cX9_count 5 = .ok (.bipush 40, 2) := by decide +kernel
theorem dX9_count_7 : decode cX9_count 7 = .ok (.if_icmp .ge 189, 3) := by decide +kernel
theorem dX9_count_10 : decode cX9_count 10 = .ok (.iload_n 1, 1) := by decide +kernel
theorem dX9_count_11 : decode cX9_count 11 = .ok (.tableswitch 177 0 4 #[33, 59, 85, 123, 152], 33) := by decide +kernel
theorem dX9_count_44 : decode cX9_count 44 = .ok (.iload_n 2, 1) := by decide +kernel
theorem dX9_count_45 : decode cX9_count 45 = .ok (.iload_n 3, 1) := by decide +kernel
theorem dX9_count_46 : decode cX9_count 46 = .ok (.bipush 10, 2) := by decide +kernel
theorem dX9_count_48 : decode cX9_count 48 = .ok (.if_icmp .ge 16, 3) := by decide +kernel
theorem dX9_count_51 : decode cX9_count 51 = .ok (.aload_n 0, 1) := by decide +kernel
theorem dX9_count_52 : decode cX9_count 52 = .ok (.getfield 32, 3) := by decide +kernel
theorem dX9_count_55 : decode cX9_count 55 = .ok (.iload_n 3, 1) := by decide +kernel
theorem dX9_count_56 : decode cX9_count 56 = .ok (.iaload, 1) := by decide +kernel
theorem dX9_count_57 : decode cX9_count 57 = .ok (.ifCond .le 7, 3) := by decide +kernel
theorem dX9_count_60 : decode cX9_count 60 = .ok (.iconst 1, 1) := by decide +kernel
theorem dX9_count_61 : decode cX9_count 61 = .ok (.goto 4, 3) := by decide +kernel
theorem dX9_count_64 : decode cX9_count 64 = .ok (.iconst 0, 1) := by decide +kernel
theorem dX9_count_65 : decode cX9_count 65 = .ok (.iadd, 1) := by decide +kernel
theorem dX9_count_66 : decode cX9_count 66 = .ok (.istore_n 2, 1) := by decide +kernel
theorem dX9_count_67 : decode cX9_count 67 = .ok (.goto 123, 3) := by decide +kernel
theorem dX9_count_70 : decode cX9_count 70 = .ok (.iload_n 2, 1) := by decide +kernel
theorem dX9_count_71 : decode cX9_count 71 = .ok (.iload_n 3, 1) := by decide +kernel
theorem dX9_count_72 : decode cX9_count 72 = .ok (.bipush 8, 2) := by decide +kernel
theorem dX9_count_74 : decode cX9_count 74 = .ok (.if_icmp .ge 16, 3) := by decide +kernel
theorem dX9_count_77 : decode cX9_count 77 = .ok (.aload_n 0, 1) := by decide +kernel
theorem dX9_count_78 : decode cX9_count 78 = .ok (.getfield 48, 3) := by decide +kernel
theorem dX9_count_81 : decode cX9_count 81 = .ok (.iload_n 3, 1) := by decide +kernel
theorem dX9_count_82 : decode cX9_count 82 = .ok (.baload, 1) := by decide +kernel
theorem dX9_count_83 : decode cX9_count 83 = .ok (.ifCond .eq 7, 3) := by decide +kernel
theorem dX9_count_86 : decode cX9_count 86 = .ok (.iconst 1, 1) := by decide +kernel
theorem dX9_count_87 : decode cX9_count 87 = .ok (.goto 4, 3) := by decide +kernel
theorem dX9_count_90 : decode cX9_count 90 = .ok (.iconst 0, 1) := by decide +kernel
theorem dX9_count_91 : decode cX9_count 91 = .ok (.iadd, 1) := by decide +kernel
theorem dX9_count_92 : decode cX9_count 92 = .ok (.istore_n 2, 1) := by decide +kernel
theorem dX9_count_93 : decode cX9_count 93 = .ok (.goto 97, 3) := by decide +kernel
theorem dX9_count_96 : decode cX9_count 96 = .ok (.iload_n 2, 1) := by decide +kernel
theorem dX9_count_97 : decode cX9_count 97 = .ok (.aload_n 0, 1) := by decide +kernel
theorem dX9_count_98 : decode cX9_count 98 = .ok (.getfield 7, 3) := by decide +kernel
theorem dX9_count_101 : decode cX9_count 101 = .ok (.iload_n 3, 1) := by decide +kernel
theorem dX9_count_102 : decode cX9_count 102 = .ok (.baload, 1) := by decide +kernel
theorem dX9_count_103 : decode cX9_count 103 = .ok (.ifCond .eq 25, 3) := by decide +kernel
theorem dX9_count_106 : decode cX9_count 106 = .ok (.aload_n 0, 1) := by decide +kernel
theorem dX9_count_107 : decode cX9_count 107 = .ok (.iload_n 3, 1) := by decide +kernel
theorem dX9_count_108 : decode cX9_count 108 = .ok (.invokevirtual 137, 3) := by decide +kernel
theorem dX9_count_111 : decode cX9_count 111 = .ok (.iload_n 3, 1) := by decide +kernel
theorem dX9_count_112 : decode cX9_count 112 = .ok (.if_icmp .ne 16, 3) := by decide +kernel
theorem dX9_count_115 : decode cX9_count 115 = .ok (.aload_n 0, 1) := by decide +kernel
theorem dX9_count_116 : decode cX9_count 116 = .ok (.iload_n 3, 1) := by decide +kernel
theorem dX9_count_117 : decode cX9_count 117 = .ok (.invokevirtual 134, 3) := by decide +kernel
theorem dX9_count_120 : decode cX9_count 120 = .ok (.iconst 1, 1) := by decide +kernel
theorem dX9_count_121 : decode cX9_count 121 = .ok (.if_icmp .le 7, 3) := by decide +kernel
theorem dX9_count_124 : decode cX9_count 124 = .ok (.iconst 1, 1) := by decide +kernel
theorem dX9_count_125 : decode cX9_count 125 = .ok (.goto 4, 3) := by decide +kernel
theorem dX9_count_128 : decode cX9_count 128 = .ok (.iconst 0, 1) := by decide +kernel
theorem dX9_count_129 : decode cX9_count 129 = .ok (.iadd, 1) := by decide +kernel
theorem dX9_count_130 : decode cX9_count 130 = .ok (.istore_n 2, 1) := by decide +kernel
theorem dX9_count_131 : decode cX9_count 131 = .ok (.goto 59, 3) := by decide +kernel
theorem dX9_count_134 : decode cX9_count 134 = .ok (.iload_n 2, 1) := by decide +kernel
theorem dX9_count_135 : decode cX9_count 135 = .ok (.aload_n 0, 1) := by decide +kernel
theorem dX9_count_136 : decode cX9_count 136 = .ok (.getfield 7, 3) := by decide +kernel
theorem dX9_count_139 : decode cX9_count 139 = .ok (.iload_n 3, 1) := by decide +kernel
theorem dX9_count_140 : decode cX9_count 140 = .ok (.baload, 1) := by decide +kernel
theorem dX9_count_141 : decode cX9_count 141 = .ok (.ifCond .eq 16, 3) := by decide +kernel
theorem dX9_count_144 : decode cX9_count 144 = .ok (.aload_n 0, 1) := by decide +kernel
theorem dX9_count_145 : decode cX9_count 145 = .ok (.getfield 29, 3) := by decide +kernel
theorem dX9_count_148 : decode cX9_count 148 = .ok (.iload_n 3, 1) := by decide +kernel
theorem dX9_count_149 : decode cX9_count 149 = .ok (.iaload, 1) := by decide +kernel
theorem dX9_count_150 : decode cX9_count 150 = .ok (.ifCond .lt 7, 3) := by decide +kernel
theorem dX9_count_153 : decode cX9_count 153 = .ok (.iconst 1, 1) := by decide +kernel
theorem dX9_count_154 : decode cX9_count 154 = .ok (.goto 4, 3) := by decide +kernel
theorem dX9_count_157 : decode cX9_count 157 = .ok (.iconst 0, 1) := by decide +kernel
theorem dX9_count_158 : decode cX9_count 158 = .ok (.iadd, 1) := by decide +kernel
theorem dX9_count_159 : decode cX9_count 159 = .ok (.istore_n 2, 1) := by decide +kernel
theorem dX9_count_160 : decode cX9_count 160 = .ok (.goto 30, 3) := by decide +kernel
theorem dX9_count_163 : decode cX9_count 163 = .ok (.iload_n 2, 1) := by decide +kernel
theorem dX9_count_164 : decode cX9_count 164 = .ok (.aload_n 0, 1) := by decide +kernel
theorem dX9_count_165 : decode cX9_count 165 = .ok (.getfield 7, 3) := by decide +kernel
theorem dX9_count_168 : decode cX9_count 168 = .ok (.iload_n 3, 1) := by decide +kernel
theorem dX9_count_169 : decode cX9_count 169 = .ok (.baload, 1) := by decide +kernel
theorem dX9_count_170 : decode cX9_count 170 = .ok (.ifCond .eq 12, 3) := by decide +kernel
theorem dX9_count_173 : decode cX9_count 173 = .ok (.aload_n 0, 1) := by decide +kernel
theorem dX9_count_174 : decode cX9_count 174 = .ok (.getfield 17, 3) := by decide +kernel
theorem dX9_count_177 : decode cX9_count 177 = .ok (.iload_n 3, 1) := by decide +kernel
theorem dX9_count_178 : decode cX9_count 178 = .ok (.iaload, 1) := by decide +kernel
theorem dX9_count_179 : decode cX9_count 179 = .ok (.goto 4, 3) := by decide +kernel
theorem dX9_count_182 : decode cX9_count 182 = .ok (.iconst 0, 1) := by decide +kernel
theorem dX9_count_183 : decode cX9_count 183 = .ok (.iadd, 1) := by decide +kernel
theorem dX9_count_184 : decode cX9_count 184 = .ok (.istore_n 2, 1) := by decide +kernel
theorem dX9_count_185 : decode cX9_count 185 = .ok (.goto 5, 3) := by decide +kernel
theorem dX9_count_188 : decode cX9_count 188 = .ok (.iconst (-1), 1) := by decide +kernel
theorem dX9_count_189 : decode cX9_count 189 = .ok (.ireturn, 1) := by decide +kernel
theorem dX9_count_190 : decode cX9_count 190 = .ok (.iinc 3 1, 3) := by decide +kernel
theorem dX9_count_193 : decode cX9_count 193 = .ok (.goto (-189), 3) := by decide +kernel
theorem dX9_count_196 : decode cX9_count 196 = .ok (.iload_n 2, 1) := by decide +kernel
theorem dX9_count_197 : decode cX9_count 197 = .ok (.ireturn, 1) := by decide +kernel
theorem dJ13_bitCount_95d88_0 : decode cJ13_bitCount_95d88 0 = .ok (.lload_n 0, 1) := by decide +kernel
theorem dJ13_bitCount_95d88_1 : decode cJ13_bitCount_95d88 1 = .ok (.lload_n 0, 1) := by decide +kernel
theorem dJ13_bitCount_95d88_2 : decode cJ13_bitCount_95d88 2 = .ok (.iconst 1, 1) := by decide +kernel
theorem dJ13_bitCount_95d88_3 : decode cJ13_bitCount_95d88 3 = .ok (.lushr, 1) := by decide +kernel
theorem dJ13_bitCount_95d88_4 : decode cJ13_bitCount_95d88 4 = .ok (.ldc2_w 314, 3) := by decide +kernel
theorem dJ13_bitCount_95d88_7 : decode cJ13_bitCount_95d88 7 = .ok (.land, 1) := by decide +kernel
theorem dJ13_bitCount_95d88_8 : decode cJ13_bitCount_95d88 8 = .ok (.lsub, 1) := by decide +kernel
theorem dJ13_bitCount_95d88_9 : decode cJ13_bitCount_95d88 9 = .ok (.lstore_n 0, 1) := by decide +kernel
theorem dJ13_bitCount_95d88_10 : decode cJ13_bitCount_95d88 10 = .ok (.lload_n 0, 1) := by decide +kernel
theorem dJ13_bitCount_95d88_11 : decode cJ13_bitCount_95d88 11 = .ok (.ldc2_w 316, 3) := by decide +kernel
theorem dJ13_bitCount_95d88_14 : decode cJ13_bitCount_95d88 14 = .ok (.land, 1) := by decide +kernel
theorem dJ13_bitCount_95d88_15 : decode cJ13_bitCount_95d88 15 = .ok (.lload_n 0, 1) := by decide +kernel
theorem dJ13_bitCount_95d88_16 : decode cJ13_bitCount_95d88 16 = .ok (.iconst 2, 1) := by decide +kernel
theorem dJ13_bitCount_95d88_17 : decode cJ13_bitCount_95d88 17 = .ok (.lushr, 1) := by decide +kernel
theorem dJ13_bitCount_95d88_18 : decode cJ13_bitCount_95d88 18 = .ok (.ldc2_w 316, 3) := by decide +kernel
theorem dJ13_bitCount_95d88_21 : decode cJ13_bitCount_95d88 21 = .ok (.land, 1) := by decide +kernel
theorem dJ13_bitCount_95d88_22 : decode cJ13_bitCount_95d88 22 = .ok (.ladd, 1) := by decide +kernel
theorem dJ13_bitCount_95d88_23 : decode cJ13_bitCount_95d88 23 = .ok (.lstore_n 0, 1) := by decide +kernel
theorem dJ13_bitCount_95d88_24 : decode cJ13_bitCount_95d88 24 = .ok (.lload_n 0, 1) := by decide +kernel
theorem dJ13_bitCount_95d88_25 : decode cJ13_bitCount_95d88 25 = .ok (.lload_n 0, 1) := by decide +kernel
theorem dJ13_bitCount_95d88_26 : decode cJ13_bitCount_95d88 26 = .ok (.iconst 4, 1) := by decide +kernel
theorem dJ13_bitCount_95d88_27 : decode cJ13_bitCount_95d88 27 = .ok (.lushr, 1) := by decide +kernel
theorem dJ13_bitCount_95d88_28 : decode cJ13_bitCount_95d88 28 = .ok (.ladd, 1) := by decide +kernel
theorem dJ13_bitCount_95d88_29 : decode cJ13_bitCount_95d88 29 = .ok (.ldc2_w 318, 3) := by decide +kernel
theorem dJ13_bitCount_95d88_32 : decode cJ13_bitCount_95d88 32 = .ok (.land, 1) := by decide +kernel
theorem dJ13_bitCount_95d88_33 : decode cJ13_bitCount_95d88 33 = .ok (.lstore_n 0, 1) := by decide +kernel
theorem dJ13_bitCount_95d88_34 : decode cJ13_bitCount_95d88 34 = .ok (.lload_n 0, 1) := by decide +kernel
theorem dJ13_bitCount_95d88_35 : decode cJ13_bitCount_95d88 35 = .ok (.lload_n 0, 1) := by decide +kernel
theorem dJ13_bitCount_95d88_36 : decode cJ13_bitCount_95d88 36 = .ok (.bipush 8, 2) := by decide +kernel
theorem dJ13_bitCount_95d88_38 : decode cJ13_bitCount_95d88 38 = .ok (.lushr, 1) := by decide +kernel
theorem dJ13_bitCount_95d88_39 : decode cJ13_bitCount_95d88 39 = .ok (.ladd, 1) := by decide +kernel
theorem dJ13_bitCount_95d88_40 : decode cJ13_bitCount_95d88 40 = .ok (.lstore_n 0, 1) := by decide +kernel
theorem dJ13_bitCount_95d88_41 : decode cJ13_bitCount_95d88 41 = .ok (.lload_n 0, 1) := by decide +kernel
theorem dJ13_bitCount_95d88_42 : decode cJ13_bitCount_95d88 42 = .ok (.lload_n 0, 1) := by decide +kernel
theorem dJ13_bitCount_95d88_43 : decode cJ13_bitCount_95d88 43 = .ok (.bipush 16, 2) := by decide +kernel
theorem dJ13_bitCount_95d88_45 : decode cJ13_bitCount_95d88 45 = .ok (.lushr, 1) := by decide +kernel
theorem dJ13_bitCount_95d88_46 : decode cJ13_bitCount_95d88 46 = .ok (.ladd, 1) := by decide +kernel
theorem dJ13_bitCount_95d88_47 : decode cJ13_bitCount_95d88 47 = .ok (.lstore_n 0, 1) := by decide +kernel
theorem dJ13_bitCount_95d88_48 : decode cJ13_bitCount_95d88 48 = .ok (.lload_n 0, 1) := by decide +kernel
theorem dJ13_bitCount_95d88_49 : decode cJ13_bitCount_95d88 49 = .ok (.lload_n 0, 1) := by decide +kernel
theorem dJ13_bitCount_95d88_50 : decode cJ13_bitCount_95d88 50 = .ok (.bipush 32, 2) := by decide +kernel
theorem dJ13_bitCount_95d88_52 : decode cJ13_bitCount_95d88 52 = .ok (.lushr, 1) := by decide +kernel
theorem dJ13_bitCount_95d88_53 : decode cJ13_bitCount_95d88 53 = .ok (.ladd, 1) := by decide +kernel
theorem dJ13_bitCount_95d88_54 : decode cJ13_bitCount_95d88 54 = .ok (.lstore_n 0, 1) := by decide +kernel
theorem dJ13_bitCount_95d88_55 : decode cJ13_bitCount_95d88 55 = .ok (.lload_n 0, 1) := by decide +kernel
theorem dJ13_bitCount_95d88_56 : decode cJ13_bitCount_95d88 56 = .ok (.l2i, 1) := by decide +kernel
theorem dJ13_bitCount_95d88_57 : decode cJ13_bitCount_95d88 57 = .ok (.bipush 127, 2) := by decide +kernel
theorem dJ13_bitCount_95d88_59 : decode cJ13_bitCount_95d88 59 = .ok (.iand, 1) := by decide +kernel
theorem dJ13_bitCount_95d88_60 : decode cJ13_bitCount_95d88 60 = .ok (.ireturn, 1) := by decide +kernel
theorem dJ9_floorMod_7cf53_0 : decode cJ9_floorMod_7cf53 0 = .ok (.iload_n 0, 1) := by decide +kernel
theorem dJ9_floorMod_7cf53_1 : decode cJ9_floorMod_7cf53 1 = .ok (.iload_n 1, 1) := by decide +kernel
theorem dJ9_floorMod_7cf53_2 : decode cJ9_floorMod_7cf53 2 = .ok (.irem, 1) := by decide +kernel
theorem dJ9_floorMod_7cf53_3 : decode cJ9_floorMod_7cf53 3 = .ok (.istore_n 2, 1) := by decide +kernel
theorem dJ9_floorMod_7cf53_4 : decode cJ9_floorMod_7cf53 4 = .ok (.iload_n 0, 1) := by decide +kernel
theorem dJ9_floorMod_7cf53_5 : decode cJ9_floorMod_7cf53 5 = .ok (.iload_n 1, 1) := by decide +kernel
theorem dJ9_floorMod_7cf53_6 : decode cJ9_floorMod_7cf53 6 = .ok (.ixor, 1) := by decide +kernel
theorem dJ9_floorMod_7cf53_7 : decode cJ9_floorMod_7cf53 7 = .ok (.ifCond .ge 11, 3) := by decide +kernel
theorem dJ9_floorMod_7cf53_10 : decode cJ9_floorMod_7cf53 10 = .ok (.iload_n 2, 1) := by decide +kernel
theorem dJ9_floorMod_7cf53_11 : decode cJ9_floorMod_7cf53 11 = .ok (.ifCond .eq 7, 3) := by decide +kernel
theorem dJ9_floorMod_7cf53_14 : decode cJ9_floorMod_7cf53 14 = .ok (.iload_n 2, 1) := by decide +kernel
theorem dJ9_floorMod_7cf53_15 : decode cJ9_floorMod_7cf53 15 = .ok (.iload_n 1, 1) := by decide +kernel
theorem dJ9_floorMod_7cf53_16 : decode cJ9_floorMod_7cf53 16 = .ok (.iadd, 1) := by decide +kernel
theorem dJ9_floorMod_7cf53_17 : decode cJ9_floorMod_7cf53 17 = .ok (.ireturn, 1) := by decide +kernel
theorem dJ9_floorMod_7cf53_18 : decode cJ9_floorMod_7cf53 18 = .ok (.iload_n 2, 1) := by decide +kernel
theorem dJ9_floorMod_7cf53_19 : decode cJ9_floorMod_7cf53 19 = .ok (.ireturn, 1) := by decide +kernel
theorem dJ9_max_7cf53_0 : decode cJ9_max_7cf53 0 = .ok (.iload_n 0, 1) := by decide +kernel
theorem dJ9_max_7cf53_1 : decode cJ9_max_7cf53 1 = .ok (.iload_n 1, 1) := by decide +kernel
theorem dJ9_max_7cf53_2 : decode cJ9_max_7cf53 2 = .ok (.if_icmp .lt 7, 3) := by decide +kernel
theorem dJ9_max_7cf53_5 : decode cJ9_max_7cf53 5 = .ok (.iload_n 0, 1) := by decide +kernel
theorem dJ9_max_7cf53_6 : decode cJ9_max_7cf53 6 = .ok (.goto 4, 3) := by decide +kernel
theorem dJ9_max_7cf53_9 : decode cJ9_max_7cf53 9 = .ok (.iload_n 1, 1) := by decide +kernel
theorem dJ9_max_7cf53_10 : decode cJ9_max_7cf53 10 = .ok (.ireturn, 1) := by decide +kernel
theorem dJ9_min_7cf53_0 : decode cJ9_min_7cf53 0 = .ok (.iload_n 0, 1) := by decide +kernel
theorem dJ9_min_7cf53_1 : decode cJ9_min_7cf53 1 = .ok (.iload_n 1, 1) := by decide +kernel
theorem dJ9_min_7cf53_2 : decode cJ9_min_7cf53 2 = .ok (.if_icmp .gt 7, 3) := by decide +kernel
theorem dJ9_min_7cf53_5 : decode cJ9_min_7cf53 5 = .ok (.iload_n 0, 1) := by decide +kernel
theorem dJ9_min_7cf53_6 : decode cJ9_min_7cf53 6 = .ok (.goto 4, 3) := by decide +kernel
theorem dJ9_min_7cf53_9 : decode cJ9_min_7cf53 9 = .ok (.iload_n 1, 1) := by decide +kernel
theorem dJ9_min_7cf53_10 : decode cJ9_min_7cf53 10 = .ok (.ireturn, 1) := by decide +kernel
theorem dJ7_rangeCheck_23922_0 : decode cJ7_rangeCheck_23922 0 = .ok (.iload_n 1, 1) := by decide +kernel
theorem dJ7_rangeCheck_23922_1 : decode cJ7_rangeCheck_23922 1 = .ok (.iload_n 2, 1) := by decide +kernel
theorem dJ7_rangeCheck_23922_2 : decode cJ7_rangeCheck_23922 2 = .ok (.if_icmp .le 44, 3) := by decide +kernel
theorem dJ7_rangeCheck_23922_5 : decode cJ7_rangeCheck_23922 5 = .ok (.new 43, 3) := by decide +kernel
theorem dJ7_rangeCheck_23922_8 : decode cJ7_rangeCheck_23922 8 = .ok (.dup, 1) := by decide +kernel
theorem dJ7_rangeCheck_23922_9 : decode cJ7_rangeCheck_23922 9 = .ok (.new 45, 3) := by decide +kernel
theorem dJ7_rangeCheck_23922_12 : decode cJ7_rangeCheck_23922 12 = .ok (.dup, 1) := by decide +kernel
theorem dJ7_rangeCheck_23922_13 : decode cJ7_rangeCheck_23922 13 = .ok (.invokespecial 47, 3) := by decide +kernel
theorem dJ7_rangeCheck_23922_16 : decode cJ7_rangeCheck_23922 16 = .ok (.ldc 48, 2) := by decide +kernel
theorem dJ7_rangeCheck_23922_18 : decode cJ7_rangeCheck_23922 18 = .ok (.invokevirtual 50, 3) := by decide +kernel
theorem dJ7_rangeCheck_23922_21 : decode cJ7_rangeCheck_23922 21 = .ok (.iload_n 1, 1) := by decide +kernel
theorem dJ7_rangeCheck_23922_22 : decode cJ7_rangeCheck_23922 22 = .ok (.invokevirtual 54, 3) := by decide +kernel
theorem dJ7_rangeCheck_23922_25 : decode cJ7_rangeCheck_23922 25 = .ok (.ldc 57, 2) := by decide +kernel
theorem dJ7_rangeCheck_23922_27 : decode cJ7_rangeCheck_23922 27 = .ok (.invokevirtual 50, 3) := by decide +kernel
theorem dJ7_rangeCheck_23922_30 : decode cJ7_rangeCheck_23922 30 = .ok (.iload_n 2, 1) := by decide +kernel
theorem dJ7_rangeCheck_23922_31 : decode cJ7_rangeCheck_23922 31 = .ok (.invokevirtual 54, 3) := by decide +kernel
theorem dJ7_rangeCheck_23922_34 : decode cJ7_rangeCheck_23922 34 = .ok (.ldc 59, 2) := by decide +kernel
theorem dJ7_rangeCheck_23922_36 : decode cJ7_rangeCheck_23922 36 = .ok (.invokevirtual 50, 3) := by decide +kernel
theorem dJ7_rangeCheck_23922_39 : decode cJ7_rangeCheck_23922 39 = .ok (.invokevirtual 61, 3) := by decide +kernel
theorem dJ7_rangeCheck_23922_42 : decode cJ7_rangeCheck_23922 42 = .ok (.invokespecial 65, 3) := by decide +kernel
theorem dJ7_rangeCheck_23922_45 : decode cJ7_rangeCheck_23922 45 = .ok (.athrow, 1) := by decide +kernel
theorem dJ7_rangeCheck_23922_46 : decode cJ7_rangeCheck_23922 46 = .ok (.iload_n 1, 1) := by decide +kernel
theorem dJ7_rangeCheck_23922_47 : decode cJ7_rangeCheck_23922 47 = .ok (.ifCond .ge 12, 3) := by decide +kernel
theorem dJ7_rangeCheck_23922_50 : decode cJ7_rangeCheck_23922 50 = .ok (.new 68, 3) := by decide +kernel
theorem dJ7_rangeCheck_23922_53 : decode cJ7_rangeCheck_23922 53 = .ok (.dup, 1) := by decide +kernel
theorem dJ7_rangeCheck_23922_54 : decode cJ7_rangeCheck_23922 54 = .ok (.iload_n 1, 1) := by decide +kernel
theorem dJ7_rangeCheck_23922_55 : decode cJ7_rangeCheck_23922 55 = .ok (.invokespecial 70, 3) := by decide +kernel
theorem dJ7_rangeCheck_23922_58 : decode cJ7_rangeCheck_23922 58 = .ok (.athrow, 1) := by decide +kernel
theorem dJ7_rangeCheck_23922_59 : decode cJ7_rangeCheck_23922 59 = .ok (.iload_n 2, 1) := by decide +kernel
theorem dJ7_rangeCheck_23922_60 : decode cJ7_rangeCheck_23922 60 = .ok (.iload_n 0, 1) := by decide +kernel
theorem dJ7_rangeCheck_23922_61 : decode cJ7_rangeCheck_23922 61 = .ok (.if_icmp .le 12, 3) := by decide +kernel
theorem dJ7_rangeCheck_23922_64 : decode cJ7_rangeCheck_23922 64 = .ok (.new 68, 3) := by decide +kernel
theorem dJ7_rangeCheck_23922_67 : decode cJ7_rangeCheck_23922 67 = .ok (.dup, 1) := by decide +kernel
theorem dJ7_rangeCheck_23922_68 : decode cJ7_rangeCheck_23922 68 = .ok (.iload_n 2, 1) := by decide +kernel
theorem dJ7_rangeCheck_23922_69 : decode cJ7_rangeCheck_23922 69 = .ok (.invokespecial 70, 3) := by decide +kernel
theorem dJ7_rangeCheck_23922_72 : decode cJ7_rangeCheck_23922 72 = .ok (.athrow, 1) := by decide +kernel
theorem dJ7_rangeCheck_23922_73 : decode cJ7_rangeCheck_23922 73 = .ok (.return_, 1) := by decide +kernel
theorem dJ7_fill_53178_0 : decode cJ7_fill_53178 0 = .ok (.iconst 0, 1) := by decide +kernel
theorem dJ7_fill_53178_1 : decode cJ7_fill_53178 1 = .ok (.istore_n 2, 1) := by decide +kernel
theorem dJ7_fill_53178_2 : decode cJ7_fill_53178 2 = .ok (.aload_n 0, 1) := by decide +kernel
theorem dJ7_fill_53178_3 : decode cJ7_fill_53178 3 = .ok (.arraylength, 1) := by decide +kernel
theorem dJ7_fill_53178_4 : decode cJ7_fill_53178 4 = .ok (.istore_n 3, 1) := by decide +kernel
theorem dJ7_fill_53178_5 : decode cJ7_fill_53178 5 = .ok (.iload_n 2, 1) := by decide +kernel
theorem dJ7_fill_53178_6 : decode cJ7_fill_53178 6 = .ok (.iload_n 3, 1) := by decide +kernel
theorem dJ7_fill_53178_7 : decode cJ7_fill_53178 7 = .ok (.if_icmp .ge 13, 3) := by decide +kernel
theorem dJ7_fill_53178_10 : decode cJ7_fill_53178 10 = .ok (.aload_n 0, 1) := by decide +kernel
theorem dJ7_fill_53178_11 : decode cJ7_fill_53178 11 = .ok (.iload_n 2, 1) := by decide +kernel
theorem dJ7_fill_53178_12 : decode cJ7_fill_53178 12 = .ok (.iload_n 1, 1) := by decide +kernel
theorem dJ7_fill_53178_13 : decode cJ7_fill_53178 13 = .ok (.iastore, 1) := by decide +kernel
theorem dJ7_fill_53178_14 : decode cJ7_fill_53178 14 = .ok (.iinc 2 1, 3) := by decide +kernel
theorem dJ7_fill_53178_17 : decode cJ7_fill_53178 17 = .ok (.goto (-12), 3) := by decide +kernel
theorem dJ7_fill_53178_20 : decode cJ7_fill_53178 20 = .ok (.return_, 1) := by decide +kernel
set_option maxRecDepth 20000 in
theorem ggJ7_fill_fda19_J7_rangeCheck_23922 : GoodIn wsJ7_fill_fda19 wsJ7_rangeCheck_23922 := goodIn_r _ [4] (by decide +kernel) (by decide +kernel)
set_option maxRecDepth 20000 in
theorem gJ7_fill_fda19_J7_rangeCheck_23922 : GoodIn wsJ7_fill_fda19 (va_wsS RJ7 13 yJ7_rangeCheck_23922 wsJ7_rangeCheck_23922) := goodIn_app (goodIn_of _ (by decide +kernel)) ggJ7_fill_fda19_J7_rangeCheck_23922
theorem dJ7_fill_fda19_0 : decode cJ7_fill_fda19 0 = .ok (.aload_n 0, 1) := by decide +kernel
theorem dJ7_fill_fda19_1 : decode cJ7_fill_fda19 1 = .ok (.arraylength, 1) := by decide +kernel
theorem dJ7_fill_fda19_2 : decode cJ7_fill_fda19 2 = .ok (.iload_n 1, 1) := by decide +kernel
theorem dJ7_fill_fda19_3 : decode cJ7_fill_fda19 3 = .ok (.iload_n 2, 1) := by decide +kernel
theorem dJ7_fill_fda19_4 : decode cJ7_fill_fda19 4 = .ok (.invokestatic 13, 3) := by decide +kernel
theorem dJ7_fill_fda19_7 : decode cJ7_fill_fda19 7 = .ok (.iload_n 1, 1) := by decide +kernel
theorem dJ7_fill_fda19_8 : decode cJ7_fill_fda19 8 = .ok (.istore 4, 2) := by decide +kernel
theorem dJ7_fill_fda19_10 : decode cJ7_fill_fda19 10 = .ok (.iload 4, 2) := by decide +kernel
theorem dJ7_fill_fda19_12 : decode cJ7_fill_fda19 12 = .ok (.iload_n 2, 1) := by decide +kernel
theorem dJ7_fill_fda19_13 : decode cJ7_fill_fda19 13 = .ok (.if_icmp .ge 14, 3) := by decide +kernel
theorem dJ7_fill_fda19_16 : decode cJ7_fill_fda19 16 = .ok (.aload_n 0, 1) := by decide +kernel
theorem dJ7_fill_fda19_17 : decode cJ7_fill_fda19 17 = .ok (.iload 4, 2) := by decide +kernel
theorem dJ7_fill_fda19_19 : decode cJ7_fill_fda19 19 = .ok (.iload_n 3, 1) := by decide +kernel
theorem dJ7_fill_fda19_20 : decode cJ7_fill_fda19 20 = .ok (.iastore, 1) := by decide +kernel
theorem dJ7_fill_fda19_21 : decode cJ7_fill_fda19 21 = .ok (.iinc 4 1, 3) := by decide +kernel
theorem dJ7_fill_fda19_24 : decode cJ7_fill_fda19 24 = .ok (.goto (-14), 3) := by decide +kernel
theorem dJ7_fill_fda19_27 : decode cJ7_fill_fda19 27 = .ok (.return_, 1) := by decide +kernel
