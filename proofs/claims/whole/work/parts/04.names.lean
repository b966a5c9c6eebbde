set_option maxRecDepth 20000 in
theorem ggX8_init_X3_init : GoodIn wsX8_init wsX3_init := goodIn_r _ [99, 100, 2, 3, 40, 101, 102, 59, 103, 148, 149, 150, 151, 152] (by decide +kernel) (by decide +kernel)
set_option maxRecDepth 20000 in
theorem gX8_init_X3_init : GoodIn wsX8_init (wsX3_init) := ggX8_init_X3_init
theorem dX8_init_0 : decode cX8_init 0 = .ok (.aload_n 0, 1) := by decide +kernel
theorem dX8_init_1 : decode cX8_init 1 = .ok (.invokespecial 1, 3) := by decide +kernel
theorem dX8_init_4 : decode cX8_init 4 = .ok (.aload_n 0, 1) := by decide +kernel
theorem dX8_init_5 : decode cX8_init 5 = .ok (.new 7, 3) := by decide +kernel
theorem dX8_init_8 : decode cX8_init 8 = .ok (.dup, 1) := by decide +kernel
theorem dX8_init_9 : decode cX8_init 9 = .ok (.invokespecial 9, 3) := by decide +kernel
theorem dX8_init_12 : decode cX8_init 12 = .ok (.putfield 10, 3) := by decide +kernel
theorem dX8_init_15 : decode cX8_init 15 = .ok (.aload_n 0, 1) := by decide +kernel
theorem dX8_init_16 : decode cX8_init 16 = .ok (.new 16, 3) := by decide +kernel
theorem dX8_init_19 : decode cX8_init 19 = .ok (.dup, 1) := by decide +kernel
theorem dX8_init_20 : decode cX8_init 20 = .ok (.aload_n 0, 1) := by decide +kernel
theorem dX8_init_21 : decode cX8_init 21 = .ok (.getfield 10, 3) := by decide +kernel
theorem dX8_init_24 : decode cX8_init 24 = .ok (.invokespecial 18, 3) := by decide +kernel
theorem dX8_init_27 : decode cX8_init 27 = .ok (.putfield 21, 3) := by decide +kernel
theorem dX8_init_30 : decode cX8_init 30 = .ok (.aload_n 0, 1) := by decide +kernel
theorem dX8_init_31 : decode cX8_init 31 = .ok (.new 25, 3) := by decide +kernel
theorem dX8_init_34 : decode cX8_init 34 = .ok (.dup, 1) := by decide +kernel
theorem dX8_init_35 : decode cX8_init 35 = .ok (.aload_n 0, 1) := by decide +kernel
theorem dX8_init_36 : decode cX8_init 36 = .ok (.getfield 10, 3) := by decide +kernel
theorem dX8_init_39 : decode cX8_init 39 = .ok (.invokespecial 27, 3) := by decide +kernel
theorem dX8_init_42 : decode cX8_init 42 = .ok (.putfield 28, 3) := by decide +kernel
theorem dX8_init_45 : decode cX8_init 45 = .ok (.aload_n 0, 1) := by decide +kernel
theorem dX8_init_46 : decode cX8_init 46 = .ok (.new 32, 3) := by decide +kernel
theorem dX8_init_49 : decode cX8_init 49 = .ok (.dup, 1) := by decide +kernel
theorem dX8_init_50 : decode cX8_init 50 = .ok (.invokespecial 34, 3) := by decide +kernel
theorem dX8_init_53 : decode cX8_init 53 = .ok (.putfield 35, 3) := by decide +kernel
theorem dX8_init_56 : decode cX8_init 56 = .ok (.aload_n 0, 1) := by decide +kernel
theorem dX8_init_57 : decode cX8_init 57 = .ok (.bipush 8, 2) := by decide +kernel
theorem dX8_init_59 : decode cX8_init 59 = .ok (.anewarray 39, 3) := by decide +kernel
theorem dX8_init_62 : decode cX8_init 62 = .ok (.putfield 41, 3) := by decide +kernel
theorem dX8_init_65 : decode cX8_init 65 = .ok (.iconst 0, 1) := by decide +kernel
theorem dX8_init_66 : decode cX8_init 66 = .ok (.istore_n 1, 1) := by decide +kernel
theorem dX8_init_67 : decode cX8_init 67 = .ok (.iload_n 1, 1) := by decide +kernel
theorem dX8_init_68 : decode cX8_init 68 = .ok (.bipush 8, 2) := by decide +kernel
theorem dX8_init_70 : decode cX8_init 70 = .ok (.if_icmp .ge 22, 3) := by decide +kernel
theorem dX8_init_73 : decode cX8_init 73 = .ok (.aload_n 0, 1) := by decide +kernel
theorem dX8_init_74 : decode cX8_init 74 = .ok (.getfield 41, 3) := by decide +kernel
theorem dX8_init_77 : decode cX8_init 77 = .ok (.iload_n 1, 1) := by decide +kernel
theorem dX8_init_78 : decode cX8_init 78 = .ok (.new 39, 3) := by decide +kernel
theorem dX8_init_81 : decode cX8_init 81 = .ok (.dup, 1) := by decide +kernel
theorem dX8_init_82 : decode cX8_init 82 = .ok (.invokespecial 45, 3) := by decide +kernel
theorem dX8_init_85 : decode cX8_init 85 = .ok (.aastore, 1) := by decide +kernel
theorem dX8_init_86 : decode cX8_init 86 = .ok (.iinc 1 1, 3) := by decide +kernel
theorem dX8_init_89 : decode cX8_init 89 = .ok (.goto (-22), 3) := by decide +kernel
theorem dX8_init_92 : decode cX8_init 92 = .ok (.aload_n 0, 1) := by decide +kernel
theorem dX8_init_93 : decode cX8_init 93 = .ok (.new 46, 3) := by decide +kernel
theorem dX8_init_96 : decode cX8_init 96 = .ok (.dup, 1) := by decide +kernel
theorem dX8_init_97 : decode cX8_init 97 = .ok (.aload_n 0, 1) := by decide +kernel
theorem dX8_init_98 : decode cX8_init 98 = .ok (.getfield 10, 3) := by decide +kernel
theorem dX8_init_101 : decode cX8_init 101 = .ok (.aload_n 0, 1) := by decide +kernel
theorem dX8_init_102 : decode cX8_init 102 = .ok (.getfield 21, 3) := by decide +kernel
theorem dX8_init_105 : decode cX8_init 105 = .ok (.aload_n 0, 1) := by decide +kernel
theorem dX8_init_106 : decode cX8_init 106 = .ok (.getfield 28, 3) := by decide +kernel
theorem dX8_init_109 : decode cX8_init 109 = .ok (.aload_n 0, 1) := by decide +kernel
theorem dX8_init_110 : decode cX8_init 110 = .ok (.getfield 41, 3) := by decide +kernel
theorem dX8_init_113 : decode cX8_init 113 = .ok (.invokespecial 48, 3) := by decide +kernel
theorem dX8_init_116 : decode cX8_init 116 = .ok (.putfield 51, 3) := by decide +kernel
theorem dX8_init_119 : decode cX8_init 119 = .ok (.aload_n 0, 1) := by decide +kernel
theorem dX8_init_120 : decode cX8_init 120 = .ok (.new 55, 3) := by decide +kernel
theorem dX8_init_123 : decode cX8_init 123 = .ok (.dup, 1) := by decide +kernel
theorem dX8_init_124 : decode cX8_init 124 = .ok (.aload_n 0, 1) := by decide +kernel
theorem dX8_init_125 : decode cX8_init 125 = .ok (.getfield 10, 3) := by decide +kernel
theorem dX8_init_128 : decode cX8_init 128 = .ok (.aload_n 0, 1) := by decide +kernel
theorem dX8_init_129 : decode cX8_init 129 = .ok (.getfield 28, 3) := by decide +kernel
theorem dX8_init_132 : decode cX8_init 132 = .ok (.invokespecial 57, 3) := by decide +kernel
theorem dX8_init_135 : decode cX8_init 135 = .ok (.putfield 60, 3) := by decide +kernel
theorem dX8_init_138 : decode cX8_init 138 = .ok (.aload_n 0, 1) := by decide +kernel
theorem dX8_init_139 : decode cX8_init 139 = .ok (.new 64, 3) := by decide +kernel
theorem dX8_init_142 : decode cX8_init 142 = .ok (.dup, 1) := by decide +kernel
theorem dX8_init_143 : decode cX8_init 143 = .ok (.invokespecial 66, 3) := by decide +kernel
theorem dX8_init_146 : decode cX8_init 146 = .ok (.putfield 67, 3) := by decide +kernel
theorem dX8_init_149 : decode cX8_init 149 = .ok (.return_, 1) := by decide +kernel
set_option maxRecDepth 20000 in
theorem ggX8_add_X8_isWithin : GoodIn wsX8_add wsX8_isWithin := goodIn_r _ [6] (by decide +kernel) (by decide +kernel)
set_option maxRecDepth 20000 in
theorem gX8_add_X8_isWithin : GoodIn wsX8_add (va_wsS RX8 71 yX8_isWithin wsX8_isWithin) := goodIn_app (goodIn_of _ (by decide +kernel)) ggX8_add_X8_isWithin
set_option maxRecDepth 20000 in
theorem ggX8_add_X1_freeNumber : GoodIn wsX8_add wsX1_freeNumber := goodIn_r _ [11, 12, 13, 5, 14, 268, 269, 270, 271, 272, 273] (by decide +kernel) (by decide +kernel)
set_option maxRecDepth 20000 in
theorem gX8_add_X1_freeNumber : GoodIn wsX8_add (wsV RX8 76 RX1 yX1_freeNumber wsX1_freeNumber) := goodIn_app (goodIn_of _ (by decide +kernel)) ggX8_add_X1_freeNumber
set_option maxRecDepth 20000 in
theorem ggX8_add_X1_enter : GoodIn wsX8_add wsX1_enter := goodIn_r _ [18, 12, 19, 20, 21, 22, 5, 23, 24, 25, 10, 26, 27, 28, 29, 30, 31, 32, 33, 268, 269, 270, 271, 272, 273] (by decide +kernel) (by decide +kernel)
set_option maxRecDepth 20000 in
theorem gX8_add_X1_enter : GoodIn wsX8_add (wsV RX8 80 RX1 yX1_enter wsX1_enter) := goodIn_app (goodIn_of _ (by decide +kernel)) ggX8_add_X1_enter
set_option maxRecDepth 20000 in
theorem ggX8_add_X8_settle : GoodIn wsX8_add wsX8_settle := goodIn_r _ [37, 2, 38, 39, 40, 41, 42, 43, 44, 45, 10, 46, 12, 13, 5, 14, 47, 48, 49, 50, 51, 52, 53, 54, 55, 56, 57, 58, 59, 60, 61, 62, 63, 64, 21, 24, 25, 26, 65, 66, 67, 68, 69, 70, 71, 72, 73, 74, 75, 76, 77, 78, 79, 80, 81, 19, 22, 23, 82, 83, 84, 85, 86, 87, 88, 89, 90, 91, 92, 93, 94, 95, 96, 97, 98, 99, 100, 101, 102, 103, 104, 105, 106, 107, 108, 109, 110, 111, 112, 113, 114, 115, 4, 6, 116, 117, 118, 119, 120, 121, 122, 123, 124, 125, 126, 127, 128, 129, 130, 3, 131, 132, 133, 134, 135, 136, 137, 138, 139, 140, 141, 142, 143, 144, 145, 146, 147, 148, 149, 150, 151, 152, 153, 154, 155, 156, 157, 158, 159, 160, 161, 162, 163, 164, 165, 166, 167, 168, 169, 170, 171, 172, 173, 174, 175, 176, 177, 178, 179, 180, 181, 182, 183, 184, 185, 186, 187, 188, 189, 190, 191, 192, 193, 194, 195, 196, 197, 198, 199, 200, 201, 202, 203, 204, 205, 206, 207, 208, 209, 210, 211, 212, 213, 214, 215, 216, 217, 218, 219, 220, 221, 222, 223, 224, 225, 226, 227, 228, 229, 230, 231, 232, 233, 234, 235, 236, 237, 238, 239, 240, 241, 242, 243, 244, 245, 246, 247, 248, 249, 250, 251, 252, 253, 254, 255, 256, 257, 258, 259, 260, 261, 262, 263, 264, 265, 266, 267, 268, 269, 270, 271, 272, 273, 274, 275, 276, 277, 278, 279, 280, 281, 282, 283, 284, 285, 286, 287, 288, 289, 290, 291, 292, 293, 294, 295, 296, 297, 298, 299, 300, 301, 302, 303, 304, 305, 306] (by decide +kernel) (by decide +kernel)
set_option maxRecDepth 20000 in
theorem gX8_add_X8_settle : GoodIn wsX8_add (wsV RX8 84 RX8 yX8_settle wsX8_settle) := goodIn_app (goodIn_of _ (by decide +kernel)) ggX8_add_X8_settle
theorem dX8_add_0 : decode cX8_add 0 = .ok (.iload_n 1, 1) := by decide +kernel
theorem dX8_add_1 : decode cX8_add 1 = .ok (.iconst 0, 1) := by decide +kernel
theorem dX8_add_2 : decode cX8_add 2 = .ok (.sipush 9999, 3) := by decide +kernel
theorem dX8_add_5 : decode cX8_add 5 = .ok (.invokestatic 71, 3) := by decide +kernel
theorem dX8_add_8 : decode cX8_add 8 = .ok (.ifCond .eq 13, 3) := by decide +kernel
theorem dX8_add_11 : decode cX8_add 11 = .ok (.iload_n 2, 1) := by decide +kernel
theorem dX8_add_12 : decode cX8_add 12 = .ok (.iconst 1, 1) := by decide +kernel
theorem dX8_add_13 : decode cX8_add 13 = .ok (.ldc 75, 2) := by decide +kernel
theorem dX8_add_15 : decode cX8_add 15 = .ok (.invokestatic 71, 3) := by decide +kernel
theorem dX8_add_18 : decode cX8_add 18 = .ok (.ifCond .ne 5, 3) := by decide +kernel
theorem dX8_add_21 : decode cX8_add 21 = .ok (.iconst (-1), 1) := by decide +kernel
theorem dX8_add_22 : decode cX8_add 22 = .ok (.ireturn, 1) := by decide +kernel
theorem dX8_add_23 : decode cX8_add 23 = .ok (.aload_n 0, 1) := by decide +kernel
theorem dX8_add_24 : decode cX8_add 24 = .ok (.getfield 10, 3) := by decide +kernel
theorem dX8_add_27 : decode cX8_add 27 = .ok (.invokevirtual 76, 3) := by decide +kernel
theorem dX8_add_30 : decode cX8_add 30 = .ok (.istore_n 3, 1) := by decide +kernel
theorem dX8_add_31 : decode cX8_add 31 = .ok (.iload_n 3, 1) := by decide +kernel
theorem dX8_add_32 : decode cX8_add 32 = .ok (.iconst (-1), 1) := by decide +kernel
theorem dX8_add_33 : decode cX8_add 33 = .ok (.if_icmp .ne 6, 3) := by decide +kernel
theorem dX8_add_36 : decode cX8_add 36 = .ok (.bipush (-3), 2) := by decide +kernel
theorem dX8_add_38 : decode cX8_add 38 = .ok (.ireturn, 1) := by decide +kernel
theorem dX8_add_39 : decode cX8_add 39 = .ok (.aload_n 0, 1) := by decide +kernel
theorem dX8_add_40 : decode cX8_add 40 = .ok (.getfield 10, 3) := by decide +kernel
theorem dX8_add_43 : decode cX8_add 43 = .ok (.iload_n 3, 1) := by decide +kernel
theorem dX8_add_44 : decode cX8_add 44 = .ok (.iload_n 1, 1) := by decide +kernel
theorem dX8_add_45 : decode cX8_add 45 = .ok (.iload_n 2, 1) := by decide +kernel
theorem dX8_add_46 : decode cX8_add 46 = .ok (.invokevirtual 80, 3) := by decide +kernel
theorem dX8_add_49 : decode cX8_add 49 = .ok (.aload_n 0, 1) := by decide +kernel
theorem dX8_add_50 : decode cX8_add 50 = .ok (.invokevirtual 84, 3) := by decide +kernel
theorem dX8_add_53 : decode cX8_add 53 = .ok (.iload_n 3, 1) := by decide +kernel
theorem dX8_add_54 : decode cX8_add 54 = .ok (.ireturn, 1) := by decide +kernel
set_option maxRecDepth 20000 in
theorem ggX8_remove_X1_has : GoodIn wsX8_remove wsX1_has := goodIn_r _ [6, 7, 8, 9, 10, 11, 12, 283, 284, 285, 286, 287, 288] (by decide +kernel) (by decide +kernel)
set_option maxRecDepth 20000 in
theorem gX8_remove_X1_has : GoodIn wsX8_remove (wsV RX8 87 RX1 yX1_has wsX1_has) := goodIn_app (goodIn_of _ (by decide +kernel)) ggX8_remove_X1_has
set_option maxRecDepth 20000 in
theorem ggX8_remove_X8_discard : GoodIn wsX8_remove wsX8_discard := goodIn_r _ [16, 17, 1, 18, 19, 20, 21, 22, 23, 24, 25, 26, 27, 28, 29, 30, 31, 32, 33, 34, 35, 36, 37, 38, 39, 40, 9, 41, 42, 43, 44, 5, 45, 7, 46, 275, 276, 277, 278, 279, 280, 281, 282, 289, 290, 291, 292, 293, 294, 295, 296, 283, 284, 285, 286, 287, 288] (by decide +kernel) (by decide +kernel)
set_option maxRecDepth 20000 in
theorem gX8_remove_X8_discard : GoodIn wsX8_remove (wsV RX8 91 RX8 yX8_discard wsX8_discard) := goodIn_app (goodIn_of _ (by decide +kernel)) ggX8_remove_X8_discard
set_option maxRecDepth 20000 in
theorem ggX8_remove_X8_settle : GoodIn wsX8_remove wsX8_settle := goodIn_r _ [50, 1, 51, 17, 52, 53, 54, 55, 56, 57, 5, 58, 7, 11, 9, 12, 59, 60, 61, 62, 63, 64, 65, 66, 67, 68, 69, 70, 71, 72, 73, 74, 75, 76, 77, 78, 79, 80, 81, 82, 83, 84, 85, 86, 87, 88, 89, 90, 91, 92, 93, 94, 95, 96, 97, 98, 40, 41, 99, 100, 101, 102, 103, 104, 105, 106, 107, 108, 109, 110, 111, 112, 113, 114, 115, 116, 117, 118, 119, 120, 121, 122, 123, 124, 21, 125, 126, 127, 128, 129, 130, 25, 8, 10, 131, 132, 133, 134, 24, 26, 135, 31, 32, 33, 136, 137, 138, 139, 140, 141, 142, 143, 144, 145, 146, 147, 148, 149, 150, 151, 152, 153, 154, 155, 156, 157, 158, 159, 160, 161, 162, 163, 164, 165, 166, 167, 168, 169, 170, 171, 172, 173, 174, 175, 176, 177, 178, 179, 180, 181, 182, 183, 184, 185, 186, 187, 188, 189, 190, 191, 192, 193, 194, 195, 196, 197, 198, 199, 200, 201, 202, 203, 204, 205, 206, 207, 208, 209, 210, 211, 38, 212, 213, 214, 215, 216, 217, 218, 219, 220, 221, 222, 223, 224, 225, 226, 227, 228, 229, 230, 231, 232, 233, 234, 235, 236, 237, 238, 239, 240, 241, 242, 243, 244, 245, 246, 247, 248, 249, 250, 251, 252, 253, 254, 255, 256, 257, 258, 259, 260, 261, 262, 263, 264, 265, 266, 267, 268, 269, 275, 276, 277, 278, 279, 280, 281, 282, 283, 284, 285, 286, 287, 288, 297, 298, 299, 289, 290, 291, 292, 293, 294, 295, 296, 300, 301, 302, 303, 304, 305, 306, 307, 308, 309, 310, 311, 312, 313, 314, 315, 316, 317, 318, 319, 320, 321] (by decide +kernel) (by decide +kernel)
set_option maxRecDepth 20000 in
theorem gX8_remove_X8_settle : GoodIn wsX8_remove (wsV RX8 84 RX8 yX8_settle wsX8_settle) := goodIn_app (goodIn_of _ (by decide +kernel)) ggX8_remove_X8_settle
set_option maxRecDepth 20000 in
theorem ggX8_remove_X1_howMany : GoodIn wsX8_remove wsX1_howMany := goodIn_r _ [273, 7, 274, 116, 117, 118, 119, 120, 121, 283, 284, 285, 286, 287, 288] (by decide +kernel) (by decide +kernel)
set_option maxRecDepth 20000 in
theorem gX8_remove_X1_howMany : GoodIn wsX8_remove (wsV RX8 95 RX1 yX1_howMany wsX1_howMany) := goodIn_app (goodIn_of _ (by decide +kernel)) ggX8_remove_X1_howMany
theorem dX8_remove_0 : decode cX8_remove 0 = .ok (.aload_n 0, 1) := by decide +kernel
theorem dX8_remove_1 : decode cX8_remove 1 = .ok (.getfield 10, 3) := by decide +kernel
theorem dX8_remove_4 : decode cX8_remove 4 = .ok (.iload_n 1, 1) := by decide +kernel
theorem dX8_remove_5 : decode cX8_remove 5 = .ok (.invokevirtual 87, 3) := by decide +kernel
theorem dX8_remove_8 : decode cX8_remove 8 = .ok (.ifCond .ne 5, 3) := by decide +kernel
theorem dX8_remove_11 : decode cX8_remove 11 = .ok (.iconst (-1), 1) := by decide +kernel
theorem dX8_remove_12 : decode cX8_remove 12 = .ok (.ireturn, 1) := by decide +kernel
theorem dX8_remove_13 : decode cX8_remove 13 = .ok (.aload_n 0, 1) := by decide +kernel
theorem dX8_remove_14 : decode cX8_remove 14 = .ok (.iload_n 1, 1) := by decide +kernel
theorem dX8_remove_15 : decode cX8_remove 15 = .ok (.invokevirtual 91, 3) := by decide +kernel
theorem dX8_remove_18 : decode cX8_remove 18 = .ok (.aload_n 0, 1) := by decide +kernel
theorem dX8_remove_19 : decode cX8_remove 19 = .ok (.invokevirtual 84, 3) := by decide +kernel
theorem dX8_remove_22 : decode cX8_remove 22 = .ok (.aload_n 0, 1) := by decide +kernel
theorem dX8_remove_23 : decode cX8_remove 23 = .ok (.getfield 10, 3) := by decide +kernel
theorem dX8_remove_26 : decode cX8_remove 26 = .ok (.invokevirtual 95, 3) := by decide +kernel
theorem dX8_remove_29 : decode cX8_remove 29 = .ok (.ireturn, 1) := by decide +kernel
set_option maxRecDepth 20000 in
theorem ggX8_fileCount_X1_howMany : GoodIn wsX8_fileCount wsX1_howMany := goodIn_r _ [6, 7, 8, 9, 10, 11, 12, 13, 14, 23, 24, 25, 26, 27, 28] (by decide +kernel) (by decide +kernel)
set_option maxRecDepth 20000 in
theorem gX8_fileCount_X1_howMany : GoodIn wsX8_fileCount (wsV RX8 95 RX1 yX1_howMany wsX1_howMany) := goodIn_app (goodIn_of _ (by decide +kernel)) ggX8_fileCount_X1_howMany
theorem dX8_fileCount_0 : decode cX8_fileCount 0 = .ok (.aload_n 0, 1) := by decide +kernel
theorem dX8_fileCount_1 : decode cX8_fileCount 1 = .ok (.getfield 10, 3) := by decide +kernel
theorem dX8_fileCount_4 : decode cX8_fileCount 4 = .ok (.invokevirtual 95, 3) := by decide +kernel
theorem dX8_fileCount_7 : decode cX8_fileCount 7 = .ok (.ireturn, 1) := by decide +kernel
set_option maxRecDepth 20000 in
theorem ggX8_setDigest_X1_has : GoodIn wsX8_setDigest wsX1_has := goodIn_r _ [6, 7, 8, 9, 10, 11, 12, 263, 264, 265, 266, 267, 268] (by decide +kernel) (by decide +kernel)
set_option maxRecDepth 20000 in
theorem gX8_setDigest_X1_has : GoodIn wsX8_setDigest (wsV RX8 87 RX1 yX1_has wsX1_has) := goodIn_app (goodIn_of _ (by decide +kernel)) ggX8_setDigest_X1_has
set_option maxRecDepth 20000 in
theorem ggX8_setDigest_X8_isWithin : GoodIn wsX8_setDigest wsX8_isWithin := goodIn_r _ [10] (by decide +kernel) (by decide +kernel)
set_option maxRecDepth 20000 in
theorem gX8_setDigest_X8_isWithin : GoodIn wsX8_setDigest (va_wsS RX8 71 yX8_isWithin wsX8_isWithin) := goodIn_app (goodIn_of _ (by decide +kernel)) ggX8_setDigest_X8_isWithin
set_option maxRecDepth 20000 in
theorem ggX8_setDigest_X1_digest : GoodIn wsX8_setDigest wsX1_digest := goodIn_r _ [17, 18, 263, 264, 265, 266, 267, 268] (by decide +kernel) (by decide +kernel)
set_option maxRecDepth 20000 in
theorem gX8_setDigest_X1_digest : GoodIn wsX8_setDigest (wsV RX8 98 RX1 yX1_digest wsX1_digest) := goodIn_app (goodIn_of _ (by decide +kernel)) ggX8_setDigest_X1_digest
set_option maxRecDepth 20000 in
theorem ggX8_setDigest_X1_changeDigest : GoodIn wsX8_setDigest wsX1_changeDigest := goodIn_r _ [22, 18, 263, 264, 265, 266, 267, 268] (by decide +kernel) (by decide +kernel)
set_option maxRecDepth 20000 in
theorem gX8_setDigest_X1_changeDigest : GoodIn wsX8_setDigest (wsV RX8 102 RX1 yX1_changeDigest wsX1_changeDigest) := goodIn_app (goodIn_of _ (by decide +kernel)) ggX8_setDigest_X1_changeDigest
set_option maxRecDepth 20000 in
theorem ggX8_setDigest_X8_settle : GoodIn wsX8_setDigest wsX8_settle := goodIn_r _ [26, 1, 27, 28, 29, 30, 31, 32, 33, 34, 5, 35, 7, 11, 9, 12, 36, 37, 38, 39, 40, 41, 42, 43, 44, 45, 46, 47, 48, 49, 50, 51, 52, 53, 54, 55, 56, 57, 58, 59, 60, 61, 62, 63, 64, 65, 66, 67, 68, 69, 70, 71, 72, 73, 74, 18, 75, 76, 77, 78, 79, 80, 81, 82, 83, 84, 85, 86, 87, 88, 89, 90, 91, 92, 93, 94, 95, 96, 97, 98, 99, 100, 101, 102, 103, 104, 105, 106, 107, 108, 109, 110, 8, 10, 111, 112, 113, 114, 115, 116, 117, 118, 119, 120, 121, 122, 123, 124, 125, 13, 126, 127, 128, 129, 130, 131, 132, 133, 134, 135, 136, 137, 138, 139, 140, 141, 142, 143, 144, 145, 146, 147, 148, 149, 150, 151, 152, 153, 154, 155, 156, 157, 158, 159, 160, 161, 162, 163, 164, 165, 166, 167, 168, 169, 170, 171, 172, 173, 174, 175, 176, 177, 178, 179, 180, 181, 182, 183, 184, 185, 186, 187, 188, 189, 190, 191, 192, 193, 194, 195, 196, 197, 198, 199, 200, 201, 202, 203, 204, 205, 206, 207, 208, 209, 210, 211, 212, 213, 214, 215, 216, 217, 218, 219, 220, 221, 222, 223, 224, 225, 226, 227, 228, 229, 230, 231, 232, 233, 234, 235, 236, 237, 238, 239, 240, 241, 242, 243, 244, 245, 246, 247, 248, 249, 250, 251, 252, 253, 254, 255, 256, 257, 258, 259, 260, 261, 262, 263, 264, 265, 266, 267, 268, 269, 270, 271, 272, 273, 274, 275, 276, 277, 278, 279, 280, 281, 282, 283, 284, 285, 286, 287, 288, 289, 290, 291, 292, 293, 294, 295, 296, 297, 298, 299, 300, 301] (by decide +kernel) (by decide +kernel)
set_option maxRecDepth 20000 in
theorem gX8_setDigest_X8_settle : GoodIn wsX8_setDigest (wsV RX8 84 RX8 yX8_settle wsX8_settle) := goodIn_app (goodIn_of _ (by decide +kernel)) ggX8_setDigest_X8_settle
theorem dX8_setDigest_0 : decode cX8_setDigest 0 = .ok (.aload_n 0, 1) := by decide +kernel
theorem dX8_setDigest_1 : decode cX8_setDigest 1 = .ok (.getfield 10, 3) := by decide +kernel
theorem dX8_setDigest_4 : decode cX8_setDigest 4 = .ok (.iload_n 1, 1) := by decide +kernel
theorem dX8_setDigest_5 : decode cX8_setDigest 5 = .ok (.invokevirtual 87, 3) := by decide +kernel
theorem dX8_setDigest_8 : decode cX8_setDigest 8 = .ok (.ifCond .eq 14, 3) := by decide +kernel
theorem dX8_setDigest_11 : decode cX8_setDigest 11 = .ok (.iload_n 2, 1) := by decide +kernel
theorem dX8_setDigest_12 : decode cX8_setDigest 12 = .ok (.iconst 0, 1) := by decide +kernel
theorem dX8_setDigest_13 : decode cX8_setDigest 13 = .ok (.sipush 9999, 3) := by decide +kernel
theorem dX8_setDigest_16 : decode cX8_setDigest 16 = .ok (.invokestatic 71, 3) := by decide +kernel
theorem dX8_setDigest_19 : decode cX8_setDigest 19 = .ok (.ifCond .ne 5, 3) := by decide +kernel
theorem dX8_setDigest_22 : decode cX8_setDigest 22 = .ok (.iconst (-1), 1) := by decide +kernel
theorem dX8_setDigest_23 : decode cX8_setDigest 23 = .ok (.ireturn, 1) := by decide +kernel
theorem dX8_setDigest_24 : decode cX8_setDigest 24 = .ok (.aload_n 0, 1) := by decide +kernel
theorem dX8_setDigest_25 : decode cX8_setDigest 25 = .ok (.getfield 10, 3) := by decide +kernel
theorem dX8_setDigest_28 : decode cX8_setDigest 28 = .ok (.iload_n 1, 1) := by decide +kernel
theorem dX8_setDigest_29 : decode cX8_setDigest 29 = .ok (.invokevirtual 98, 3) := by decide +kernel
theorem dX8_setDigest_32 : decode cX8_setDigest 32 = .ok (.istore_n 3, 1) := by decide +kernel
theorem dX8_setDigest_33 : decode cX8_setDigest 33 = .ok (.aload_n 0, 1) := by decide +kernel
theorem dX8_setDigest_34 : decode cX8_setDigest 34 = .ok (.getfield 10, 3) := by decide +kernel
theorem dX8_setDigest_37 : decode cX8_setDigest 37 = .ok (.iload_n 1, 1) := by decide +kernel
theorem dX8_setDigest_38 : decode cX8_setDigest 38 = .ok (.iload_n 2, 1) := by decide +kernel
theorem dX8_setDigest_39 : decode cX8_setDigest 39 = .ok (.invokevirtual 102, 3) := by decide +kernel
theorem dX8_setDigest_42 : decode cX8_setDigest 42 = .ok (.aload_n 0, 1) := by decide +kernel
theorem dX8_setDigest_43 : decode cX8_setDigest 43 = .ok (.invokevirtual 84, 3) := by decide +kernel
theorem dX8_setDigest_46 : decode cX8_setDigest 46 = .ok (.iload_n 3, 1) := by decide +kernel
theorem dX8_setDigest_47 : decode cX8_setDigest 47 = .ok (.ireturn, 1) := by decide +kernel
set_option maxRecDepth 20000 in
theorem ggX8_setValue_X8_isSlot : GoodIn wsX8_setValue wsX8_isSlot := goodIn_r _ [8, 3, 9, 10, 11, 12, 13, 14, 15, 7, 16, 17, 18, 19, 20, 21, 22, 264, 265, 266, 267, 268, 269, 270, 271, 272, 273, 274, 275, 276, 277] (by decide +kernel) (by decide +kernel)
set_option maxRecDepth 20000 in
theorem gX8_setValue_X8_isSlot : GoodIn wsX8_setValue (wsV RX8 106 RX8 yX8_isSlot wsX8_isSlot) := goodIn_app (goodIn_of _ (by decide +kernel)) ggX8_setValue_X8_isSlot
set_option maxRecDepth 20000 in
theorem ggX8_setValue_X8_isWithin : GoodIn wsX8_setValue wsX8_isWithin := goodIn_r _ [16] (by decide +kernel) (by decide +kernel)
set_option maxRecDepth 20000 in
theorem gX8_setValue_X8_isWithin : GoodIn wsX8_setValue (va_wsS RX8 71 yX8_isWithin wsX8_isWithin) := goodIn_app (goodIn_of _ (by decide +kernel)) ggX8_setValue_X8_isWithin
set_option maxRecDepth 20000 in
theorem ggX8_setValue_X1_told : GoodIn wsX8_setValue wsX1_told := goodIn_r _ [26, 27, 28, 29, 12, 30, 272, 273, 274, 275, 276, 277] (by decide +kernel) (by decide +kernel)
set_option maxRecDepth 20000 in
theorem gX8_setValue_X1_told : GoodIn wsX8_setValue (wsV RX8 116 RX1 yX1_told wsX1_told) := goodIn_app (goodIn_of _ (by decide +kernel)) ggX8_setValue_X1_told
set_option maxRecDepth 20000 in
theorem ggX8_setValue_X1_tell : GoodIn wsX8_setValue wsX1_tell := goodIn_r _ [34, 27, 28, 29, 12, 30, 272, 273, 274, 275, 276, 277] (by decide +kernel) (by decide +kernel)
set_option maxRecDepth 20000 in
theorem gX8_setValue_X1_tell : GoodIn wsX8_setValue (wsV RX8 120 RX1 yX1_tell wsX1_tell) := goodIn_app (goodIn_of _ (by decide +kernel)) ggX8_setValue_X1_tell
set_option maxRecDepth 20000 in
theorem ggX8_setValue_X8_settle : GoodIn wsX8_setValue wsX8_settle := goodIn_r _ [38, 3, 39, 40, 41, 42, 43, 44, 45, 46, 12, 47, 14, 17, 7, 18, 48, 49, 50, 51, 52, 53, 54, 55, 56, 57, 58, 59, 60, 61, 62, 24, 25, 26, 27, 28, 29, 30, 63, 64, 65, 66, 67, 68, 69, 70, 71, 72, 73, 74, 75, 76, 77, 78, 79, 80, 81, 82, 83, 84, 85, 86, 87, 88, 89, 90, 91, 92, 93, 94, 95, 96, 97, 98, 99, 100, 101, 102, 103, 104, 105, 106, 107, 108, 109, 110, 111, 112, 113, 114, 115, 116, 15, 16, 117, 118, 119, 120, 121, 122, 123, 124, 125, 126, 127, 128, 129, 130, 131, 22, 132, 133, 134, 135, 136, 137, 138, 139, 140, 141, 142, 143, 144, 145, 146, 147, 148, 149, 150, 151, 152, 153, 154, 155, 156, 157, 158, 159, 160, 161, 162, 163, 164, 165, 166, 167, 168, 169, 170, 171, 172, 173, 174, 175, 176, 177, 178, 179, 180, 181, 182, 183, 184, 185, 186, 187, 188, 189, 190, 191, 192, 193, 194, 195, 196, 197, 198, 199, 200, 201, 202, 203, 204, 205, 206, 207, 208, 209, 210, 211, 212, 213, 214, 215, 216, 217, 218, 219, 220, 221, 222, 223, 224, 225, 226, 227, 228, 229, 230, 231, 232, 233, 234, 235, 236, 237, 238, 239, 240, 241, 242, 243, 244, 245, 246, 247, 248, 249, 250, 251, 252, 253, 254, 255, 256, 257, 258, 259, 260, 264, 265, 266, 267, 268, 269, 270, 271, 272, 273, 274, 275, 276, 277, 278, 279, 280, 281, 282, 283, 284, 285, 286, 287, 288, 289, 290, 291, 292, 293, 294, 295, 296, 297, 298, 299, 300, 301, 302, 303, 304, 305, 306, 307, 308, 309, 310] (by decide +kernel) (by decide +kernel)
set_option maxRecDepth 20000 in
theorem gX8_setValue_X8_settle : GoodIn wsX8_setValue (wsV RX8 84 RX8 yX8_settle wsX8_settle) := goodIn_app (goodIn_of _ (by decide +kernel)) ggX8_setValue_X8_settle
set_option maxRecDepth 20000 in
theorem ggX8_setValue_X8_orNotFound : GoodIn wsX8_setValue wsX8_orNotFound := goodIn_r _ [263] (by decide +kernel) (by decide +kernel)
set_option maxRecDepth 20000 in
theorem gX8_setValue_X8_orNotFound : GoodIn wsX8_setValue (va_wsS RX8 124 yX8_orNotFound wsX8_orNotFound) := goodIn_app (goodIn_of _ (by decide +kernel)) ggX8_setValue_X8_orNotFound
theorem dX8_setValue_0 : decode cX8_setValue 0 = .ok (.aload_n 0, 1) := by decide +kernel
theorem dX8_setValue_1 : decode cX8_setValue 1 = .ok (.iload_n 1, 1) := by decide +kernel
theorem dX8_setValue_2 : decode cX8_setValue 2 = .ok (.iload_n 2, 1) := by decide +kernel
theorem dX8_setValue_3 : decode cX8_setValue 3 = .ok (.iload_n 3, 1) := by decide +kernel
theorem dX8_setValue_4 : decode cX8_setValue 4 = .ok (.invokevirtual 106, 3) := by decide +kernel
theorem dX8_setValue_7 : decode cX8_setValue 7 = .ok (.ifCond .eq 21, 3) := by decide +kernel
theorem dX8_setValue_10 : decode cX8_setValue 10 = .ok (.iload 4, 2) := by decide +kernel
theorem dX8_setValue_12 : decode cX8_setValue 12 = .ok (.getstatic 109, 3) := by decide +kernel
theorem dX8_setValue_15 : decode cX8_setValue 15 = .ok (.iload_n 3, 1) := by decide +kernel
theorem dX8_setValue_16 : decode cX8_setValue 16 = .ok (.iaload, 1) := by decide +kernel
theorem dX8_setValue_17 : decode cX8_setValue 17 = .ok (.getstatic 113, 3) := by decide +kernel
theorem dX8_setValue_20 : decode cX8_setValue 20 = .ok (.iload_n 3, 1) := by decide +kernel
theorem dX8_setValue_21 : decode cX8_setValue 21 = .ok (.iaload, 1) := by decide +kernel
theorem dX8_setValue_22 : decode cX8_setValue 22 = .ok (.invokestatic 71, 3) := by decide +kernel
theorem dX8_setValue_25 : decode cX8_setValue 25 = .ok (.ifCond .ne 5, 3) := by decide +kernel
theorem dX8_setValue_28 : decode cX8_setValue 28 = .ok (.iconst (-1), 1) := by decide +kernel
theorem dX8_setValue_29 : decode cX8_setValue 29 = .ok (.ireturn, 1) := by decide +kernel
theorem dX8_setValue_30 : decode cX8_setValue 30 = .ok (.aload_n 0, 1) := by decide +kernel
theorem dX8_setValue_31 : decode cX8_setValue 31 = .ok (.getfield 10, 3) := by decide +kernel
theorem dX8_setValue_34 : decode cX8_setValue 34 = .ok (.iload_n 1, 1) := by decide +kernel
theorem dX8_setValue_35 : decode cX8_setValue 35 = .ok (.iload_n 2, 1) := by decide +kernel
theorem dX8_setValue_36 : decode cX8_setValue 36 = .ok (.iload_n 3, 1) := by decide +kernel
theorem dX8_setValue_37 : decode cX8_setValue 37 = .ok (.invokevirtual 116, 3) := by decide +kernel
theorem dX8_setValue_40 : decode cX8_setValue 40 = .ok (.istore 5, 2) := by decide +kernel
theorem dX8_setValue_42 : decode cX8_setValue 42 = .ok (.aload_n 0, 1) := by decide +kernel
theorem dX8_setValue_43 : decode cX8_setValue 43 = .ok (.getfield 10, 3) := by decide +kernel
theorem dX8_setValue_46 : decode cX8_setValue 46 = .ok (.iload_n 1, 1) := by decide +kernel
theorem dX8_setValue_47 : decode cX8_setValue 47 = .ok (.iload_n 2, 1) := by decide +kernel
theorem dX8_setValue_48 : decode cX8_setValue 48 = .ok (.iload_n 3, 1) := by decide +kernel
theorem dX8_setValue_49 : decode cX8_setValue 49 = .ok (.iload 4, 2) := by decide +kernel
theorem dX8_setValue_51 : decode cX8_setValue 51 = .ok (.invokevirtual 120, 3) := by decide +kernel
theorem dX8_setValue_54 : decode cX8_setValue 54 = .ok (.aload_n 0, 1) := by decide +kernel
theorem dX8_setValue_55 : decode cX8_setValue 55 = .ok (.invokevirtual 84, 3) := by decide +kernel
theorem dX8_setValue_58 : decode cX8_setValue 58 = .ok (.iload 5, 2) := by decide +kernel
theorem dX8_setValue_60 : decode cX8_setValue 60 = .ok (.invokestatic 124, 3) := by decide +kernel
theorem dX8_setValue_63 : decode cX8_setValue 63 = .ok (.ireturn, 1) := by decide +kernel
set_option maxRecDepth 20000 in
theorem ggX8_clearValue_X8_isSlot : GoodIn wsX8_clearValue wsX8_isSlot := goodIn_r _ [6, 1, 7, 8, 9, 10, 11, 12, 13, 5, 14, 15, 16, 17, 18, 19, 20, 259, 260, 261, 262, 263, 264, 265, 266, 267, 268, 269, 270, 271, 272] (by decide +kernel) (by decide +kernel)
set_option maxRecDepth 20000 in
theorem gX8_clearValue_X8_isSlot : GoodIn wsX8_clearValue (wsV RX8 106 RX8 yX8_isSlot wsX8_isSlot) := goodIn_app (goodIn_of _ (by decide +kernel)) ggX8_clearValue_X8_isSlot
set_option maxRecDepth 20000 in
theorem ggX8_clearValue_X1_told : GoodIn wsX8_clearValue wsX1_told := goodIn_r _ [24, 25, 26, 27, 10, 28, 267, 268, 269, 270, 271, 272] (by decide +kernel) (by decide +kernel)
set_option maxRecDepth 20000 in
theorem gX8_clearValue_X1_told : GoodIn wsX8_clearValue (wsV RX8 116 RX1 yX1_told wsX1_told) := goodIn_app (goodIn_of _ (by decide +kernel)) ggX8_clearValue_X1_told
set_option maxRecDepth 20000 in
theorem ggX8_clearValue_X1_tell : GoodIn wsX8_clearValue wsX1_tell := goodIn_r _ [32, 25, 26, 27, 10, 28, 267, 268, 269, 270, 271, 272] (by decide +kernel) (by decide +kernel)
set_option maxRecDepth 20000 in
theorem gX8_clearValue_X1_tell : GoodIn wsX8_clearValue (wsV RX8 120 RX1 yX1_tell wsX1_tell) := goodIn_app (goodIn_of _ (by decide +kernel)) ggX8_clearValue_X1_tell
set_option maxRecDepth 20000 in
theorem ggX8_clearValue_X8_settle : GoodIn wsX8_clearValue wsX8_settle := goodIn_r _ [36, 1, 37, 38, 39, 40, 41, 42, 43, 44, 10, 45, 12, 15, 5, 16, 46, 47, 48, 49, 50, 51, 52, 53, 54, 55, 56, 57, 58, 59, 60, 22, 23, 24, 25, 26, 27, 28, 61, 62, 63, 64, 65, 66, 67, 68, 69, 70, 71, 72, 73, 74, 75, 76, 77, 78, 79, 80, 81, 82, 83, 84, 85, 86, 87, 88, 89, 90, 91, 92, 93, 94, 95, 96, 97, 98, 99, 100, 101, 102, 103, 104, 105, 106, 107, 108, 109, 110, 111, 112, 113, 114, 13, 14, 115, 116, 117, 118, 119, 120, 121, 122, 123, 124, 125, 126, 127, 128, 129, 20, 130, 131, 132, 133, 134, 135, 136, 137, 138, 139, 140, 141, 142, 143, 144, 145, 146, 147, 148, 149, 150, 151, 152, 153, 154, 155, 156, 157, 158, 159, 160, 161, 162, 163, 164, 165, 166, 167, 168, 169, 170, 171, 172, 173, 174, 175, 176, 177, 178, 179, 180, 181, 182, 183, 184, 185, 186, 187, 188, 189, 190, 191, 192, 193, 194, 195, 196, 197, 198, 199, 200, 201, 202, 203, 204, 205, 206, 207, 208, 209, 210, 211, 212, 213, 214, 215, 216, 217, 218, 219, 220, 221, 222, 223, 224, 225, 226, 227, 228, 229, 230, 231, 232, 233, 234, 235, 236, 237, 238, 239, 240, 241, 242, 243, 244, 245, 246, 247, 248, 249, 250, 251, 252, 253, 254, 255, 256, 257, 258, 259, 260, 261, 262, 263, 264, 265, 266, 267, 268, 269, 270, 271, 272, 273, 274, 275, 276, 277, 278, 279, 280, 281, 282, 283, 284, 285, 286, 287, 288, 289, 290, 291, 292, 293, 294, 295, 296, 297, 298, 299, 300, 301, 302, 303, 304, 305] (by decide +kernel) (by decide +kernel)
set_option maxRecDepth 20000 in
theorem gX8_clearValue_X8_settle : GoodIn wsX8_clearValue (wsV RX8 84 RX8 yX8_settle wsX8_settle) := goodIn_app (goodIn_of _ (by decide +kernel)) ggX8_clearValue_X8_settle
theorem dX8_clearValue_0 : decode cX8_clearValue 0 = .ok (.aload_n 0, 1) := by decide +kernel
theorem dX8_clearValue_1 : decode cX8_clearValue 1 = .ok (.iload_n 1, 1) := by decide +kernel
theorem dX8_clearValue_2 : decode cX8_clearValue 2 = .ok (.iload_n 2, 1) := by decide +kernel
theorem dX8_clearValue_3 : decode cX8_clearValue 3 = .ok (.iload_n 3, 1) := by decide +kernel
theorem dX8_clearValue_4 : decode cX8_clearValue 4 = .ok (.invokevirtual 106, 3) := by decide +kernel
theorem dX8_clearValue_7 : decode cX8_clearValue 7 = .ok (.ifCond .ne 5, 3) := by decide +kernel
theorem dX8_clearValue_10 : decode cX8_clearValue 10 = .ok (.iconst (-1), 1) := by decide +kernel
theorem dX8_clearValue_11 : decode cX8_clearValue 11 = .ok (.ireturn, 1) := by decide +kernel
theorem dX8_clearValue_12 : decode cX8_clearValue 12 = .ok (.aload_n 0, 1) := by decide +kernel
theorem dX8_clearValue_13 : decode cX8_clearValue 13 = .ok (.getfield 10, 3) := by decide +kernel
theorem dX8_clearValue_16 : decode cX8_clearValue 16 = .ok (.iload_n 1, 1) := by decide +kernel
theorem dX8_clearValue_17 : decode cX8_clearValue 17 = .ok (.iload_n 2, 1) := by decide +kernel
theorem dX8_clearValue_18 : decode cX8_clearValue 18 = .ok (.iload_n 3, 1) := by decide +kernel
theorem dX8_clearValue_19 : decode cX8_clearValue 19 = .ok (.invokevirtual 116, 3) := by decide +kernel
theorem dX8_clearValue_22 : decode cX8_clearValue 22 = .ok (.istore 4, 2) := by decide +kernel
theorem dX8_clearValue_24 : decode cX8_clearValue 24 = .ok (.iload 4, 2) := by decide +kernel
theorem dX8_clearValue_26 : decode cX8_clearValue 26 = .ok (.iconst (-1), 1) := by decide +kernel
theorem dX8_clearValue_27 : decode cX8_clearValue 27 = .ok (.if_icmp .ne 6, 3) := by decide +kernel
theorem dX8_clearValue_30 : decode cX8_clearValue 30 = .ok (.bipush (-4), 2) := by decide +kernel
theorem dX8_clearValue_32 : decode cX8_clearValue 32 = .ok (.ireturn, 1) := by decide +kernel
theorem dX8_clearValue_33 : decode cX8_clearValue 33 = .ok (.aload_n 0, 1) := by decide +kernel
theorem dX8_clearValue_34 : decode cX8_clearValue 34 = .ok (.getfield 10, 3) := by decide +kernel
theorem dX8_clearValue_37 : decode cX8_clearValue 37 = .ok (.iload_n 1, 1) := by decide +kernel
theorem dX8_clearValue_38 : decode cX8_clearValue 38 = .ok (.iload_n 2, 1) := by decide +kernel
theorem dX8_clearValue_39 : decode cX8_clearValue 39 = .ok (.iload_n 3, 1) := by decide +kernel
theorem dX8_clearValue_40 : decode cX8_clearValue 40 = .ok (.iconst (-1), 1) := by decide +kernel
theorem dX8_clearValue_41 : decode cX8_clearValue 41 = .ok (.invokevirtual 120, 3) := by decide +kernel
theorem dX8_clearValue_44 : decode cX8_clearValue 44 = .ok (.aload_n 0, 1) := by decide +kernel
theorem dX8_clearValue_45 : decode cX8_clearValue 45 = .ok (.invokevirtual 84, 3) := by decide +kernel
theorem dX8_clearValue_48 : decode cX8_clearValue 48 = .ok (.iload 4, 2) := by decide +kernel
theorem dX8_clearValue_50 : decode cX8_clearValue 50 = .ok (.ireturn, 1) := by decide +kernel
set_option maxRecDepth 20000 in
theorem ggX8_value_X1_has : GoodIn wsX8_value wsX1_has := goodIn_r _ [6, 7, 8, 9, 10, 11, 12, 40, 41, 42, 43, 44, 45] (by decide +kernel) (by decide +kernel)
set_option maxRecDepth 20000 in
theorem gX8_value_X1_has : GoodIn wsX8_value (wsV RX8 87 RX1 yX1_has wsX1_has) := goodIn_app (goodIn_of _ (by decide +kernel)) ggX8_value_X1_has
set_option maxRecDepth 20000 in
theorem ggX8_value_X8_isWithin : GoodIn wsX8_value wsX8_isWithin := goodIn_r _ [10] (by decide +kernel) (by decide +kernel)
set_option maxRecDepth 20000 in
theorem gX8_value_X8_isWithin : GoodIn wsX8_value (va_wsS RX8 71 yX8_isWithin wsX8_isWithin) := goodIn_app (goodIn_of _ (by decide +kernel)) ggX8_value_X8_isWithin
set_option maxRecDepth 20000 in
theorem ggX8_value_X1_digest : GoodIn wsX8_value wsX1_digest := goodIn_r _ [17, 18, 40, 41, 42, 43, 44, 45] (by decide +kernel) (by decide +kernel)
set_option maxRecDepth 20000 in
theorem gX8_value_X1_digest : GoodIn wsX8_value (wsV RX8 98 RX1 yX1_digest wsX1_digest) := goodIn_app (goodIn_of _ (by decide +kernel)) ggX8_value_X1_digest
set_option maxRecDepth 20000 in
theorem ggX8_value_X1_bytes : GoodIn wsX8_value wsX1_bytes := goodIn_r _ [22, 23, 40, 41, 42, 43, 44, 45] (by decide +kernel) (by decide +kernel)
set_option maxRecDepth 20000 in
theorem gX8_value_X1_bytes : GoodIn wsX8_value (wsV RX8 127 RX1 yX1_bytes wsX1_bytes) := goodIn_app (goodIn_of _ (by decide +kernel)) ggX8_value_X1_bytes
set_option maxRecDepth 20000 in
theorem ggX8_value_X1_settledValue : GoodIn wsX8_value wsX1_settledValue := goodIn_r _ [27, 28, 40, 41, 42, 43, 44, 45] (by decide +kernel) (by decide +kernel)
set_option maxRecDepth 20000 in
theorem gX8_value_X1_settledValue : GoodIn wsX8_value (wsV RX8 130 RX1 yX1_settledValue wsX1_settledValue) := goodIn_app (goodIn_of _ (by decide +kernel)) ggX8_value_X1_settledValue
set_option maxRecDepth 20000 in
theorem ggX8_value_X8_orNotFound : GoodIn wsX8_value wsX8_orNotFound := goodIn_r _ [31] (by decide +kernel) (by decide +kernel)
set_option maxRecDepth 20000 in
theorem gX8_value_X8_orNotFound : GoodIn wsX8_value (va_wsS RX8 124 yX8_orNotFound wsX8_orNotFound) := goodIn_app (goodIn_of _ (by decide +kernel)) ggX8_value_X8_orNotFound
theorem dX8_value_0 : decode cX8_value 0 = .ok (.aload_n 0, 1) := by decide +kernel
theorem dX8_value_1 : decode cX8_value 1 = .ok (.getfield 10, 3) := by decide +kernel
theorem dX8_value_4 : decode cX8_value 4 = .ok (.iload_n 1, 1) := by decide +kernel
theorem dX8_value_5 : decode cX8_value 5 = .ok (.invokevirtual 87, 3) := by decide +kernel
theorem dX8_value_8 : decode cX8_value 8 = .ok (.ifCond .eq 13, 3) := by decide +kernel
theorem dX8_value_11 : decode cX8_value 11 = .ok (.iload_n 2, 1) := by decide +kernel
theorem dX8_value_12 : decode cX8_value 12 = .ok (.iconst 0, 1) := by decide +kernel
theorem dX8_value_13 : decode cX8_value 13 = .ok (.bipush 7, 2) := by decide +kernel
theorem dX8_value_15 : decode cX8_value 15 = .ok (.invokestatic 71, 3) := by decide +kernel
theorem dX8_value_18 : decode cX8_value 18 = .ok (.ifCond .ne 5, 3) := by decide +kernel
theorem dX8_value_21 : decode cX8_value 21 = .ok (.iconst (-1), 1) := by decide +kernel
theorem dX8_value_22 : decode cX8_value 22 = .ok (.ireturn, 1) := by decide +kernel
theorem dX8_value_23 : decode cX8_value 23 = .ok (.iload_n 2, 1) := by decide +kernel
theorem dX8_value_24 : decode cX8_value 24 = .ok (.lookupswitch 46 #[(6, 28), (7, 37)], 28) := by decide +kernel
theorem dX8_value_52 : decode cX8_value 52 = .ok (.aload_n 0, 1) := by decide +kernel
theorem dX8_value_53 : decode cX8_value 53 = .ok (.getfield 10, 3) := by decide +kernel
theorem dX8_value_56 : decode cX8_value 56 = .ok (.iload_n 1, 1) := by decide +kernel
theorem dX8_value_57 : decode cX8_value 57 = .ok (.invokevirtual 98, 3) := by decide +kernel
theorem dX8_value_60 : decode cX8_value 60 = .ok (.ireturn, 1) := by decide +kernel
theorem dX8_value_61 : decode cX8_value 61 = .ok (.aload_n 0, 1) := by decide +kernel
theorem dX8_value_62 : decode cX8_value 62 = .ok (.getfield 10, 3) := by decide +kernel
theorem dX8_value_65 : decode cX8_value 65 = .ok (.iload_n 1, 1) := by decide +kernel
theorem dX8_value_66 : decode cX8_value 66 = .ok (.invokevirtual 127, 3) := by decide +kernel
theorem dX8_value_69 : decode cX8_value 69 = .ok (.ireturn, 1) := by decide +kernel
theorem dX8_value_70 : decode cX8_value 70 = .ok (.aload_n 0, 1) := by decide +kernel
theorem dX8_value_71 : decode cX8_value 71 = .ok (.getfield 10, 3) := by decide +kernel
theorem dX8_value_74 : decode cX8_value 74 = .ok (.iload_n 1, 1) := by decide +kernel
theorem dX8_value_75 : decode cX8_value 75 = .ok (.iload_n 2, 1) := by decide +kernel
theorem dX8_value_76 : decode cX8_value 76 = .ok (.invokevirtual 130, 3) := by decide +kernel
theorem dX8_value_79 : decode cX8_value 79 = .ok (.invokestatic 124, 3) := by decide +kernel
theorem dX8_value_82 : decode cX8_value 82 = .ok (.ireturn, 1) := by decide +kernel
set_option maxRecDepth 20000 in
theorem ggX8_sourceOf_X1_has : GoodIn wsX8_sourceOf wsX1_has := goodIn_r _ [6, 7, 8, 9, 10, 11, 12, 38, 39, 40, 41, 42, 43] (by decide +kernel) (by decide +kernel)
set_option maxRecDepth 20000 in
theorem gX8_sourceOf_X1_has : GoodIn wsX8_sourceOf (wsV RX8 87 RX1 yX1_has wsX1_has) := goodIn_app (goodIn_of _ (by decide +kernel)) ggX8_sourceOf_X1_has
set_option maxRecDepth 20000 in
theorem ggX8_sourceOf_X8_isWithin : GoodIn wsX8_sourceOf wsX8_isWithin := goodIn_r _ [10] (by decide +kernel) (by decide +kernel)
set_option maxRecDepth 20000 in
theorem gX8_sourceOf_X8_isWithin : GoodIn wsX8_sourceOf (va_wsS RX8 71 yX8_isWithin wsX8_isWithin) := goodIn_app (goodIn_of _ (by decide +kernel)) ggX8_sourceOf_X8_isWithin
set_option maxRecDepth 20000 in
theorem ggX8_sourceOf_X1_firstTeller : GoodIn wsX8_sourceOf wsX1_firstTeller := goodIn_r _ [17, 18, 19, 20, 21, 5, 22, 23, 24, 25, 26, 38, 39, 40, 41, 42, 43] (by decide +kernel) (by decide +kernel)
set_option maxRecDepth 20000 in
theorem gX8_sourceOf_X1_firstTeller : GoodIn wsX8_sourceOf (wsV RX8 134 RX1 yX1_firstTeller wsX1_firstTeller) := goodIn_app (goodIn_of _ (by decide +kernel)) ggX8_sourceOf_X1_firstTeller
set_option maxRecDepth 20000 in
theorem ggX8_sourceOf_X8_orNotFound : GoodIn wsX8_sourceOf wsX8_orNotFound := goodIn_r _ [29] (by decide +kernel) (by decide +kernel)
set_option maxRecDepth 20000 in
theorem gX8_sourceOf_X8_orNotFound : GoodIn wsX8_sourceOf (va_wsS RX8 124 yX8_orNotFound wsX8_orNotFound) := goodIn_app (goodIn_of _ (by decide +kernel)) ggX8_sourceOf_X8_orNotFound
theorem dX8_sourceOf_0 : decode cX8_sourceOf 0 = .ok (.aload_n 0, 1) := by decide +kernel
theorem dX8_sourceOf_1 : decode cX8_sourceOf 1 = .ok (.getfield 10, 3) := by decide +kernel
theorem dX8_sourceOf_4 : decode cX8_sourceOf 4 = .ok (.iload_n 1, 1) := by decide +kernel
theorem dX8_sourceOf_5 : decode cX8_sourceOf 5 = .ok (.invokevirtual 87, 3) := by decide +kernel
theorem dX8_sourceOf_8 : decode cX8_sourceOf 8 = .ok (.ifCond .eq 12, 3) := by decide +kernel
theorem dX8_sourceOf_11 : decode cX8_sourceOf 11 = .ok (.iload_n 2, 1) := by decide +kernel
theorem dX8_sourceOf_12 : decode cX8_sourceOf 12 = .ok (.iconst 0, 1) := by decide +kernel
theorem dX8_sourceOf_13 : decode cX8_sourceOf 13 = .ok (.iconst 4, 1) := by decide +kernel
theorem dX8_sourceOf_14 : decode cX8_sourceOf 14 = .ok (.invokestatic 71, 3) := by decide +kernel
theorem dX8_sourceOf_17 : decode cX8_sourceOf 17 = .ok (.ifCond .ne 5, 3) := by decide +kernel
theorem dX8_sourceOf_20 : decode cX8_sourceOf 20 = .ok (.iconst (-1), 1) := by decide +kernel
theorem dX8_sourceOf_21 : decode cX8_sourceOf 21 = .ok (.ireturn, 1) := by decide +kernel
theorem dX8_sourceOf_22 : decode cX8_sourceOf 22 = .ok (.aload_n 0, 1) := by decide +kernel
theorem dX8_sourceOf_23 : decode cX8_sourceOf 23 = .ok (.getfield 10, 3) := by decide +kernel
theorem dX8_sourceOf_26 : decode cX8_sourceOf 26 = .ok (.iload_n 1, 1) := by decide +kernel
theorem dX8_sourceOf_27 : decode cX8_sourceOf 27 = .ok (.iload_n 2, 1) := by decide +kernel
theorem dX8_sourceOf_28 : decode cX8_sourceOf 28 = .ok (.invokevirtual 134, 3) := by decide +kernel
theorem dX8_sourceOf_31 : decode cX8_sourceOf 31 = .ok (.invokestatic 124, 3) := by decide +kernel
theorem dX8_sourceOf_34 : decode cX8_sourceOf 34 = .ok (.ireturn, 1) := by decide +kernel
set_option maxRecDepth 20000 in
theorem ggX8_setOrder_X8_isSource : GoodIn wsX8_setOrder wsX8_isSource := goodIn_r _ [5, 6, 7, 4, 8] (by decide +kernel) (by decide +kernel)
set_option maxRecDepth 20000 in
theorem gX8_setOrder_X8_isSource : GoodIn wsX8_setOrder (va_wsS RX8 137 yX8_isSource wsX8_isSource) := goodIn_app (goodIn_of _ (by decide +kernel)) ggX8_setOrder_X8_isSource
set_option maxRecDepth 20000 in
theorem ggX8_setOrder_X1_orderCode : GoodIn wsX8_setOrder wsX1_orderCode := goodIn_r _ [13, 14, 262, 263, 264, 265, 266, 267] (by decide +kernel) (by decide +kernel)
set_option maxRecDepth 20000 in
theorem gX8_setOrder_X1_orderCode : GoodIn wsX8_setOrder (wsV RX8 140 RX1 yX1_orderCode wsX1_orderCode) := goodIn_app (goodIn_of _ (by decide +kernel)) ggX8_setOrder_X1_orderCode
set_option maxRecDepth 20000 in
theorem ggX8_setOrder_X1_reorder : GoodIn wsX8_setOrder wsX1_reorder := goodIn_r _ [18, 14, 262, 263, 264, 265, 266, 267] (by decide +kernel) (by decide +kernel)
set_option maxRecDepth 20000 in
theorem gX8_setOrder_X1_reorder : GoodIn wsX8_setOrder (wsV RX8 143 RX1 yX1_reorder wsX1_reorder) := goodIn_app (goodIn_of _ (by decide +kernel)) ggX8_setOrder_X1_reorder
set_option maxRecDepth 20000 in
theorem ggX8_setOrder_X8_settle : GoodIn wsX8_setOrder wsX8_settle := goodIn_r _ [22, 1, 23, 24, 25, 26, 27, 28, 29, 30, 12, 31, 32, 33, 4, 34, 35, 36, 37, 38, 39, 40, 41, 42, 43, 44, 45, 46, 47, 14, 48, 49, 50, 51, 52, 53, 54, 55, 56, 57, 58, 59, 60, 61, 62, 63, 64, 65, 66, 67, 68, 69, 70, 71, 72, 73, 74, 75, 76, 77, 78, 79, 80, 81, 82, 83, 84, 85, 86, 87, 88, 89, 90, 91, 92, 93, 94, 95, 96, 97, 98, 99, 100, 101, 102, 103, 104, 105, 106, 107, 108, 109, 7, 8, 110, 111, 112, 113, 114, 115, 116, 117, 118, 119, 120, 121, 122, 123, 124, 6, 125, 126, 127, 128, 129, 130, 131, 132, 133, 134, 135, 136, 137, 138, 139, 140, 141, 142, 143, 144, 145, 146, 147, 148, 149, 150, 151, 152, 153, 154, 155, 156, 157, 158, 159, 160, 161, 162, 163, 164, 165, 166, 167, 168, 169, 170, 171, 172, 173, 174, 175, 176, 177, 178, 179, 180, 181, 182, 183, 184, 185, 186, 187, 188, 189, 190, 191, 192, 193, 194, 195, 196, 197, 198, 199, 200, 201, 202, 203, 204, 205, 206, 207, 208, 209, 210, 211, 212, 213, 214, 215, 216, 217, 218, 219, 220, 221, 222, 223, 224, 225, 226, 227, 228, 229, 230, 231, 232, 233, 234, 235, 236, 237, 238, 239, 240, 241, 242, 243, 244, 245, 246, 247, 248, 249, 250, 251, 252, 253, 254, 255, 256, 257, 258, 259, 260, 261, 262, 263, 264, 265, 266, 267, 268, 269, 270, 271, 272, 273, 274, 275, 276, 277, 278, 279, 280, 281, 282, 283, 284, 285, 286, 287, 288, 289, 290, 291, 292, 293, 294, 295, 296, 297, 298, 299, 300] (by decide +kernel) (by decide +kernel)
set_option maxRecDepth 20000 in
theorem gX8_setOrder_X8_settle : GoodIn wsX8_setOrder (wsV RX8 84 RX8 yX8_settle wsX8_settle) := goodIn_app (goodIn_of _ (by decide +kernel)) ggX8_setOrder_X8_settle
theorem dX8_setOrder_0 : decode cX8_setOrder 0 = .ok (.iload_n 1, 1) := by decide +kernel
theorem dX8_setOrder_1 : decode cX8_setOrder 1 = .ok (.invokestatic 137, 3) := by decide +kernel
theorem dX8_setOrder_4 : decode cX8_setOrder 4 = .ok (.ifCond .eq 32, 3) := by decide +kernel
theorem dX8_setOrder_7 : decode cX8_setOrder 7 = .ok (.iload_n 2, 1) := by decide +kernel
theorem dX8_setOrder_8 : decode cX8_setOrder 8 = .ok (.invokestatic 137, 3) := by decide +kernel
theorem dX8_setOrder_11 : decode cX8_setOrder 11 = .ok (.ifCond .eq 25, 3) := by decide +kernel
theorem dX8_setOrder_14 : decode cX8_setOrder 14 = .ok (.iload_n 3, 1) := by decide +kernel
theorem dX8_setOrder_15 : decode cX8_setOrder 15 = .ok (.invokestatic 137, 3) := by decide +kernel
theorem dX8_setOrder_18 : decode cX8_setOrder 18 = .ok (.ifCond .eq 18, 3) := by decide +kernel
theorem dX8_setOrder_21 : decode cX8_setOrder 21 = .ok (.iload_n 1, 1) := by decide +kernel
theorem dX8_setOrder_22 : decode cX8_setOrder 22 = .ok (.iload_n 2, 1) := by decide +kernel
theorem dX8_setOrder_23 : decode cX8_setOrder 23 = .ok (.if_icmp .eq 13, 3) := by decide +kernel
theorem dX8_setOrder_26 : decode cX8_setOrder 26 = .ok (.iload_n 1, 1) := by decide +kernel
theorem dX8_setOrder_27 : decode cX8_setOrder 27 = .ok (.iload_n 3, 1) := by decide +kernel
theorem dX8_setOrder_28 : decode cX8_setOrder 28 = .ok (.if_icmp .eq 8, 3) := by decide +kernel
theorem dX8_setOrder_31 : decode cX8_setOrder 31 = .ok (.iload_n 2, 1) := by decide +kernel
theorem dX8_setOrder_32 : decode cX8_setOrder 32 = .ok (.iload_n 3, 1) := by decide +kernel
theorem dX8_setOrder_33 : decode cX8_setOrder 33 = .ok (.if_icmp .ne 5, 3) := by decide +kernel
theorem dX8_setOrder_36 : decode cX8_setOrder 36 = .ok (.iconst (-1), 1) := by decide +kernel
theorem dX8_setOrder_37 : decode cX8_setOrder 37 = .ok (.ireturn, 1) := by decide +kernel
theorem dX8_setOrder_38 : decode cX8_setOrder 38 = .ok (.aload_n 0, 1) := by decide +kernel
theorem dX8_setOrder_39 : decode cX8_setOrder 39 = .ok (.getfield 10, 3) := by decide +kernel
theorem dX8_setOrder_42 : decode cX8_setOrder 42 = .ok (.invokevirtual 140, 3) := by decide +kernel
theorem dX8_setOrder_45 : decode cX8_setOrder 45 = .ok (.istore 4, 2) := by decide +kernel
theorem dX8_setOrder_47 : decode cX8_setOrder 47 = .ok (.aload_n 0, 1) := by decide +kernel
theorem dX8_setOrder_48 : decode cX8_setOrder 48 = .ok (.getfield 10, 3) := by decide +kernel
theorem dX8_setOrder_51 : decode cX8_setOrder 51 = .ok (.iload_n 1, 1) := by decide +kernel
theorem dX8_setOrder_52 : decode cX8_setOrder 52 = .ok (.iload_n 2, 1) := by decide +kernel
theorem dX8_setOrder_53 : decode cX8_setOrder 53 = .ok (.iload_n 3, 1) := by decide +kernel
theorem dX8_setOrder_54 : decode cX8_setOrder 54 = .ok (.invokevirtual 143, 3) := by decide +kernel
theorem dX8_setOrder_57 : decode cX8_setOrder 57 = .ok (.aload_n 0, 1) := by decide +kernel
theorem dX8_setOrder_58 : decode cX8_setOrder 58 = .ok (.invokevirtual 84, 3) := by decide +kernel
theorem dX8_setOrder_61 : decode cX8_setOrder 61 = .ok (.iload 4, 2) := by decide +kernel
theorem dX8_setOrder_63 : decode cX8_setOrder 63 = .ok (.ireturn, 1) := by decide +kernel
set_option maxRecDepth 20000 in
theorem ggX8_keeperOf_X1_has : GoodIn wsX8_keeperOf wsX1_has := goodIn_r _ [7, 8, 9, 10, 11, 12, 13, 52, 53, 54, 55, 56, 57] (by decide +kernel) (by decide +kernel)
set_option maxRecDepth 20000 in
theorem gX8_keeperOf_X1_has : GoodIn wsX8_keeperOf (wsV RX8 87 RX1 yX1_has wsX1_has) := goodIn_app (goodIn_of _ (by decide +kernel)) ggX8_keeperOf_X1_has
set_option maxRecDepth 20000 in
theorem ggX8_keeperOf_X2_keeper : GoodIn wsX8_keeperOf wsX2_keeper := goodIn_r _ [18, 19, 20, 21, 22, 6, 23, 8, 24, 12, 10, 13, 25, 26, 27, 28, 29, 17, 30, 31, 32, 33, 34, 35, 36, 37, 38, 39, 40, 41, 42, 43, 58, 59, 60, 52, 53, 54, 55, 56, 57] (by decide +kernel) (by decide +kernel)
set_option maxRecDepth 20000 in
theorem gX8_keeperOf_X2_keeper : GoodIn wsX8_keeperOf (wsV RX8 146 RX2 yX2_keeper wsX2_keeper) := goodIn_app (goodIn_of _ (by decide +kernel)) ggX8_keeperOf_X2_keeper
theorem dX8_keeperOf_0 : decode cX8_keeperOf 0 = .ok (.aload_n 0, 1) := by decide +kernel
theorem dX8_keeperOf_1 : decode cX8_keeperOf 1 = .ok (.getfield 10, 3) := by decide +kernel
theorem dX8_keeperOf_4 : decode cX8_keeperOf 4 = .ok (.iload_n 1, 1) := by decide +kernel
theorem dX8_keeperOf_5 : decode cX8_keeperOf 5 = .ok (.invokevirtual 87, 3) := by decide +kernel
theorem dX8_keeperOf_8 : decode cX8_keeperOf 8 = .ok (.ifCond .ne 5, 3) := by decide +kernel
theorem dX8_keeperOf_11 : decode cX8_keeperOf 11 = .ok (.iconst (-1), 1) := by decide +kernel
theorem dX8_keeperOf_12 : decode cX8_keeperOf 12 = .ok (.ireturn, 1) := by decide +kernel
theorem dX8_keeperOf_13 : decode cX8_keeperOf 13 = .ok (.aload_n 0, 1) := by decide +kernel
theorem dX8_keeperOf_14 : decode cX8_keeperOf 14 = .ok (.getfield 21, 3) := by decide +kernel
theorem dX8_keeperOf_17 : decode cX8_keeperOf 17 = .ok (.iload_n 1, 1) := by decide +kernel
theorem dX8_keeperOf_18 : decode cX8_keeperOf 18 = .ok (.invokevirtual 146, 3) := by decide +kernel
theorem dX8_keeperOf_21 : decode cX8_keeperOf 21 = .ok (.ireturn, 1) := by decide +kernel
set_option maxRecDepth 20000 in
theorem ggX8_groupSize_X1_has : GoodIn wsX8_groupSize wsX1_has := goodIn_r _ [6, 7, 8, 9, 10, 11, 12, 35, 36, 37, 38, 39, 40] (by decide +kernel) (by decide +kernel)
set_option maxRecDepth 20000 in
theorem gX8_groupSize_X1_has : GoodIn wsX8_groupSize (wsV RX8 87 RX1 yX1_has wsX1_has) := goodIn_app (goodIn_of _ (by decide +kernel)) ggX8_groupSize_X1_has
set_option maxRecDepth 20000 in
theorem ggX8_groupSize_X1_alike : GoodIn wsX8_groupSize wsX1_alike := goodIn_r _ [16, 7, 17, 11, 9, 12, 18, 19, 35, 36, 37, 38, 39, 40] (by decide +kernel) (by decide +kernel)
set_option maxRecDepth 20000 in
theorem gX8_groupSize_X1_alike : GoodIn wsX8_groupSize (wsV RX8 149 RX1 yX1_alike wsX1_alike) := goodIn_app (goodIn_of _ (by decide +kernel)) ggX8_groupSize_X1_alike
set_option maxRecDepth 20000 in
theorem ggX8_groupSize_J13_bitCount_95d88 : GoodIn wsX8_groupSize wsJ13_bitCount_95d88 := goodIn_r _ [23, 24, 25, 26] (by decide +kernel) (by decide +kernel)
set_option maxRecDepth 20000 in
theorem gX8_groupSize_J13_bitCount_95d88 : GoodIn wsX8_groupSize (va_wsS RX8 153 yJ13_bitCount_95d88 wsJ13_bitCount_95d88) := goodIn_app (goodIn_of _ (by decide +kernel)) ggX8_groupSize_J13_bitCount_95d88
theorem dX8_groupSize_0 : decode cX8_groupSize 0 = .ok (.aload_n 0, 1) := by decide +kernel
theorem dX8_groupSize_1 : decode cX8_groupSize 1 = .ok (.getfield 10, 3) := by decide +kernel
theorem dX8_groupSize_4 : decode cX8_groupSize 4 = .ok (.iload_n 1, 1) := by decide +kernel
theorem dX8_groupSize_5 : decode cX8_groupSize 5 = .ok (.invokevirtual 87, 3) := by decide +kernel
theorem dX8_groupSize_8 : decode cX8_groupSize 8 = .ok (.ifCond .ne 5, 3) := by decide +kernel
theorem dX8_groupSize_11 : decode cX8_groupSize 11 = .ok (.iconst (-1), 1) := by decide +kernel
theorem dX8_groupSize_12 : decode cX8_groupSize 12 = .ok (.ireturn, 1) := by decide +kernel
theorem dX8_groupSize_13 : decode cX8_groupSize 13 = .ok (.aload_n 0, 1) := by decide +kernel
theorem dX8_groupSize_14 : decode cX8_groupSize 14 = .ok (.getfield 10, 3) := by decide +kernel
theorem dX8_groupSize_17 : decode cX8_groupSize 17 = .ok (.iload_n 1, 1) := by decide +kernel
theorem dX8_groupSize_18 : decode cX8_groupSize 18 = .ok (.invokevirtual 149, 3) := by decide +kernel
theorem dX8_groupSize_21 : decode cX8_groupSize 21 = .ok (.invokestatic 153, 3) := by decide +kernel
theorem dX8_groupSize_24 : decode cX8_groupSize 24 = .ok (.ireturn, 1) := by decide +kernel
set_option maxRecDepth 20000 in
theorem ggX8_wasted_X1_all : GoodIn wsX8_wasted wsX1_all := goodIn_r _ [8, 9, 32, 33, 34, 35, 36, 37] (by decide +kernel) (by decide +kernel)
set_option maxRecDepth 20000 in
theorem gX8_wasted_X1_all : GoodIn wsX8_wasted (wsV RX8 159 RX1 yX1_all wsX1_all) := goodIn_app (goodIn_of _ (by decide +kernel)) ggX8_wasted_X1_all
set_option maxRecDepth 20000 in
theorem ggX8_wasted_X2_keepers : GoodIn wsX8_wasted wsX2_keepers := goodIn_r _ [14, 15, 38, 39, 40] (by decide +kernel) (by decide +kernel)
set_option maxRecDepth 20000 in
theorem gX8_wasted_X2_keepers : GoodIn wsX8_wasted (wsV RX8 163 RX2 yX2_keepers wsX2_keepers) := goodIn_app (goodIn_of _ (by decide +kernel)) ggX8_wasted_X2_keepers
set_option maxRecDepth 20000 in
theorem ggX8_wasted_X1_sumOfSizes : GoodIn wsX8_wasted wsX1_sumOfSizes := goodIn_r _ [19, 20, 21, 22, 23, 32, 33, 34, 35, 36, 37] (by decide +kernel) (by decide +kernel)
set_option maxRecDepth 20000 in
theorem gX8_wasted_X1_sumOfSizes : GoodIn wsX8_wasted (wsV RX8 168 RX1 yX1_sumOfSizes wsX1_sumOfSizes) := goodIn_app (goodIn_of _ (by decide +kernel)) ggX8_wasted_X1_sumOfSizes
theorem dX8_wasted_0 : decode cX8_wasted 0 = .ok (.aload_n 0, 1) := by decide +kernel
theorem dX8_wasted_1 : decode cX8_wasted 1 = .ok (.getfield 10, 3) := by decide +kernel
theorem dX8_wasted_4 : decode cX8_wasted 4 = .ok (.aload_n 0, 1) := by decide +kernel
theorem dX8_wasted_5 : decode cX8_wasted 5 = .ok (.getfield 10, 3) := by decide +kernel
theorem dX8_wasted_8 : decode cX8_wasted 8 = .ok (.invokevirtual 159, 3) := by decide +kernel
theorem dX8_wasted_11 : decode cX8_wasted 11 = .ok (.aload_n 0, 1) := by decide +kernel
theorem dX8_wasted_12 : decode cX8_wasted 12 = .ok (.getfield 21, 3) := by decide +kernel
theorem dX8_wasted_15 : decode cX8_wasted 15 = .ok (.invokevirtual 163, 3) := by decide +kernel
theorem dX8_wasted_18 : decode cX8_wasted 18 = .ok (.ldc2_w 166, 3) := by decide +kernel
theorem dX8_wasted_21 : decode cX8_wasted 21 = .ok (.lxor, 1) := by decide +kernel
theorem dX8_wasted_22 : decode cX8_wasted 22 = .ok (.land, 1) := by decide +kernel
theorem dX8_wasted_23 : decode cX8_wasted 23 = .ok (.invokevirtual 168, 3) := by decide +kernel
theorem dX8_wasted_26 : decode cX8_wasted 26 = .ok (.ireturn, 1) := by decide +kernel
set_option maxRecDepth 20000 in
theorem ggX8_merge_X1_has : GoodIn wsX8_merge wsX1_has := goodIn_r _ [8, 9, 10, 11, 12, 13, 14, 302, 303, 304, 305, 306, 307] (by decide +kernel) (by decide +kernel)
set_option maxRecDepth 20000 in
theorem gX8_merge_X1_has : GoodIn wsX8_merge (wsV RX8 87 RX1 yX1_has wsX1_has) := goodIn_app (goodIn_of _ (by decide +kernel)) ggX8_merge_X1_has
set_option maxRecDepth 20000 in
theorem ggX8_merge_X2_keeper : GoodIn wsX8_merge wsX2_keeper := goodIn_r _ [19, 20, 21, 22, 23, 7, 24, 9, 25, 13, 11, 14, 26, 27, 28, 29, 30, 18, 31, 32, 33, 34, 35, 36, 37, 38, 39, 40, 41, 42, 43, 44, 308, 309, 310, 302, 303, 304, 305, 306, 307] (by decide +kernel) (by decide +kernel)
set_option maxRecDepth 20000 in
theorem gX8_merge_X2_keeper : GoodIn wsX8_merge (wsV RX8 146 RX2 yX2_keeper wsX2_keeper) := goodIn_app (goodIn_of _ (by decide +kernel)) ggX8_merge_X2_keeper
set_option maxRecDepth 20000 in
theorem ggX8_merge_X1_alike : GoodIn wsX8_merge wsX1_alike := goodIn_r _ [24, 9, 25, 13, 11, 14, 26, 27, 302, 303, 304, 305, 306, 307] (by decide +kernel) (by decide +kernel)
set_option maxRecDepth 20000 in
theorem gX8_merge_X1_alike : GoodIn wsX8_merge (wsV RX8 149 RX1 yX1_alike wsX1_alike) := goodIn_app (goodIn_of _ (by decide +kernel)) ggX8_merge_X1_alike
set_option maxRecDepth 20000 in
theorem ggX8_merge_X8_only : GoodIn wsX8_merge wsX8_only := goodIn_r _ [27] (by decide +kernel) (by decide +kernel)
set_option maxRecDepth 20000 in
theorem gX8_merge_X8_only : GoodIn wsX8_merge (va_wsS RX8 171 yX8_only wsX8_only) := goodIn_app (goodIn_of _ (by decide +kernel)) ggX8_merge_X8_only
set_option maxRecDepth 20000 in
theorem ggX8_merge_X1_absorb : GoodIn wsX8_merge wsX1_absorb := goodIn_r _ [50, 13, 11, 14, 51, 52, 53, 7, 54, 55, 56, 57, 58, 59, 60, 61, 62, 63, 64, 65, 66, 67, 68, 69, 302, 303, 304, 305, 306, 307] (by decide +kernel) (by decide +kernel)
set_option maxRecDepth 20000 in
theorem gX8_merge_X1_absorb : GoodIn wsX8_merge (wsV RX8 174 RX1 yX1_absorb wsX1_absorb) := goodIn_app (goodIn_of _ (by decide +kernel)) ggX8_merge_X1_absorb
set_option maxRecDepth 20000 in
theorem ggX8_merge_X8_holds : GoodIn wsX8_merge wsX8_holds := goodIn_r _ [14] (by decide +kernel) (by decide +kernel)
set_option maxRecDepth 20000 in
theorem gX8_merge_X8_holds : GoodIn wsX8_merge (va_wsS RX8 178 yX8_holds wsX8_holds) := goodIn_app (goodIn_of _ (by decide +kernel)) ggX8_merge_X8_holds
set_option maxRecDepth 20000 in
theorem ggX8_merge_X8_discard : GoodIn wsX8_merge wsX8_discard := goodIn_r _ [74, 75, 1, 76, 77, 78, 79, 80, 81, 82, 83, 84, 85, 86, 87, 88, 89, 90, 91, 92, 93, 94, 95, 96, 97, 26, 11, 27, 98, 99, 100, 7, 101, 9, 102, 294, 295, 296, 297, 298, 299, 300, 301, 311, 312, 313, 314, 315, 316, 317, 318, 302, 303, 304, 305, 306, 307] (by decide +kernel) (by decide +kernel)
set_option maxRecDepth 20000 in
theorem gX8_merge_X8_discard : GoodIn wsX8_merge (wsV RX8 91 RX8 yX8_discard wsX8_discard) := goodIn_app (goodIn_of _ (by decide +kernel)) ggX8_merge_X8_discard
set_option maxRecDepth 20000 in
theorem ggX8_merge_X8_settle : GoodIn wsX8_merge wsX8_settle := goodIn_r _ [106, 1, 2, 75, 107, 108, 109, 110, 111, 112, 7, 113, 9, 13, 11, 14, 114, 115, 116, 117, 40, 118, 119, 120, 121, 122, 123, 124, 125, 126, 55, 56, 57, 58, 59, 60, 61, 62, 127, 128, 129, 18, 130, 131, 132, 20, 133, 134, 135, 136, 137, 21, 22, 23, 24, 25, 26, 27, 28, 29, 30, 31, 32, 33, 34, 35, 36, 37, 38, 39, 41, 42, 43, 44, 138, 139, 140, 141, 142, 143, 144, 145, 146, 147, 79, 148, 149, 150, 151, 152, 153, 83, 10, 12, 154, 155, 156, 157, 82, 84, 158, 89, 90, 91, 159, 160, 161, 162, 163, 164, 165, 166, 167, 168, 169, 170, 171, 172, 173, 174, 175, 176, 177, 178, 179, 180, 181, 182, 183, 184, 185, 186, 187, 188, 189, 190, 191, 192, 193, 194, 195, 196, 197, 198, 199, 200, 201, 202, 203, 204, 205, 206, 207, 208, 209, 210, 211, 212, 213, 214, 215, 216, 217, 218, 219, 220, 221, 222, 223, 224, 225, 226, 227, 228, 229, 230, 231, 232, 233, 234, 96, 235, 236, 237, 238, 239, 240, 241, 242, 243, 244, 245, 246, 247, 248, 249, 250, 251, 252, 253, 254, 255, 256, 257, 258, 259, 260, 261, 262, 263, 264, 265, 266, 267, 268, 269, 270, 271, 272, 273, 274, 275, 276, 277, 278, 279, 280, 281, 282, 283, 284, 285, 286, 287, 288, 289, 290, 291, 292, 294, 295, 296, 297, 298, 299, 300, 301, 302, 303, 304, 305, 306, 307, 308, 309, 310, 311, 312, 313, 314, 315, 316, 317, 318, 319, 320, 321, 322, 323, 324, 325, 326, 327, 328, 329, 330, 331, 332, 333, 334, 335, 336, 337, 338, 339, 340] (by decide +kernel) (by decide +kernel)
set_option maxRecDepth 20000 in
theorem gX8_merge_X8_settle : GoodIn wsX8_merge (wsV RX8 84 RX8 yX8_settle wsX8_settle) := goodIn_app (goodIn_of _ (by decide +kernel)) ggX8_merge_X8_settle
set_option maxRecDepth 20000 in
theorem ggX8_merge_J13_bitCount_95d88 : GoodIn wsX8_merge wsJ13_bitCount_95d88 := goodIn_r _ [141, 142, 143, 144] (by decide +kernel) (by decide +kernel)
set_option maxRecDepth 20000 in
theorem gX8_merge_J13_bitCount_95d88 : GoodIn wsX8_merge (va_wsS RX8 153 yJ13_bitCount_95d88 wsJ13_bitCount_95d88) := goodIn_app (goodIn_of _ (by decide +kernel)) ggX8_merge_J13_bitCount_95d88
theorem dX8_merge_0 : decode cX8_merge 0 = .ok (.aload_n 0, 1) := by decide +kernel
theorem dX8_merge_1 : decode cX8_merge 1 = .ok (.getfield 10, 3) := by decide +kernel
theorem dX8_merge_4 : decode cX8_merge 4 = .ok (.iload_n 1, 1) := by decide +kernel
theorem dX8_merge_5 : decode cX8_merge 5 = .ok (.invokevirtual 87, 3) := by decide +kernel
theorem dX8_merge_8 : decode cX8_merge 8 = .ok (.ifCond .ne 5, 3) := by decide +kernel
theorem dX8_merge_11 : decode cX8_merge 11 = .ok (.iconst (-1), 1) := by decide +kernel
theorem dX8_merge_12 : decode cX8_merge 12 = .ok (.ireturn, 1) := by decide +kernel
theorem dX8_merge_13 : decode cX8_merge 13 = .ok (.aload_n 0, 1) := by decide +kernel
theorem dX8_merge_14 : decode cX8_merge 14 = .ok (.getfield 21, 3) := by decide +kernel
theorem dX8_merge_17 : decode cX8_merge 17 = .ok (.iload_n 1, 1) := by decide +kernel
theorem dX8_merge_18 : decode cX8_merge 18 = .ok (.invokevirtual 146, 3) := by decide +kernel
theorem dX8_merge_21 : decode cX8_merge 21 = .ok (.istore_n 2, 1) := by decide +kernel
theorem dX8_merge_22 : decode cX8_merge 22 = .ok (.aload_n 0, 1) := by decide +kernel
theorem dX8_merge_23 : decode cX8_merge 23 = .ok (.getfield 10, 3) := by decide +kernel
theorem dX8_merge_26 : decode cX8_merge 26 = .ok (.iload_n 1, 1) := by decide +kernel
theorem dX8_merge_27 : decode cX8_merge 27 = .ok (.invokevirtual 149, 3) := by decide +kernel
theorem dX8_merge_30 : decode cX8_merge 30 = .ok (.iload_n 2, 1) := by decide +kernel
theorem dX8_merge_31 : decode cX8_merge 31 = .ok (.invokestatic 171, 3) := by decide +kernel
theorem dX8_merge_34 : decode cX8_merge 34 = .ok (.ldc2_w 166, 3) := by decide +kernel
theorem dX8_merge_37 : decode cX8_merge 37 = .ok (.lxor, 1) := by decide +kernel
theorem dX8_merge_38 : decode cX8_merge 38 = .ok (.land, 1) := by decide +kernel
theorem dX8_merge_39 : decode cX8_merge 39 = .ok (.lstore_n 3, 1) := by decide +kernel
theorem dX8_merge_40 : decode cX8_merge 40 = .ok (.lload_n 3, 1) := by decide +kernel
theorem dX8_merge_41 : decode cX8_merge 41 = .ok (.lconst 0, 1) := by decide +kernel
theorem dX8_merge_42 : decode cX8_merge 42 = .ok (.lcmp, 1) := by decide +kernel
theorem dX8_merge_43 : decode cX8_merge 43 = .ok (.ifCond .ne 6, 3) := by decide +kernel
theorem dX8_merge_46 : decode cX8_merge 46 = .ok (.bipush (-2), 2) := by decide +kernel
theorem dX8_merge_48 : decode cX8_merge 48 = .ok (.ireturn, 1) := by decide +kernel
theorem dX8_merge_49 : decode cX8_merge 49 = .ok (.aload_n 0, 1) := by decide +kernel
theorem dX8_merge_50 : decode cX8_merge 50 = .ok (.getfield 10, 3) := by decide +kernel
theorem dX8_merge_53 : decode cX8_merge 53 = .ok (.iload_n 2, 1) := by decide +kernel
theorem dX8_merge_54 : decode cX8_merge 54 = .ok (.lload_n 3, 1) := by decide +kernel
theorem dX8_merge_55 : decode cX8_merge 55 = .ok (.invokevirtual 174, 3) := by decide +kernel
theorem dX8_merge_58 : decode cX8_merge 58 = .ok (.iconst 0, 1) := by decide +kernel
theorem dX8_merge_59 : decode cX8_merge 59 = .ok (.istore 5, 2) := by decide +kernel
theorem dX8_merge_61 : decode cX8_merge 61 = .ok (.iload 5, 2) := by decide +kernel
theorem dX8_merge_63 : decode cX8_merge 63 = .ok (.bipush 40, 2) := by decide +kernel
theorem dX8_merge_65 : decode cX8_merge 65 = .ok (.if_icmp .ge 24, 3) := by decide +kernel
theorem dX8_merge_68 : decode cX8_merge 68 = .ok (.lload_n 3, 1) := by decide +kernel
theorem dX8_merge_69 : decode cX8_merge 69 = .ok (.iload 5, 2) := by decide +kernel
theorem dX8_merge_71 : decode cX8_merge 71 = .ok (.invokestatic 178, 3) := by decide +kernel
theorem dX8_merge_74 : decode cX8_merge 74 = .ok (.ifCond .eq 9, 3) := by decide +kernel
theorem dX8_merge_77 : decode cX8_merge 77 = .ok (.aload_n 0, 1) := by decide +kernel
theorem dX8_merge_78 : decode cX8_merge 78 = .ok (.iload 5, 2) := by decide +kernel
theorem dX8_merge_80 : decode cX8_merge 80 = .ok (.invokevirtual 91, 3) := by decide +kernel
theorem dX8_merge_83 : decode cX8_merge 83 = .ok (.iinc 5 1, 3) := by decide +kernel
theorem dX8_merge_86 : decode cX8_merge 86 = .ok (.goto (-25), 3) := by decide +kernel
theorem dX8_merge_89 : decode cX8_merge 89 = .ok (.aload_n 0, 1) := by decide +kernel
theorem dX8_merge_90 : decode cX8_merge 90 = .ok (.invokevirtual 84, 3) := by decide +kernel
theorem dX8_merge_93 : decode cX8_merge 93 = .ok (.lload_n 3, 1) := by decide +kernel
theorem dX8_merge_94 : decode cX8_merge 94 = .ok (.invokestatic 153, 3) := by decide +kernel
theorem dX8_merge_97 : decode cX8_merge 97 = .ok (.ireturn, 1) := by decide +kernel
set_option maxRecDepth 20000 in
theorem ggX8_stack_X1_has : GoodIn wsX8_stack wsX1_has := goodIn_r _ [7, 8, 9, 10, 11, 12, 13, 273, 274, 275, 276, 277, 278] (by decide +kernel) (by decide +kernel)
set_option maxRecDepth 20000 in
theorem gX8_stack_X1_has : GoodIn wsX8_stack (wsV RX8 87 RX1 yX1_has wsX1_has) := goodIn_app (goodIn_of _ (by decide +kernel)) ggX8_stack_X1_has
set_option maxRecDepth 20000 in
theorem ggX8_stack_X6_home : GoodIn wsX8_stack wsX6_home := goodIn_r _ [18, 19, 279, 280, 281, 282, 283, 284, 285, 286] (by decide +kernel) (by decide +kernel)
set_option maxRecDepth 20000 in
theorem gX8_stack_X6_home : GoodIn wsX8_stack (wsV RX8 182 RX6 yX6_home wsX6_home) := goodIn_app (goodIn_of _ (by decide +kernel)) ggX8_stack_X6_home
set_option maxRecDepth 20000 in
theorem ggX8_stack_X6_freeNumber : GoodIn wsX8_stack wsX6_freeNumber := goodIn_r _ [23, 24, 25, 26, 17, 27, 28, 9, 10, 11, 279, 280, 281, 282, 283, 284, 285, 286] (by decide +kernel) (by decide +kernel)
set_option maxRecDepth 20000 in
theorem gX8_stack_X6_freeNumber : GoodIn wsX8_stack (wsV RX8 185 RX6 yX6_freeNumber wsX6_freeNumber) := goodIn_app (goodIn_of _ (by decide +kernel)) ggX8_stack_X6_freeNumber
set_option maxRecDepth 20000 in
theorem ggX8_stack_X6_begin : GoodIn wsX8_stack wsX6_begin := goodIn_r _ [32, 33, 34, 35, 36, 37, 17, 38, 28, 39, 19, 40, 41, 42, 43, 44, 10, 45, 279, 280, 281, 282, 283, 284, 285, 286] (by decide +kernel) (by decide +kernel)
set_option maxRecDepth 20000 in
theorem gX8_stack_X6_begin : GoodIn wsX8_stack (wsV RX8 186 RX6 yX6_begin wsX6_begin) := goodIn_app (goodIn_of _ (by decide +kernel)) ggX8_stack_X6_begin
set_option maxRecDepth 20000 in
theorem ggX8_stack_X8_settle : GoodIn wsX8_stack wsX8_settle := goodIn_r _ [49, 1, 50, 2, 51, 52, 53, 54, 55, 56, 6, 57, 8, 12, 10, 13, 58, 59, 60, 61, 62, 63, 64, 65, 66, 67, 68, 69, 70, 71, 72, 73, 74, 75, 76, 77, 78, 79, 80, 81, 82, 83, 84, 85, 86, 87, 88, 89, 90, 91, 92, 93, 94, 95, 96, 97, 44, 45, 98, 99, 100, 101, 102, 103, 104, 105, 106, 107, 108, 109, 110, 111, 112, 113, 114, 115, 116, 117, 118, 119, 120, 121, 122, 123, 17, 124, 125, 24, 25, 26, 27, 28, 9, 11, 126, 127, 128, 129, 33, 39, 130, 41, 42, 43, 131, 132, 133, 134, 135, 136, 137, 138, 139, 140, 141, 142, 143, 144, 145, 146, 147, 148, 149, 150, 151, 152, 153, 154, 155, 156, 157, 158, 159, 160, 161, 162, 163, 164, 165, 166, 167, 168, 169, 170, 171, 172, 173, 174, 175, 176, 177, 178, 179, 180, 181, 182, 183, 184, 185, 186, 187, 188, 189, 190, 191, 192, 193, 194, 195, 196, 197, 198, 199, 200, 201, 202, 203, 204, 205, 206, 40, 207, 208, 209, 210, 211, 212, 213, 214, 215, 216, 217, 218, 219, 220, 221, 222, 223, 224, 225, 226, 227, 228, 229, 230, 231, 232, 233, 234, 235, 236, 237, 238, 239, 240, 241, 242, 243, 244, 245, 246, 247, 248, 249, 250, 251, 252, 253, 254, 255, 256, 257, 258, 259, 260, 261, 262, 263, 264, 265, 266, 267, 268, 269, 270, 271, 272, 273, 274, 275, 276, 277, 278, 287, 288, 289, 279, 280, 281, 282, 283, 284, 285, 286, 290, 291, 292, 293, 294, 295, 296, 297, 298, 299, 300, 301, 302, 303, 304, 305, 306, 307, 308, 309, 310, 311] (by decide +kernel) (by decide +kernel)
set_option maxRecDepth 20000 in
theorem gX8_stack_X8_settle : GoodIn wsX8_stack (wsV RX8 84 RX8 yX8_settle wsX8_settle) := goodIn_app (goodIn_of _ (by decide +kernel)) ggX8_stack_X8_settle
theorem dX8_stack_0 : decode cX8_stack 0 = .ok (.aload_n 0, 1) := by decide +kernel
theorem dX8_stack_1 : decode cX8_stack 1 = .ok (.getfield 10, 3) := by decide +kernel
theorem dX8_stack_4 : decode cX8_stack 4 = .ok (.iload_n 1, 1) := by decide +kernel
theorem dX8_stack_5 : decode cX8_stack 5 = .ok (.invokevirtual 87, 3) := by decide +kernel
theorem dX8_stack_8 : decode cX8_stack 8 = .ok (.ifCond .eq 19, 3) := by decide +kernel
theorem dX8_stack_11 : decode cX8_stack 11 = .ok (.aload_n 0, 1) := by decide +kernel
theorem dX8_stack_12 : decode cX8_stack 12 = .ok (.getfield 10, 3) := by decide +kernel
theorem dX8_stack_15 : decode cX8_stack 15 = .ok (.iload_n 2, 1) := by decide +kernel
theorem dX8_stack_16 : decode cX8_stack 16 = .ok (.invokevirtual 87, 3) := by decide +kernel
theorem dX8_stack_19 : decode cX8_stack 19 = .ok (.ifCond .eq 8, 3) := by decide +kernel
theorem dX8_stack_22 : decode cX8_stack 22 = .ok (.iload_n 1, 1) := by decide +kernel
theorem dX8_stack_23 : decode cX8_stack 23 = .ok (.iload_n 2, 1) := by decide +kernel
theorem dX8_stack_24 : decode cX8_stack 24 = .ok (.if_icmp .ne 5, 3) := by decide +kernel
theorem dX8_stack_27 : decode cX8_stack 27 = .ok (.iconst (-1), 1) := by decide +kernel
theorem dX8_stack_28 : decode cX8_stack 28 = .ok (.ireturn, 1) := by decide +kernel
theorem dX8_stack_29 : decode cX8_stack 29 = .ok (.aload_n 0, 1) := by decide +kernel
theorem dX8_stack_30 : decode cX8_stack 30 = .ok (.getfield 28, 3) := by decide +kernel
theorem dX8_stack_33 : decode cX8_stack 33 = .ok (.iload_n 1, 1) := by decide +kernel
theorem dX8_stack_34 : decode cX8_stack 34 = .ok (.invokevirtual 182, 3) := by decide +kernel
theorem dX8_stack_37 : decode cX8_stack 37 = .ok (.iconst (-1), 1) := by decide +kernel
theorem dX8_stack_38 : decode cX8_stack 38 = .ok (.if_icmp .ne 15, 3) := by decide +kernel
theorem dX8_stack_41 : decode cX8_stack 41 = .ok (.aload_n 0, 1) := by decide +kernel
theorem dX8_stack_42 : decode cX8_stack 42 = .ok (.getfield 28, 3) := by decide +kernel
theorem dX8_stack_45 : decode cX8_stack 45 = .ok (.iload_n 2, 1) := by decide +kernel
theorem dX8_stack_46 : decode cX8_stack 46 = .ok (.invokevirtual 182, 3) := by decide +kernel
theorem dX8_stack_49 : decode cX8_stack 49 = .ok (.iconst (-1), 1) := by decide +kernel
theorem dX8_stack_50 : decode cX8_stack 50 = .ok (.if_icmp .eq 6, 3) := by decide +kernel
theorem dX8_stack_53 : decode cX8_stack 53 = .ok (.bipush (-2), 2) := by decide +kernel
theorem dX8_stack_55 : decode cX8_stack 55 = .ok (.ireturn, 1) := by decide +kernel
theorem dX8_stack_56 : decode cX8_stack 56 = .ok (.aload_n 0, 1) := by decide +kernel
theorem dX8_stack_57 : decode cX8_stack 57 = .ok (.getfield 28, 3) := by decide +kernel
theorem dX8_stack_60 : decode cX8_stack 60 = .ok (.invokevirtual 185, 3) := by decide +kernel
theorem dX8_stack_63 : decode cX8_stack 63 = .ok (.istore_n 3, 1) := by decide +kernel
theorem dX8_stack_64 : decode cX8_stack 64 = .ok (.iload_n 3, 1) := by decide +kernel
theorem dX8_stack_65 : decode cX8_stack 65 = .ok (.iconst (-1), 1) := by decide +kernel
theorem dX8_stack_66 : decode cX8_stack 66 = .ok (.if_icmp .ne 6, 3) := by decide +kernel
theorem dX8_stack_69 : decode cX8_stack 69 = .ok (.bipush (-3), 2) := by decide +kernel
theorem dX8_stack_71 : decode cX8_stack 71 = .ok (.ireturn, 1) := by decide +kernel
theorem dX8_stack_72 : decode cX8_stack 72 = .ok (.aload_n 0, 1) := by decide +kernel
theorem dX8_stack_73 : decode cX8_stack 73 = .ok (.getfield 28, 3) := by decide +kernel
theorem dX8_stack_76 : decode cX8_stack 76 = .ok (.iload_n 3, 1) := by decide +kernel
theorem dX8_stack_77 : decode cX8_stack 77 = .ok (.iload_n 1, 1) := by decide +kernel
theorem dX8_stack_78 : decode cX8_stack 78 = .ok (.iload_n 2, 1) := by decide +kernel
theorem dX8_stack_79 : decode cX8_stack 79 = .ok (.invokevirtual 186, 3) := by decide +kernel
theorem dX8_stack_82 : decode cX8_stack 82 = .ok (.aload_n 0, 1) := by decide +kernel
theorem dX8_stack_83 : decode cX8_stack 83 = .ok (.invokevirtual 84, 3) := by decide +kernel
theorem dX8_stack_86 : decode cX8_stack 86 = .ok (.iload_n 3, 1) := by decide +kernel
theorem dX8_stack_87 : decode cX8_stack 87 = .ok (.ireturn, 1) := by decide +kernel
set_option maxRecDepth 20000 in
theorem ggX8_putInto_X6_has : GoodIn wsX8_putInto wsX6_has := goodIn_r _ [7, 8, 9, 10, 11, 269, 270, 271, 272, 273, 274, 275, 276] (by decide +kernel) (by decide +kernel)
set_option maxRecDepth 20000 in
theorem gX8_putInto_X6_has : GoodIn wsX8_putInto (wsV RX8 189 RX6 yX6_has wsX6_has) := goodIn_app (goodIn_of _ (by decide +kernel)) ggX8_putInto_X6_has
set_option maxRecDepth 20000 in
theorem ggX8_putInto_X1_has : GoodIn wsX8_putInto wsX1_has := goodIn_r _ [16, 17, 9, 10, 11, 18, 19, 277, 278, 279, 280, 281, 282] (by decide +kernel) (by decide +kernel)
set_option maxRecDepth 20000 in
theorem gX8_putInto_X1_has : GoodIn wsX8_putInto (wsV RX8 87 RX1 yX1_has wsX1_has) := goodIn_app (goodIn_of _ (by decide +kernel)) ggX8_putInto_X1_has
set_option maxRecDepth 20000 in
theorem ggX8_putInto_X6_height : GoodIn wsX8_putInto wsX6_height := goodIn_r _ [23, 8, 269, 270, 271, 272, 273, 274, 275, 276] (by decide +kernel) (by decide +kernel)
set_option maxRecDepth 20000 in
theorem gX8_putInto_X6_height : GoodIn wsX8_putInto (wsV RX8 190 RX6 yX6_height wsX6_height) := goodIn_app (goodIn_of _ (by decide +kernel)) ggX8_putInto_X6_height
set_option maxRecDepth 20000 in
theorem ggX8_putInto_X8_isWithin : GoodIn wsX8_putInto wsX8_isWithin := goodIn_r _ [11] (by decide +kernel) (by decide +kernel)
set_option maxRecDepth 20000 in
theorem gX8_putInto_X8_isWithin : GoodIn wsX8_putInto (va_wsS RX8 71 yX8_isWithin wsX8_isWithin) := goodIn_app (goodIn_of _ (by decide +kernel)) ggX8_putInto_X8_isWithin
set_option maxRecDepth 20000 in
theorem ggX8_putInto_X6_home : GoodIn wsX8_putInto wsX6_home := goodIn_r _ [28, 29, 269, 270, 271, 272, 273, 274, 275, 276] (by decide +kernel) (by decide +kernel)
set_option maxRecDepth 20000 in
theorem gX8_putInto_X6_home : GoodIn wsX8_putInto (wsV RX8 182 RX6 yX6_home wsX6_home) := goodIn_app (goodIn_of _ (by decide +kernel)) ggX8_putInto_X6_home
set_option maxRecDepth 20000 in
theorem ggX8_putInto_X6_insert : GoodIn wsX8_putInto wsX6_insert := goodIn_r _ [33, 8, 34, 29, 35, 36, 37, 6, 38, 39, 10, 40, 269, 270, 271, 272, 273, 274, 275, 276] (by decide +kernel) (by decide +kernel)
set_option maxRecDepth 20000 in
theorem gX8_putInto_X6_insert : GoodIn wsX8_putInto (wsV RX8 193 RX6 yX6_insert wsX6_insert) := goodIn_app (goodIn_of _ (by decide +kernel)) ggX8_putInto_X6_insert
set_option maxRecDepth 20000 in
theorem ggX8_putInto_X8_settle : GoodIn wsX8_putInto wsX8_settle := goodIn_r _ [44, 2, 45, 1, 46, 47, 48, 49, 50, 51, 15, 52, 17, 18, 10, 19, 53, 54, 55, 56, 57, 58, 59, 60, 61, 62, 63, 64, 65, 66, 67, 68, 69, 70, 71, 72, 73, 74, 75, 76, 77, 78, 79, 80, 81, 82, 83, 84, 85, 86, 87, 88, 89, 90, 91, 92, 39, 40, 93, 94, 95, 96, 97, 98, 99, 100, 101, 102, 103, 104, 105, 106, 107, 108, 109, 110, 111, 112, 113, 114, 115, 116, 117, 118, 6, 119, 120, 121, 4, 5, 7, 8, 9, 11, 122, 123, 124, 125, 126, 34, 127, 36, 37, 38, 128, 129, 130, 131, 132, 24, 133, 134, 135, 136, 137, 138, 139, 140, 141, 142, 143, 144, 145, 146, 147, 148, 149, 150, 151, 152, 153, 154, 155, 156, 157, 158, 159, 160, 161, 162, 163, 164, 165, 166, 167, 168, 169, 170, 171, 172, 173, 174, 175, 176, 177, 178, 179, 180, 181, 182, 183, 184, 185, 186, 187, 188, 189, 190, 191, 192, 193, 194, 195, 196, 197, 198, 199, 200, 201, 202, 35, 203, 204, 205, 206, 207, 208, 209, 210, 211, 212, 213, 214, 215, 216, 217, 218, 219, 220, 221, 222, 223, 224, 225, 226, 227, 228, 229, 230, 231, 232, 233, 234, 235, 236, 237, 238, 239, 240, 241, 242, 243, 244, 245, 246, 247, 248, 249, 250, 251, 252, 253, 254, 255, 256, 257, 258, 259, 260, 261, 262, 263, 264, 265, 266, 267, 268, 277, 278, 279, 280, 281, 282, 283, 284, 285, 269, 270, 271, 272, 273, 274, 275, 276, 286, 287, 288, 289, 290, 291, 292, 293, 294, 295, 296, 297, 298, 299, 300, 301, 302, 303, 304, 305, 306, 307] (by decide +kernel) (by decide +kernel)
set_option maxRecDepth 20000 in
theorem gX8_putInto_X8_settle : GoodIn wsX8_putInto (wsV RX8 84 RX8 yX8_settle wsX8_settle) := goodIn_app (goodIn_of _ (by decide +kernel)) ggX8_putInto_X8_settle
theorem dX8_putInto_0 : decode cX8_putInto 0 = .ok (.aload_n 0, 1) := by decide +kernel
theorem dX8_putInto_1 : decode cX8_putInto 1 = .ok (.getfield 28, 3) := by decide +kernel
theorem dX8_putInto_4 : decode cX8_putInto 4 = .ok (.iload_n 1, 1) := by decide +kernel
theorem dX8_putInto_5 : decode cX8_putInto 5 = .ok (.invokevirtual 189, 3) := by decide +kernel
theorem dX8_putInto_8 : decode cX8_putInto 8 = .ok (.ifCond .eq 30, 3) := by decide +kernel
theorem dX8_putInto_11 : decode cX8_putInto 11 = .ok (.aload_n 0, 1) := by decide +kernel
theorem dX8_putInto_12 : decode cX8_putInto 12 = .ok (.getfield 10, 3) := by decide +kernel
theorem dX8_putInto_15 : decode cX8_putInto 15 = .ok (.iload_n 2, 1) := by decide +kernel
theorem dX8_putInto_16 : decode cX8_putInto 16 = .ok (.invokevirtual 87, 3) := by decide +kernel
theorem dX8_putInto_19 : decode cX8_putInto 19 = .ok (.ifCond .eq 19, 3) := by decide +kernel
theorem dX8_putInto_22 : decode cX8_putInto 22 = .ok (.iload_n 3, 1) := by decide +kernel
theorem dX8_putInto_23 : decode cX8_putInto 23 = .ok (.iconst 0, 1) := by decide +kernel
theorem dX8_putInto_24 : decode cX8_putInto 24 = .ok (.aload_n 0, 1) := by decide +kernel
theorem dX8_putInto_25 : decode cX8_putInto 25 = .ok (.getfield 28, 3) := by decide +kernel
theorem dX8_putInto_28 : decode cX8_putInto 28 = .ok (.iload_n 1, 1) := by decide +kernel
theorem dX8_putInto_29 : decode cX8_putInto 29 = .ok (.invokevirtual 190, 3) := by decide +kernel
theorem dX8_putInto_32 : decode cX8_putInto 32 = .ok (.invokestatic 71, 3) := by decide +kernel
theorem dX8_putInto_35 : decode cX8_putInto 35 = .ok (.ifCond .ne 5, 3) := by decide +kernel
theorem dX8_putInto_38 : decode cX8_putInto 38 = .ok (.iconst (-1), 1) := by decide +kernel
theorem dX8_putInto_39 : decode cX8_putInto 39 = .ok (.ireturn, 1) := by decide +kernel
theorem dX8_putInto_40 : decode cX8_putInto 40 = .ok (.aload_n 0, 1) := by decide +kernel
theorem dX8_putInto_41 : decode cX8_putInto 41 = .ok (.getfield 28, 3) := by decide +kernel
theorem dX8_putInto_44 : decode cX8_putInto 44 = .ok (.iload_n 2, 1) := by decide +kernel
theorem dX8_putInto_45 : decode cX8_putInto 45 = .ok (.invokevirtual 182, 3) := by decide +kernel
theorem dX8_putInto_48 : decode cX8_putInto 48 = .ok (.iconst (-1), 1) := by decide +kernel
theorem dX8_putInto_49 : decode cX8_putInto 49 = .ok (.if_icmp .eq 6, 3) := by decide +kernel
theorem dX8_putInto_52 : decode cX8_putInto 52 = .ok (.bipush (-2), 2) := by decide +kernel
theorem dX8_putInto_54 : decode cX8_putInto 54 = .ok (.ireturn, 1) := by decide +kernel
theorem dX8_putInto_55 : decode cX8_putInto 55 = .ok (.aload_n 0, 1) := by decide +kernel
theorem dX8_putInto_56 : decode cX8_putInto 56 = .ok (.getfield 28, 3) := by decide +kernel
theorem dX8_putInto_59 : decode cX8_putInto 59 = .ok (.iload_n 1, 1) := by decide +kernel
theorem dX8_putInto_60 : decode cX8_putInto 60 = .ok (.invokevirtual 190, 3) := by decide +kernel
theorem dX8_putInto_63 : decode cX8_putInto 63 = .ok (.bipush 8, 2) := by decide +kernel
theorem dX8_putInto_65 : decode cX8_putInto 65 = .ok (.if_icmp .ne 6, 3) := by decide +kernel
theorem dX8_putInto_68 : decode cX8_putInto 68 = .ok (.bipush (-3), 2) := by decide +kernel
theorem dX8_putInto_70 : decode cX8_putInto 70 = .ok (.ireturn, 1) := by decide +kernel
theorem dX8_putInto_71 : decode cX8_putInto 71 = .ok (.aload_n 0, 1) := by decide +kernel
theorem dX8_putInto_72 : decode cX8_putInto 72 = .ok (.getfield 28, 3) := by decide +kernel
theorem dX8_putInto_75 : decode cX8_putInto 75 = .ok (.iload_n 1, 1) := by decide +kernel
theorem dX8_putInto_76 : decode cX8_putInto 76 = .ok (.iload_n 2, 1) := by decide +kernel
theorem dX8_putInto_77 : decode cX8_putInto 77 = .ok (.iload_n 3, 1) := by decide +kernel
theorem dX8_putInto_78 : decode cX8_putInto 78 = .ok (.invokevirtual 193, 3) := by decide +kernel
theorem dX8_putInto_81 : decode cX8_putInto 81 = .ok (.aload_n 0, 1) := by decide +kernel
theorem dX8_putInto_82 : decode cX8_putInto 82 = .ok (.invokevirtual 84, 3) := by decide +kernel
theorem dX8_putInto_85 : decode cX8_putInto 85 = .ok (.aload_n 0, 1) := by decide +kernel
theorem dX8_putInto_86 : decode cX8_putInto 86 = .ok (.getfield 28, 3) := by decide +kernel
theorem dX8_putInto_89 : decode cX8_putInto 89 = .ok (.iload_n 1, 1) := by decide +kernel
theorem dX8_putInto_90 : decode cX8_putInto 90 = .ok (.invokevirtual 190, 3) := by decide +kernel
theorem dX8_putInto_93 : decode cX8_putInto 93 = .ok (.ireturn, 1) := by decide +kernel
set_option maxRecDepth 20000 in
theorem ggX8_takeOut_X1_has : GoodIn wsX8_takeOut wsX1_has := goodIn_r _ [7, 8, 9, 10, 11, 12, 13, 277, 278, 279, 280, 281, 282] (by decide +kernel) (by decide +kernel)
set_option maxRecDepth 20000 in
theorem gX8_takeOut_X1_has : GoodIn wsX8_takeOut (wsV RX8 87 RX1 yX1_has wsX1_has) := goodIn_app (goodIn_of _ (by decide +kernel)) ggX8_takeOut_X1_has
set_option maxRecDepth 20000 in
theorem ggX8_takeOut_X6_home : GoodIn wsX8_takeOut wsX6_home := goodIn_r _ [18, 19, 283, 284, 285, 286, 287, 288, 289, 290] (by decide +kernel) (by decide +kernel)
set_option maxRecDepth 20000 in
theorem gX8_takeOut_X6_home : GoodIn wsX8_takeOut (wsV RX8 182 RX6 yX6_home wsX6_home) := goodIn_app (goodIn_of _ (by decide +kernel)) ggX8_takeOut_X6_home
set_option maxRecDepth 20000 in
theorem ggX8_takeOut_X6_release : GoodIn wsX8_takeOut wsX6_release := goodIn_r _ [23, 19, 24, 25, 26, 27, 28, 29, 17, 30, 31, 32, 33, 34, 35, 36, 37, 38, 39, 40, 10, 41, 283, 284, 285, 286, 287, 288, 289, 290] (by decide +kernel) (by decide +kernel)
set_option maxRecDepth 20000 in
theorem gX8_takeOut_X6_release : GoodIn wsX8_takeOut (wsV RX8 196 RX6 yX6_release wsX6_release) := goodIn_app (goodIn_of _ (by decide +kernel)) ggX8_takeOut_X6_release
set_option maxRecDepth 20000 in
theorem ggX8_takeOut_X8_settle : GoodIn wsX8_takeOut wsX8_settle := goodIn_r _ [45, 1, 46, 2, 47, 48, 49, 50, 51, 52, 6, 53, 8, 12, 10, 13, 54, 55, 56, 57, 58, 59, 60, 61, 62, 63, 64, 65, 66, 67, 68, 69, 70, 71, 72, 73, 74, 75, 76, 77, 78, 79, 80, 81, 82, 83, 84, 85, 86, 87, 88, 89, 90, 91, 92, 93, 40, 41, 94, 95, 96, 97, 98, 99, 100, 101, 102, 103, 104, 105, 106, 107, 108, 109, 110, 111, 112, 113, 114, 115, 116, 117, 118, 119, 17, 120, 121, 122, 123, 124, 125, 25, 9, 11, 126, 127, 128, 129, 24, 26, 130, 31, 32, 33, 131, 132, 133, 134, 135, 136, 137, 138, 139, 140, 141, 142, 143, 144, 145, 146, 147, 148, 149, 150, 151, 152, 153, 154, 155, 156, 157, 158, 159, 160, 161, 162, 163, 164, 165, 166, 167, 168, 169, 170, 171, 172, 173, 174, 175, 176, 177, 178, 179, 180, 181, 182, 183, 184, 185, 186, 187, 188, 189, 190, 191, 192, 193, 194, 195, 196, 197, 198, 199, 200, 201, 202, 203, 204, 205, 206, 38, 207, 208, 209, 210, 211, 212, 213, 214, 215, 216, 217, 218, 219, 220, 221, 222, 223, 224, 225, 226, 227, 228, 229, 230, 231, 232, 233, 234, 235, 236, 237, 238, 239, 240, 241, 242, 243, 244, 245, 246, 247, 248, 249, 250, 251, 252, 253, 254, 255, 256, 257, 258, 259, 260, 261, 262, 263, 264, 269, 270, 271, 272, 273, 274, 275, 276, 277, 278, 279, 280, 281, 282, 291, 292, 293, 283, 284, 285, 286, 287, 288, 289, 290, 294, 295, 296, 297, 298, 299, 300, 301, 302, 303, 304, 305, 306, 307, 308, 309, 310, 311, 312, 313, 314, 315] (by decide +kernel) (by decide +kernel)
set_option maxRecDepth 20000 in
theorem gX8_takeOut_X8_settle : GoodIn wsX8_takeOut (wsV RX8 84 RX8 yX8_settle wsX8_settle) := goodIn_app (goodIn_of _ (by decide +kernel)) ggX8_takeOut_X8_settle
set_option maxRecDepth 20000 in
theorem ggX8_takeOut_X6_height : GoodIn wsX8_takeOut wsX6_height := goodIn_r _ [268, 25, 283, 284, 285, 286, 287, 288, 289, 290] (by decide +kernel) (by decide +kernel)
set_option maxRecDepth 20000 in
theorem gX8_takeOut_X6_height : GoodIn wsX8_takeOut (wsV RX8 190 RX6 yX6_height wsX6_height) := goodIn_app (goodIn_of _ (by decide +kernel)) ggX8_takeOut_X6_height
theorem dX8_takeOut_0 : decode cX8_takeOut 0 = .ok (.aload_n 0, 1) := by decide +kernel
theorem dX8_takeOut_1 : decode cX8_takeOut 1 = .ok (.getfield 10, 3) := by decide +kernel
theorem dX8_takeOut_4 : decode cX8_takeOut 4 = .ok (.iload_n 1, 1) := by decide +kernel
theorem dX8_takeOut_5 : decode cX8_takeOut 5 = .ok (.invokevirtual 87, 3) := by decide +kernel
theorem dX8_takeOut_8 : decode cX8_takeOut 8 = .ok (.ifCond .ne 5, 3) := by decide +kernel
theorem dX8_takeOut_11 : decode cX8_takeOut 11 = .ok (.iconst (-1), 1) := by decide +kernel
theorem dX8_takeOut_12 : decode cX8_takeOut 12 = .ok (.ireturn, 1) := by decide +kernel
theorem dX8_takeOut_13 : decode cX8_takeOut 13 = .ok (.aload_n 0, 1) := by decide +kernel
theorem dX8_takeOut_14 : decode cX8_takeOut 14 = .ok (.getfield 28, 3) := by decide +kernel
theorem dX8_takeOut_17 : decode cX8_takeOut 17 = .ok (.iload_n 1, 1) := by decide +kernel
theorem dX8_takeOut_18 : decode cX8_takeOut 18 = .ok (.invokevirtual 182, 3) := by decide +kernel
theorem dX8_takeOut_21 : decode cX8_takeOut 21 = .ok (.istore_n 2, 1) := by decide +kernel
theorem dX8_takeOut_22 : decode cX8_takeOut 22 = .ok (.iload_n 2, 1) := by decide +kernel
theorem dX8_takeOut_23 : decode cX8_takeOut 23 = .ok (.iconst (-1), 1) := by decide +kernel
theorem dX8_takeOut_24 : decode cX8_takeOut 24 = .ok (.if_icmp .ne 6, 3) := by decide +kernel
theorem dX8_takeOut_27 : decode cX8_takeOut 27 = .ok (.bipush (-2), 2) := by decide +kernel
theorem dX8_takeOut_29 : decode cX8_takeOut 29 = .ok (.ireturn, 1) := by decide +kernel
theorem dX8_takeOut_30 : decode cX8_takeOut 30 = .ok (.aload_n 0, 1) := by decide +kernel
theorem dX8_takeOut_31 : decode cX8_takeOut 31 = .ok (.getfield 28, 3) := by decide +kernel
theorem dX8_takeOut_34 : decode cX8_takeOut 34 = .ok (.iload_n 1, 1) := by decide +kernel
theorem dX8_takeOut_35 : decode cX8_takeOut 35 = .ok (.invokevirtual 196, 3) := by decide +kernel
theorem dX8_takeOut_38 : decode cX8_takeOut 38 = .ok (.aload_n 0, 1) := by decide +kernel
theorem dX8_takeOut_39 : decode cX8_takeOut 39 = .ok (.invokevirtual 84, 3) := by decide +kernel
theorem dX8_takeOut_42 : decode cX8_takeOut 42 = .ok (.aload_n 0, 1) := by decide +kernel
theorem dX8_takeOut_43 : decode cX8_takeOut 43 = .ok (.getfield 28, 3) := by decide +kernel
theorem dX8_takeOut_46 : decode cX8_takeOut 46 = .ok (.iload_n 2, 1) := by decide +kernel
theorem dX8_takeOut_47 : decode cX8_takeOut 47 = .ok (.invokevirtual 190, 3) := by decide +kernel
theorem dX8_takeOut_50 : decode cX8_takeOut 50 = .ok (.ireturn, 1) := by decide +kernel
set_option maxRecDepth 20000 in
theorem ggX8_chooseCover_X6_has : GoodIn wsX8_chooseCover wsX6_has := goodIn_r _ [7, 8, 9, 10, 11, 266, 267, 268, 269, 270, 271, 272, 273] (by decide +kernel) (by decide +kernel)
set_option maxRecDepth 20000 in
theorem gX8_chooseCover_X6_has : GoodIn wsX8_chooseCover (wsV RX8 189 RX6 yX6_has wsX6_has) := goodIn_app (goodIn_of _ (by decide +kernel)) ggX8_chooseCover_X6_has
set_option maxRecDepth 20000 in
theorem ggX8_chooseCover_X1_has : GoodIn wsX8_chooseCover wsX1_has := goodIn_r _ [16, 17, 9, 10, 11, 18, 19, 274, 275, 276, 277, 278, 279] (by decide +kernel) (by decide +kernel)
set_option maxRecDepth 20000 in
theorem gX8_chooseCover_X1_has : GoodIn wsX8_chooseCover (wsV RX8 87 RX1 yX1_has wsX1_has) := goodIn_app (goodIn_of _ (by decide +kernel)) ggX8_chooseCover_X1_has
set_option maxRecDepth 20000 in
theorem ggX8_chooseCover_X6_home : GoodIn wsX8_chooseCover wsX6_home := goodIn_r _ [23, 24, 266, 267, 268, 269, 270, 271, 272, 273] (by decide +kernel) (by decide +kernel)
set_option maxRecDepth 20000 in
theorem gX8_chooseCover_X6_home : GoodIn wsX8_chooseCover (wsV RX8 182 RX6 yX6_home wsX6_home) := goodIn_app (goodIn_of _ (by decide +kernel)) ggX8_chooseCover_X6_home
set_option maxRecDepth 20000 in
theorem ggX8_chooseCover_X6_choose : GoodIn wsX8_chooseCover wsX6_choose := goodIn_r _ [28, 29, 266, 267, 268, 269, 270, 271, 272, 273] (by decide +kernel) (by decide +kernel)
set_option maxRecDepth 20000 in
theorem gX8_chooseCover_X6_choose : GoodIn wsX8_chooseCover (wsV RX8 199 RX6 yX6_choose wsX6_choose) := goodIn_app (goodIn_of _ (by decide +kernel)) ggX8_chooseCover_X6_choose
set_option maxRecDepth 20000 in
theorem ggX8_chooseCover_X8_settle : GoodIn wsX8_chooseCover wsX8_settle := goodIn_r _ [33, 2, 34, 1, 35, 36, 37, 38, 39, 40, 15, 41, 17, 18, 10, 19, 42, 43, 44, 45, 46, 47, 48, 49, 50, 51, 52, 53, 54, 55, 56, 57, 58, 59, 60, 61, 62, 63, 64, 65, 66, 67, 68, 69, 70, 71, 72, 73, 74, 75, 76, 77, 78, 79, 80, 81, 82, 83, 84, 85, 86, 87, 88, 89, 90, 91, 92, 93, 94, 95, 96, 97, 98, 99, 100, 101, 102, 103, 104, 105, 106, 107, 108, 109, 6, 110, 111, 112, 4, 5, 7, 8, 9, 11, 113, 114, 115, 116, 29, 117, 118, 119, 120, 121, 122, 123, 124, 125, 126, 127, 128, 129, 130, 131, 132, 133, 134, 135, 136, 137, 138, 139, 140, 141, 142, 143, 144, 145, 146, 147, 148, 149, 150, 151, 152, 153, 154, 155, 156, 157, 158, 159, 160, 161, 162, 163, 164, 165, 166, 167, 168, 169, 170, 171, 172, 173, 174, 175, 176, 177, 178, 179, 180, 181, 182, 183, 184, 185, 186, 187, 188, 189, 190, 191, 192, 193, 194, 195, 196, 197, 198, 199, 200, 201, 202, 203, 204, 205, 206, 207, 208, 209, 210, 211, 212, 213, 214, 215, 216, 217, 218, 219, 220, 221, 222, 223, 224, 225, 226, 227, 228, 229, 230, 231, 232, 233, 234, 235, 236, 237, 238, 239, 240, 241, 242, 243, 244, 245, 246, 247, 248, 249, 250, 251, 252, 253, 254, 255, 256, 258, 259, 260, 261, 262, 263, 264, 265, 274, 275, 276, 277, 278, 279, 280, 281, 282, 266, 267, 268, 269, 270, 271, 272, 273, 283, 284, 285, 286, 287, 288, 289, 290, 291, 292, 293, 294, 295, 296, 297, 298, 299, 300, 301, 302, 303, 304] (by decide +kernel) (by decide +kernel)
set_option maxRecDepth 20000 in
theorem gX8_chooseCover_X8_settle : GoodIn wsX8_chooseCover (wsV RX8 84 RX8 yX8_settle wsX8_settle) := goodIn_app (goodIn_of _ (by decide +kernel)) ggX8_chooseCover_X8_settle
set_option maxRecDepth 20000 in
theorem ggX8_chooseCover_X6_cover : GoodIn wsX8_chooseCover wsX6_cover := goodIn_r _ [116, 29, 117, 8, 118, 119, 120, 6, 121, 122, 93, 94, 15, 95, 46, 266, 267, 268, 269, 270, 271, 272, 273, 274, 275, 276, 277, 278, 279] (by decide +kernel) (by decide +kernel)
set_option maxRecDepth 20000 in
theorem gX8_chooseCover_X6_cover : GoodIn wsX8_chooseCover (wsV RX8 202 RX6 yX6_cover wsX6_cover) := goodIn_app (goodIn_of _ (by decide +kernel)) ggX8_chooseCover_X6_cover
theorem dX8_chooseCover_0 : decode cX8_chooseCover 0 = .ok (.aload_n 0, 1) := by decide +kernel
theorem dX8_chooseCover_1 : decode cX8_chooseCover 1 = .ok (.getfield 28, 3) := by decide +kernel
theorem dX8_chooseCover_4 : decode cX8_chooseCover 4 = .ok (.iload_n 1, 1) := by decide +kernel
theorem dX8_chooseCover_5 : decode cX8_chooseCover 5 = .ok (.invokevirtual 189, 3) := by decide +kernel
theorem dX8_chooseCover_8 : decode cX8_chooseCover 8 = .ok (.ifCond .eq 19, 3) := by decide +kernel
theorem dX8_chooseCover_11 : decode cX8_chooseCover 11 = .ok (.iload_n 2, 1) := by decide +kernel
theorem dX8_chooseCover_12 : decode cX8_chooseCover 12 = .ok (.iconst (-1), 1) := by decide +kernel
theorem dX8_chooseCover_13 : decode cX8_chooseCover 13 = .ok (.if_icmp .eq 16, 3) := by decide +kernel
theorem dX8_chooseCover_16 : decode cX8_chooseCover 16 = .ok (.aload_n 0, 1) := by decide +kernel
theorem dX8_chooseCover_17 : decode cX8_chooseCover 17 = .ok (.getfield 10, 3) := by decide +kernel
theorem dX8_chooseCover_20 : decode cX8_chooseCover 20 = .ok (.iload_n 2, 1) := by decide +kernel
theorem dX8_chooseCover_21 : decode cX8_chooseCover 21 = .ok (.invokevirtual 87, 3) := by decide +kernel
theorem dX8_chooseCover_24 : decode cX8_chooseCover 24 = .ok (.ifCond .ne 5, 3) := by decide +kernel
theorem dX8_chooseCover_27 : decode cX8_chooseCover 27 = .ok (.iconst (-1), 1) := by decide +kernel
theorem dX8_chooseCover_28 : decode cX8_chooseCover 28 = .ok (.ireturn, 1) := by decide +kernel
theorem dX8_chooseCover_29 : decode cX8_chooseCover 29 = .ok (.iload_n 2, 1) := by decide +kernel
theorem dX8_chooseCover_30 : decode cX8_chooseCover 30 = .ok (.iconst (-1), 1) := by decide +kernel
theorem dX8_chooseCover_31 : decode cX8_chooseCover 31 = .ok (.if_icmp .eq 18, 3) := by decide +kernel
theorem dX8_chooseCover_34 : decode cX8_chooseCover 34 = .ok (.aload_n 0, 1) := by decide +kernel
theorem dX8_chooseCover_35 : decode cX8_chooseCover 35 = .ok (.getfield 28, 3) := by decide +kernel
theorem dX8_chooseCover_38 : decode cX8_chooseCover 38 = .ok (.iload_n 2, 1) := by decide +kernel
theorem dX8_chooseCover_39 : decode cX8_chooseCover 39 = .ok (.invokevirtual 182, 3) := by decide +kernel
theorem dX8_chooseCover_42 : decode cX8_chooseCover 42 = .ok (.iload_n 1, 1) := by decide +kernel
theorem dX8_chooseCover_43 : decode cX8_chooseCover 43 = .ok (.if_icmp .eq 6, 3) := by decide +kernel
theorem dX8_chooseCover_46 : decode cX8_chooseCover 46 = .ok (.bipush (-2), 2) := by decide +kernel
theorem dX8_chooseCover_48 : decode cX8_chooseCover 48 = .ok (.ireturn, 1) := by decide +kernel
theorem dX8_chooseCover_49 : decode cX8_chooseCover 49 = .ok (.aload_n 0, 1) := by decide +kernel
theorem dX8_chooseCover_50 : decode cX8_chooseCover 50 = .ok (.getfield 28, 3) := by decide +kernel
theorem dX8_chooseCover_53 : decode cX8_chooseCover 53 = .ok (.iload_n 1, 1) := by decide +kernel
theorem dX8_chooseCover_54 : decode cX8_chooseCover 54 = .ok (.iload_n 2, 1) := by decide +kernel
theorem dX8_chooseCover_55 : decode cX8_chooseCover 55 = .ok (.invokevirtual 199, 3) := by decide +kernel
theorem dX8_chooseCover_58 : decode cX8_chooseCover 58 = .ok (.aload_n 0, 1) := by decide +kernel
theorem dX8_chooseCover_59 : decode cX8_chooseCover 59 = .ok (.invokevirtual 84, 3) := by decide +kernel
theorem dX8_chooseCover_62 : decode cX8_chooseCover 62 = .ok (.aload_n 0, 1) := by decide +kernel
theorem dX8_chooseCover_63 : decode cX8_chooseCover 63 = .ok (.getfield 28, 3) := by decide +kernel
theorem dX8_chooseCover_66 : decode cX8_chooseCover 66 = .ok (.iload_n 1, 1) := by decide +kernel
theorem dX8_chooseCover_67 : decode cX8_chooseCover 67 = .ok (.invokevirtual 202, 3) := by decide +kernel
theorem dX8_chooseCover_70 : decode cX8_chooseCover 70 = .ok (.ireturn, 1) := by decide +kernel
set_option maxRecDepth 20000 in
theorem ggX8_collapse_X6_has : GoodIn wsX8_collapse wsX6_has := goodIn_r _ [6, 7, 8, 9, 10, 29, 30, 31, 32, 33, 34, 35, 36] (by decide +kernel) (by decide +kernel)
set_option maxRecDepth 20000 in
theorem gX8_collapse_X6_has : GoodIn wsX8_collapse (wsV RX8 189 RX6 yX6_has wsX6_has) := goodIn_app (goodIn_of _ (by decide +kernel)) ggX8_collapse_X6_has
set_option maxRecDepth 20000 in
theorem ggX8_collapse_X8_isWithin : GoodIn wsX8_collapse wsX8_isWithin := goodIn_r _ [10] (by decide +kernel) (by decide +kernel)
set_option maxRecDepth 20000 in
theorem gX8_collapse_X8_isWithin : GoodIn wsX8_collapse (va_wsS RX8 71 yX8_isWithin wsX8_isWithin) := goodIn_app (goodIn_of _ (by decide +kernel)) ggX8_collapse_X8_isWithin
set_option maxRecDepth 20000 in
theorem ggX8_collapse_X6_isCollapsed : GoodIn wsX8_collapse wsX6_isCollapsed := goodIn_r _ [15, 16, 29, 30, 31, 32, 33, 34, 35, 36] (by decide +kernel) (by decide +kernel)
set_option maxRecDepth 20000 in
theorem gX8_collapse_X6_isCollapsed : GoodIn wsX8_collapse (wsV RX8 205 RX6 yX6_isCollapsed wsX6_isCollapsed) := goodIn_app (goodIn_of _ (by decide +kernel)) ggX8_collapse_X6_isCollapsed
set_option maxRecDepth 20000 in
theorem ggX8_collapse_X6_fold : GoodIn wsX8_collapse wsX6_fold := goodIn_r _ [20, 16, 29, 30, 31, 32, 33, 34, 35, 36] (by decide +kernel) (by decide +kernel)
set_option maxRecDepth 20000 in
theorem gX8_collapse_X6_fold : GoodIn wsX8_collapse (wsV RX8 208 RX6 yX6_fold wsX6_fold) := goodIn_app (goodIn_of _ (by decide +kernel)) ggX8_collapse_X6_fold
theorem dX8_collapse_0 : decode cX8_collapse 0 = .ok (.aload_n 0, 1) := by decide +kernel
theorem dX8_collapse_1 : decode cX8_collapse 1 = .ok (.getfield 28, 3) := by decide +kernel
theorem dX8_collapse_4 : decode cX8_collapse 4 = .ok (.iload_n 1, 1) := by decide +kernel
theorem dX8_collapse_5 : decode cX8_collapse 5 = .ok (.invokevirtual 189, 3) := by decide +kernel
theorem dX8_collapse_8 : decode cX8_collapse 8 = .ok (.ifCond .eq 12, 3) := by decide +kernel
theorem dX8_collapse_11 : decode cX8_collapse 11 = .ok (.iload_n 2, 1) := by decide +kernel
theorem dX8_collapse_12 : decode cX8_collapse 12 = .ok (.iconst 0, 1) := by decide +kernel
theorem dX8_collapse_13 : decode cX8_collapse 13 = .ok (.iconst 1, 1) := by decide +kernel
theorem dX8_collapse_14 : decode cX8_collapse 14 = .ok (.invokestatic 71, 3) := by decide +kernel
theorem dX8_collapse_17 : decode cX8_collapse 17 = .ok (.ifCond .ne 5, 3) := by decide +kernel
theorem dX8_collapse_20 : decode cX8_collapse 20 = .ok (.iconst (-1), 1) := by decide +kernel
theorem dX8_collapse_21 : decode cX8_collapse 21 = .ok (.ireturn, 1) := by decide +kernel
theorem dX8_collapse_22 : decode cX8_collapse 22 = .ok (.aload_n 0, 1) := by decide +kernel
theorem dX8_collapse_23 : decode cX8_collapse 23 = .ok (.getfield 28, 3) := by decide +kernel
theorem dX8_collapse_26 : decode cX8_collapse 26 = .ok (.iload_n 1, 1) := by decide +kernel
theorem dX8_collapse_27 : decode cX8_collapse 27 = .ok (.invokevirtual 205, 3) := by decide +kernel
theorem dX8_collapse_30 : decode cX8_collapse 30 = .ok (.ifCond .eq 7, 3) := by decide +kernel
theorem dX8_collapse_33 : decode cX8_collapse 33 = .ok (.iconst 1, 1) := by decide +kernel
theorem dX8_collapse_34 : decode cX8_collapse 34 = .ok (.goto 4, 3) := by decide +kernel
theorem dX8_collapse_37 : decode cX8_collapse 37 = .ok (.iconst 0, 1) := by decide +kernel
theorem dX8_collapse_38 : decode cX8_collapse 38 = .ok (.istore_n 3, 1) := by decide +kernel
theorem dX8_collapse_39 : decode cX8_collapse 39 = .ok (.aload_n 0, 1) := by decide +kernel
theorem dX8_collapse_40 : decode cX8_collapse 40 = .ok (.getfield 28, 3) := by decide +kernel
theorem dX8_collapse_43 : decode cX8_collapse 43 = .ok (.iload_n 1, 1) := by decide +kernel
theorem dX8_collapse_44 : decode cX8_collapse 44 = .ok (.iload_n 2, 1) := by decide +kernel
theorem dX8_collapse_45 : decode cX8_collapse 45 = .ok (.iconst 1, 1) := by decide +kernel
theorem dX8_collapse_46 : decode cX8_collapse 46 = .ok (.if_icmp .ne 7, 3) := by decide +kernel
theorem dX8_collapse_49 : decode cX8_collapse 49 = .ok (.iconst 1, 1) := by decide +kernel
theorem dX8_collapse_50 : decode cX8_collapse 50 = .ok (.goto 4, 3) := by decide +kernel
theorem dX8_collapse_53 : decode cX8_collapse 53 = .ok (.iconst 0, 1) := by decide +kernel
theorem dX8_collapse_54 : decode cX8_collapse 54 = .ok (.invokevirtual 208, 3) := by decide +kernel
theorem dX8_collapse_57 : decode cX8_collapse 57 = .ok (.iload_n 3, 1) := by decide +kernel
theorem dX8_collapse_58 : decode cX8_collapse 58 = .ok (.ireturn, 1) := by decide +kernel
set_option maxRecDepth 20000 in
theorem ggX8_stackOf_X1_has : GoodIn wsX8_stackOf wsX1_has := goodIn_r _ [7, 8, 9, 10, 11, 12, 13, 31, 32, 33, 34, 35, 36] (by decide +kernel) (by decide +kernel)
set_option maxRecDepth 20000 in
theorem gX8_stackOf_X1_has : GoodIn wsX8_stackOf (wsV RX8 87 RX1 yX1_has wsX1_has) := goodIn_app (goodIn_of _ (by decide +kernel)) ggX8_stackOf_X1_has
set_option maxRecDepth 20000 in
theorem ggX8_stackOf_X6_home : GoodIn wsX8_stackOf wsX6_home := goodIn_r _ [18, 19, 37, 38, 39, 40, 41, 42, 43, 44] (by decide +kernel) (by decide +kernel)
set_option maxRecDepth 20000 in
theorem gX8_stackOf_X6_home : GoodIn wsX8_stackOf (wsV RX8 182 RX6 yX6_home wsX6_home) := goodIn_app (goodIn_of _ (by decide +kernel)) ggX8_stackOf_X6_home
set_option maxRecDepth 20000 in
theorem ggX8_stackOf_X8_orNotFound : GoodIn wsX8_stackOf wsX8_orNotFound := goodIn_r _ [22] (by decide +kernel) (by decide +kernel)
set_option maxRecDepth 20000 in
theorem gX8_stackOf_X8_orNotFound : GoodIn wsX8_stackOf (va_wsS RX8 124 yX8_orNotFound wsX8_orNotFound) := goodIn_app (goodIn_of _ (by decide +kernel)) ggX8_stackOf_X8_orNotFound
theorem dX8_stackOf_0 : decode cX8_stackOf 0 = .ok (.aload_n 0, 1) := by decide +kernel
theorem dX8_stackOf_1 : decode cX8_stackOf 1 = .ok (.getfield 10, 3) := by decide +kernel
theorem dX8_stackOf_4 : decode cX8_stackOf 4 = .ok (.iload_n 1, 1) := by decide +kernel
theorem dX8_stackOf_5 : decode cX8_stackOf 5 = .ok (.invokevirtual 87, 3) := by decide +kernel
theorem dX8_stackOf_8 : decode cX8_stackOf 8 = .ok (.ifCond .ne 5, 3) := by decide +kernel
theorem dX8_stackOf_11 : decode cX8_stackOf 11 = .ok (.iconst (-1), 1) := by decide +kernel
theorem dX8_stackOf_12 : decode cX8_stackOf 12 = .ok (.ireturn, 1) := by decide +kernel
theorem dX8_stackOf_13 : decode cX8_stackOf 13 = .ok (.aload_n 0, 1) := by decide +kernel
theorem dX8_stackOf_14 : decode cX8_stackOf 14 = .ok (.getfield 28, 3) := by decide +kernel
theorem dX8_stackOf_17 : decode cX8_stackOf 17 = .ok (.iload_n 1, 1) := by decide +kernel
theorem dX8_stackOf_18 : decode cX8_stackOf 18 = .ok (.invokevirtual 182, 3) := by decide +kernel
theorem dX8_stackOf_21 : decode cX8_stackOf 21 = .ok (.invokestatic 124, 3) := by decide +kernel
theorem dX8_stackOf_24 : decode cX8_stackOf 24 = .ok (.ireturn, 1) := by decide +kernel
set_option maxRecDepth 20000 in
theorem ggX8_coverOf_X6_has : GoodIn wsX8_coverOf wsX6_has := goodIn_r _ [6, 7, 8, 9, 10, 35, 36, 37, 38, 39, 40, 41, 42] (by decide +kernel) (by decide +kernel)
set_option maxRecDepth 20000 in
theorem gX8_coverOf_X6_has : GoodIn wsX8_coverOf (wsV RX8 189 RX6 yX6_has wsX6_has) := goodIn_app (goodIn_of _ (by decide +kernel)) ggX8_coverOf_X6_has
set_option maxRecDepth 20000 in
theorem ggX8_coverOf_X6_cover : GoodIn wsX8_coverOf wsX6_cover := goodIn_r _ [14, 15, 16, 7, 17, 18, 19, 5, 20, 21, 22, 23, 24, 25, 26, 35, 36, 37, 38, 39, 40, 41, 42, 43, 44, 45, 46, 47, 48] (by decide +kernel) (by decide +kernel)
set_option maxRecDepth 20000 in
theorem gX8_coverOf_X6_cover : GoodIn wsX8_coverOf (wsV RX8 202 RX6 yX6_cover wsX6_cover) := goodIn_app (goodIn_of _ (by decide +kernel)) ggX8_coverOf_X6_cover
theorem dX8_coverOf_0 : decode cX8_coverOf 0 = .ok (.aload_n 0, 1) := by decide +kernel
theorem dX8_coverOf_1 : decode cX8_coverOf 1 = .ok (.getfield 28, 3) := by decide +kernel
theorem dX8_coverOf_4 : decode cX8_coverOf 4 = .ok (.iload_n 1, 1) := by decide +kernel
theorem dX8_coverOf_5 : decode cX8_coverOf 5 = .ok (.invokevirtual 189, 3) := by decide +kernel
theorem dX8_coverOf_8 : decode cX8_coverOf 8 = .ok (.ifCond .ne 5, 3) := by decide +kernel
theorem dX8_coverOf_11 : decode cX8_coverOf 11 = .ok (.iconst (-1), 1) := by decide +kernel
theorem dX8_coverOf_12 : decode cX8_coverOf 12 = .ok (.ireturn, 1) := by decide +kernel
theorem dX8_coverOf_13 : decode cX8_coverOf 13 = .ok (.aload_n 0, 1) := by decide +kernel
theorem dX8_coverOf_14 : decode cX8_coverOf 14 = .ok (.getfield 28, 3) := by decide +kernel
theorem dX8_coverOf_17 : decode cX8_coverOf 17 = .ok (.iload_n 1, 1) := by decide +kernel
theorem dX8_coverOf_18 : decode cX8_coverOf 18 = .ok (.invokevirtual 202, 3) := by decide +kernel
theorem dX8_coverOf_21 : decode cX8_coverOf 21 = .ok (.ireturn, 1) := by decide +kernel
set_option maxRecDepth 20000 in
theorem ggX8_stackAt_X6_has : GoodIn wsX8_stackAt wsX6_has := goodIn_r _ [6, 7, 8, 9, 10, 30, 31, 32, 33, 34, 35, 36, 37] (by decide +kernel) (by decide +kernel)
set_option maxRecDepth 20000 in
theorem gX8_stackAt_X6_has : GoodIn wsX8_stackAt (wsV RX8 189 RX6 yX6_has wsX6_has) := goodIn_app (goodIn_of _ (by decide +kernel)) ggX8_stackAt_X6_has
set_option maxRecDepth 20000 in
theorem ggX8_stackAt_X6_fileAt : GoodIn wsX8_stackAt wsX6_fileAt := goodIn_r _ [14, 7, 15, 16, 17, 5, 18, 30, 31, 32, 33, 34, 35, 36, 37] (by decide +kernel) (by decide +kernel)
set_option maxRecDepth 20000 in
theorem gX8_stackAt_X6_fileAt : GoodIn wsX8_stackAt (wsV RX8 212 RX6 yX6_fileAt wsX6_fileAt) := goodIn_app (goodIn_of _ (by decide +kernel)) ggX8_stackAt_X6_fileAt
set_option maxRecDepth 20000 in
theorem ggX8_stackAt_X8_orNotFound : GoodIn wsX8_stackAt wsX8_orNotFound := goodIn_r _ [21] (by decide +kernel) (by decide +kernel)
set_option maxRecDepth 20000 in
theorem gX8_stackAt_X8_orNotFound : GoodIn wsX8_stackAt (va_wsS RX8 124 yX8_orNotFound wsX8_orNotFound) := goodIn_app (goodIn_of _ (by decide +kernel)) ggX8_stackAt_X8_orNotFound
theorem dX8_stackAt_0 : decode cX8_stackAt 0 = .ok (.aload_n 0, 1) := by decide +kernel
theorem dX8_stackAt_1 : decode cX8_stackAt 1 = .ok (.getfield 28, 3) := by decide +kernel
theorem dX8_stackAt_4 : decode cX8_stackAt 4 = .ok (.iload_n 1, 1) := by decide +kernel
theorem dX8_stackAt_5 : decode cX8_stackAt 5 = .ok (.invokevirtual 189, 3) := by decide +kernel
theorem dX8_stackAt_8 : decode cX8_stackAt 8 = .ok (.ifCond .eq 7, 3) := by decide +kernel
theorem dX8_stackAt_11 : decode cX8_stackAt 11 = .ok (.iload_n 2, 1) := by decide +kernel
theorem dX8_stackAt_12 : decode cX8_stackAt 12 = .ok (.ifCond .ge 5, 3) := by decide +kernel
theorem dX8_stackAt_15 : decode cX8_stackAt 15 = .ok (.iconst (-1), 1) := by decide +kernel
theorem dX8_stackAt_16 : decode cX8_stackAt 16 = .ok (.ireturn, 1) := by decide +kernel
theorem dX8_stackAt_17 : decode cX8_stackAt 17 = .ok (.aload_n 0, 1) := by decide +kernel
theorem dX8_stackAt_18 : decode cX8_stackAt 18 = .ok (.getfield 28, 3) := by decide +kernel
theorem dX8_stackAt_21 : decode cX8_stackAt 21 = .ok (.iload_n 1, 1) := by decide +kernel
theorem dX8_stackAt_22 : decode cX8_stackAt 22 = .ok (.iload_n 2, 1) := by decide +kernel
theorem dX8_stackAt_23 : decode cX8_stackAt 23 = .ok (.invokevirtual 212, 3) := by decide +kernel
theorem dX8_stackAt_26 : decode cX8_stackAt 26 = .ok (.invokestatic 124, 3) := by decide +kernel
theorem dX8_stackAt_29 : decode cX8_stackAt 29 = .ok (.ireturn, 1) := by decide +kernel
set_option maxRecDepth 20000 in
theorem ggX8_type_X8_isWithin : GoodIn wsX8_type wsX8_isWithin := goodIn_r _ [5] (by decide +kernel) (by decide +kernel)
set_option maxRecDepth 20000 in
theorem gX8_type_X8_isWithin : GoodIn wsX8_type (va_wsS RX8 71 yX8_isWithin wsX8_isWithin) := goodIn_app (goodIn_of _ (by decide +kernel)) ggX8_type_X8_isWithin
set_option maxRecDepth 20000 in
theorem ggX8_type_X5_length : GoodIn wsX8_type wsX5_length := goodIn_r _ [10, 11, 25, 26] (by decide +kernel) (by decide +kernel)
set_option maxRecDepth 20000 in
theorem gX8_type_X5_length : GoodIn wsX8_type (wsV RX8 215 RX5 yX5_length wsX5_length) := goodIn_app (goodIn_of _ (by decide +kernel)) ggX8_type_X5_length
set_option maxRecDepth 20000 in
theorem ggX8_type_X5_append : GoodIn wsX8_type wsX5_append := goodIn_r _ [15, 11, 16, 25, 26] (by decide +kernel) (by decide +kernel)
set_option maxRecDepth 20000 in
theorem gX8_type_X5_append : GoodIn wsX8_type (wsV RX8 218 RX5 yX5_append wsX5_append) := goodIn_app (goodIn_of _ (by decide +kernel)) ggX8_type_X5_append
theorem dX8_type_0 : decode cX8_type 0 = .ok (.iload_n 1, 1) := by decide +kernel
theorem dX8_type_1 : decode cX8_type 1 = .ok (.bipush 33, 2) := by decide +kernel
theorem dX8_type_3 : decode cX8_type 3 = .ok (.bipush 126, 2) := by decide +kernel
theorem dX8_type_5 : decode cX8_type 5 = .ok (.invokestatic 71, 3) := by decide +kernel
theorem dX8_type_8 : decode cX8_type 8 = .ok (.ifCond .ne 5, 3) := by decide +kernel
theorem dX8_type_11 : decode cX8_type 11 = .ok (.iconst (-1), 1) := by decide +kernel
theorem dX8_type_12 : decode cX8_type 12 = .ok (.ireturn, 1) := by decide +kernel
theorem dX8_type_13 : decode cX8_type 13 = .ok (.aload_n 0, 1) := by decide +kernel
theorem dX8_type_14 : decode cX8_type 14 = .ok (.getfield 35, 3) := by decide +kernel
theorem dX8_type_17 : decode cX8_type 17 = .ok (.invokevirtual 215, 3) := by decide +kernel
theorem dX8_type_20 : decode cX8_type 20 = .ok (.bipush 80, 2) := by decide +kernel
theorem dX8_type_22 : decode cX8_type 22 = .ok (.if_icmp .ne 6, 3) := by decide +kernel
theorem dX8_type_25 : decode cX8_type 25 = .ok (.bipush (-3), 2) := by decide +kernel
theorem dX8_type_27 : decode cX8_type 27 = .ok (.ireturn, 1) := by decide +kernel
theorem dX8_type_28 : decode cX8_type 28 = .ok (.aload_n 0, 1) := by decide +kernel
theorem dX8_type_29 : decode cX8_type 29 = .ok (.getfield 35, 3) := by decide +kernel
theorem dX8_type_32 : decode cX8_type 32 = .ok (.iload_n 1, 1) := by decide +kernel
theorem dX8_type_33 : decode cX8_type 33 = .ok (.i2c, 1) := by decide +kernel
theorem dX8_type_34 : decode cX8_type 34 = .ok (.invokevirtual 218, 3) := by decide +kernel
theorem dX8_type_37 : decode cX8_type 37 = .ok (.aload_n 0, 1) := by decide +kernel
theorem dX8_type_38 : decode cX8_type 38 = .ok (.getfield 35, 3) := by decide +kernel
theorem dX8_type_41 : decode cX8_type 41 = .ok (.invokevirtual 215, 3) := by decide +kernel
theorem dX8_type_44 : decode cX8_type 44 = .ok (.ireturn, 1) := by decide +kernel
set_option maxRecDepth 20000 in
theorem ggX8_clearRule_X5_length : GoodIn wsX8_clearRule wsX5_length := goodIn_r _ [6, 7, 20, 21] (by decide +kernel) (by decide +kernel)
set_option maxRecDepth 20000 in
theorem gX8_clearRule_X5_length : GoodIn wsX8_clearRule (wsV RX8 215 RX5 yX5_length wsX5_length) := goodIn_app (goodIn_of _ (by decide +kernel)) ggX8_clearRule_X5_length
set_option maxRecDepth 20000 in
theorem ggX8_clearRule_X5_empty : GoodIn wsX8_clearRule wsX5_empty := goodIn_r _ [11, 7, 20, 21] (by decide +kernel) (by decide +kernel)
set_option maxRecDepth 20000 in
theorem gX8_clearRule_X5_empty : GoodIn wsX8_clearRule (wsV RX8 222 RX5 yX5_empty wsX5_empty) := goodIn_app (goodIn_of _ (by decide +kernel)) ggX8_clearRule_X5_empty
theorem dX8_clearRule_0 : decode cX8_clearRule 0 = .ok (.aload_n 0, 1) := by decide +kernel
theorem dX8_clearRule_1 : decode cX8_clearRule 1 = .ok (.getfield 35, 3) := by decide +kernel
theorem dX8_clearRule_4 : decode cX8_clearRule 4 = .ok (.invokevirtual 215, 3) := by decide +kernel
theorem dX8_clearRule_7 : decode cX8_clearRule 7 = .ok (.istore_n 1, 1) := by decide +kernel
theorem dX8_clearRule_8 : decode cX8_clearRule 8 = .ok (.aload_n 0, 1) := by decide +kernel
theorem dX8_clearRule_9 : decode cX8_clearRule 9 = .ok (.getfield 35, 3) := by decide +kernel
theorem dX8_clearRule_12 : decode cX8_clearRule 12 = .ok (.invokevirtual 222, 3) := by decide +kernel
theorem dX8_clearRule_15 : decode cX8_clearRule 15 = .ok (.iload_n 1, 1) := by decide +kernel
theorem dX8_clearRule_16 : decode cX8_clearRule 16 = .ok (.ireturn, 1) := by decide +kernel
set_option maxRecDepth 20000 in
theorem ggX8_fault_X5_firstFault : GoodIn wsX8_fault wsX5_firstFault := goodIn_r _ [6, 7, 8, 9, 10, 5, 11, 12, 13, 14, 15, 16, 17, 18, 19, 20, 21, 22, 23, 24, 25, 26, 27, 28, 29, 42, 43] (by decide +kernel) (by decide +kernel)
set_option maxRecDepth 20000 in
theorem gX8_fault_X5_firstFault : GoodIn wsX8_fault (wsV RX8 225 RX5 yX5_firstFault wsX5_firstFault) := goodIn_app (goodIn_of _ (by decide +kernel)) ggX8_fault_X5_firstFault
set_option maxRecDepth 20000 in
theorem ggX8_fault_X8_orNotFound : GoodIn wsX8_fault wsX8_orNotFound := goodIn_r _ [33] (by decide +kernel) (by decide +kernel)
set_option maxRecDepth 20000 in
theorem gX8_fault_X8_orNotFound : GoodIn wsX8_fault (va_wsS RX8 124 yX8_orNotFound wsX8_orNotFound) := goodIn_app (goodIn_of _ (by decide +kernel)) ggX8_fault_X8_orNotFound
theorem dX8_fault_0 : decode cX8_fault 0 = .ok (.aload_n 0, 1) := by decide +kernel
theorem dX8_fault_1 : decode cX8_fault 1 = .ok (.getfield 35, 3) := by decide +kernel
theorem dX8_fault_4 : decode cX8_fault 4 = .ok (.invokevirtual 225, 3) := by decide +kernel
theorem dX8_fault_7 : decode cX8_fault 7 = .ok (.invokestatic 124, 3) := by decide +kernel
theorem dX8_fault_10 : decode cX8_fault 10 = .ok (.ireturn, 1) := by decide +kernel
set_option maxRecDepth 20000 in
theorem ggX8_satisfies_X1_has : GoodIn wsX8_satisfies wsX1_has := goodIn_r _ [8, 9, 10, 11, 12, 13, 14, 177, 178, 179, 180, 181, 182] (by decide +kernel) (by decide +kernel)
set_option maxRecDepth 20000 in
theorem gX8_satisfies_X1_has : GoodIn wsX8_satisfies (wsV RX8 87 RX1 yX1_has wsX1_has) := goodIn_app (goodIn_of _ (by decide +kernel)) ggX8_satisfies_X1_has
set_option maxRecDepth 20000 in
theorem ggX8_satisfies_X8_isTextUsable : GoodIn wsX8_satisfies wsX8_isTextUsable := goodIn_r _ [18, 3, 19, 20, 21, 22, 23, 24, 25, 26, 27, 28, 29, 30, 31, 32, 33, 34, 35, 36, 37, 38, 39, 40, 41, 42, 43, 44, 45, 46, 47, 48, 49, 50, 51, 52, 53, 54, 55, 56, 57, 11, 58, 59, 60, 10, 12, 61, 62, 63, 64, 65, 66, 169, 170, 171, 172, 173, 174, 175, 176, 183, 184, 185, 186, 187, 188, 189, 190, 191] (by decide +kernel) (by decide +kernel)
set_option maxRecDepth 20000 in
theorem gX8_satisfies_X8_isTextUsable : GoodIn wsX8_satisfies (wsV RX8 228 RX8 yX8_isTextUsable wsX8_isTextUsable) := goodIn_app (goodIn_of _ (by decide +kernel)) ggX8_satisfies_X8_isTextUsable
set_option maxRecDepth 20000 in
theorem ggX8_satisfies_X4_filesFor : GoodIn wsX8_satisfies wsX4_filesFor := goodIn_r _ [71, 72, 73, 74, 75, 76, 77, 70, 78, 79, 80, 81, 82, 83, 7, 84, 9, 85, 86, 87, 22, 88, 24, 89, 52, 53, 54, 25, 90, 91, 92, 93, 94, 95, 96, 97, 98, 99, 51, 38, 39, 40, 100, 101, 102, 103, 13, 11, 14, 104, 105, 106, 107, 108, 109, 110, 111, 112, 113, 114, 115, 10, 12, 116, 117, 118, 64, 119, 120, 121, 122, 123, 124, 125, 126, 127, 128, 129, 130, 131, 132, 133, 134, 135, 136, 137, 138, 139, 140, 141, 142, 143, 144, 145, 146, 147, 33, 34, 148, 149, 150, 151, 152, 153, 154, 155, 156, 157, 158, 159, 160, 161, 162, 163, 164, 165, 166, 167, 192, 193, 194, 195, 196, 197, 198, 199, 177, 178, 179, 180, 181, 182, 183, 184, 185, 186, 187, 188, 189, 190, 191, 200, 201, 202, 203, 204, 205, 206, 207, 208, 209, 210] (by decide +kernel) (by decide +kernel)
set_option maxRecDepth 20000 in
theorem gX8_satisfies_X4_filesFor : GoodIn wsX8_satisfies (wsV RX8 231 RX4 yX4_filesFor wsX4_filesFor) := goodIn_app (goodIn_of _ (by decide +kernel)) ggX8_satisfies_X4_filesFor
set_option maxRecDepth 20000 in
theorem ggX8_satisfies_X8_holds : GoodIn wsX8_satisfies wsX8_holds := goodIn_r _ [14] (by decide +kernel) (by decide +kernel)
set_option maxRecDepth 20000 in
theorem gX8_satisfies_X8_holds : GoodIn wsX8_satisfies (va_wsS RX8 178 yX8_holds wsX8_holds) := goodIn_app (goodIn_of _ (by decide +kernel)) ggX8_satisfies_X8_holds
theorem dX8_satisfies_0 : decode cX8_satisfies 0 = .ok (.aload_n 0, 1) := by decide +kernel
theorem dX8_satisfies_1 : decode cX8_satisfies 1 = .ok (.getfield 10, 3) := by decide +kernel
theorem dX8_satisfies_4 : decode cX8_satisfies 4 = .ok (.iload_n 1, 1) := by decide +kernel
theorem dX8_satisfies_5 : decode cX8_satisfies 5 = .ok (.invokevirtual 87, 3) := by decide +kernel
theorem dX8_satisfies_8 : decode cX8_satisfies 8 = .ok (.ifCond .ne 5, 3) := by decide +kernel
theorem dX8_satisfies_11 : decode cX8_satisfies 11 = .ok (.iconst (-1), 1) := by decide +kernel
theorem dX8_satisfies_12 : decode cX8_satisfies 12 = .ok (.ireturn, 1) := by decide +kernel
theorem dX8_satisfies_13 : decode cX8_satisfies 13 = .ok (.aload_n 0, 1) := by decide +kernel
theorem dX8_satisfies_14 : decode cX8_satisfies 14 = .ok (.bipush 8, 2) := by decide +kernel
theorem dX8_satisfies_16 : decode cX8_satisfies 16 = .ok (.invokevirtual 228, 3) := by decide +kernel
theorem dX8_satisfies_19 : decode cX8_satisfies 19 = .ok (.ifCond .ne 6, 3) := by decide +kernel
theorem dX8_satisfies_22 : decode cX8_satisfies 22 = .ok (.bipush (-2), 2) := by decide +kernel
theorem dX8_satisfies_24 : decode cX8_satisfies 24 = .ok (.ireturn, 1) := by decide +kernel
theorem dX8_satisfies_25 : decode cX8_satisfies 25 = .ok (.aload_n 0, 1) := by decide +kernel
theorem dX8_satisfies_26 : decode cX8_satisfies 26 = .ok (.getfield 51, 3) := by decide +kernel
theorem dX8_satisfies_29 : decode cX8_satisfies 29 = .ok (.aload_n 0, 1) := by decide +kernel
theorem dX8_satisfies_30 : decode cX8_satisfies 30 = .ok (.getfield 35, 3) := by decide +kernel
theorem dX8_satisfies_33 : decode cX8_satisfies 33 = .ok (.invokevirtual 231, 3) := by decide +kernel
theorem dX8_satisfies_36 : decode cX8_satisfies 36 = .ok (.iload_n 1, 1) := by decide +kernel
theorem dX8_satisfies_37 : decode cX8_satisfies 37 = .ok (.invokestatic 178, 3) := by decide +kernel
theorem dX8_satisfies_40 : decode cX8_satisfies 40 = .ok (.ifCond .eq 7, 3) := by decide +kernel
theorem dX8_satisfies_43 : decode cX8_satisfies 43 = .ok (.iconst 1, 1) := by decide +kernel
theorem dX8_satisfies_44 : decode cX8_satisfies 44 = .ok (.goto 4, 3) := by decide +kernel
theorem dX8_satisfies_47 : decode cX8_satisfies 47 = .ok (.iconst 0, 1) := by decide +kernel
theorem dX8_satisfies_48 : decode cX8_satisfies 48 = .ok (.ireturn, 1) := by decide +kernel
set_option maxRecDepth 20000 in
theorem ggX8_select_X8_isTextUsable : GoodIn wsX8_select wsX8_isTextUsable := goodIn_r _ [7, 2, 8, 9, 10, 11, 12, 13, 14, 15, 16, 17, 18, 19, 20, 21, 22, 23, 24, 25, 26, 27, 28, 29, 30, 31, 32, 33, 34, 35, 36, 37, 38, 39, 40, 41, 42, 43, 44, 45, 46, 6, 47, 48, 49, 50, 51, 52, 53, 54, 55, 56, 57, 170, 171, 172, 173, 174, 175, 176, 177, 178, 179, 180, 181, 182, 183, 184, 185, 186] (by decide +kernel) (by decide +kernel)
set_option maxRecDepth 20000 in
theorem gX8_select_X8_isTextUsable : GoodIn wsX8_select (wsV RX8 228 RX8 yX8_isTextUsable wsX8_isTextUsable) := goodIn_app (goodIn_of _ (by decide +kernel)) ggX8_select_X8_isTextUsable
set_option maxRecDepth 20000 in
theorem ggX8_select_X4_filesFor : GoodIn wsX8_select wsX4_filesFor := goodIn_r _ [62, 63, 64, 65, 66, 67, 68, 61, 69, 70, 71, 72, 73, 74, 75, 76, 77, 78, 79, 80, 11, 81, 13, 82, 41, 42, 43, 14, 83, 84, 85, 86, 87, 88, 89, 90, 91, 92, 40, 27, 28, 29, 93, 94, 95, 96, 97, 6, 98, 99, 100, 101, 102, 103, 104, 105, 106, 107, 108, 109, 110, 50, 51, 111, 112, 113, 55, 114, 115, 116, 117, 118, 119, 120, 121, 122, 123, 124, 125, 126, 127, 128, 129, 130, 131, 132, 133, 134, 135, 136, 137, 138, 139, 140, 141, 142, 22, 23, 143, 144, 145, 146, 147, 148, 149, 150, 151, 152, 153, 154, 155, 156, 157, 158, 159, 160, 161, 162, 187, 188, 189, 190, 191, 192, 193, 194, 195, 196, 197, 198, 199, 200, 178, 179, 180, 181, 182, 183, 184, 185, 186, 201, 202, 203, 204, 205, 206, 207, 208, 209, 210, 211] (by decide +kernel) (by decide +kernel)
set_option maxRecDepth 20000 in
theorem gX8_select_X4_filesFor : GoodIn wsX8_select (wsV RX8 231 RX4 yX4_filesFor wsX4_filesFor) := goodIn_app (goodIn_of _ (by decide +kernel)) ggX8_select_X4_filesFor
set_option maxRecDepth 20000 in
theorem ggX8_select_J13_bitCount_95d88 : GoodIn wsX8_select wsJ13_bitCount_95d88 := goodIn_r _ [166, 167, 168, 169] (by decide +kernel) (by decide +kernel)
set_option maxRecDepth 20000 in
theorem gX8_select_J13_bitCount_95d88 : GoodIn wsX8_select (va_wsS RX8 153 yJ13_bitCount_95d88 wsJ13_bitCount_95d88) := goodIn_app (goodIn_of _ (by decide +kernel)) ggX8_select_J13_bitCount_95d88
theorem dX8_select_0 : decode cX8_select 0 = .ok (.aload_n 0, 1) := by decide +kernel
theorem dX8_select_1 : decode cX8_select 1 = .ok (.bipush 8, 2) := by decide +kernel
theorem dX8_select_3 : decode cX8_select 3 = .ok (.invokevirtual 228, 3) := by decide +kernel
theorem dX8_select_6 : decode cX8_select 6 = .ok (.ifCond .ne 6, 3) := by decide +kernel
theorem dX8_select_9 : decode cX8_select 9 = .ok (.bipush (-2), 2) := by decide +kernel
theorem dX8_select_11 : decode cX8_select 11 = .ok (.ireturn, 1) := by decide +kernel
theorem dX8_select_12 : decode cX8_select 12 = .ok (.aload_n 0, 1) := by decide +kernel
theorem dX8_select_13 : decode cX8_select 13 = .ok (.getfield 51, 3) := by decide +kernel
theorem dX8_select_16 : decode cX8_select 16 = .ok (.aload_n 0, 1) := by decide +kernel
theorem dX8_select_17 : decode cX8_select 17 = .ok (.getfield 35, 3) := by decide +kernel
theorem dX8_select_20 : decode cX8_select 20 = .ok (.invokevirtual 231, 3) := by decide +kernel
theorem dX8_select_23 : decode cX8_select 23 = .ok (.invokestatic 153, 3) := by decide +kernel
theorem dX8_select_26 : decode cX8_select 26 = .ok (.ireturn, 1) := by decide +kernel
set_option maxRecDepth 20000 in
theorem ggX8_makeAlbum_X8_freeAlbum : GoodIn wsX8_makeAlbum wsX8_freeAlbum := goodIn_r _ [7, 8, 9, 10, 6, 11, 1, 12, 13, 14, 15, 16, 17, 18, 19, 20, 298, 299, 300, 301, 302, 303, 304, 305, 306, 307, 308, 309, 310, 311, 312] (by decide +kernel) (by decide +kernel)
set_option maxRecDepth 20000 in
theorem gX8_makeAlbum_X8_freeAlbum : GoodIn wsX8_makeAlbum (wsV RX8 235 RX8 yX8_freeAlbum wsX8_freeAlbum) := goodIn_app (goodIn_of _ (by decide +kernel)) ggX8_makeAlbum_X8_freeAlbum
set_option maxRecDepth 20000 in
theorem ggX8_makeAlbum_X8_isTextUsable : GoodIn wsX8_makeAlbum wsX8_isTextUsable := goodIn_r _ [24, 2, 25, 26, 27, 28, 29, 30, 31, 32, 33, 34, 35, 36, 37, 38, 39, 40, 41, 42, 43, 44, 45, 46, 47, 48, 49, 50, 51, 52, 53, 54, 55, 56, 57, 58, 59, 60, 8, 9, 10, 6, 11, 1, 12, 13, 14, 15, 16, 17, 18, 19, 20, 298, 299, 300, 301, 302, 303, 304, 305, 313, 314, 306, 307, 308, 309, 310, 311, 312] (by decide +kernel) (by decide +kernel)
set_option maxRecDepth 20000 in
theorem gX8_makeAlbum_X8_isTextUsable : GoodIn wsX8_makeAlbum (wsV RX8 228 RX8 yX8_isTextUsable wsX8_isTextUsable) := goodIn_app (goodIn_of _ (by decide +kernel)) ggX8_makeAlbum_X8_isTextUsable
set_option maxRecDepth 20000 in
theorem ggX8_makeAlbum_X0_begin : GoodIn wsX8_makeAlbum wsX0_begin := goodIn_r _ [64, 20, 65, 66, 67, 68, 69, 70, 18, 71, 72, 73, 74, 75, 76, 77, 78, 79, 80, 81, 28, 82, 31, 30, 83, 84, 85, 86, 306, 307, 308, 309, 310, 311, 312, 313, 314] (by decide +kernel) (by decide +kernel)
set_option maxRecDepth 20000 in
theorem gX8_makeAlbum_X0_begin : GoodIn wsX8_makeAlbum (wsV RX8 238 RX0 yX0_begin wsX0_begin) := goodIn_app (goodIn_of _ (by decide +kernel)) ggX8_makeAlbum_X0_begin
set_option maxRecDepth 20000 in
theorem ggX8_makeAlbum_X8_settle : GoodIn wsX8_makeAlbum wsX8_settle := goodIn_r _ [90, 91, 92, 93, 94, 1, 95, 96, 97, 98, 99, 100, 101, 102, 6, 103, 104, 105, 106, 107, 108, 109, 110, 111, 112, 113, 114, 115, 116, 117, 118, 119, 120, 121, 122, 123, 124, 125, 126, 127, 128, 129, 130, 131, 132, 133, 134, 135, 136, 137, 138, 139, 140, 141, 142, 143, 144, 145, 146, 147, 148, 149, 150, 151, 152, 153, 154, 155, 156, 157, 158, 159, 160, 161, 162, 163, 164, 165, 166, 167, 168, 169, 170, 171, 172, 173, 174, 175, 176, 177, 178, 179, 13, 14, 180, 181, 182, 183, 184, 185, 186, 187, 188, 189, 190, 8, 9, 10, 11, 12, 15, 16, 17, 18, 19, 20, 191, 192, 193, 194, 78, 195, 196, 197, 198, 199, 200, 201, 202, 203, 204, 205, 206, 207, 208, 209, 210, 211, 212, 28, 213, 30, 214, 58, 59, 60, 31, 215, 216, 217, 218, 219, 220, 221, 222, 223, 224, 57, 44, 45, 46, 225, 226, 227, 228, 229, 230, 231, 232, 233, 234, 235, 236, 237, 238, 65, 239, 240, 241, 242, 243, 244, 245, 246, 247, 248, 249, 250, 251, 252, 253, 254, 255, 256, 257, 258, 259, 260, 39, 40, 261, 262, 263, 264, 265, 266, 267, 268, 269, 270, 271, 272, 273, 274, 275, 276, 277, 278, 279, 280, 281, 282, 283, 284, 66, 67, 285, 286, 287, 288, 289, 290, 291, 292, 293, 294, 295, 296, 297, 298, 299, 300, 301, 302, 303, 304, 305, 315, 316, 317, 318, 319, 320, 321, 322, 323, 324, 325, 326, 327, 328, 329, 330, 331, 306, 307, 308, 309, 310, 311, 312, 332, 333, 334, 335, 336, 337, 338, 339, 313, 314, 340, 341, 342, 343, 344] (by decide +kernel) (by decide +kernel)
set_option maxRecDepth 20000 in
theorem gX8_makeAlbum_X8_settle : GoodIn wsX8_makeAlbum (wsV RX8 84 RX8 yX8_settle wsX8_settle) := goodIn_app (goodIn_of _ (by decide +kernel)) ggX8_makeAlbum_X8_settle
theorem dX8_makeAlbum_0 : decode cX8_makeAlbum 0 = .ok (.aload_n 0, 1) := by decide +kernel
theorem dX8_makeAlbum_1 : decode cX8_makeAlbum 1 = .ok (.invokevirtual 235, 3) := by decide +kernel
theorem dX8_makeAlbum_4 : decode cX8_makeAlbum 4 = .ok (.istore_n 1, 1) := by decide +kernel
theorem dX8_makeAlbum_5 : decode cX8_makeAlbum 5 = .ok (.aload_n 0, 1) := by decide +kernel
theorem dX8_makeAlbum_6 : decode cX8_makeAlbum 6 = .ok (.iload_n 1, 1) := by decide +kernel
theorem dX8_makeAlbum_7 : decode cX8_makeAlbum 7 = .ok (.invokevirtual 228, 3) := by decide +kernel
theorem dX8_makeAlbum_10 : decode cX8_makeAlbum 10 = .ok (.ifCond .ne 6, 3) := by decide +kernel
theorem dX8_makeAlbum_13 : decode cX8_makeAlbum 13 = .ok (.bipush (-2), 2) := by decide +kernel
theorem dX8_makeAlbum_15 : decode cX8_makeAlbum 15 = .ok (.ireturn, 1) := by decide +kernel
theorem dX8_makeAlbum_16 : decode cX8_makeAlbum 16 = .ok (.iload_n 1, 1) := by decide +kernel
theorem dX8_makeAlbum_17 : decode cX8_makeAlbum 17 = .ok (.bipush 8, 2) := by decide +kernel
theorem dX8_makeAlbum_19 : decode cX8_makeAlbum 19 = .ok (.if_icmp .ne 6, 3) := by decide +kernel
theorem dX8_makeAlbum_22 : decode cX8_makeAlbum 22 = .ok (.bipush (-3), 2) := by decide +kernel
theorem dX8_makeAlbum_24 : decode cX8_makeAlbum 24 = .ok (.ireturn, 1) := by decide +kernel
theorem dX8_makeAlbum_25 : decode cX8_makeAlbum 25 = .ok (.aload_n 0, 1) := by decide +kernel
theorem dX8_makeAlbum_26 : decode cX8_makeAlbum 26 = .ok (.getfield 41, 3) := by decide +kernel
theorem dX8_makeAlbum_29 : decode cX8_makeAlbum 29 = .ok (.iload_n 1, 1) := by decide +kernel
theorem dX8_makeAlbum_30 : decode cX8_makeAlbum 30 = .ok (.aaload, 1) := by decide +kernel
theorem dX8_makeAlbum_31 : decode cX8_makeAlbum 31 = .ok (.aload_n 0, 1) := by decide +kernel
theorem dX8_makeAlbum_32 : decode cX8_makeAlbum 32 = .ok (.getfield 35, 3) := by decide +kernel
theorem dX8_makeAlbum_35 : decode cX8_makeAlbum 35 = .ok (.invokevirtual 238, 3) := by decide +kernel
theorem dX8_makeAlbum_38 : decode cX8_makeAlbum 38 = .ok (.aload_n 0, 1) := by decide +kernel
theorem dX8_makeAlbum_39 : decode cX8_makeAlbum 39 = .ok (.invokevirtual 84, 3) := by decide +kernel
theorem dX8_makeAlbum_42 : decode cX8_makeAlbum 42 = .ok (.iload_n 1, 1) := by decide +kernel
theorem dX8_makeAlbum_43 : decode cX8_makeAlbum 43 = .ok (.ireturn, 1) := by decide +kernel
set_option maxRecDepth 20000 in
theorem ggX8_removeAlbum_X8_hasAlbum : GoodIn wsX8_removeAlbum wsX8_hasAlbum := goodIn_r _ [6, 1, 7, 8, 5, 9, 10, 11, 12, 13, 14, 15, 44, 45, 46, 47, 48, 49, 50, 51, 52, 53, 54, 55, 56, 57, 58] (by decide +kernel) (by decide +kernel)
set_option maxRecDepth 20000 in
theorem gX8_removeAlbum_X8_hasAlbum : GoodIn wsX8_removeAlbum (wsV RX8 241 RX8 yX8_hasAlbum wsX8_hasAlbum) := goodIn_app (goodIn_of _ (by decide +kernel)) ggX8_removeAlbum_X8_hasAlbum
set_option maxRecDepth 20000 in
theorem ggX8_removeAlbum_X8_isNamed : GoodIn wsX8_removeAlbum wsX8_isNamed := goodIn_r _ [19, 1, 2, 3, 4, 5, 6, 7, 8, 9, 10, 11, 12, 13, 14, 15, 20, 21, 22, 23, 24, 25, 26, 27, 28, 29, 30, 31, 32, 33, 34, 35, 44, 45, 46, 47, 48, 49, 50, 51, 52, 53, 54, 55, 56, 57, 58, 59, 60] (by decide +kernel) (by decide +kernel)
set_option maxRecDepth 20000 in
theorem gX8_removeAlbum_X8_isNamed : GoodIn wsX8_removeAlbum (wsV RX8 244 RX8 yX8_isNamed wsX8_isNamed) := goodIn_app (goodIn_of _ (by decide +kernel)) ggX8_removeAlbum_X8_isNamed
set_option maxRecDepth 20000 in
theorem ggX8_removeAlbum_X0_end : GoodIn wsX8_removeAlbum wsX0_end := goodIn_r _ [39, 15, 52, 53, 54, 55, 56, 57, 58] (by decide +kernel) (by decide +kernel)
set_option maxRecDepth 20000 in
theorem gX8_removeAlbum_X0_end : GoodIn wsX8_removeAlbum (wsV RX8 247 RX0 yX0_end wsX0_end) := goodIn_app (goodIn_of _ (by decide +kernel)) ggX8_removeAlbum_X0_end
set_option maxRecDepth 20000 in
theorem ggX8_removeAlbum_X8_albumCount : GoodIn wsX8_removeAlbum wsX8_albumCount := goodIn_r _ [43, 2, 3, 4, 5, 6, 1, 7, 8, 9, 10, 11, 12, 13, 14, 15, 44, 45, 46, 47, 48, 49, 50, 51, 52, 53, 54, 55, 56, 57, 58] (by decide +kernel) (by decide +kernel)
set_option maxRecDepth 20000 in
theorem gX8_removeAlbum_X8_albumCount : GoodIn wsX8_removeAlbum (wsV RX8 250 RX8 yX8_albumCount wsX8_albumCount) := goodIn_app (goodIn_of _ (by decide +kernel)) ggX8_removeAlbum_X8_albumCount
theorem dX8_removeAlbum_0 : decode cX8_removeAlbum 0 = .ok (.aload_n 0, 1) := by decide +kernel
theorem dX8_removeAlbum_1 : decode cX8_removeAlbum 1 = .ok (.iload_n 1, 1) := by decide +kernel
theorem dX8_removeAlbum_2 : decode cX8_removeAlbum 2 = .ok (.invokevirtual 241, 3) := by decide +kernel
theorem dX8_removeAlbum_5 : decode cX8_removeAlbum 5 = .ok (.ifCond .ne 5, 3) := by decide +kernel
theorem dX8_removeAlbum_8 : decode cX8_removeAlbum 8 = .ok (.iconst (-1), 1) := by decide +kernel
theorem dX8_removeAlbum_9 : decode cX8_removeAlbum 9 = .ok (.ireturn, 1) := by decide +kernel
theorem dX8_removeAlbum_10 : decode cX8_removeAlbum 10 = .ok (.aload_n 0, 1) := by decide +kernel
theorem dX8_removeAlbum_11 : decode cX8_removeAlbum 11 = .ok (.iload_n 1, 1) := by decide +kernel
theorem dX8_removeAlbum_12 : decode cX8_removeAlbum 12 = .ok (.invokevirtual 244, 3) := by decide +kernel
theorem dX8_removeAlbum_15 : decode cX8_removeAlbum 15 = .ok (.ifCond .eq 6, 3) := by decide +kernel
theorem dX8_removeAlbum_18 : decode cX8_removeAlbum 18 = .ok (.bipush (-2), 2) := by decide +kernel
theorem dX8_removeAlbum_20 : decode cX8_removeAlbum 20 = .ok (.ireturn, 1) := by decide +kernel
theorem dX8_removeAlbum_21 : decode cX8_removeAlbum 21 = .ok (.aload_n 0, 1) := by decide +kernel
theorem dX8_removeAlbum_22 : decode cX8_removeAlbum 22 = .ok (.getfield 41, 3) := by decide +kernel
theorem dX8_removeAlbum_25 : decode cX8_removeAlbum 25 = .ok (.iload_n 1, 1) := by decide +kernel
theorem dX8_removeAlbum_26 : decode cX8_removeAlbum 26 = .ok (.aaload, 1) := by decide +kernel
theorem dX8_removeAlbum_27 : decode cX8_removeAlbum 27 = .ok (.invokevirtual 247, 3) := by decide +kernel
theorem dX8_removeAlbum_30 : decode cX8_removeAlbum 30 = .ok (.aload_n 0, 1) := by decide +kernel
theorem dX8_removeAlbum_31 : decode cX8_removeAlbum 31 = .ok (.invokevirtual 250, 3) := by decide +kernel
theorem dX8_removeAlbum_34 : decode cX8_removeAlbum 34 = .ok (.ireturn, 1) := by decide +kernel
set_option maxRecDepth 20000 in
theorem ggX8_changeRule_X8_hasAlbum : GoodIn wsX8_changeRule wsX8_hasAlbum := goodIn_r _ [7, 1, 8, 9, 6, 10, 11, 12, 13, 14, 15, 16, 286, 287, 288, 289, 290, 291, 292, 293, 294, 295, 296, 297, 298, 299, 300] (by decide +kernel) (by decide +kernel)
set_option maxRecDepth 20000 in
theorem gX8_changeRule_X8_hasAlbum : GoodIn wsX8_changeRule (wsV RX8 241 RX8 yX8_hasAlbum wsX8_hasAlbum) := goodIn_app (goodIn_of _ (by decide +kernel)) ggX8_changeRule_X8_hasAlbum
set_option maxRecDepth 20000 in
theorem ggX8_changeRule_X8_isTextUsable : GoodIn wsX8_changeRule wsX8_isTextUsable := goodIn_r _ [20, 2, 21, 22, 23, 24, 25, 26, 27, 28, 29, 30, 31, 32, 33, 34, 35, 36, 37, 38, 39, 40, 41, 42, 43, 44, 45, 46, 47, 48, 49, 50, 51, 52, 53, 54, 55, 56, 3, 4, 5, 6, 7, 1, 8, 9, 10, 11, 12, 13, 14, 15, 16, 286, 287, 288, 289, 290, 291, 292, 293, 301, 302, 294, 295, 296, 297, 298, 299, 300] (by decide +kernel) (by decide +kernel)
set_option maxRecDepth 20000 in
theorem gX8_changeRule_X8_isTextUsable : GoodIn wsX8_changeRule (wsV RX8 228 RX8 yX8_isTextUsable wsX8_isTextUsable) := goodIn_app (goodIn_of _ (by decide +kernel)) ggX8_changeRule_X8_isTextUsable
set_option maxRecDepth 20000 in
theorem ggX8_changeRule_X0_follow : GoodIn wsX8_changeRule wsX0_follow := goodIn_r _ [60, 61, 62, 63, 64, 24, 65, 27, 26, 66, 67, 68, 69, 294, 295, 296, 297, 298, 299, 300, 301, 302] (by decide +kernel) (by decide +kernel)
set_option maxRecDepth 20000 in
theorem gX8_changeRule_X0_follow : GoodIn wsX8_changeRule (wsV RX8 253 RX0 yX0_follow wsX0_follow) := goodIn_app (goodIn_of _ (by decide +kernel)) ggX8_changeRule_X0_follow
set_option maxRecDepth 20000 in
theorem ggX8_changeRule_X8_settle : GoodIn wsX8_changeRule wsX8_settle := goodIn_r _ [73, 74, 75, 76, 77, 1, 78, 79, 80, 81, 82, 83, 84, 85, 6, 86, 87, 88, 89, 90, 91, 92, 93, 94, 95, 96, 97, 98, 99, 100, 101, 102, 103, 104, 105, 106, 107, 108, 109, 110, 111, 112, 113, 114, 115, 116, 117, 118, 119, 120, 121, 122, 123, 124, 125, 126, 127, 128, 129, 130, 131, 132, 133, 134, 135, 136, 137, 138, 139, 140, 141, 142, 143, 144, 145, 146, 147, 148, 149, 150, 151, 152, 153, 154, 155, 156, 157, 158, 159, 160, 161, 162, 9, 10, 163, 164, 165, 166, 167, 168, 169, 170, 171, 172, 173, 3, 4, 5, 7, 8, 11, 12, 13, 14, 15, 16, 174, 175, 176, 177, 61, 178, 179, 180, 181, 182, 183, 184, 185, 186, 187, 188, 189, 190, 191, 192, 193, 194, 195, 24, 196, 26, 197, 54, 55, 56, 27, 198, 199, 200, 201, 202, 203, 204, 205, 206, 207, 53, 40, 41, 42, 208, 209, 210, 211, 212, 213, 214, 215, 216, 217, 218, 219, 220, 221, 222, 223, 224, 225, 226, 227, 228, 229, 230, 231, 232, 233, 234, 235, 236, 237, 238, 239, 240, 241, 242, 243, 244, 35, 36, 245, 246, 247, 248, 249, 250, 251, 252, 253, 254, 255, 256, 257, 258, 259, 260, 261, 262, 263, 264, 265, 266, 267, 268, 269, 270, 271, 272, 273, 274, 275, 276, 277, 278, 279, 280, 281, 282, 283, 286, 287, 288, 289, 290, 291, 292, 293, 303, 304, 305, 306, 307, 308, 309, 310, 311, 312, 313, 314, 315, 316, 317, 318, 319, 294, 295, 296, 297, 298, 299, 300, 320, 321, 322, 323, 324, 325, 326, 327, 301, 302, 328, 329, 330, 331, 332] (by decide +kernel) (by decide +kernel)
set_option maxRecDepth 20000 in
theorem gX8_changeRule_X8_settle : GoodIn wsX8_changeRule (wsV RX8 84 RX8 yX8_settle wsX8_settle) := goodIn_app (goodIn_of _ (by decide +kernel)) ggX8_changeRule_X8_settle
set_option maxRecDepth 20000 in
theorem ggX8_changeRule_X0_members : GoodIn wsX8_changeRule wsX0_members := goodIn_r _ [221, 222, 294, 295, 296, 297, 298, 299, 300] (by decide +kernel) (by decide +kernel)
set_option maxRecDepth 20000 in
theorem gX8_changeRule_X0_members : GoodIn wsX8_changeRule (wsV RX8 256 RX0 yX0_members wsX0_members) := goodIn_app (goodIn_of _ (by decide +kernel)) ggX8_changeRule_X0_members
set_option maxRecDepth 20000 in
theorem ggX8_changeRule_J13_bitCount_95d88 : GoodIn wsX8_changeRule wsJ13_bitCount_95d88 := goodIn_r _ [148, 149, 150, 151] (by decide +kernel) (by decide +kernel)
set_option maxRecDepth 20000 in
theorem gX8_changeRule_J13_bitCount_95d88 : GoodIn wsX8_changeRule (va_wsS RX8 153 yJ13_bitCount_95d88 wsJ13_bitCount_95d88) := goodIn_app (goodIn_of _ (by decide +kernel)) ggX8_changeRule_J13_bitCount_95d88
theorem dX8_changeRule_0 : decode cX8_changeRule 0 = .ok (.aload_n 0, 1) := by decide +kernel
theorem dX8_changeRule_1 : decode cX8_changeRule 1 = .ok (.iload_n 1, 1) := by decide +kernel
theorem dX8_changeRule_2 : decode cX8_changeRule 2 = .ok (.invokevirtual 241, 3) := by decide +kernel
theorem dX8_changeRule_5 : decode cX8_changeRule 5 = .ok (.ifCond .ne 5, 3) := by decide +kernel
theorem dX8_changeRule_8 : decode cX8_changeRule 8 = .ok (.iconst (-1), 1) := by decide +kernel
theorem dX8_changeRule_9 : decode cX8_changeRule 9 = .ok (.ireturn, 1) := by decide +kernel
theorem dX8_changeRule_10 : decode cX8_changeRule 10 = .ok (.aload_n 0, 1) := by decide +kernel
theorem dX8_changeRule_11 : decode cX8_changeRule 11 = .ok (.iload_n 1, 1) := by decide +kernel
theorem dX8_changeRule_12 : decode cX8_changeRule 12 = .ok (.invokevirtual 228, 3) := by decide +kernel
theorem dX8_changeRule_15 : decode cX8_changeRule 15 = .ok (.ifCond .ne 6, 3) := by decide +kernel
theorem dX8_changeRule_18 : decode cX8_changeRule 18 = .ok (.bipush (-2), 2) := by decide +kernel
theorem dX8_changeRule_20 : decode cX8_changeRule 20 = .ok (.ireturn, 1) := by decide +kernel
theorem dX8_changeRule_21 : decode cX8_changeRule 21 = .ok (.aload_n 0, 1) := by decide +kernel
theorem dX8_changeRule_22 : decode cX8_changeRule 22 = .ok (.getfield 41, 3) := by decide +kernel
theorem dX8_changeRule_25 : decode cX8_changeRule 25 = .ok (.iload_n 1, 1) := by decide +kernel
theorem dX8_changeRule_26 : decode cX8_changeRule 26 = .ok (.aaload, 1) := by decide +kernel
theorem dX8_changeRule_27 : decode cX8_changeRule 27 = .ok (.aload_n 0, 1) := by decide +kernel
theorem dX8_changeRule_28 : decode cX8_changeRule 28 = .ok (.getfield 35, 3) := by decide +kernel
theorem dX8_changeRule_31 : decode cX8_changeRule 31 = .ok (.invokevirtual 253, 3) := by decide +kernel
theorem dX8_changeRule_34 : decode cX8_changeRule 34 = .ok (.aload_n 0, 1) := by decide +kernel
theorem dX8_changeRule_35 : decode cX8_changeRule 35 = .ok (.invokevirtual 84, 3) := by decide +kernel
theorem dX8_changeRule_38 : decode cX8_changeRule 38 = .ok (.aload_n 0, 1) := by decide +kernel
theorem dX8_changeRule_39 : decode cX8_changeRule 39 = .ok (.getfield 41, 3) := by decide +kernel
theorem dX8_changeRule_42 : decode cX8_changeRule 42 = .ok (.iload_n 1, 1) := by decide +kernel
theorem dX8_changeRule_43 : decode cX8_changeRule 43 = .ok (.aaload, 1) := by decide +kernel
theorem dX8_changeRule_44 : decode cX8_changeRule 44 = .ok (.invokevirtual 256, 3) := by decide +kernel
theorem dX8_changeRule_47 : decode cX8_changeRule 47 = .ok (.invokestatic 153, 3) := by decide +kernel
theorem dX8_changeRule_50 : decode cX8_changeRule 50 = .ok (.ireturn, 1) := by decide +kernel
set_option maxRecDepth 20000 in
theorem ggX8_albumSize_X8_hasAlbum : GoodIn wsX8_albumSize wsX8_hasAlbum := goodIn_r _ [6, 1, 7, 8, 5, 9, 10, 11, 12, 13, 14, 15, 28, 29, 30, 31, 32, 33, 34, 35, 36, 37, 38, 39, 40, 41, 42] (by decide +kernel) (by decide +kernel)
set_option maxRecDepth 20000 in
theorem gX8_albumSize_X8_hasAlbum : GoodIn wsX8_albumSize (wsV RX8 241 RX8 yX8_hasAlbum wsX8_hasAlbum) := goodIn_app (goodIn_of _ (by decide +kernel)) ggX8_albumSize_X8_hasAlbum
set_option maxRecDepth 20000 in
theorem ggX8_albumSize_X0_members : GoodIn wsX8_albumSize wsX0_members := goodIn_r _ [19, 20, 36, 37, 38, 39, 40, 41, 42] (by decide +kernel) (by decide +kernel)
set_option maxRecDepth 20000 in
theorem gX8_albumSize_X0_members : GoodIn wsX8_albumSize (wsV RX8 256 RX0 yX0_members wsX0_members) := goodIn_app (goodIn_of _ (by decide +kernel)) ggX8_albumSize_X0_members
set_option maxRecDepth 20000 in
theorem ggX8_albumSize_J13_bitCount_95d88 : GoodIn wsX8_albumSize wsJ13_bitCount_95d88 := goodIn_r _ [24, 25, 26, 27] (by decide +kernel) (by decide +kernel)
set_option maxRecDepth 20000 in
theorem gX8_albumSize_J13_bitCount_95d88 : GoodIn wsX8_albumSize (va_wsS RX8 153 yJ13_bitCount_95d88 wsJ13_bitCount_95d88) := goodIn_app (goodIn_of _ (by decide +kernel)) ggX8_albumSize_J13_bitCount_95d88
theorem dX8_albumSize_0 : decode cX8_albumSize 0 = .ok (.aload_n 0, 1) := by decide +kernel
theorem dX8_albumSize_1 : decode cX8_albumSize 1 = .ok (.iload_n 1, 1) := by decide +kernel
theorem dX8_albumSize_2 : decode cX8_albumSize 2 = .ok (.invokevirtual 241, 3) := by decide +kernel
theorem dX8_albumSize_5 : decode cX8_albumSize 5 = .ok (.ifCond .ne 5, 3) := by decide +kernel
theorem dX8_albumSize_8 : decode cX8_albumSize 8 = .ok (.iconst (-1), 1) := by decide +kernel
theorem dX8_albumSize_9 : decode cX8_albumSize 9 = .ok (.ireturn, 1) := by decide +kernel
theorem dX8_albumSize_10 : decode cX8_albumSize 10 = .ok (.aload_n 0, 1) := by decide +kernel
theorem dX8_albumSize_11 : decode cX8_albumSize 11 = .ok (.getfield 41, 3) := by decide +kernel
theorem dX8_albumSize_14 : decode cX8_albumSize 14 = .ok (.iload_n 1, 1) := by decide +kernel
theorem dX8_albumSize_15 : decode cX8_albumSize 15 = .ok (.aaload, 1) := by decide +kernel
theorem dX8_albumSize_16 : decode cX8_albumSize 16 = .ok (.invokevirtual 256, 3) := by decide +kernel
theorem dX8_albumSize_19 : decode cX8_albumSize 19 = .ok (.invokestatic 153, 3) := by decide +kernel
theorem dX8_albumSize_22 : decode cX8_albumSize 22 = .ok (.ireturn, 1) := by decide +kernel
set_option maxRecDepth 20000 in
theorem ggX8_isIn_X8_hasAlbum : GoodIn wsX8_isIn wsX8_hasAlbum := goodIn_r _ [7, 2, 8, 9, 6, 10, 11, 12, 13, 14, 15, 16, 31, 32, 33, 34, 35, 36, 37, 38, 39, 40, 41, 42, 43, 44, 45] (by decide +kernel) (by decide +kernel)
set_option maxRecDepth 20000 in
theorem gX8_isIn_X8_hasAlbum : GoodIn wsX8_isIn (wsV RX8 241 RX8 yX8_hasAlbum wsX8_hasAlbum) := goodIn_app (goodIn_of _ (by decide +kernel)) ggX8_isIn_X8_hasAlbum
set_option maxRecDepth 20000 in
theorem ggX8_isIn_X1_has : GoodIn wsX8_isIn wsX1_has := goodIn_r _ [21, 22, 9, 6, 10, 23, 24, 46, 47, 48, 49, 50, 51] (by decide +kernel) (by decide +kernel)
set_option maxRecDepth 20000 in
theorem gX8_isIn_X1_has : GoodIn wsX8_isIn (wsV RX8 87 RX1 yX1_has wsX1_has) := goodIn_app (goodIn_of _ (by decide +kernel)) ggX8_isIn_X1_has
set_option maxRecDepth 20000 in
theorem ggX8_isIn_X0_members : GoodIn wsX8_isIn wsX0_members := goodIn_r _ [28, 29, 39, 40, 41, 42, 43, 44, 45] (by decide +kernel) (by decide +kernel)
set_option maxRecDepth 20000 in
theorem gX8_isIn_X0_members : GoodIn wsX8_isIn (wsV RX8 256 RX0 yX0_members wsX0_members) := goodIn_app (goodIn_of _ (by decide +kernel)) ggX8_isIn_X0_members
set_option maxRecDepth 20000 in
theorem ggX8_isIn_X8_holds : GoodIn wsX8_isIn wsX8_holds := goodIn_r _ [24] (by decide +kernel) (by decide +kernel)
set_option maxRecDepth 20000 in
theorem gX8_isIn_X8_holds : GoodIn wsX8_isIn (va_wsS RX8 178 yX8_holds wsX8_holds) := goodIn_app (goodIn_of _ (by decide +kernel)) ggX8_isIn_X8_holds
theorem dX8_isIn_0 : decode cX8_isIn 0 = .ok (.aload_n 0, 1) := by decide +kernel
theorem dX8_isIn_1 : decode cX8_isIn 1 = .ok (.iload_n 1, 1) := by decide +kernel
theorem dX8_isIn_2 : decode cX8_isIn 2 = .ok (.invokevirtual 241, 3) := by decide +kernel
theorem dX8_isIn_5 : decode cX8_isIn 5 = .ok (.ifCond .eq 14, 3) := by decide +kernel
theorem dX8_isIn_8 : decode cX8_isIn 8 = .ok (.aload_n 0, 1) := by decide +kernel
theorem dX8_isIn_9 : decode cX8_isIn 9 = .ok (.getfield 10, 3) := by decide +kernel
theorem dX8_isIn_12 : decode cX8_isIn 12 = .ok (.iload_n 2, 1) := by decide +kernel
theorem dX8_isIn_13 : decode cX8_isIn 13 = .ok (.invokevirtual 87, 3) := by decide +kernel
theorem dX8_isIn_16 : decode cX8_isIn 16 = .ok (.ifCond .ne 5, 3) := by decide +kernel
theorem dX8_isIn_19 : decode cX8_isIn 19 = .ok (.iconst (-1), 1) := by decide +kernel
theorem dX8_isIn_20 : decode cX8_isIn 20 = .ok (.ireturn, 1) := by decide +kernel
theorem dX8_isIn_21 : decode cX8_isIn 21 = .ok (.aload_n 0, 1) := by decide +kernel
theorem dX8_isIn_22 : decode cX8_isIn 22 = .ok (.getfield 41, 3) := by decide +kernel
theorem dX8_isIn_25 : decode cX8_isIn 25 = .ok (.iload_n 1, 1) := by decide +kernel
theorem dX8_isIn_26 : decode cX8_isIn 26 = .ok (.aaload, 1) := by decide +kernel
theorem dX8_isIn_27 : decode cX8_isIn 27 = .ok (.invokevirtual 256, 3) := by decide +kernel
theorem dX8_isIn_30 : decode cX8_isIn 30 = .ok (.iload_n 2, 1) := by decide +kernel
theorem dX8_isIn_31 : decode cX8_isIn 31 = .ok (.invokestatic 178, 3) := by decide +kernel
theorem dX8_isIn_34 : decode cX8_isIn 34 = .ok (.ifCond .eq 7, 3) := by decide +kernel
theorem dX8_isIn_37 : decode cX8_isIn 37 = .ok (.iconst 1, 1) := by decide +kernel
theorem dX8_isIn_38 : decode cX8_isIn 38 = .ok (.goto 4, 3) := by decide +kernel
theorem dX8_isIn_41 : decode cX8_isIn 41 = .ok (.iconst 0, 1) := by decide +kernel
theorem dX8_isIn_42 : decode cX8_isIn 42 = .ok (.ireturn, 1) := by decide +kernel
set_option maxRecDepth 20000 in
theorem ggX8_sortBy_X8_hasAlbum : GoodIn wsX8_sortBy wsX8_hasAlbum := goodIn_r _ [6, 1, 7, 8, 5, 9, 10, 11, 12, 13, 14, 15, 26, 27, 28, 29, 30, 31, 32, 33, 34, 35, 36, 37, 38, 39, 40] (by decide +kernel) (by decide +kernel)
set_option maxRecDepth 20000 in
theorem gX8_sortBy_X8_hasAlbum : GoodIn wsX8_sortBy (wsV RX8 241 RX8 yX8_hasAlbum wsX8_hasAlbum) := goodIn_app (goodIn_of _ (by decide +kernel)) ggX8_sortBy_X8_hasAlbum
set_option maxRecDepth 20000 in
theorem ggX8_sortBy_X8_isWithin : GoodIn wsX8_sortBy wsX8_isWithin := goodIn_r _ [9] (by decide +kernel) (by decide +kernel)
set_option maxRecDepth 20000 in
theorem gX8_sortBy_X8_isWithin : GoodIn wsX8_sortBy (va_wsS RX8 71 yX8_isWithin wsX8_isWithin) := goodIn_app (goodIn_of _ (by decide +kernel)) ggX8_sortBy_X8_isWithin
set_option maxRecDepth 20000 in
theorem ggX8_sortBy_X0_sortCode : GoodIn wsX8_sortBy wsX0_sortCode := goodIn_r _ [19, 20, 21, 34, 35, 36, 37, 38, 39, 40] (by decide +kernel) (by decide +kernel)
set_option maxRecDepth 20000 in
theorem gX8_sortBy_X0_sortCode : GoodIn wsX8_sortBy (wsV RX8 259 RX0 yX0_sortCode wsX0_sortCode) := goodIn_app (goodIn_of _ (by decide +kernel)) ggX8_sortBy_X0_sortCode
set_option maxRecDepth 20000 in
theorem ggX8_sortBy_X0_sort : GoodIn wsX8_sortBy wsX0_sort := goodIn_r _ [25, 20, 21, 34, 35, 36, 37, 38, 39, 40] (by decide +kernel) (by decide +kernel)
set_option maxRecDepth 20000 in
theorem gX8_sortBy_X0_sort : GoodIn wsX8_sortBy (wsV RX8 262 RX0 yX0_sort wsX0_sort) := goodIn_app (goodIn_of _ (by decide +kernel)) ggX8_sortBy_X0_sort
theorem dX8_sortBy_0 : decode cX8_sortBy 0 = .ok (.aload_n 0, 1) := by decide +kernel
theorem dX8_sortBy_1 : decode cX8_sortBy 1 = .ok (.iload_n 1, 1) := by decide +kernel
theorem dX8_sortBy_2 : decode cX8_sortBy 2 = .ok (.invokevirtual 241, 3) := by decide +kernel
theorem dX8_sortBy_5 : decode cX8_sortBy 5 = .ok (.ifCond .eq 21, 3) := by decide +kernel
theorem dX8_sortBy_8 : decode cX8_sortBy 8 = .ok (.iload_n 2, 1) := by decide +kernel
theorem dX8_sortBy_9 : decode cX8_sortBy 9 = .ok (.iconst 0, 1) := by decide +kernel
theorem dX8_sortBy_10 : decode cX8_sortBy 10 = .ok (.iconst 4, 1) := by decide +kernel
theorem dX8_sortBy_11 : decode cX8_sortBy 11 = .ok (.invokestatic 71, 3) := by decide +kernel
theorem dX8_sortBy_14 : decode cX8_sortBy 14 = .ok (.ifCond .eq 12, 3) := by decide +kernel
theorem dX8_sortBy_17 : decode cX8_sortBy 17 = .ok (.iload_n 3, 1) := by decide +kernel
theorem dX8_sortBy_18 : decode cX8_sortBy 18 = .ok (.iconst 0, 1) := by decide +kernel
theorem dX8_sortBy_19 : decode cX8_sortBy 19 = .ok (.iconst 1, 1) := by decide +kernel
theorem dX8_sortBy_20 : decode cX8_sortBy 20 = .ok (.invokestatic 71, 3) := by decide +kernel
theorem dX8_sortBy_23 : decode cX8_sortBy 23 = .ok (.ifCond .ne 5, 3) := by decide +kernel
theorem dX8_sortBy_26 : decode cX8_sortBy 26 = .ok (.iconst (-1), 1) := by decide +kernel
theorem dX8_sortBy_27 : decode cX8_sortBy 27 = .ok (.ireturn, 1) := by decide +kernel
theorem dX8_sortBy_28 : decode cX8_sortBy 28 = .ok (.aload_n 0, 1) := by decide +kernel
theorem dX8_sortBy_29 : decode cX8_sortBy 29 = .ok (.getfield 41, 3) := by decide +kernel
theorem dX8_sortBy_32 : decode cX8_sortBy 32 = .ok (.iload_n 1, 1) := by decide +kernel
theorem dX8_sortBy_33 : decode cX8_sortBy 33 = .ok (.aaload, 1) := by decide +kernel
theorem dX8_sortBy_34 : decode cX8_sortBy 34 = .ok (.invokevirtual 259, 3) := by decide +kernel
theorem dX8_sortBy_37 : decode cX8_sortBy 37 = .ok (.istore 4, 2) := by decide +kernel
theorem dX8_sortBy_39 : decode cX8_sortBy 39 = .ok (.aload_n 0, 1) := by decide +kernel
theorem dX8_sortBy_40 : decode cX8_sortBy 40 = .ok (.getfield 41, 3) := by decide +kernel
theorem dX8_sortBy_43 : decode cX8_sortBy 43 = .ok (.iload_n 1, 1) := by decide +kernel
theorem dX8_sortBy_44 : decode cX8_sortBy 44 = .ok (.aaload, 1) := by decide +kernel
theorem dX8_sortBy_45 : decode cX8_sortBy 45 = .ok (.iload_n 2, 1) := by decide +kernel
theorem dX8_sortBy_46 : decode cX8_sortBy 46 = .ok (.iload_n 3, 1) := by decide +kernel
theorem dX8_sortBy_47 : decode cX8_sortBy 47 = .ok (.iconst 1, 1) := by decide +kernel
theorem dX8_sortBy_48 : decode cX8_sortBy 48 = .ok (.if_icmp .ne 7, 3) := by decide +kernel
theorem dX8_sortBy_51 : decode cX8_sortBy 51 = .ok (.iconst 1, 1) := by decide +kernel
theorem dX8_sortBy_52 : decode cX8_sortBy 52 = .ok (.goto 4, 3) := by decide +kernel
theorem dX8_sortBy_55 : decode cX8_sortBy 55 = .ok (.iconst 0, 1) := by decide +kernel
theorem dX8_sortBy_56 : decode cX8_sortBy 56 = .ok (.invokevirtual 262, 3) := by decide +kernel
theorem dX8_sortBy_59 : decode cX8_sortBy 59 = .ok (.iload 4, 2) := by decide +kernel
theorem dX8_sortBy_61 : decode cX8_sortBy 61 = .ok (.ireturn, 1) := by decide +kernel
set_option maxRecDepth 20000 in
theorem ggX8_viewSize_X8_hasAlbum : GoodIn wsX8_viewSize wsX8_hasAlbum := goodIn_r _ [7, 2, 8, 9, 6, 10, 11, 12, 13, 14, 15, 16, 71, 72, 73, 74, 75, 76, 77, 78, 79, 80, 81, 82, 83, 84, 85] (by decide +kernel) (by decide +kernel)
set_option maxRecDepth 20000 in
theorem gX8_viewSize_X8_hasAlbum : GoodIn wsX8_viewSize (wsV RX8 241 RX8 yX8_hasAlbum wsX8_hasAlbum) := goodIn_app (goodIn_of _ (by decide +kernel)) ggX8_viewSize_X8_hasAlbum
set_option maxRecDepth 20000 in
theorem ggX8_viewSize_X7_shown : GoodIn wsX8_viewSize wsX7_shown := goodIn_r _ [21, 22, 23, 24, 25, 14, 26, 27, 28, 29, 30, 31, 32, 33, 9, 6, 10, 34, 35, 36, 37, 38, 39, 40, 41, 42, 43, 44, 45, 46, 47, 48, 49, 50, 51, 52, 53, 54, 55, 56, 57, 58, 59, 60, 61, 62, 63, 86, 87, 79, 80, 81, 82, 83, 84, 85, 88, 89, 90, 91, 92, 93, 94, 95, 96, 97, 98, 99, 100, 101] (by decide +kernel) (by decide +kernel)
set_option maxRecDepth 20000 in
theorem gX8_viewSize_X7_shown : GoodIn wsX8_viewSize (wsV RX8 265 RX7 yX7_shown wsX7_shown) := goodIn_app (goodIn_of _ (by decide +kernel)) ggX8_viewSize_X7_shown
set_option maxRecDepth 20000 in
theorem ggX8_viewSize_J13_bitCount_95d88 : GoodIn wsX8_viewSize wsJ13_bitCount_95d88 := goodIn_r _ [67, 68, 69, 70] (by decide +kernel) (by decide +kernel)
set_option maxRecDepth 20000 in
theorem gX8_viewSize_J13_bitCount_95d88 : GoodIn wsX8_viewSize (va_wsS RX8 153 yJ13_bitCount_95d88 wsJ13_bitCount_95d88) := goodIn_app (goodIn_of _ (by decide +kernel)) ggX8_viewSize_J13_bitCount_95d88
theorem dX8_viewSize_0 : decode cX8_viewSize 0 = .ok (.aload_n 0, 1) := by decide +kernel
theorem dX8_viewSize_1 : decode cX8_viewSize 1 = .ok (.iload_n 1, 1) := by decide +kernel
theorem dX8_viewSize_2 : decode cX8_viewSize 2 = .ok (.invokevirtual 241, 3) := by decide +kernel
theorem dX8_viewSize_5 : decode cX8_viewSize 5 = .ok (.ifCond .ne 5, 3) := by decide +kernel
theorem dX8_viewSize_8 : decode cX8_viewSize 8 = .ok (.iconst (-1), 1) := by decide +kernel
theorem dX8_viewSize_9 : decode cX8_viewSize 9 = .ok (.ireturn, 1) := by decide +kernel
theorem dX8_viewSize_10 : decode cX8_viewSize 10 = .ok (.aload_n 0, 1) := by decide +kernel
theorem dX8_viewSize_11 : decode cX8_viewSize 11 = .ok (.getfield 60, 3) := by decide +kernel
theorem dX8_viewSize_14 : decode cX8_viewSize 14 = .ok (.aload_n 0, 1) := by decide +kernel
theorem dX8_viewSize_15 : decode cX8_viewSize 15 = .ok (.getfield 41, 3) := by decide +kernel
theorem dX8_viewSize_18 : decode cX8_viewSize 18 = .ok (.iload_n 1, 1) := by decide +kernel
theorem dX8_viewSize_19 : decode cX8_viewSize 19 = .ok (.aaload, 1) := by decide +kernel
theorem dX8_viewSize_20 : decode cX8_viewSize 20 = .ok (.invokevirtual 265, 3) := by decide +kernel
theorem dX8_viewSize_23 : decode cX8_viewSize 23 = .ok (.invokestatic 153, 3) := by decide +kernel
theorem dX8_viewSize_26 : decode cX8_viewSize 26 = .ok (.ireturn, 1) := by decide +kernel
set_option maxRecDepth 20000 in
theorem ggX8_viewAt_X8_hasAlbum : GoodIn wsX8_viewAt wsX8_hasAlbum := goodIn_r _ [7, 2, 8, 9, 6, 10, 11, 12, 13, 14, 15, 16, 91, 92, 93, 94, 95, 96, 97, 98, 99, 100, 101, 102, 103, 104, 105] (by decide +kernel) (by decide +kernel)
set_option maxRecDepth 20000 in
theorem gX8_viewAt_X8_hasAlbum : GoodIn wsX8_viewAt (wsV RX8 241 RX8 yX8_hasAlbum wsX8_hasAlbum) := goodIn_app (goodIn_of _ (by decide +kernel)) ggX8_viewAt_X8_hasAlbum
set_option maxRecDepth 20000 in
theorem ggX8_viewAt_X7_fileAt : GoodIn wsX8_viewAt wsX7_fileAt := goodIn_r _ [21, 22, 23, 24, 20, 25, 26, 27, 28, 29, 14, 30, 31, 32, 33, 34, 35, 36, 37, 9, 6, 10, 38, 39, 40, 41, 42, 43, 44, 45, 46, 47, 48, 49, 50, 51, 52, 53, 54, 55, 56, 57, 58, 59, 60, 61, 62, 63, 64, 65, 66, 67, 68, 69, 70, 71, 72, 73, 74, 75, 76, 77, 78, 79, 80, 81, 82, 83, 84, 85, 86, 87, 106, 107, 99, 100, 101, 102, 103, 104, 105, 108, 109, 110, 111, 112, 113, 114, 115, 116, 117, 118, 119, 120, 121] (by decide +kernel) (by decide +kernel)
set_option maxRecDepth 20000 in
theorem gX8_viewAt_X7_fileAt : GoodIn wsX8_viewAt (wsV RX8 269 RX7 yX7_fileAt wsX7_fileAt) := goodIn_app (goodIn_of _ (by decide +kernel)) ggX8_viewAt_X7_fileAt
set_option maxRecDepth 20000 in
theorem ggX8_viewAt_X8_orNotFound : GoodIn wsX8_viewAt wsX8_orNotFound := goodIn_r _ [90] (by decide +kernel) (by decide +kernel)
set_option maxRecDepth 20000 in
theorem gX8_viewAt_X8_orNotFound : GoodIn wsX8_viewAt (va_wsS RX8 124 yX8_orNotFound wsX8_orNotFound) := goodIn_app (goodIn_of _ (by decide +kernel)) ggX8_viewAt_X8_orNotFound
theorem dX8_viewAt_0 : decode cX8_viewAt 0 = .ok (.aload_n 0, 1) := by decide +kernel
theorem dX8_viewAt_1 : decode cX8_viewAt 1 = .ok (.iload_n 1, 1) := by decide +kernel
theorem dX8_viewAt_2 : decode cX8_viewAt 2 = .ok (.invokevirtual 241, 3) := by decide +kernel
theorem dX8_viewAt_5 : decode cX8_viewAt 5 = .ok (.ifCond .eq 7, 3) := by decide +kernel
theorem dX8_viewAt_8 : decode cX8_viewAt 8 = .ok (.iload_n 2, 1) := by decide +kernel
theorem dX8_viewAt_9 : decode cX8_viewAt 9 = .ok (.ifCond .ge 5, 3) := by decide +kernel
theorem dX8_viewAt_12 : decode cX8_viewAt 12 = .ok (.iconst (-1), 1) := by decide +kernel
theorem dX8_viewAt_13 : decode cX8_viewAt 13 = .ok (.ireturn, 1) := by decide +kernel
theorem dX8_viewAt_14 : decode cX8_viewAt 14 = .ok (.aload_n 0, 1) := by decide +kernel
theorem dX8_viewAt_15 : decode cX8_viewAt 15 = .ok (.getfield 60, 3) := by decide +kernel
theorem dX8_viewAt_18 : decode cX8_viewAt 18 = .ok (.aload_n 0, 1) := by decide +kernel
theorem dX8_viewAt_19 : decode cX8_viewAt 19 = .ok (.getfield 41, 3) := by decide +kernel
theorem dX8_viewAt_22 : decode cX8_viewAt 22 = .ok (.iload_n 1, 1) := by decide +kernel
theorem dX8_viewAt_23 : decode cX8_viewAt 23 = .ok (.aaload, 1) := by decide +kernel
theorem dX8_viewAt_24 : decode cX8_viewAt 24 = .ok (.iload_n 2, 1) := by decide +kernel
theorem dX8_viewAt_25 : decode cX8_viewAt 25 = .ok (.invokevirtual 269, 3) := by decide +kernel
theorem dX8_viewAt_28 : decode cX8_viewAt 28 = .ok (.invokestatic 124, 3) := by decide +kernel
theorem dX8_viewAt_31 : decode cX8_viewAt 31 = .ok (.ireturn, 1) := by decide +kernel
set_option maxRecDepth 20000 in
theorem ggX8_journalSize_X3_length : GoodIn wsX8_journalSize wsX3_length := goodIn_r _ [6, 7, 16, 17, 18, 19, 20] (by decide +kernel) (by decide +kernel)
set_option maxRecDepth 20000 in
theorem gX8_journalSize_X3_length : GoodIn wsX8_journalSize (wsV RX8 272 RX3 yX3_length wsX3_length) := goodIn_app (goodIn_of _ (by decide +kernel)) ggX8_journalSize_X3_length
theorem dX8_journalSize_0 : decode cX8_journalSize 0 = .ok (.aload_n 0, 1) := by decide +kernel
theorem dX8_journalSize_1 : decode cX8_journalSize 1 = .ok (.getfield 67, 3) := by decide +kernel
theorem dX8_journalSize_4 : decode cX8_journalSize 4 = .ok (.invokevirtual 272, 3) := by decide +kernel
theorem dX8_journalSize_7 : decode cX8_journalSize 7 = .ok (.ireturn, 1) := by decide +kernel
set_option maxRecDepth 20000 in
theorem ggX8_journalAt_X8_isWithin : GoodIn wsX8_journalAt wsX8_isWithin := goodIn_r _ [5] (by decide +kernel) (by decide +kernel)
set_option maxRecDepth 20000 in
theorem gX8_journalAt_X8_isWithin : GoodIn wsX8_journalAt (va_wsS RX8 71 yX8_isWithin wsX8_isWithin) := goodIn_app (goodIn_of _ (by decide +kernel)) ggX8_journalAt_X8_isWithin
set_option maxRecDepth 20000 in
theorem ggX8_journalAt_X3_length : GoodIn wsX8_journalAt wsX3_length := goodIn_r _ [10, 11, 44, 45, 46, 47, 48] (by decide +kernel) (by decide +kernel)
set_option maxRecDepth 20000 in
theorem gX8_journalAt_X3_length : GoodIn wsX8_journalAt (wsV RX8 272 RX3 yX3_length wsX3_length) := goodIn_app (goodIn_of _ (by decide +kernel)) ggX8_journalAt_X3_length
set_option maxRecDepth 20000 in
theorem ggX8_journalAt_X3_album : GoodIn wsX8_journalAt wsX3_album := goodIn_r _ [15, 16, 17, 18, 19, 9, 20, 21, 22, 23, 24, 25, 44, 45, 46, 47, 48] (by decide +kernel) (by decide +kernel)
set_option maxRecDepth 20000 in
theorem gX8_journalAt_X3_album : GoodIn wsX8_journalAt (wsV RX8 273 RX3 yX3_album wsX3_album) := goodIn_app (goodIn_of _ (by decide +kernel)) ggX8_journalAt_X3_album
set_option maxRecDepth 20000 in
theorem ggX8_journalAt_X3_file : GoodIn wsX8_journalAt wsX3_file := goodIn_r _ [29, 30, 17, 18, 19, 9, 20, 21, 22, 23, 24, 25, 44, 45, 46, 47, 48] (by decide +kernel) (by decide +kernel)
set_option maxRecDepth 20000 in
theorem gX8_journalAt_X3_file : GoodIn wsX8_journalAt (wsV RX8 276 RX3 yX3_file wsX3_file) := goodIn_app (goodIn_of _ (by decide +kernel)) ggX8_journalAt_X3_file
set_option maxRecDepth 20000 in
theorem ggX8_journalAt_X3_hasJoined : GoodIn wsX8_journalAt wsX3_hasJoined := goodIn_r _ [34, 35, 17, 18, 19, 9, 20, 21, 22, 23, 24, 25, 44, 45, 46, 47, 48] (by decide +kernel) (by decide +kernel)
set_option maxRecDepth 20000 in
theorem gX8_journalAt_X3_hasJoined : GoodIn wsX8_journalAt (wsV RX8 279 RX3 yX3_hasJoined wsX3_hasJoined) := goodIn_app (goodIn_of _ (by decide +kernel)) ggX8_journalAt_X3_hasJoined
theorem dX8_journalAt_0 : decode cX8_journalAt 0 = .ok (.iload_n 1, 1) := by decide +kernel
theorem dX8_journalAt_1 : decode cX8_journalAt 1 = .ok (.ifCond .lt 12, 3) := by decide +kernel
theorem dX8_journalAt_4 : decode cX8_journalAt 4 = .ok (.iload_n 2, 1) := by decide +kernel
theorem dX8_journalAt_5 : decode cX8_journalAt 5 = .ok (.iconst 0, 1) := by decide +kernel
theorem dX8_journalAt_6 : decode cX8_journalAt 6 = .ok (.iconst 2, 1) := by decide +kernel
theorem dX8_journalAt_7 : decode cX8_journalAt 7 = .ok (.invokestatic 71, 3) := by decide +kernel
theorem dX8_journalAt_10 : decode cX8_journalAt 10 = .ok (.ifCond .ne 5, 3) := by decide +kernel
theorem dX8_journalAt_13 : decode cX8_journalAt 13 = .ok (.iconst (-1), 1) := by decide +kernel
theorem dX8_journalAt_14 : decode cX8_journalAt 14 = .ok (.ireturn, 1) := by decide +kernel
theorem dX8_journalAt_15 : decode cX8_journalAt 15 = .ok (.iload_n 1, 1) := by decide +kernel
theorem dX8_journalAt_16 : decode cX8_journalAt 16 = .ok (.aload_n 0, 1) := by decide +kernel
theorem dX8_journalAt_17 : decode cX8_journalAt 17 = .ok (.getfield 67, 3) := by decide +kernel
theorem dX8_journalAt_20 : decode cX8_journalAt 20 = .ok (.invokevirtual 272, 3) := by decide +kernel
theorem dX8_journalAt_23 : decode cX8_journalAt 23 = .ok (.if_icmp .lt 6, 3) := by decide +kernel
theorem dX8_journalAt_26 : decode cX8_journalAt 26 = .ok (.bipush (-4), 2) := by decide +kernel
theorem dX8_journalAt_28 : decode cX8_journalAt 28 = .ok (.ireturn, 1) := by decide +kernel
theorem dX8_journalAt_29 : decode cX8_journalAt 29 = .ok (.iload_n 2, 1) := by decide +kernel
theorem dX8_journalAt_30 : decode cX8_journalAt 30 = .ok (.lookupswitch 44 #[(0, 26), (1, 35)], 26) := by decide +kernel
theorem dX8_journalAt_56 : decode cX8_journalAt 56 = .ok (.aload_n 0, 1) := by decide +kernel
theorem dX8_journalAt_57 : decode cX8_journalAt 57 = .ok (.getfield 67, 3) := by decide +kernel
theorem dX8_journalAt_60 : decode cX8_journalAt 60 = .ok (.iload_n 1, 1) := by decide +kernel
theorem dX8_journalAt_61 : decode cX8_journalAt 61 = .ok (.invokevirtual 273, 3) := by decide +kernel
theorem dX8_journalAt_64 : decode cX8_journalAt 64 = .ok (.ireturn, 1) := by decide +kernel
theorem dX8_journalAt_65 : decode cX8_journalAt 65 = .ok (.aload_n 0, 1) := by decide +kernel
theorem dX8_journalAt_66 : decode cX8_journalAt 66 = .ok (.getfield 67, 3) := by decide +kernel
theorem dX8_journalAt_69 : decode cX8_journalAt 69 = .ok (.iload_n 1, 1) := by decide +kernel
theorem dX8_journalAt_70 : decode cX8_journalAt 70 = .ok (.invokevirtual 276, 3) := by decide +kernel
theorem dX8_journalAt_73 : decode cX8_journalAt 73 = .ok (.ireturn, 1) := by decide +kernel
theorem dX8_journalAt_74 : decode cX8_journalAt 74 = .ok (.aload_n 0, 1) := by decide +kernel
theorem dX8_journalAt_75 : decode cX8_journalAt 75 = .ok (.getfield 67, 3) := by decide +kernel
theorem dX8_journalAt_78 : decode cX8_journalAt 78 = .ok (.iload_n 1, 1) := by decide +kernel
theorem dX8_journalAt_79 : decode cX8_journalAt 79 = .ok (.invokevirtual 279, 3) := by decide +kernel
theorem dX8_journalAt_82 : decode cX8_journalAt 82 = .ok (.ifCond .eq 7, 3) := by decide +kernel
theorem dX8_journalAt_85 : decode cX8_journalAt 85 = .ok (.iconst 1, 1) := by decide +kernel
theorem dX8_journalAt_86 : decode cX8_journalAt 86 = .ok (.goto 4, 3) := by decide +kernel
theorem dX8_journalAt_89 : decode cX8_journalAt 89 = .ok (.iconst 0, 1) := by decide +kernel
theorem dX8_journalAt_90 : decode cX8_journalAt 90 = .ok (.ireturn, 1) := by decide +kernel
set_option maxRecDepth 20000 in
theorem ggX8_turnover_X8_hasAlbum : GoodIn wsX8_turnover wsX8_hasAlbum := goodIn_r _ [6, 1, 7, 8, 5, 9, 10, 11, 12, 13, 14, 15, 26, 27, 28, 29, 30, 31, 32, 33, 34, 35, 36, 37, 38, 39, 40] (by decide +kernel) (by decide +kernel)
set_option maxRecDepth 20000 in
theorem gX8_turnover_X8_hasAlbum : GoodIn wsX8_turnover (wsV RX8 241 RX8 yX8_hasAlbum wsX8_hasAlbum) := goodIn_app (goodIn_of _ (by decide +kernel)) ggX8_turnover_X8_hasAlbum
set_option maxRecDepth 20000 in
theorem ggX8_turnover_X8_isWithin : GoodIn wsX8_turnover wsX8_isWithin := goodIn_r _ [9] (by decide +kernel) (by decide +kernel)
set_option maxRecDepth 20000 in
theorem gX8_turnover_X8_isWithin : GoodIn wsX8_turnover (va_wsS RX8 71 yX8_isWithin wsX8_isWithin) := goodIn_app (goodIn_of _ (by decide +kernel)) ggX8_turnover_X8_isWithin
set_option maxRecDepth 20000 in
theorem ggX8_turnover_X0_joined : GoodIn wsX8_turnover wsX0_joined := goodIn_r _ [19, 20, 34, 35, 36, 37, 38, 39, 40] (by decide +kernel) (by decide +kernel)
set_option maxRecDepth 20000 in
theorem gX8_turnover_X0_joined : GoodIn wsX8_turnover (wsV RX8 282 RX0 yX0_joined wsX0_joined) := goodIn_app (goodIn_of _ (by decide +kernel)) ggX8_turnover_X0_joined
set_option maxRecDepth 20000 in
theorem ggX8_turnover_X0_left : GoodIn wsX8_turnover wsX0_left := goodIn_r _ [24, 25, 34, 35, 36, 37, 38, 39, 40] (by decide +kernel) (by decide +kernel)
set_option maxRecDepth 20000 in
theorem gX8_turnover_X0_left : GoodIn wsX8_turnover (wsV RX8 285 RX0 yX0_left wsX0_left) := goodIn_app (goodIn_of _ (by decide +kernel)) ggX8_turnover_X0_left
theorem dX8_turnover_0 : decode cX8_turnover 0 = .ok (.aload_n 0, 1) := by decide +kernel
theorem dX8_turnover_1 : decode cX8_turnover 1 = .ok (.iload_n 1, 1) := by decide +kernel
theorem dX8_turnover_2 : decode cX8_turnover 2 = .ok (.invokevirtual 241, 3) := by decide +kernel
theorem dX8_turnover_5 : decode cX8_turnover 5 = .ok (.ifCond .eq 12, 3) := by decide +kernel
theorem dX8_turnover_8 : decode cX8_turnover 8 = .ok (.iload_n 2, 1) := by decide +kernel
theorem dX8_turnover_9 : decode cX8_turnover 9 = .ok (.iconst 0, 1) := by decide +kernel
theorem dX8_turnover_10 : decode cX8_turnover 10 = .ok (.iconst 1, 1) := by decide +kernel
theorem dX8_turnover_11 : decode cX8_turnover 11 = .ok (.invokestatic 71, 3) := by decide +kernel
theorem dX8_turnover_14 : decode cX8_turnover 14 = .ok (.ifCond .ne 5, 3) := by decide +kernel
theorem dX8_turnover_17 : decode cX8_turnover 17 = .ok (.iconst (-1), 1) := by decide +kernel
theorem dX8_turnover_18 : decode cX8_turnover 18 = .ok (.ireturn, 1) := by decide +kernel
theorem dX8_turnover_19 : decode cX8_turnover 19 = .ok (.iload_n 2, 1) := by decide +kernel
theorem dX8_turnover_20 : decode cX8_turnover 20 = .ok (.iconst 1, 1) := by decide +kernel
theorem dX8_turnover_21 : decode cX8_turnover 21 = .ok (.if_icmp .ne 15, 3) := by decide +kernel
theorem dX8_turnover_24 : decode cX8_turnover 24 = .ok (.aload_n 0, 1) := by decide +kernel
theorem dX8_turnover_25 : decode cX8_turnover 25 = .ok (.getfield 41, 3) := by decide +kernel
theorem dX8_turnover_28 : decode cX8_turnover 28 = .ok (.iload_n 1, 1) := by decide +kernel
theorem dX8_turnover_29 : decode cX8_turnover 29 = .ok (.aaload, 1) := by decide +kernel
theorem dX8_turnover_30 : decode cX8_turnover 30 = .ok (.invokevirtual 282, 3) := by decide +kernel
theorem dX8_turnover_33 : decode cX8_turnover 33 = .ok (.goto 12, 3) := by decide +kernel
theorem dX8_turnover_36 : decode cX8_turnover 36 = .ok (.aload_n 0, 1) := by decide +kernel
theorem dX8_turnover_37 : decode cX8_turnover 37 = .ok (.getfield 41, 3) := by decide +kernel
theorem dX8_turnover_40 : decode cX8_turnover 40 = .ok (.iload_n 1, 1) := by decide +kernel
theorem dX8_turnover_41 : decode cX8_turnover 41 = .ok (.aaload, 1) := by decide +kernel
theorem dX8_turnover_42 : decode cX8_turnover 42 = .ok (.invokevirtual 285, 3) := by decide +kernel
theorem dX8_turnover_45 : decode cX8_turnover 45 = .ok (.ireturn, 1) := by decide +kernel
set_option maxRecDepth 20000 in
theorem ggX8_count_X6_howMany : GoodIn wsX8_count wsX6_howMany := goodIn_r _ [8, 9, 10, 11, 7, 12, 13, 14, 15, 16, 77, 78, 79, 80, 81, 82, 83, 84] (by decide +kernel) (by decide +kernel)
set_option maxRecDepth 20000 in
theorem gX8_count_X6_howMany : GoodIn wsX8_count (wsV RX8 288 RX6 yX6_howMany wsX6_howMany) := goodIn_app (goodIn_of _ (by decide +kernel)) ggX8_count_X6_howMany
set_option maxRecDepth 20000 in
theorem ggX8_count_X8_albumCount : GoodIn wsX8_count wsX8_albumCount := goodIn_r _ [20, 21, 22, 23, 15, 24, 25, 26, 14, 16, 27, 28, 29, 30, 31, 32, 69, 70, 71, 72, 73, 74, 75, 76, 85, 86, 87, 88, 89, 90, 91] (by decide +kernel) (by decide +kernel)
set_option maxRecDepth 20000 in
theorem gX8_count_X8_albumCount : GoodIn wsX8_count (wsV RX8 250 RX8 yX8_albumCount wsX8_albumCount) := goodIn_app (goodIn_of _ (by decide +kernel)) ggX8_count_X8_albumCount
set_option maxRecDepth 20000 in
theorem ggX8_count_X2_keepers : GoodIn wsX8_count wsX2_keepers := goodIn_r _ [37, 38, 92, 93, 94] (by decide +kernel) (by decide +kernel)
set_option maxRecDepth 20000 in
theorem gX8_count_X2_keepers : GoodIn wsX8_count (wsV RX8 163 RX2 yX2_keepers wsX2_keepers) := goodIn_app (goodIn_of _ (by decide +kernel)) ggX8_count_X2_keepers
set_option maxRecDepth 20000 in
theorem ggX8_count_X2_duplicates : GoodIn wsX8_count wsX2_duplicates := goodIn_r _ [42, 43, 92, 93, 94] (by decide +kernel) (by decide +kernel)
set_option maxRecDepth 20000 in
theorem gX8_count_X2_duplicates : GoodIn wsX8_count (wsV RX8 289 RX2 yX2_duplicates wsX2_duplicates) := goodIn_app (goodIn_of _ (by decide +kernel)) ggX8_count_X2_duplicates
set_option maxRecDepth 20000 in
theorem ggX8_count_J13_bitCount_95d88 : GoodIn wsX8_count wsJ13_bitCount_95d88 := goodIn_r _ [47, 48, 49, 50] (by decide +kernel) (by decide +kernel)
set_option maxRecDepth 20000 in
theorem gX8_count_J13_bitCount_95d88 : GoodIn wsX8_count (va_wsS RX8 153 yJ13_bitCount_95d88 wsJ13_bitCount_95d88) := goodIn_app (goodIn_of _ (by decide +kernel)) ggX8_count_J13_bitCount_95d88
set_option maxRecDepth 20000 in
theorem ggX8_count_X6_stacked : GoodIn wsX8_count wsX6_stacked := goodIn_r _ [54, 55, 77, 78, 79, 80, 81, 82, 83, 84] (by decide +kernel) (by decide +kernel)
set_option maxRecDepth 20000 in
theorem gX8_count_X6_stacked : GoodIn wsX8_count (wsV RX8 292 RX6 yX6_stacked wsX6_stacked) := goodIn_app (goodIn_of _ (by decide +kernel)) ggX8_count_X6_stacked
set_option maxRecDepth 20000 in
theorem ggX8_count_X1_all : GoodIn wsX8_count wsX1_all := goodIn_r _ [60, 61, 95, 96, 97, 98, 99, 100] (by decide +kernel) (by decide +kernel)
set_option maxRecDepth 20000 in
theorem gX8_count_X1_all : GoodIn wsX8_count (wsV RX8 159 RX1 yX1_all wsX1_all) := goodIn_app (goodIn_of _ (by decide +kernel)) ggX8_count_X1_all
set_option maxRecDepth 20000 in
theorem ggX8_count_X1_sumOfSizes : GoodIn wsX8_count wsX1_sumOfSizes := goodIn_r _ [65, 66, 67, 15, 68, 95, 96, 97, 98, 99, 100] (by decide +kernel) (by decide +kernel)
set_option maxRecDepth 20000 in
theorem gX8_count_X1_sumOfSizes : GoodIn wsX8_count (wsV RX8 168 RX1 yX1_sumOfSizes wsX1_sumOfSizes) := goodIn_app (goodIn_of _ (by decide +kernel)) ggX8_count_X1_sumOfSizes
theorem dX8_count_0 : decode cX8_count 0 = .ok (.iload_n 1, 1) := by decide +kernel
theorem dX8_count_1 : decode cX8_count 1 = .ok (.tableswitch 93 0 4 #[35, 43, 48, 67, 78], 35) := by decide +kernel
theorem dX8_count_36 : decode cX8_count 36 = .ok (.aload_n 0, 1) := by decide +kernel
theorem dX8_count_37 : decode cX8_count 37 = .ok (.getfield 28, 3) := by decide +kernel
theorem dX8_count_40 : decode cX8_count 40 = .ok (.invokevirtual 288, 3) := by decide +kernel
theorem dX8_count_43 : decode cX8_count 43 = .ok (.ireturn, 1) := by decide +kernel
theorem dX8_count_44 : decode cX8_count 44 = .ok (.aload_n 0, 1) := by decide +kernel
theorem dX8_count_45 : decode cX8_count 45 = .ok (.invokevirtual 250, 3) := by decide +kernel
theorem dX8_count_48 : decode cX8_count 48 = .ok (.ireturn, 1) := by decide +kernel
theorem dX8_count_49 : decode cX8_count 49 = .ok (.aload_n 0, 1) := by decide +kernel
theorem dX8_count_50 : decode cX8_count 50 = .ok (.getfield 21, 3) := by decide +kernel
theorem dX8_count_53 : decode cX8_count 53 = .ok (.invokevirtual 163, 3) := by decide +kernel
theorem dX8_count_56 : decode cX8_count 56 = .ok (.aload_n 0, 1) := by decide +kernel
theorem dX8_count_57 : decode cX8_count 57 = .ok (.getfield 21, 3) := by decide +kernel
theorem dX8_count_60 : decode cX8_count 60 = .ok (.invokevirtual 289, 3) := by decide +kernel
theorem dX8_count_63 : decode cX8_count 63 = .ok (.land, 1) := by decide +kernel
theorem dX8_count_64 : decode cX8_count 64 = .ok (.invokestatic 153, 3) := by decide +kernel
theorem dX8_count_67 : decode cX8_count 67 = .ok (.ireturn, 1) := by decide +kernel
theorem dX8_count_68 : decode cX8_count 68 = .ok (.aload_n 0, 1) := by decide +kernel
theorem dX8_count_69 : decode cX8_count 69 = .ok (.getfield 28, 3) := by decide +kernel
theorem dX8_count_72 : decode cX8_count 72 = .ok (.invokevirtual 292, 3) := by decide +kernel
theorem dX8_count_75 : decode cX8_count 75 = .ok (.invokestatic 153, 3) := by decide +kernel
theorem dX8_count_78 : decode cX8_count 78 = .ok (.ireturn, 1) := by decide +kernel
theorem dX8_count_79 : decode cX8_count 79 = .ok (.aload_n 0, 1) := by decide +kernel
theorem dX8_count_80 : decode cX8_count 80 = .ok (.getfield 10, 3) := by decide +kernel
theorem dX8_count_83 : decode cX8_count 83 = .ok (.aload_n 0, 1) := by decide +kernel
theorem dX8_count_84 : decode cX8_count 84 = .ok (.getfield 10, 3) := by decide +kernel
theorem dX8_count_87 : decode cX8_count 87 = .ok (.invokevirtual 159, 3) := by decide +kernel
theorem dX8_count_90 : decode cX8_count 90 = .ok (.invokevirtual 168, 3) := by decide +kernel
theorem dX8_count_93 : decode cX8_count 93 = .ok (.ireturn, 1) := by decide +kernel
theorem dX8_count_94 : decode cX8_count 94 = .ok (.iconst (-1), 1) := by decide +kernel
theorem dX8_count_95 : decode cX8_count 95 = .ok (.ireturn, 1) := by decide +kernel
theorem dX8_isWithin_0 : decode cX8_isWithin 0 = .ok (.iload_n 0, 1) := by decide +kernel
theorem dX8_isWithin_1 : decode cX8_isWithin 1 = .ok (.iload_n 1, 1) := by decide +kernel
theorem dX8_isWithin_2 : decode cX8_isWithin 2 = .ok (.if_icmp .lt 12, 3) := by decide +kernel
theorem dX8_isWithin_5 : decode cX8_isWithin 5 = .ok (.iload_n 0, 1) := by decide +kernel
theorem dX8_isWithin_6 : decode cX8_isWithin 6 = .ok (.iload_n 2, 1) := by decide +kernel
theorem dX8_isWithin_7 : decode cX8_isWithin 7 = .ok (.if_icmp .gt 7, 3) := by decide +kernel
theorem dX8_isWithin_10 : decode cX8_isWithin 10 = .ok (.iconst 1, 1) := by decide +kernel
theorem dX8_isWithin_11 : decode cX8_isWithin 11 = .ok (.goto 4, 3) := by decide +kernel
theorem dX8_isWithin_14 : decode cX8_isWithin 14 = .ok (.iconst 0, 1) := by decide +kernel
theorem dX8_isWithin_15 : decode cX8_isWithin 15 = .ok (.ireturn, 1) := by decide +kernel
set_option maxRecDepth 20000 in
theorem ggX8_isSource_X8_isWithin : GoodIn wsX8_isSource wsX8_isWithin := goodIn_r _ [4] (by decide +kernel) (by decide +kernel)
set_option maxRecDepth 20000 in
theorem gX8_isSource_X8_isWithin : GoodIn wsX8_isSource (va_wsS RX8 71 yX8_isWithin wsX8_isWithin) := goodIn_app (goodIn_of _ (by decide +kernel)) ggX8_isSource_X8_isWithin
theorem dX8_isSource_0 : decode cX8_isSource 0 = .ok (.iload_n 0, 1) := by decide +kernel
theorem dX8_isSource_1 : decode cX8_isSource 1 = .ok (.iconst 0, 1) := by decide +kernel
theorem dX8_isSource_2 : decode cX8_isSource 2 = .ok (.iconst 2, 1) := by decide +kernel
theorem dX8_isSource_3 : decode cX8_isSource 3 = .ok (.invokestatic 71, 3) := by decide +kernel
theorem dX8_isSource_6 : decode cX8_isSource 6 = .ok (.ireturn, 1) := by decide +kernel
theorem dX8_orNotFound_0 : decode cX8_orNotFound 0 = .ok (.iload_n 0, 1) := by decide +kernel
theorem dX8_orNotFound_1 : decode cX8_orNotFound 1 = .ok (.iconst (-1), 1) := by decide +kernel
theorem dX8_orNotFound_2 : decode cX8_orNotFound 2 = .ok (.if_icmp .ne 8, 3) := by decide +kernel
theorem dX8_orNotFound_5 : decode cX8_orNotFound 5 = .ok (.bipush (-4), 2) := by decide +kernel
theorem dX8_orNotFound_7 : decode cX8_orNotFound 7 = .ok (.goto 4, 3) := by decide +kernel
theorem dX8_orNotFound_10 : decode cX8_orNotFound 10 = .ok (.iload_n 0, 1) := by decide +kernel
theorem dX8_orNotFound_11 : decode cX8_orNotFound 11 = .ok (.ireturn, 1) := by decide +kernel
theorem dX8_holds_0 : decode cX8_holds 0 = .ok (.lload_n 0, 1) := by decide +kernel
theorem dX8_holds_1 : decode cX8_holds 1 = .ok (.iload_n 2, 1) := by decide +kernel
theorem dX8_holds_2 : decode cX8_holds 2 = .ok (.lushr, 1) := by decide +kernel
theorem dX8_holds_3 : decode cX8_holds 3 = .ok (.lconst 1, 1) := by decide +kernel
theorem dX8_holds_4 : decode cX8_holds 4 = .ok (.land, 1) := by decide +kernel
theorem dX8_holds_5 : decode cX8_holds 5 = .ok (.lconst 1, 1) := by decide +kernel
theorem dX8_holds_6 : decode cX8_holds 6 = .ok (.lcmp, 1) := by decide +kernel
theorem dX8_holds_7 : decode cX8_holds 7 = .ok (.ifCond .ne 7, 3) := by decide +kernel
theorem dX8_holds_10 : decode cX8_holds 10 = .ok (.iconst 1, 1) := by decide +kernel
theorem dX8_holds_11 : decode cX8_holds 11 = .ok (.goto 4, 3) := by decide +kernel
theorem dX8_holds_14 : decode cX8_holds 14 = .ok (.iconst 0, 1) := by decide +kernel
theorem dX8_holds_15 : decode cX8_holds 15 = .ok (.ireturn, 1) := by decide +kernel
theorem dX8_only_0 : decode cX8_only 0 = .ok (.lconst 1, 1) := by decide +kernel
theorem dX8_only_1 : decode cX8_only 1 = .ok (.iload_n 0, 1) := by decide +kernel
theorem dX8_only_2 : decode cX8_only 2 = .ok (.lshl, 1) := by decide +kernel
theorem dX8_only_3 : decode cX8_only 3 = .ok (.lreturn, 1) := by decide +kernel
set_option maxRecDepth 20000 in
theorem ggX8_isSlot_X1_has : GoodIn wsX8_isSlot wsX1_has := goodIn_r _ [6, 7, 8, 9, 10, 11, 12, 25, 26, 27, 28, 29, 30] (by decide +kernel) (by decide +kernel)
set_option maxRecDepth 20000 in
theorem gX8_isSlot_X1_has : GoodIn wsX8_isSlot (wsV RX8 87 RX1 yX1_has wsX1_has) := goodIn_app (goodIn_of _ (by decide +kernel)) ggX8_isSlot_X1_has
set_option maxRecDepth 20000 in
theorem ggX8_isSlot_X8_isSource : GoodIn wsX8_isSlot wsX8_isSource := goodIn_r _ [15, 16, 8, 9, 10] (by decide +kernel) (by decide +kernel)
set_option maxRecDepth 20000 in
theorem gX8_isSlot_X8_isSource : GoodIn wsX8_isSlot (va_wsS RX8 137 yX8_isSource wsX8_isSource) := goodIn_app (goodIn_of _ (by decide +kernel)) ggX8_isSlot_X8_isSource
set_option maxRecDepth 20000 in
theorem ggX8_isSlot_X8_isWithin : GoodIn wsX8_isSlot wsX8_isWithin := goodIn_r _ [10] (by decide +kernel) (by decide +kernel)
set_option maxRecDepth 20000 in
theorem gX8_isSlot_X8_isWithin : GoodIn wsX8_isSlot (va_wsS RX8 71 yX8_isWithin wsX8_isWithin) := goodIn_app (goodIn_of _ (by decide +kernel)) ggX8_isSlot_X8_isWithin
theorem dX8_isSlot_0 : decode cX8_isSlot 0 = .ok (.aload_n 0, 1) := by decide +kernel
theorem dX8_isSlot_1 : decode cX8_isSlot 1 = .ok (.getfield 10, 3) := by decide +kernel
theorem dX8_isSlot_4 : decode cX8_isSlot 4 = .ok (.iload_n 1, 1) := by decide +kernel
theorem dX8_isSlot_5 : decode cX8_isSlot 5 = .ok (.invokevirtual 87, 3) := by decide +kernel
theorem dX8_isSlot_8 : decode cX8_isSlot 8 = .ok (.ifCond .eq 23, 3) := by decide +kernel
theorem dX8_isSlot_11 : decode cX8_isSlot 11 = .ok (.iload_n 2, 1) := by decide +kernel
theorem dX8_isSlot_12 : decode cX8_isSlot 12 = .ok (.invokestatic 137, 3) := by decide +kernel
theorem dX8_isSlot_15 : decode cX8_isSlot 15 = .ok (.ifCond .eq 16, 3) := by decide +kernel
theorem dX8_isSlot_18 : decode cX8_isSlot 18 = .ok (.iload_n 3, 1) := by decide +kernel
theorem dX8_isSlot_19 : decode cX8_isSlot 19 = .ok (.iconst 0, 1) := by decide +kernel
theorem dX8_isSlot_20 : decode cX8_isSlot 20 = .ok (.iconst 5, 1) := by decide +kernel
theorem dX8_isSlot_21 : decode cX8_isSlot 21 = .ok (.invokestatic 71, 3) := by decide +kernel
theorem dX8_isSlot_24 : decode cX8_isSlot 24 = .ok (.ifCond .eq 7, 3) := by decide +kernel
theorem dX8_isSlot_27 : decode cX8_isSlot 27 = .ok (.iconst 1, 1) := by decide +kernel
theorem dX8_isSlot_28 : decode cX8_isSlot 28 = .ok (.goto 4, 3) := by decide +kernel
theorem dX8_isSlot_31 : decode cX8_isSlot 31 = .ok (.iconst 0, 1) := by decide +kernel
theorem dX8_isSlot_32 : decode cX8_isSlot 32 = .ok (.ireturn, 1) := by decide +kernel
set_option maxRecDepth 20000 in
theorem ggX8_discard_X6_release : GoodIn wsX8_discard wsX6_release := goodIn_r _ [7, 8, 9, 10, 11, 12, 13, 14, 6, 15, 16, 17, 18, 19, 20, 21, 22, 23, 24, 25, 26, 27, 43, 44, 45, 46, 47, 48, 49, 50] (by decide +kernel) (by decide +kernel)
set_option maxRecDepth 20000 in
theorem gX8_discard_X6_release : GoodIn wsX8_discard (wsV RX8 196 RX6 yX6_release wsX6_release) := goodIn_app (goodIn_of _ (by decide +kernel)) ggX8_discard_X6_release
set_option maxRecDepth 20000 in
theorem ggX8_discard_X1_drop : GoodIn wsX8_discard wsX1_drop := goodIn_r _ [32, 33, 34, 25, 26, 27, 51, 52, 53, 54, 55, 56] (by decide +kernel) (by decide +kernel)
set_option maxRecDepth 20000 in
theorem gX8_discard_X1_drop : GoodIn wsX8_discard (wsV RX8 295 RX1 yX1_drop wsX1_drop) := goodIn_app (goodIn_of _ (by decide +kernel)) ggX8_discard_X1_drop
theorem dX8_discard_0 : decode cX8_discard 0 = .ok (.aload_n 0, 1) := by decide +kernel
theorem dX8_discard_1 : decode cX8_discard 1 = .ok (.getfield 28, 3) := by decide +kernel
theorem dX8_discard_4 : decode cX8_discard 4 = .ok (.iload_n 1, 1) := by decide +kernel
theorem dX8_discard_5 : decode cX8_discard 5 = .ok (.invokevirtual 196, 3) := by decide +kernel
theorem dX8_discard_8 : decode cX8_discard 8 = .ok (.aload_n 0, 1) := by decide +kernel
theorem dX8_discard_9 : decode cX8_discard 9 = .ok (.getfield 10, 3) := by decide +kernel
theorem dX8_discard_12 : decode cX8_discard 12 = .ok (.iload_n 1, 1) := by decide +kernel
theorem dX8_discard_13 : decode cX8_discard 13 = .ok (.invokevirtual 295, 3) := by decide +kernel
theorem dX8_discard_16 : decode cX8_discard 16 = .ok (.return_, 1) := by decide +kernel
set_option maxRecDepth 20000 in
theorem ggX8_hasAlbum_X8_isWithin : GoodIn wsX8_hasAlbum wsX8_isWithin := goodIn_r _ [5] (by decide +kernel) (by decide +kernel)
set_option maxRecDepth 20000 in
theorem gX8_hasAlbum_X8_isWithin : GoodIn wsX8_hasAlbum (va_wsS RX8 71 yX8_isWithin wsX8_isWithin) := goodIn_app (goodIn_of _ (by decide +kernel)) ggX8_hasAlbum_X8_isWithin
set_option maxRecDepth 20000 in
theorem ggX8_hasAlbum_X0_exists : GoodIn wsX8_hasAlbum wsX0_exists := goodIn_r _ [10, 11, 20, 21, 22, 23, 24, 25, 26] (by decide +kernel) (by decide +kernel)
set_option maxRecDepth 20000 in
theorem gX8_hasAlbum_X0_exists : GoodIn wsX8_hasAlbum (wsV RX8 298 RX0 yX0_exists wsX0_exists) := goodIn_app (goodIn_of _ (by decide +kernel)) ggX8_hasAlbum_X0_exists
theorem dX8_hasAlbum_0 : decode cX8_hasAlbum 0 = .ok (.iload_n 1, 1) := by decide +kernel
theorem dX8_hasAlbum_1 : decode cX8_hasAlbum 1 = .ok (.iconst 0, 1) := by decide +kernel
theorem dX8_hasAlbum_2 : decode cX8_hasAlbum 2 = .ok (.bipush 7, 2) := by decide +kernel
theorem dX8_hasAlbum_4 : decode cX8_hasAlbum 4 = .ok (.invokestatic 71, 3) := by decide +kernel
theorem dX8_hasAlbum_7 : decode cX8_hasAlbum 7 = .ok (.ifCond .eq 19, 3) := by decide +kernel
theorem dX8_hasAlbum_10 : decode cX8_hasAlbum 10 = .ok (.aload_n 0, 1) := by decide +kernel
theorem dX8_hasAlbum_11 : decode cX8_hasAlbum 11 = .ok (.getfield 41, 3) := by decide +kernel
theorem dX8_hasAlbum_14 : decode cX8_hasAlbum 14 = .ok (.iload_n 1, 1) := by decide +kernel
theorem dX8_hasAlbum_15 : decode cX8_hasAlbum 15 = .ok (.aaload, 1) := by decide +kernel
theorem dX8_hasAlbum_16 : decode cX8_hasAlbum 16 = .ok (.invokevirtual 298, 3) := by decide +kernel
theorem dX8_hasAlbum_19 : decode cX8_hasAlbum 19 = .ok (.ifCond .eq 7, 3) := by decide +kernel
theorem dX8_hasAlbum_22 : decode cX8_hasAlbum 22 = .ok (.iconst 1, 1) := by decide +kernel
theorem dX8_hasAlbum_23 : decode cX8_hasAlbum 23 = .ok (.goto 4, 3) := by decide +kernel
theorem dX8_hasAlbum_26 : decode cX8_hasAlbum 26 = .ok (.iconst 0, 1) := by decide +kernel
theorem dX8_hasAlbum_27 : decode cX8_hasAlbum 27 = .ok (.ireturn, 1) := by decide +kernel
set_option maxRecDepth 20000 in
theorem ggX8_albumCount_X8_hasAlbum : GoodIn wsX8_albumCount wsX8_hasAlbum := goodIn_r _ [5, 6, 7, 8, 4, 9, 10, 11, 12, 13, 14, 15, 16, 17, 18, 19, 20, 21, 22, 23, 24, 25, 26, 27, 28, 29, 30] (by decide +kernel) (by decide +kernel)
set_option maxRecDepth 20000 in
theorem gX8_albumCount_X8_hasAlbum : GoodIn wsX8_albumCount (wsV RX8 241 RX8 yX8_hasAlbum wsX8_hasAlbum) := goodIn_app (goodIn_of _ (by decide +kernel)) ggX8_albumCount_X8_hasAlbum
theorem dX8_albumCount_0 : decode cX8_albumCount 0 = .ok (.iconst 0, 1) := by decide +kernel
theorem dX8_albumCount_1 : decode cX8_albumCount 1 = .ok (.istore_n 1, 1) := by decide +kernel
theorem dX8_albumCount_2 : decode cX8_albumCount 2 = .ok (.iconst 0, 1) := by decide +kernel
theorem dX8_albumCount_3 : decode cX8_albumCount 3 = .ok (.istore_n 2, 1) := by decide +kernel
theorem dX8_albumCount_4 : decode cX8_albumCount 4 = .ok (.iload_n 2, 1) := by decide +kernel
theorem dX8_albumCount_5 : decode cX8_albumCount 5 = .ok (.bipush 8, 2) := by decide +kernel
theorem dX8_albumCount_7 : decode cX8_albumCount 7 = .ok (.if_icmp .ge 20, 3) := by decide +kernel
theorem dX8_albumCount_10 : decode cX8_albumCount 10 = .ok (.aload_n 0, 1) := by decide +kernel
theorem dX8_albumCount_11 : decode cX8_albumCount 11 = .ok (.iload_n 2, 1) := by decide +kernel
theorem dX8_albumCount_12 : decode cX8_albumCount 12 = .ok (.invokevirtual 241, 3) := by decide +kernel
theorem dX8_albumCount_15 : decode cX8_albumCount 15 = .ok (.ifCond .eq 6, 3) := by decide +kernel
theorem dX8_albumCount_18 : decode cX8_albumCount 18 = .ok (.iinc 1 1, 3) := by decide +kernel
theorem dX8_albumCount_21 : decode cX8_albumCount 21 = .ok (.iinc 2 1, 3) := by decide +kernel
theorem dX8_albumCount_24 : decode cX8_albumCount 24 = .ok (.goto (-20), 3) := by decide +kernel
theorem dX8_albumCount_27 : decode cX8_albumCount 27 = .ok (.iload_n 1, 1) := by decide +kernel
theorem dX8_albumCount_28 : decode cX8_albumCount 28 = .ok (.ireturn, 1) := by decide +kernel
set_option maxRecDepth 20000 in
theorem ggX8_freeAlbum_X8_hasAlbum : GoodIn wsX8_freeAlbum wsX8_hasAlbum := goodIn_r _ [5, 6, 7, 8, 4, 9, 10, 11, 12, 13, 14, 15, 16, 17, 18, 19, 20, 21, 22, 23, 24, 25, 26, 27, 28, 29, 30] (by decide +kernel) (by decide +kernel)
set_option maxRecDepth 20000 in
theorem gX8_freeAlbum_X8_hasAlbum : GoodIn wsX8_freeAlbum (wsV RX8 241 RX8 yX8_hasAlbum wsX8_hasAlbum) := goodIn_app (goodIn_of _ (by decide +kernel)) ggX8_freeAlbum_X8_hasAlbum
theorem dX8_freeAlbum_0 : decode cX8_freeAlbum 0 = .ok (.iconst 0, 1) := by decide +kernel
theorem dX8_freeAlbum_1 : decode cX8_freeAlbum 1 = .ok (.istore_n 1, 1) := by decide +kernel
theorem dX8_freeAlbum_2 : decode cX8_freeAlbum 2 = .ok (.iload_n 1, 1) := by decide +kernel
theorem dX8_freeAlbum_3 : decode cX8_freeAlbum 3 = .ok (.bipush 8, 2) := by decide +kernel
theorem dX8_freeAlbum_5 : decode cX8_freeAlbum 5 = .ok (.if_icmp .ge 17, 3) := by decide +kernel
theorem dX8_freeAlbum_8 : decode cX8_freeAlbum 8 = .ok (.aload_n 0, 1) := by decide +kernel
theorem dX8_freeAlbum_9 : decode cX8_freeAlbum 9 = .ok (.iload_n 1, 1) := by decide +kernel
theorem dX8_freeAlbum_10 : decode cX8_freeAlbum 10 = .ok (.invokevirtual 241, 3) := by decide +kernel
theorem dX8_freeAlbum_13 : decode cX8_freeAlbum 13 = .ok (.ifCond .eq 9, 3) := by decide +kernel
theorem dX8_freeAlbum_16 : decode cX8_freeAlbum 16 = .ok (.iinc 1 1, 3) := by decide +kernel
theorem dX8_freeAlbum_19 : decode cX8_freeAlbum 19 = .ok (.goto (-17), 3) := by decide +kernel
theorem dX8_freeAlbum_22 : decode cX8_freeAlbum 22 = .ok (.iload_n 1, 1) := by decide +kernel
theorem dX8_freeAlbum_23 : decode cX8_freeAlbum 23 = .ok (.ireturn, 1) := by decide +kernel
set_option maxRecDepth 20000 in
theorem ggX8_isNamed_X8_hasAlbum : GoodIn wsX8_isNamed wsX8_hasAlbum := goodIn_r _ [6, 1, 7, 8, 5, 9, 10, 11, 12, 13, 14, 15, 32, 33, 34, 35, 36, 37, 38, 39, 40, 41, 42, 43, 44, 45, 46] (by decide +kernel) (by decide +kernel)
set_option maxRecDepth 20000 in
theorem gX8_isNamed_X8_hasAlbum : GoodIn wsX8_isNamed (wsV RX8 241 RX8 yX8_hasAlbum wsX8_hasAlbum) := goodIn_app (goodIn_of _ (by decide +kernel)) ggX8_isNamed_X8_hasAlbum
set_option maxRecDepth 20000 in
theorem ggX8_isNamed_X0_names : GoodIn wsX8_isNamed wsX0_names := goodIn_r _ [19, 20, 21, 22, 23, 24, 25, 26, 27, 28, 29, 30, 31, 40, 41, 42, 43, 44, 45, 46, 47, 48] (by decide +kernel) (by decide +kernel)
set_option maxRecDepth 20000 in
theorem gX8_isNamed_X0_names : GoodIn wsX8_isNamed (wsV RX8 302 RX0 yX0_names wsX0_names) := goodIn_app (goodIn_of _ (by decide +kernel)) ggX8_isNamed_X0_names
theorem dX8_isNamed_0 : decode cX8_isNamed 0 = .ok (.iconst 0, 1) := by decide +kernel
theorem dX8_isNamed_1 : decode cX8_isNamed 1 = .ok (.istore_n 2, 1) := by decide +kernel
theorem dX8_isNamed_2 : decode cX8_isNamed 2 = .ok (.iload_n 2, 1) := by decide +kernel
theorem dX8_isNamed_3 : decode cX8_isNamed 3 = .ok (.bipush 8, 2) := by decide +kernel
theorem dX8_isNamed_5 : decode cX8_isNamed 5 = .ok (.if_icmp .ge 32, 3) := by decide +kernel
theorem dX8_isNamed_8 : decode cX8_isNamed 8 = .ok (.aload_n 0, 1) := by decide +kernel
theorem dX8_isNamed_9 : decode cX8_isNamed 9 = .ok (.iload_n 2, 1) := by decide +kernel
theorem dX8_isNamed_10 : decode cX8_isNamed 10 = .ok (.invokevirtual 241, 3) := by decide +kernel
theorem dX8_isNamed_13 : decode cX8_isNamed 13 = .ok (.ifCond .eq 18, 3) := by decide +kernel
theorem dX8_isNamed_16 : decode cX8_isNamed 16 = .ok (.aload_n 0, 1) := by decide +kernel
theorem dX8_isNamed_17 : decode cX8_isNamed 17 = .ok (.getfield 41, 3) := by decide +kernel
theorem dX8_isNamed_20 : decode cX8_isNamed 20 = .ok (.iload_n 2, 1) := by decide +kernel
theorem dX8_isNamed_21 : decode cX8_isNamed 21 = .ok (.aaload, 1) := by decide +kernel
theorem dX8_isNamed_22 : decode cX8_isNamed 22 = .ok (.iload_n 1, 1) := by decide +kernel
theorem dX8_isNamed_23 : decode cX8_isNamed 23 = .ok (.invokevirtual 302, 3) := by decide +kernel
theorem dX8_isNamed_26 : decode cX8_isNamed 26 = .ok (.ifCond .eq 5, 3) := by decide +kernel
theorem dX8_isNamed_29 : decode cX8_isNamed 29 = .ok (.iconst 1, 1) := by decide +kernel
theorem dX8_isNamed_30 : decode cX8_isNamed 30 = .ok (.ireturn, 1) := by decide +kernel
theorem dX8_isNamed_31 : decode cX8_isNamed 31 = .ok (.iinc 2 1, 3) := by decide +kernel
theorem dX8_isNamed_34 : decode cX8_isNamed 34 = .ok (.goto (-32), 3) := by decide +kernel
theorem dX8_isNamed_37 : decode cX8_isNamed 37 = .ok (.iconst 0, 1) := by decide +kernel
theorem dX8_isNamed_38 : decode cX8_isNamed 38 = .ok (.ireturn, 1) := by decide +kernel
set_option maxRecDepth 20000 in
theorem ggX8_isTextUsable_X5_firstFault : GoodIn wsX8_isTextUsable wsX5_firstFault := goodIn_r _ [6, 7, 8, 9, 10, 5, 11, 12, 13, 14, 15, 16, 17, 18, 19, 20, 21, 22, 23, 24, 25, 26, 27, 28, 29, 61, 62] (by decide +kernel) (by decide +kernel)
set_option maxRecDepth 20000 in
theorem gX8_isTextUsable_X5_firstFault : GoodIn wsX8_isTextUsable (wsV RX8 225 RX5 yX5_firstFault wsX5_firstFault) := goodIn_app (goodIn_of _ (by decide +kernel)) ggX8_isTextUsable_X5_firstFault
set_option maxRecDepth 20000 in
theorem ggX8_isTextUsable_X5_names : GoodIn wsX8_isTextUsable wsX5_names := goodIn_r _ [33, 7, 34, 35, 36, 5, 37, 8, 61, 62] (by decide +kernel) (by decide +kernel)
set_option maxRecDepth 20000 in
theorem gX8_isTextUsable_X5_names : GoodIn wsX8_isTextUsable (wsV RX8 305 RX5 yX5_names wsX5_names) := goodIn_app (goodIn_of _ (by decide +kernel)) ggX8_isTextUsable_X5_names
set_option maxRecDepth 20000 in
theorem ggX8_isTextUsable_X8_hasAlbum : GoodIn wsX8_isTextUsable wsX8_hasAlbum := goodIn_r _ [42, 43, 44, 45, 41, 46, 47, 48, 49, 50, 51, 52, 53, 54, 55, 56, 57, 58, 59, 60, 63, 64, 65, 66, 67, 68, 69] (by decide +kernel) (by decide +kernel)
set_option maxRecDepth 20000 in
theorem gX8_isTextUsable_X8_hasAlbum : GoodIn wsX8_isTextUsable (wsV RX8 241 RX8 yX8_hasAlbum wsX8_hasAlbum) := goodIn_app (goodIn_of _ (by decide +kernel)) ggX8_isTextUsable_X8_hasAlbum
theorem dX8_isTextUsable_0 : decode cX8_isTextUsable 0 = .ok (.aload_n 0, 1) := by decide +kernel
theorem dX8_isTextUsable_1 : decode cX8_isTextUsable 1 = .ok (.getfield 35, 3) := by decide +kernel
theorem dX8_isTextUsable_4 : decode cX8_isTextUsable 4 = .ok (.invokevirtual 225, 3) := by decide +kernel
theorem dX8_isTextUsable_7 : decode cX8_isTextUsable 7 = .ok (.iconst (-1), 1) := by decide +kernel
theorem dX8_isTextUsable_8 : decode cX8_isTextUsable 8 = .ok (.if_icmp .eq 5, 3) := by decide +kernel
theorem dX8_isTextUsable_11 : decode cX8_isTextUsable 11 = .ok (.iconst 0, 1) := by decide +kernel
theorem dX8_isTextUsable_12 : decode cX8_isTextUsable 12 = .ok (.ireturn, 1) := by decide +kernel
theorem dX8_isTextUsable_13 : decode cX8_isTextUsable 13 = .ok (.iconst 0, 1) := by decide +kernel
theorem dX8_isTextUsable_14 : decode cX8_isTextUsable 14 = .ok (.istore_n 2, 1) := by decide +kernel
theorem dX8_isTextUsable_15 : decode cX8_isTextUsable 15 = .ok (.iload_n 2, 1) := by decide +kernel
theorem dX8_isTextUsable_16 : decode cX8_isTextUsable 16 = .ok (.bipush 9, 2) := by decide +kernel
theorem dX8_isTextUsable_18 : decode cX8_isTextUsable 18 = .ok (.if_icmp .gt 35, 3) := by decide +kernel
theorem dX8_isTextUsable_21 : decode cX8_isTextUsable 21 = .ok (.aload_n 0, 1) := by decide +kernel
theorem dX8_isTextUsable_22 : decode cX8_isTextUsable 22 = .ok (.getfield 35, 3) := by decide +kernel
theorem dX8_isTextUsable_25 : decode cX8_isTextUsable 25 = .ok (.iload_n 2, 1) := by decide +kernel
theorem dX8_isTextUsable_26 : decode cX8_isTextUsable 26 = .ok (.invokevirtual 305, 3) := by decide +kernel
theorem dX8_isTextUsable_29 : decode cX8_isTextUsable 29 = .ok (.ifCond .eq 18, 3) := by decide +kernel
theorem dX8_isTextUsable_32 : decode cX8_isTextUsable 32 = .ok (.iload_n 2, 1) := by decide +kernel
theorem dX8_isTextUsable_33 : decode cX8_isTextUsable 33 = .ok (.iload_n 1, 1) := by decide +kernel
theorem dX8_isTextUsable_34 : decode cX8_isTextUsable 34 = .ok (.if_icmp .ge 11, 3) := by decide +kernel
theorem dX8_isTextUsable_37 : decode cX8_isTextUsable 37 = .ok (.aload_n 0, 1) := by decide +kernel
theorem dX8_isTextUsable_38 : decode cX8_isTextUsable 38 = .ok (.iload_n 2, 1) := by decide +kernel
theorem dX8_isTextUsable_39 : decode cX8_isTextUsable 39 = .ok (.invokevirtual 241, 3) := by decide +kernel
theorem dX8_isTextUsable_42 : decode cX8_isTextUsable 42 = .ok (.ifCond .ne 5, 3) := by decide +kernel
theorem dX8_isTextUsable_45 : decode cX8_isTextUsable 45 = .ok (.iconst 0, 1) := by decide +kernel
theorem dX8_isTextUsable_46 : decode cX8_isTextUsable 46 = .ok (.ireturn, 1) := by decide +kernel
theorem dX8_isTextUsable_47 : decode cX8_isTextUsable 47 = .ok (.iinc 2 1, 3) := by decide +kernel
theorem dX8_isTextUsable_50 : decode cX8_isTextUsable 50 = .ok (.goto (-35), 3) := by decide +kernel
theorem dX8_isTextUsable_53 : decode cX8_isTextUsable 53 = .ok (.iconst 1, 1) := by decide +kernel
theorem dX8_isTextUsable_54 : decode cX8_isTextUsable 54 = .ok (.ireturn, 1) := by decide +kernel
set_option maxRecDepth 20000 in
theorem ggX8_settle_X1_settleValues : GoodIn wsX8_settle wsX1_settleValues := goodIn_r _ [11, 12, 13, 14, 15, 16, 17, 18, 10, 19, 20, 21, 22, 23, 24, 25, 26, 27, 28, 29, 30, 31, 32, 33, 34, 35, 36, 37, 247, 248, 249, 250, 251, 252] (by decide +kernel) (by decide +kernel)
set_option maxRecDepth 20000 in
theorem gX8_settle_X1_settleValues : GoodIn wsX8_settle (wsV RX8 306 RX1 yX1_settleValues wsX1_settleValues) := goodIn_app (goodIn_of _ (by decide +kernel)) ggX8_settle_X1_settleValues
set_option maxRecDepth 20000 in
theorem ggX8_settle_X2_regroup : GoodIn wsX8_settle wsX2_regroup := goodIn_r _ [42, 43, 44, 45, 46, 47, 48, 49, 10, 50, 12, 13, 14, 15, 51, 52, 53, 54, 55, 56, 57, 58, 59, 60, 41, 61, 62, 63, 64, 65, 66, 67, 68, 69, 20, 70, 71, 72, 73, 74, 75, 76, 77, 78, 79, 80, 253, 254, 255, 247, 248, 249, 250, 251, 252] (by decide +kernel) (by decide +kernel)
set_option maxRecDepth 20000 in
theorem gX8_settle_X2_regroup : GoodIn wsX8_settle (wsV RX8 309 RX2 yX2_regroup wsX2_regroup) := goodIn_app (goodIn_of _ (by decide +kernel)) ggX8_settle_X2_regroup
set_option maxRecDepth 20000 in
theorem ggX8_settle_X6_findCovers : GoodIn wsX8_settle wsX6_findCovers := goodIn_r _ [85, 86, 87, 88, 89, 84, 90, 91, 92, 14, 93, 94, 95, 96, 97, 98, 99, 100, 101, 102, 103, 104, 67, 68, 10, 69, 20, 56, 57, 256, 257, 258, 259, 260, 261, 262, 263, 247, 248, 249, 250, 251, 252] (by decide +kernel) (by decide +kernel)
set_option maxRecDepth 20000 in
theorem gX8_settle_X6_findCovers : GoodIn wsX8_settle (wsV RX8 312 RX6 yX6_findCovers wsX6_findCovers) := goodIn_app (goodIn_of _ (by decide +kernel)) ggX8_settle_X6_findCovers
set_option maxRecDepth 20000 in
theorem ggX8_settle_X8_hasAlbum : GoodIn wsX8_settle wsX8_hasAlbum := goodIn_r _ [108, 5, 109, 92, 14, 93, 110, 111, 112, 113, 114, 115, 239, 240, 241, 242, 243, 244, 245, 246, 264, 265, 266, 267, 268, 269, 270] (by decide +kernel) (by decide +kernel)
set_option maxRecDepth 20000 in
theorem gX8_settle_X8_hasAlbum : GoodIn wsX8_settle (wsV RX8 241 RX8 yX8_hasAlbum wsX8_hasAlbum) := goodIn_app (goodIn_of _ (by decide +kernel)) ggX8_settle_X8_hasAlbum
set_option maxRecDepth 20000 in
theorem ggX8_settle_X0_rule : GoodIn wsX8_settle wsX0_rule := goodIn_r _ [119, 120, 264, 265, 266, 267, 268, 269, 270] (by decide +kernel) (by decide +kernel)
set_option maxRecDepth 20000 in
theorem gX8_settle_X0_rule : GoodIn wsX8_settle (wsV RX8 315 RX0 yX0_rule wsX0_rule) := goodIn_app (goodIn_of _ (by decide +kernel)) ggX8_settle_X0_rule
set_option maxRecDepth 20000 in
theorem ggX8_settle_X4_filesFor : GoodIn wsX8_settle wsX4_filesFor := goodIn_r _ [125, 126, 127, 128, 129, 130, 131, 124, 132, 133, 134, 135, 48, 49, 10, 50, 12, 136, 137, 138, 139, 140, 141, 142, 143, 144, 145, 146, 147, 148, 149, 150, 151, 152, 153, 154, 155, 156, 157, 158, 159, 160, 161, 162, 163, 164, 13, 14, 15, 165, 67, 68, 69, 20, 56, 57, 166, 167, 168, 169, 170, 92, 93, 171, 172, 173, 113, 174, 175, 176, 177, 178, 84, 179, 180, 181, 182, 183, 184, 86, 185, 186, 187, 41, 188, 44, 189, 190, 191, 192, 43, 193, 194, 195, 196, 197, 198, 199, 200, 201, 202, 203, 204, 205, 206, 207, 208, 209, 210, 211, 212, 213, 214, 215, 216, 217, 218, 219, 271, 272, 273, 274, 275, 276, 277, 278, 247, 248, 249, 250, 251, 252, 279, 280, 264, 265, 266, 267, 268, 269, 270, 256, 257, 258, 259, 260, 261, 262, 263, 253, 254, 255] (by decide +kernel) (by decide +kernel)
set_option maxRecDepth 20000 in
theorem gX8_settle_X4_filesFor : GoodIn wsX8_settle (wsV RX8 231 RX4 yX4_filesFor wsX4_filesFor) := goodIn_app (goodIn_of _ (by decide +kernel)) ggX8_settle_X4_filesFor
set_option maxRecDepth 20000 in
theorem ggX8_settle_X0_become : GoodIn wsX8_settle wsX0_become := goodIn_r _ [223, 175, 224, 225, 13, 14, 15, 226, 227, 228, 229, 230, 231, 232, 233, 234, 235, 236, 237, 23, 238, 264, 265, 266, 267, 268, 269, 270, 281, 282, 283, 284, 285] (by decide +kernel) (by decide +kernel)
set_option maxRecDepth 20000 in
theorem gX8_settle_X0_become : GoodIn wsX8_settle (wsV RX8 319 RX0 yX0_become wsX0_become) := goodIn_app (goodIn_of _ (by decide +kernel)) ggX8_settle_X0_become
theorem dX8_settle_0 : decode cX8_settle 0 = .ok (.aload_n 0, 1) := by decide +kernel
theorem dX8_settle_1 : decode cX8_settle 1 = .ok (.getfield 10, 3) := by decide +kernel
theorem dX8_settle_4 : decode cX8_settle 4 = .ok (.invokevirtual 306, 3) := by decide +kernel
theorem dX8_settle_7 : decode cX8_settle 7 = .ok (.aload_n 0, 1) := by decide +kernel
theorem dX8_settle_8 : decode cX8_settle 8 = .ok (.getfield 21, 3) := by decide +kernel
theorem dX8_settle_11 : decode cX8_settle 11 = .ok (.invokevirtual 309, 3) := by decide +kernel
theorem dX8_settle_14 : decode cX8_settle 14 = .ok (.aload_n 0, 1) := by decide +kernel
theorem dX8_settle_15 : decode cX8_settle 15 = .ok (.getfield 28, 3) := by decide +kernel
theorem dX8_settle_18 : decode cX8_settle 18 = .ok (.invokevirtual 312, 3) := by decide +kernel
theorem dX8_settle_21 : decode cX8_settle 21 = .ok (.iconst 0, 1) := by decide +kernel
theorem dX8_settle_22 : decode cX8_settle 22 = .ok (.istore_n 1, 1) := by decide +kernel
theorem dX8_settle_23 : decode cX8_settle 23 = .ok (.iload_n 1, 1) := by decide +kernel
theorem dX8_settle_24 : decode cX8_settle 24 = .ok (.bipush 8, 2) := by decide +kernel
theorem dX8_settle_26 : decode cX8_settle 26 = .ok (.if_icmp .ge 49, 3) := by decide +kernel
theorem dX8_settle_29 : decode cX8_settle 29 = .ok (.aload_n 0, 1) := by decide +kernel
theorem dX8_settle_30 : decode cX8_settle 30 = .ok (.iload_n 1, 1) := by decide +kernel
theorem dX8_settle_31 : decode cX8_settle 31 = .ok (.invokevirtual 241, 3) := by decide +kernel
theorem dX8_settle_34 : decode cX8_settle 34 = .ok (.ifCond .eq 35, 3) := by decide +kernel
theorem dX8_settle_37 : decode cX8_settle 37 = .ok (.aload_n 0, 1) := by decide +kernel
theorem dX8_settle_38 : decode cX8_settle 38 = .ok (.getfield 51, 3) := by decide +kernel
theorem dX8_settle_41 : decode cX8_settle 41 = .ok (.aload_n 0, 1) := by decide +kernel
theorem dX8_settle_42 : decode cX8_settle 42 = .ok (.getfield 41, 3) := by decide +kernel
theorem dX8_settle_45 : decode cX8_settle 45 = .ok (.iload_n 1, 1) := by decide +kernel
theorem dX8_settle_46 : decode cX8_settle 46 = .ok (.aaload, 1) := by decide +kernel
theorem dX8_settle_47 : decode cX8_settle 47 = .ok (.invokevirtual 315, 3) := by decide +kernel
theorem dX8_settle_50 : decode cX8_settle 50 = .ok (.invokevirtual 231, 3) := by decide +kernel
theorem dX8_settle_53 : decode cX8_settle 53 = .ok (.lstore_n 2, 1) := by decide +kernel
theorem dX8_settle_54 : decode cX8_settle 54 = .ok (.aload_n 0, 1) := by decide +kernel
theorem dX8_settle_55 : decode cX8_settle 55 = .ok (.getfield 41, 3) := by decide +kernel
theorem dX8_settle_58 : decode cX8_settle 58 = .ok (.iload_n 1, 1) := by decide +kernel
theorem dX8_settle_59 : decode cX8_settle 59 = .ok (.aaload, 1) := by decide +kernel
theorem dX8_settle_60 : decode cX8_settle 60 = .ok (.lload_n 2, 1) := by decide +kernel
theorem dX8_settle_61 : decode cX8_settle 61 = .ok (.iload_n 1, 1) := by decide +kernel
theorem dX8_settle_62 : decode cX8_settle 62 = .ok (.aload_n 0, 1) := by decide +kernel
theorem dX8_settle_63 : decode cX8_settle 63 = .ok (.getfield 67, 3) := by decide +kernel
theorem dX8_settle_66 : decode cX8_settle 66 = .ok (.invokevirtual 319, 3) := by decide +kernel
theorem dX8_settle_69 : decode cX8_settle 69 = .ok (.iinc 1 1, 3) := by decide +kernel
theorem dX8_settle_72 : decode cX8_settle 72 = .ok (.goto (-49), 3) := by decide +kernel
theorem dX8_settle_75 : decode cX8_settle 75 = .ok (.return_, 1) := by decide +kernel
theorem dX9_init_0 : decode cX9_init 0 = .ok (.aload_n 0, 1) := by decide +kernel
theorem dX9_init_1 : decode cX9_init 1 = .ok (.invokespecial 1, 3) := by decide +kernel
theorem dX9_init_4 : decode cX9_init 4 = .ok (.aload_n 0, 1) := by decide +kernel
theorem dX9_init_5 : decode cX9_init 5 = .ok (.bipush 40, 2) := by decide +kernel
theorem dX9_init_7 : decode cX9_init 7 = .ok (.newarray .boolean, 2) := by decide +kernel
theorem dX9_init_9 : decode cX9_init 9 = .ok (.putfield 7, 3) := by decide +kernel
theorem dX9_init_12 : decode cX9_init 12 = .ok (.aload_n 0, 1) := by decide +kernel
theorem dX9_init_13 : decode cX9_init 13 = .ok (.bipush 40, 2) := by decide +kernel
theorem dX9_init_15 : decode cX9_init 15 = .ok (.newarray .int, 2) := by decide +kernel
theorem dX9_init_17 : decode cX9_init 17 = .ok (.putfield 13, 3) := by decide +kernel
theorem dX9_init_20 : decode cX9_init 20 = .ok (.aload_n 0, 1) := by decide +kernel
theorem dX9_init_21 : decode cX9_init 21 = .ok (.bipush 40, 2) := by decide +kernel
theorem dX9_init_23 : decode cX9_init 23 = .ok (.newarray .int, 2) := by decide +kernel
theorem dX9_init_25 : decode cX9_init 25 = .ok (.putfield 17, 3) := by decide +kernel
theorem dX9_init_28 : decode cX9_init 28 = .ok (.aload_n 0, 1) := by decide +kernel
theorem dX9_init_29 : decode cX9_init 29 = .ok (.sipush 720, 3) := by decide +kernel
theorem dX9_init_32 : decode cX9_init 32 = .ok (.newarray .boolean, 2) := by decide +kernel
theorem dX9_init_34 : decode cX9_init 34 = .ok (.putfield 20, 3) := by decide +kernel
theorem dX9_init_37 : decode cX9_init 37 = .ok (.aload_n 0, 1) := by decide +kernel
theorem dX9_init_38 : decode cX9_init 38 = .ok (.sipush 720, 3) := by decide +kernel
theorem dX9_init_41 : decode cX9_init 41 = .ok (.newarray .int, 2) := by decide +kernel
theorem dX9_init_43 : decode cX9_init 43 = .ok (.putfield 23, 3) := by decide +kernel
theorem dX9_init_46 : decode cX9_init 46 = .ok (.aload_n 0, 1) := by decide +kernel
theorem dX9_init_47 : decode cX9_init 47 = .ok (.iconst 3, 1) := by decide +kernel
theorem dX9_init_48 : decode cX9_init 48 = .ok (.newarray .int, 2) := by decide +kernel
theorem dX9_init_50 : decode cX9_init 50 = .ok (.putfield 26, 3) := by decide +kernel
theorem dX9_init_53 : decode cX9_init 53 = .ok (.aload_n 0, 1) := by decide +kernel
theorem dX9_init_54 : decode cX9_init 54 = .ok (.bipush 40, 2) := by decide +kernel
theorem dX9_init_56 : decode cX9_init 56 = .ok (.newarray .int, 2) := by decide +kernel
theorem dX9_init_58 : decode cX9_init 58 = .ok (.putfield 29, 3) := by decide +kernel
theorem dX9_init_61 : decode cX9_init 61 = .ok (.aload_n 0, 1) := by decide +kernel
theorem dX9_init_62 : decode cX9_init 62 = .ok (.bipush 10, 2) := by decide +kernel
theorem dX9_init_64 : decode cX9_init 64 = .ok (.newarray .int, 2) := by decide +kernel
theorem dX9_init_66 : decode cX9_init 66 = .ok (.putfield 32, 3) := by decide +kernel
theorem dX9_init_69 : decode cX9_init 69 = .ok (.aload_n 0, 1) := by decide +kernel
theorem dX9_init_70 : decode cX9_init 70 = .ok (.bipush 80, 2) := by decide +kernel
theorem dX9_init_72 : decode cX9_init 72 = .ok (.newarray .int, 2) := by decide +kernel
theorem dX9_init_74 : decode cX9_init 74 = .ok (.putfield 35, 3) := by decide +kernel
theorem dX9_init_77 : decode cX9_init 77 = .ok (.aload_n 0, 1) := by decide +kernel
theorem dX9_init_78 : decode cX9_init 78 = .ok (.bipush 10, 2) := by decide +kernel
theorem dX9_init_80 : decode cX9_init 80 = .ok (.newarray .int, 2) := by decide +kernel
theorem dX9_init_82 : decode cX9_init 82 = .ok (.putfield 38, 3) := by decide +kernel
theorem dX9_init_85 : decode cX9_init 85 = .ok (.aload_n 0, 1) := by decide +kernel
theorem dX9_init_86 : decode cX9_init 86 = .ok (.bipush 10, 2) := by decide +kernel
theorem dX9_init_88 : decode cX9_init 88 = .ok (.newarray .boolean, 2) := by decide +kernel
theorem dX9_init_90 : decode cX9_init 90 = .ok (.putfield 41, 3) := by decide +kernel
theorem dX9_init_93 : decode cX9_init 93 = .ok (.aload_n 0, 1) := by decide +kernel
theorem dX9_init_94 : decode cX9_init 94 = .ok (.bipush 80, 2) := by decide +kernel
theorem dX9_init_96 : decode cX9_init 96 = .ok (.newarray .char, 2) := by decide +kernel
theorem dX9_init_98 : decode cX9_init 98 = .ok (.putfield 44, 3) := by decide +kernel
theorem dX9_init_101 : decode cX9_init 101 = .ok (.aload_n 0, 1) := by decide +kernel
theorem dX9_init_102 : decode cX9_init 102 = .ok (.bipush 8, 2) := by decide +kernel
theorem dX9_init_104 : decode cX9_init 104 = .ok (.newarray .boolean, 2) := by decide +kernel
theorem dX9_init_106 : decode cX9_init 106 = .ok (.putfield 48, 3) := by decide +kernel
theorem dX9_init_109 : decode cX9_init 109 = .ok (.aload_n 0, 1) := by decide +kernel
theorem dX9_init_110 : decode cX9_init 110 = .ok (.bipush 8, 2) := by decide +kernel
theorem dX9_init_112 : decode cX9_init 112 = .ok (.newarray .int, 2) := by decide +kernel
theorem dX9_init_114 : decode cX9_init 114 = .ok (.putfield 51, 3) := by decide +kernel
theorem dX9_init_117 : decode cX9_init 117 = .ok (.aload_n 0, 1) := by decide +kernel
theorem dX9_init_118 : decode cX9_init 118 = .ok (.sipush 640, 3) := by decide +kernel
theorem dX9_init_121 : decode cX9_init 121 = .ok (.newarray .char, 2) := by decide +kernel
theorem dX9_init_123 : decode cX9_init 123 = .ok (.putfield 54, 3) := by decide +kernel
theorem dX9_init_126 : decode cX9_init 126 = .ok (.aload_n 0, 1) := by decide +kernel
theorem dX9_init_127 : decode cX9_init 127 = .ok (.bipush 8, 2) := by decide +kernel
theorem dX9_init_129 : decode cX9_init 129 = .ok (.newarray .long, 2) := by decide +kernel
theorem dX9_init_131 : decode cX9_init 131 = .ok (.putfield 57, 3) := by decide +kernel
theorem dX9_init_134 : decode cX9_init 134 = .ok (.aload_n 0, 1) := by decide +kernel
theorem dX9_init_135 : decode cX9_init 135 = .ok (.bipush 8, 2) := by decide +kernel
theorem dX9_init_137 : decode cX9_init 137 = .ok (.newarray .int, 2) := by decide +kernel
theorem dX9_init_139 : decode cX9_init 139 = .ok (.putfield 61, 3) := by decide +kernel
theorem dX9_init_142 : decode cX9_init 142 = .ok (.aload_n 0, 1) := by decide +kernel
theorem dX9_init_143 : decode cX9_init 143 = .ok (.bipush 8, 2) := by decide +kernel
theorem dX9_init_145 : decode cX9_init 145 = .ok (.newarray .boolean, 2) := by decide +kernel
theorem dX9_init_147 : decode cX9_init 147 = .ok (.putfield 64, 3) := by decide +kernel
theorem dX9_init_150 : decode cX9_init 150 = .ok (.aload_n 0, 1) := by decide +kernel
theorem dX9_init_151 : decode cX9_init 151 = .ok (.bipush 16, 2) := by decide +kernel
theorem dX9_init_153 : decode cX9_init 153 = .ok (.newarray .int, 2) := by decide +kernel
theorem dX9_init_155 : decode cX9_init 155 = .ok (.putfield 67, 3) := by decide +kernel
theorem dX9_init_158 : decode cX9_init 158 = .ok (.aload_n 0, 1) := by decide +kernel
theorem dX9_init_159 : decode cX9_init 159 = .ok (.bipush 72, 2) := by decide +kernel
theorem dX9_init_161 : decode cX9_init 161 = .ok (.newarray .int, 2) := by decide +kernel
theorem dX9_init_163 : decode cX9_init 163 = .ok (.putfield 70, 3) := by decide +kernel
theorem dX9_init_166 : decode cX9_init 166 = .ok (.aload_n 0, 1) := by decide +kernel
theorem dX9_init_167 : decode cX9_init 167 = .ok (.bipush 12, 2) := by decide +kernel
theorem dX9_init_169 : decode cX9_init 169 = .ok (.newarray .boolean, 2) := by decide +kernel
theorem dX9_init_171 : decode cX9_init 171 = .ok (.putfield 73, 3) := by decide +kernel
theorem dX9_init_174 : decode cX9_init 174 = .ok (.aload_n 0, 1) := by decide +kernel
theorem dX9_init_175 : decode cX9_init 175 = .ok (.bipush 12, 2) := by decide +kernel
theorem dX9_init_177 : decode cX9_init 177 = .ok (.newarray .boolean, 2) := by decide +kernel
theorem dX9_init_179 : decode cX9_init 179 = .ok (.putfield 76, 3) := by decide +kernel
theorem dX9_init_182 : decode cX9_init 182 = .ok (.aload_n 0, 1) := by decide +kernel
theorem dX9_init_183 : decode cX9_init 183 = .ok (.bipush 12, 2) := by decide +kernel
theorem dX9_init_185 : decode cX9_init 185 = .ok (.newarray .boolean, 2) := by decide +kernel
theorem dX9_init_187 : decode cX9_init 187 = .ok (.putfield 79, 3) := by decide +kernel
theorem dX9_init_190 : decode cX9_init 190 = .ok (.aload_n 0, 1) := by decide +kernel
theorem dX9_init_191 : decode cX9_init 191 = .ok (.bipush 80, 2) := by decide +kernel
theorem dX9_init_193 : decode cX9_init 193 = .ok (.newarray .char, 2) := by decide +kernel
theorem dX9_init_195 : decode cX9_init 195 = .ok (.putfield 82, 3) := by decide +kernel
theorem dX9_init_198 : decode cX9_init 198 = .ok (.aload_n 0, 1) := by decide +kernel
theorem dX9_init_199 : decode cX9_init 199 = .ok (.getfield 26, 3) := by decide +kernel
theorem dX9_init_202 : decode cX9_init 202 = .ok (.iconst 1, 1) := by decide +kernel
theorem dX9_init_203 : decode cX9_init 203 = .ok (.iconst 1, 1) := by decide +kernel
theorem dX9_init_204 : decode cX9_init 204 = .ok (.iastore, 1) := by decide +kernel
theorem dX9_init_205 : decode cX9_init 205 = .ok (.aload_n 0, 1) := by decide +kernel
theorem dX9_init_206 : decode cX9_init 206 = .ok (.getfield 26, 3) := by decide +kernel
theorem dX9_init_209 : decode cX9_init 209 = .ok (.iconst 2, 1) := by decide +kernel
theorem dX9_init_210 : decode cX9_init 210 = .ok (.iconst 2, 1) := by decide +kernel
theorem dX9_init_211 : decode cX9_init 211 = .ok (.iastore, 1) := by decide +kernel
theorem dX9_init_212 : decode cX9_init 212 = .ok (.iconst 0, 1) := by decide +kernel
theorem dX9_init_213 : decode cX9_init 213 = .ok (.istore_n 1, 1) := by decide +kernel
theorem dX9_init_214 : decode cX9_init 214 = .ok (.iload_n 1, 1) := by decide +kernel
theorem dX9_init_215 : decode cX9_init 215 = .ok (.bipush 40, 2) := by decide +kernel
theorem dX9_init_217 : decode cX9_init 217 = .ok (.if_icmp .ge 16, 3) := by decide +kernel
theorem dX9_init_220 : decode cX9_init 220 = .ok (.aload_n 0, 1) := by decide +kernel
theorem dX9_init_221 : decode cX9_init 221 = .ok (.getfield 29, 3) := by decide +kernel
theorem dX9_init_224 : decode cX9_init 224 = .ok (.iload_n 1, 1) := by decide +kernel
theorem dX9_init_225 : decode cX9_init 225 = .ok (.iconst (-1), 1) := by decide +kernel
theorem dX9_init_226 : decode cX9_init 226 = .ok (.iastore, 1) := by decide +kernel
theorem dX9_init_227 : decode cX9_init 227 = .ok (.iinc 1 1, 3) := by decide +kernel
theorem dX9_init_230 : decode cX9_init 230 = .ok (.goto (-16), 3) := by decide +kernel
theorem dX9_init_233 : decode cX9_init 233 = .ok (.return_, 1) := by decide +kernel
theorem dX9_in_0 : decode cX9_in 0 = .ok (.iload_n 0, 1) := by decide +kernel
theorem dX9_in_1 : decode cX9_in 1 = .ok (.iload_n 1, 1) := by decide +kernel
theorem dX9_in_2 : decode cX9_in 2 = .ok (.if_icmp .lt 12, 3) := by decide +kernel
theorem dX9_in_5 : decode cX9_in 5 = .ok (.iload_n 0, 1) := by decide +kernel
theorem dX9_in_6 : decode cX9_in 6 = .ok (.iload_n 2, 1) := by decide +kernel
theorem dX9_in_7 : decode cX9_in 7 = .ok (.if_icmp .gt 7, 3) := by decide +kernel
theorem dX9_in_10 : decode cX9_in 10 = .ok (.iconst 1, 1) := by decide +kernel
theorem dX9_in_11 : decode cX9_in 11 = .ok (.goto 4, 3) := by decide +kernel
theorem dX9_in_14 : decode cX9_in 14 = .ok (.iconst 0, 1) := by decide +kernel
theorem dX9_in_15 : decode cX9_in 15 = .ok (.ireturn, 1) := by decide +kernel
set_option maxRecDepth 20000 in
theorem ggX9_there_X9_in : GoodIn wsX9_there wsX9_in := goodIn_r _ [5] (by decide +kernel) (by decide +kernel)
set_option maxRecDepth 20000 in
theorem gX9_there_X9_in : GoodIn wsX9_there (va_wsS RX9 85 yX9_in wsX9_in) := goodIn_app (goodIn_of _ (by decide +kernel)) ggX9_there_X9_in
theorem dX9_there_0 : decode cX9_there 0 = .ok (.iload_n 1, 1) := by decide +kernel
theorem dX9_there_1 : decode cX9_there 1 = .ok (.iconst 0, 1) := by decide +kernel
theorem dX9_there_2 : decode cX9_there 2 = .ok (.bipush 39, 2) := by decide +kernel
theorem dX9_there_4 : decode cX9_there 4 = .ok (.invokestatic 85, 3) := by decide +kernel
theorem dX9_there_7 : decode cX9_there 7 = .ok (.ifCond .eq 16, 3) := by decide +kernel
theorem dX9_there_10 : decode cX9_there 10 = .ok (.aload_n 0, 1) := by decide +kernel
theorem dX9_there_11 : decode cX9_there 11 = .ok (.getfield 7, 3) := by decide +kernel
theorem dX9_there_14 : decode cX9_there 14 = .ok (.iload_n 1, 1) := by decide +kernel
theorem dX9_there_15 : decode cX9_there 15 = .ok (.baload, 1) := by decide +kernel
theorem dX9_there_16 : decode cX9_there 16 = .ok (.ifCond .eq 7, 3) := by decide +kernel
theorem dX9_there_19 : decode cX9_there 19 = .ok (.iconst 1, 1) := by decide +kernel
theorem dX9_there_20 : decode cX9_there 20 = .ok (.goto 4, 3) := by decide +kernel
theorem dX9_there_23 : decode cX9_there 23 = .ok (.iconst 0, 1) := by decide +kernel
theorem dX9_there_24 : decode cX9_there 24 = .ok (.ireturn, 1) := by decide +kernel
theorem dX9_source_0 : decode cX9_source 0 = .ok (.iconst 0, 1) := by decide +kernel
theorem dX9_source_1 : decode cX9_source 1 = .ok (.istore_n 3, 1) := by decide +kernel
theorem dX9_source_2 : decode cX9_source 2 = .ok (.iload_n 3, 1) := by decide +kernel
theorem dX9_source_3 : decode cX9_source 3 = .ok (.iconst 3, 1) := by decide +kernel
theorem dX9_source_4 : decode cX9_source 4 = .ok (.if_icmp .ge 40, 3) := by decide +kernel
theorem dX9_source_7 : decode cX9_source 7 = .ok (.aload_n 0, 1) := by decide +kernel
theorem dX9_source_8 : decode cX9_source 8 = .ok (.getfield 20, 3) := by decide +kernel
theorem dX9_source_11 : decode cX9_source 11 = .ok (.bipush 18, 2) := by decide +kernel
theorem dX9_source_13 : decode cX9_source 13 = .ok (.iload_n 1, 1) := by decide +kernel
theorem dX9_source_14 : decode cX9_source 14 = .ok (.imul, 1) := by decide +kernel
theorem dX9_source_15 : decode cX9_source 15 = .ok (.bipush 6, 2) := by decide +kernel
theorem dX9_source_17 : decode cX9_source 17 = .ok (.aload_n 0, 1) := by decide +kernel
theorem dX9_source_18 : decode cX9_source 18 = .ok (.getfield 26, 3) := by decide +kernel
theorem dX9_source_21 : decode cX9_source 21 = .ok (.iload_n 3, 1) := by decide +kernel
theorem dX9_source_22 : decode cX9_source 22 = .ok (.iaload, 1) := by decide +kernel
theorem dX9_source_23 : decode cX9_source 23 = .ok (.imul, 1) := by decide +kernel
theorem dX9_source_24 : decode cX9_source 24 = .ok (.iadd, 1) := by decide +kernel
theorem dX9_source_25 : decode cX9_source 25 = .ok (.iload_n 2, 1) := by decide +kernel
theorem dX9_source_26 : decode cX9_source 26 = .ok (.iadd, 1) := by decide +kernel
theorem dX9_source_27 : decode cX9_source 27 = .ok (.baload, 1) := by decide +kernel
theorem dX9_source_28 : decode cX9_source 28 = .ok (.ifCond .eq 10, 3) := by decide +kernel
theorem dX9_source_31 : decode cX9_source 31 = .ok (.aload_n 0, 1) := by decide +kernel
theorem dX9_source_32 : decode cX9_source 32 = .ok (.getfield 26, 3) := by decide +kernel
theorem dX9_source_35 : decode cX9_source 35 = .ok (.iload_n 3, 1) := by decide +kernel
theorem dX9_source_36 : decode cX9_source 36 = .ok (.iaload, 1) := by decide +kernel
theorem dX9_source_37 : decode cX9_source 37 = .ok (.ireturn, 1) := by decide +kernel
theorem dX9_source_38 : decode cX9_source 38 = .ok (.iinc 3 1, 3) := by decide +kernel
theorem dX9_source_41 : decode cX9_source 41 = .ok (.goto (-39), 3) := by decide +kernel
theorem dX9_source_44 : decode cX9_source 44 = .ok (.bipush (-4), 2) := by decide +kernel
theorem dX9_source_46 : decode cX9_source 46 = .ok (.ireturn, 1) := by decide +kernel
set_option maxRecDepth 20000 in
theorem ggX9_valueOr_X9_source : GoodIn wsX9_valueOr wsX9_source := goodIn_r _ [6, 7, 8, 9, 10, 11, 12, 13, 14, 15, 16, 17, 18, 19, 20, 21, 22, 23, 24, 25, 26, 27, 28, 29, 30, 31, 32, 33, 34, 35, 36] (by decide +kernel) (by decide +kernel)
set_option maxRecDepth 20000 in
theorem gX9_valueOr_X9_source : GoodIn wsX9_valueOr (wsV RX9 89 RX9 yX9_source wsX9_source) := goodIn_app (goodIn_of _ (by decide +kernel)) ggX9_valueOr_X9_source
theorem dX9_valueOr_0 : decode cX9_valueOr 0 = .ok (.aload_n 0, 1) := by decide +kernel
theorem dX9_valueOr_1 : decode cX9_valueOr 1 = .ok (.iload_n 1, 1) := by decide +kernel
theorem dX9_valueOr_2 : decode cX9_valueOr 2 = .ok (.iload_n 2, 1) := by decide +kernel
theorem dX9_valueOr_3 : decode cX9_valueOr 3 = .ok (.invokevirtual 89, 3) := by decide +kernel
theorem dX9_valueOr_6 : decode cX9_valueOr 6 = .ok (.istore 4, 2) := by decide +kernel
theorem dX9_valueOr_8 : decode cX9_valueOr 8 = .ok (.iload 4, 2) := by decide +kernel
theorem dX9_valueOr_10 : decode cX9_valueOr 10 = .ok (.ifCond .ge 7, 3) := by decide +kernel
theorem dX9_valueOr_13 : decode cX9_valueOr 13 = .ok (.iload_n 3, 1) := by decide +kernel
theorem dX9_valueOr_14 : decode cX9_valueOr 14 = .ok (.goto 20, 3) := by decide +kernel
theorem dX9_valueOr_17 : decode cX9_valueOr 17 = .ok (.aload_n 0, 1) := by decide +kernel
theorem dX9_valueOr_18 : decode cX9_valueOr 18 = .ok (.getfield 23, 3) := by decide +kernel
theorem dX9_valueOr_21 : decode cX9_valueOr 21 = .ok (.bipush 18, 2) := by decide +kernel
theorem dX9_valueOr_23 : decode cX9_valueOr 23 = .ok (.iload_n 1, 1) := by decide +kernel
theorem dX9_valueOr_24 : decode cX9_valueOr 24 = .ok (.imul, 1) := by decide +kernel
theorem dX9_valueOr_25 : decode cX9_valueOr 25 = .ok (.bipush 6, 2) := by decide +kernel
theorem dX9_valueOr_27 : decode cX9_valueOr 27 = .ok (.iload 4, 2) := by decide +kernel
theorem dX9_valueOr_29 : decode cX9_valueOr 29 = .ok (.imul, 1) := by decide +kernel
theorem dX9_valueOr_30 : decode cX9_valueOr 30 = .ok (.iadd, 1) := by decide +kernel
theorem dX9_valueOr_31 : decode cX9_valueOr 31 = .ok (.iload_n 2, 1) := by decide +kernel
theorem dX9_valueOr_32 : decode cX9_valueOr 32 = .ok (.iadd, 1) := by decide +kernel
theorem dX9_valueOr_33 : decode cX9_valueOr 33 = .ok (.iaload, 1) := by decide +kernel
theorem dX9_valueOr_34 : decode cX9_valueOr 34 = .ok (.ireturn, 1) := by decide +kernel
theorem dX9_tags_0 : decode cX9_tags 0 = .ok (.iconst 0, 1) := by decide +kernel
theorem dX9_tags_1 : decode cX9_tags 1 = .ok (.istore_n 2, 1) := by decide +kernel
theorem dX9_tags_2 : decode cX9_tags 2 = .ok (.iconst 0, 1) := by decide +kernel
theorem dX9_tags_3 : decode cX9_tags 3 = .ok (.istore_n 3, 1) := by decide +kernel
theorem dX9_tags_4 : decode cX9_tags 4 = .ok (.iload_n 3, 1) := by decide +kernel
theorem dX9_tags_5 : decode cX9_tags 5 = .ok (.iconst 3, 1) := by decide +kernel
theorem dX9_tags_6 : decode cX9_tags 6 = .ok (.if_icmp .ge 51, 3) := by decide +kernel
theorem dX9_tags_9 : decode cX9_tags 9 = .ok (.iload_n 2, 1) := by decide +kernel
theorem dX9_tags_10 : decode cX9_tags 10 = .ok (.aload_n 0, 1) := by decide +kernel
theorem dX9_tags_11 : decode cX9_tags 11 = .ok (.getfield 20, 3) := by decide +kernel
theorem dX9_tags_14 : decode cX9_tags 14 = .ok (.bipush 18, 2) := by decide +kernel
theorem dX9_tags_16 : decode cX9_tags 16 = .ok (.iload_n 1, 1) := by decide +kernel
theorem dX9_tags_17 : decode cX9_tags 17 = .ok (.imul, 1) := by decide +kernel
theorem dX9_tags_18 : decode cX9_tags 18 = .ok (.bipush 6, 2) := by decide +kernel
theorem dX9_tags_20 : decode cX9_tags 20 = .ok (.iload_n 3, 1) := by decide +kernel
theorem dX9_tags_21 : decode cX9_tags 21 = .ok (.imul, 1) := by decide +kernel
theorem dX9_tags_22 : decode cX9_tags 22 = .ok (.iadd, 1) := by decide +kernel
theorem dX9_tags_23 : decode cX9_tags 23 = .ok (.iconst 5, 1) := by decide +kernel
theorem dX9_tags_24 : decode cX9_tags 24 = .ok (.iadd, 1) := by decide +kernel
theorem dX9_tags_25 : decode cX9_tags 25 = .ok (.baload, 1) := by decide +kernel
theorem dX9_tags_26 : decode cX9_tags 26 = .ok (.ifCond .eq 22, 3) := by decide +kernel
theorem dX9_tags_29 : decode cX9_tags 29 = .ok (.aload_n 0, 1) := by decide +kernel
theorem dX9_tags_30 : decode cX9_tags 30 = .ok (.getfield 23, 3) := by decide +kernel
theorem dX9_tags_33 : decode cX9_tags 33 = .ok (.bipush 18, 2) := by decide +kernel
theorem dX9_tags_35 : decode cX9_tags 35 = .ok (.iload_n 1, 1) := by decide +kernel
theorem dX9_tags_36 : decode cX9_tags 36 = .ok (.imul, 1) := by decide +kernel
theorem dX9_tags_37 : decode cX9_tags 37 = .ok (.bipush 6, 2) := by decide +kernel
theorem dX9_tags_39 : decode cX9_tags 39 = .ok (.iload_n 3, 1) := by decide +kernel
theorem dX9_tags_40 : decode cX9_tags 40 = .ok (.imul, 1) := by decide +kernel
theorem dX9_tags_41 : decode cX9_tags 41 = .ok (.iadd, 1) := by decide +kernel
theorem dX9_tags_42 : decode cX9_tags 42 = .ok (.iconst 5, 1) := by decide +kernel
theorem dX9_tags_43 : decode cX9_tags 43 = .ok (.iadd, 1) := by decide +kernel
theorem dX9_tags_44 : decode cX9_tags 44 = .ok (.iaload, 1) := by decide +kernel
theorem dX9_tags_45 : decode cX9_tags 45 = .ok (.goto 4, 3) := by decide +kernel
theorem dX9_tags_48 : decode cX9_tags 48 = .ok (.iconst 0, 1) := by decide +kernel
theorem dX9_tags_49 : decode cX9_tags 49 = .ok (.ior, 1) := by decide +kernel
theorem dX9_tags_50 : decode cX9_tags 50 = .ok (.istore_n 2, 1) := by decide +kernel
theorem dX9_tags_51 : decode cX9_tags 51 = .ok (.iinc 3 1, 3) := by decide +kernel
theorem dX9_tags_54 : decode cX9_tags 54 = .ok (.goto (-50), 3) := by decide +kernel
theorem dX9_tags_57 : decode cX9_tags 57 = .ok (.iload_n 2, 1) := by decide +kernel
theorem dX9_tags_58 : decode cX9_tags 58 = .ok (.ireturn, 1) := by decide +kernel
set_option maxRecDepth 20000 in
theorem ggX9_fits_X9_in : GoodIn wsX9_fits wsX9_in := goodIn_r _ [4] (by decide +kernel) (by decide +kernel)
set_option maxRecDepth 20000 in
theorem gX9_fits_X9_in : GoodIn wsX9_fits (va_wsS RX9 85 yX9_in wsX9_in) := goodIn_app (goodIn_of _ (by decide +kernel)) ggX9_fits_X9_in
theorem dX9_fits_0 : decode cX9_fits 0 = .ok (.iload_n 0, 1) := by decide +kernel
theorem dX9_fits_1 : decode cX9_fits 1 = .ok (.tableswitch 77 0 4 #[35, 42, 49, 60, 68], 35) := by decide +kernel
theorem dX9_fits_36 : decode cX9_fits 36 = .ok (.iload_n 1, 1) := by decide +kernel
theorem dX9_fits_37 : decode cX9_fits 37 = .ok (.iconst 0, 1) := by decide +kernel
theorem dX9_fits_38 : decode cX9_fits 38 = .ok (.iconst 2, 1) := by decide +kernel
theorem dX9_fits_39 : decode cX9_fits 39 = .ok (.invokestatic 85, 3) := by decide +kernel
theorem dX9_fits_42 : decode cX9_fits 42 = .ok (.ireturn, 1) := by decide +kernel
theorem dX9_fits_43 : decode cX9_fits 43 = .ok (.iload_n 1, 1) := by decide +kernel
theorem dX9_fits_44 : decode cX9_fits 44 = .ok (.iconst 0, 1) := by decide +kernel
theorem dX9_fits_45 : decode cX9_fits 45 = .ok (.iconst 5, 1) := by decide +kernel
theorem dX9_fits_46 : decode cX9_fits 46 = .ok (.invokestatic 85, 3) := by decide +kernel
theorem dX9_fits_49 : decode cX9_fits 49 = .ok (.ireturn, 1) := by decide +kernel
theorem dX9_fits_50 : decode cX9_fits 50 = .ok (.iload_n 1, 1) := by decide +kernel
theorem dX9_fits_51 : decode cX9_fits 51 = .ok (.sipush 1900, 3) := by decide +kernel
theorem dX9_fits_54 : decode cX9_fits 54 = .ok (.sipush 2100, 3) := by decide +kernel
theorem dX9_fits_57 : decode cX9_fits 57 = .ok (.invokestatic 85, 3) := by decide +kernel
theorem dX9_fits_60 : decode cX9_fits 60 = .ok (.ireturn, 1) := by decide +kernel
theorem dX9_fits_61 : decode cX9_fits 61 = .ok (.iload_n 1, 1) := by decide +kernel
theorem dX9_fits_62 : decode cX9_fits 62 = .ok (.iconst 0, 1) := by decide +kernel
theorem dX9_fits_63 : decode cX9_fits 63 = .ok (.bipush 20, 2) := by decide +kernel
theorem dX9_fits_65 : decode cX9_fits 65 = .ok (.invokestatic 85, 3) := by decide +kernel
theorem dX9_fits_68 : decode cX9_fits 68 = .ok (.ireturn, 1) := by decide +kernel
theorem dX9_fits_69 : decode cX9_fits 69 = .ok (.iload_n 1, 1) := by decide +kernel
theorem dX9_fits_70 : decode cX9_fits 70 = .ok (.iconst 0, 1) := by decide +kernel
theorem dX9_fits_71 : decode cX9_fits 71 = .ok (.sipush 9999, 3) := by decide +kernel
theorem dX9_fits_74 : decode cX9_fits 74 = .ok (.invokestatic 85, 3) := by decide +kernel
theorem dX9_fits_77 : decode cX9_fits 77 = .ok (.ireturn, 1) := by decide +kernel
theorem dX9_fits_78 : decode cX9_fits 78 = .ok (.iload_n 1, 1) := by decide +kernel
theorem dX9_fits_79 : decode cX9_fits 79 = .ok (.iconst 0, 1) := by decide +kernel
theorem dX9_fits_80 : decode cX9_fits 80 = .ok (.sipush 1023, 3) := by decide +kernel
theorem dX9_fits_83 : decode cX9_fits 83 = .ok (.invokestatic 85, 3) := by decide +kernel
theorem dX9_fits_86 : decode cX9_fits 86 = .ok (.ireturn, 1) := by decide +kernel
set_option maxRecDepth 20000 in
theorem ggX9_isPreferred_X9_valueOr : GoodIn wsX9_isPreferred wsX9_valueOr := goodIn_r _ [5, 6, 7, 8, 9, 4, 10, 11, 12, 13, 14, 15, 16, 17, 18, 19, 20, 21, 22, 23, 24, 25, 26, 27, 28, 29, 30, 31, 32, 33, 34, 35, 36, 37, 38, 39, 40] (by decide +kernel) (by decide +kernel)
set_option maxRecDepth 20000 in
theorem gX9_isPreferred_X9_valueOr : GoodIn wsX9_isPreferred (wsV RX9 93 RX9 yX9_valueOr wsX9_valueOr) := goodIn_app (goodIn_of _ (by decide +kernel)) ggX9_isPreferred_X9_valueOr
theorem dX9_isPreferred_0 : decode cX9_isPreferred 0 = .ok (.aload_n 0, 1) := by decide +kernel
theorem dX9_isPreferred_1 : decode cX9_isPreferred 1 = .ok (.iload_n 1, 1) := by decide +kernel
theorem dX9_isPreferred_2 : decode cX9_isPreferred 2 = .ok (.iconst 1, 1) := by decide +kernel
theorem dX9_isPreferred_3 : decode cX9_isPreferred 3 = .ok (.iconst (-1), 1) := by decide +kernel
theorem dX9_isPreferred_4 : decode cX9_isPreferred 4 = .ok (.invokevirtual 93, 3) := by decide +kernel
theorem dX9_isPreferred_7 : decode cX9_isPreferred 7 = .ok (.aload_n 0, 1) := by decide +kernel
theorem dX9_isPreferred_8 : decode cX9_isPreferred 8 = .ok (.iload_n 2, 1) := by decide +kernel
theorem dX9_isPreferred_9 : decode cX9_isPreferred 9 = .ok (.iconst 1, 1) := by decide +kernel
theorem dX9_isPreferred_10 : decode cX9_isPreferred 10 = .ok (.iconst (-1), 1) := by decide +kernel
theorem dX9_isPreferred_11 : decode cX9_isPreferred 11 = .ok (.invokevirtual 93, 3) := by decide +kernel
theorem dX9_isPreferred_14 : decode cX9_isPreferred 14 = .ok (.isub, 1) := by decide +kernel
theorem dX9_isPreferred_15 : decode cX9_isPreferred 15 = .ok (.istore_n 3, 1) := by decide +kernel
theorem dX9_isPreferred_16 : decode cX9_isPreferred 16 = .ok (.aload_n 0, 1) := by decide +kernel
theorem dX9_isPreferred_17 : decode cX9_isPreferred 17 = .ok (.iload_n 1, 1) := by decide +kernel
theorem dX9_isPreferred_18 : decode cX9_isPreferred 18 = .ok (.iconst 2, 1) := by decide +kernel
theorem dX9_isPreferred_19 : decode cX9_isPreferred 19 = .ok (.sipush 9999, 3) := by decide +kernel
theorem dX9_isPreferred_22 : decode cX9_isPreferred 22 = .ok (.invokevirtual 93, 3) := by decide +kernel
theorem dX9_isPreferred_25 : decode cX9_isPreferred 25 = .ok (.aload_n 0, 1) := by decide +kernel
theorem dX9_isPreferred_26 : decode cX9_isPreferred 26 = .ok (.iload_n 2, 1) := by decide +kernel
theorem dX9_isPreferred_27 : decode cX9_isPreferred 27 = .ok (.iconst 2, 1) := by decide +kernel
theorem dX9_isPreferred_28 : decode cX9_isPreferred 28 = .ok (.sipush 9999, 3) := by decide +kernel
theorem dX9_isPreferred_31 : decode cX9_isPreferred 31 = .ok (.invokevirtual 93, 3) := by decide +kernel
theorem dX9_isPreferred_34 : decode cX9_isPreferred 34 = .ok (.isub, 1) := by decide +kernel
theorem dX9_isPreferred_35 : decode cX9_isPreferred 35 = .ok (.istore 4, 2) := by decide +kernel
theorem dX9_isPreferred_37 : decode cX9_isPreferred 37 = .ok (.iload_n 3, 1) := by decide +kernel
theorem dX9_isPreferred_38 : decode cX9_isPreferred 38 = .ok (.ifCond .eq 15, 3) := by decide +kernel
theorem dX9_isPreferred_41 : decode cX9_isPreferred 41 = .ok (.iload_n 3, 1) := by decide +kernel
theorem dX9_isPreferred_42 : decode cX9_isPreferred 42 = .ok (.ifCond .le 7, 3) := by decide +kernel
theorem dX9_isPreferred_45 : decode cX9_isPreferred 45 = .ok (.iconst 1, 1) := by decide +kernel
theorem dX9_isPreferred_46 : decode cX9_isPreferred 46 = .ok (.goto 35, 3) := by decide +kernel
theorem dX9_isPreferred_49 : decode cX9_isPreferred 49 = .ok (.iconst 0, 1) := by decide +kernel
theorem dX9_isPreferred_50 : decode cX9_isPreferred 50 = .ok (.goto 31, 3) := by decide +kernel
theorem dX9_isPreferred_53 : decode cX9_isPreferred 53 = .ok (.iload 4, 2) := by decide +kernel
theorem dX9_isPreferred_55 : decode cX9_isPreferred 55 = .ok (.ifCond .eq 16, 3) := by decide +kernel
theorem dX9_isPreferred_58 : decode cX9_isPreferred 58 = .ok (.iload 4, 2) := by decide +kernel
theorem dX9_isPreferred_60 : decode cX9_isPreferred 60 = .ok (.ifCond .ge 7, 3) := by decide +kernel
theorem dX9_isPreferred_63 : decode cX9_isPreferred 63 = .ok (.iconst 1, 1) := by decide +kernel
theorem dX9_isPreferred_64 : decode cX9_isPreferred 64 = .ok (.goto 17, 3) := by decide +kernel
theorem dX9_isPreferred_67 : decode cX9_isPreferred 67 = .ok (.iconst 0, 1) := by decide +kernel
theorem dX9_isPreferred_68 : decode cX9_isPreferred 68 = .ok (.goto 13, 3) := by decide +kernel
theorem dX9_isPreferred_71 : decode cX9_isPreferred 71 = .ok (.iload_n 1, 1) := by decide +kernel
theorem dX9_isPreferred_72 : decode cX9_isPreferred 72 = .ok (.iload_n 2, 1) := by decide +kernel
theorem dX9_isPreferred_73 : decode cX9_isPreferred 73 = .ok (.if_icmp .ge 7, 3) := by decide +kernel
theorem dX9_isPreferred_76 : decode cX9_isPreferred 76 = .ok (.iconst 1, 1) := by decide +kernel
theorem dX9_isPreferred_77 : decode cX9_isPreferred 77 = .ok (.goto 4, 3) := by decide +kernel
theorem dX9_isPreferred_80 : decode cX9_isPreferred 80 = .ok (.iconst 0, 1) := by decide +kernel
theorem dX9_isPreferred_81 : decode cX9_isPreferred 81 = .ok (.ireturn, 1) := by decide +kernel
set_option maxRecDepth 20000 in
theorem ggX9_keeper_X9_isPreferred : GoodIn wsX9_keeper wsX9_isPreferred := goodIn_r _ [7, 8, 9, 10, 6, 11, 12, 13, 14, 15, 16, 17, 18, 19, 20, 21, 22, 23, 24, 25, 26, 27, 28, 29, 30, 31, 32, 33, 34, 35, 36, 37, 38, 39, 40, 41, 42, 43, 44, 45, 46] (by decide +kernel) (by decide +kernel)
set_option maxRecDepth 20000 in
theorem gX9_keeper_X9_isPreferred : GoodIn wsX9_keeper (wsV RX9 97 RX9 yX9_isPreferred wsX9_isPreferred) := goodIn_app (goodIn_of _ (by decide +kernel)) ggX9_keeper_X9_isPreferred
theorem dX9_keeper_0 : decode cX9_keeper 0 = .ok (.iload_n 1, 1) := by decide +kernel
theorem dX9_keeper_1 : decode cX9_keeper 1 = .ok (.istore_n 2, 1) := by decide +kernel
theorem dX9_keeper_2 : decode cX9_keeper 2 = .ok (.iconst 0, 1) := by decide +kernel
theorem dX9_keeper_3 : decode cX9_keeper 3 = .ok (.istore_n 3, 1) := by decide +kernel
theorem dX9_keeper_4 : decode cX9_keeper 4 = .ok (.iload_n 3, 1) := by decide +kernel
theorem dX9_keeper_5 : decode cX9_keeper 5 = .ok (.bipush 40, 2) := by decide +kernel
theorem dX9_keeper_7 : decode cX9_keeper 7 = .ok (.if_icmp .ge 48, 3) := by decide +kernel
theorem dX9_keeper_10 : decode cX9_keeper 10 = .ok (.aload_n 0, 1) := by decide +kernel
theorem dX9_keeper_11 : decode cX9_keeper 11 = .ok (.getfield 7, 3) := by decide +kernel
theorem dX9_keeper_14 : decode cX9_keeper 14 = .ok (.iload_n 3, 1) := by decide +kernel
theorem dX9_keeper_15 : decode cX9_keeper 15 = .ok (.baload, 1) := by decide +kernel
theorem dX9_keeper_16 : decode cX9_keeper 16 = .ok (.ifCond .eq 31, 3) := by decide +kernel
theorem dX9_keeper_19 : decode cX9_keeper 19 = .ok (.aload_n 0, 1) := by decide +kernel
theorem dX9_keeper_20 : decode cX9_keeper 20 = .ok (.getfield 13, 3) := by decide +kernel
theorem dX9_keeper_23 : decode cX9_keeper 23 = .ok (.iload_n 3, 1) := by decide +kernel
theorem dX9_keeper_24 : decode cX9_keeper 24 = .ok (.iaload, 1) := by decide +kernel
theorem dX9_keeper_25 : decode cX9_keeper 25 = .ok (.aload_n 0, 1) := by decide +kernel
theorem dX9_keeper_26 : decode cX9_keeper 26 = .ok (.getfield 13, 3) := by decide +kernel
theorem dX9_keeper_29 : decode cX9_keeper 29 = .ok (.iload_n 1, 1) := by decide +kernel
theorem dX9_keeper_30 : decode cX9_keeper 30 = .ok (.iaload, 1) := by decide +kernel
theorem dX9_keeper_31 : decode cX9_keeper 31 = .ok (.if_icmp .ne 16, 3) := by decide +kernel
theorem dX9_keeper_34 : decode cX9_keeper 34 = .ok (.aload_n 0, 1) := by decide +kernel
theorem dX9_keeper_35 : decode cX9_keeper 35 = .ok (.iload_n 3, 1) := by decide +kernel
theorem dX9_keeper_36 : decode cX9_keeper 36 = .ok (.iload_n 2, 1) := by decide +kernel
theorem dX9_keeper_37 : decode cX9_keeper 37 = .ok (.invokevirtual 97, 3) := by decide +kernel
theorem dX9_keeper_40 : decode cX9_keeper 40 = .ok (.ifCond .eq 7, 3) := by decide +kernel
theorem dX9_keeper_43 : decode cX9_keeper 43 = .ok (.iload_n 3, 1) := by decide +kernel
theorem dX9_keeper_44 : decode cX9_keeper 44 = .ok (.goto 4, 3) := by decide +kernel
theorem dX9_keeper_47 : decode cX9_keeper 47 = .ok (.iload_n 2, 1) := by decide +kernel
theorem dX9_keeper_48 : decode cX9_keeper 48 = .ok (.istore_n 2, 1) := by decide +kernel
theorem dX9_keeper_49 : decode cX9_keeper 49 = .ok (.iinc 3 1, 3) := by decide +kernel
theorem dX9_keeper_52 : decode cX9_keeper 52 = .ok (.goto (-48), 3) := by decide +kernel
theorem dX9_keeper_55 : decode cX9_keeper 55 = .ok (.iload_n 2, 1) := by decide +kernel
theorem dX9_keeper_56 : decode cX9_keeper 56 = .ok (.ireturn, 1) := by decide +kernel
theorem dX9_group_0 : decode cX9_group 0 = .ok (.iconst 0, 1) := by decide +kernel
theorem dX9_group_1 : decode cX9_group 1 = .ok (.istore_n 2, 1) := by decide +kernel
theorem dX9_group_2 : decode cX9_group 2 = .ok (.iconst 0, 1) := by decide +kernel
theorem dX9_group_3 : decode cX9_group 3 = .ok (.istore_n 3, 1) := by decide +kernel
theorem dX9_group_4 : decode cX9_group 4 = .ok (.iload_n 3, 1) := by decide +kernel
theorem dX9_group_5 : decode cX9_group 5 = .ok (.bipush 40, 2) := by decide +kernel
theorem dX9_group_7 : decode cX9_group 7 = .ok (.if_icmp .ge 41, 3) := by decide +kernel
theorem dX9_group_10 : decode cX9_group 10 = .ok (.iload_n 2, 1) := by decide +kernel
theorem dX9_group_11 : decode cX9_group 11 = .ok (.aload_n 0, 1) := by decide +kernel
theorem dX9_group_12 : decode cX9_group 12 = .ok (.getfield 7, 3) := by decide +kernel
theorem dX9_group_15 : decode cX9_group 15 = .ok (.iload_n 3, 1) := by decide +kernel
theorem dX9_group_16 : decode cX9_group 16 = .ok (.baload, 1) := by decide +kernel
theorem dX9_group_17 : decode cX9_group 17 = .ok (.ifCond .eq 22, 3) := by decide +kernel
theorem dX9_group_20 : decode cX9_group 20 = .ok (.aload_n 0, 1) := by decide +kernel
theorem dX9_group_21 : decode cX9_group 21 = .ok (.getfield 13, 3) := by decide +kernel
theorem dX9_group_24 : decode cX9_group 24 = .ok (.iload_n 3, 1) := by decide +kernel
theorem dX9_group_25 : decode cX9_group 25 = .ok (.iaload, 1) := by decide +kernel
theorem dX9_group_26 : decode cX9_group 26 = .ok (.aload_n 0, 1) := by decide +kernel
theorem dX9_group_27 : decode cX9_group 27 = .ok (.getfield 13, 3) := by decide +kernel
theorem dX9_group_30 : decode cX9_group 30 = .ok (.iload_n 1, 1) := by decide +kernel
theorem dX9_group_31 : decode cX9_group 31 = .ok (.iaload, 1) := by decide +kernel
theorem dX9_group_32 : decode cX9_group 32 = .ok (.if_icmp .ne 7, 3) := by decide +kernel
theorem dX9_group_35 : decode cX9_group 35 = .ok (.iconst 1, 1) := by decide +kernel
theorem dX9_group_36 : decode cX9_group 36 = .ok (.goto 4, 3) := by decide +kernel
theorem dX9_group_39 : decode cX9_group 39 = .ok (.iconst 0, 1) := by decide +kernel
theorem dX9_group_40 : decode cX9_group 40 = .ok (.iadd, 1) := by decide +kernel
theorem dX9_group_41 : decode cX9_group 41 = .ok (.istore_n 2, 1) := by decide +kernel
theorem dX9_group_42 : decode cX9_group 42 = .ok (.iinc 3 1, 3) := by decide +kernel
theorem dX9_group_45 : decode cX9_group 45 = .ok (.goto (-41), 3) := by decide +kernel
theorem dX9_group_48 : decode cX9_group 48 = .ok (.iload_n 2, 1) := by decide +kernel
theorem dX9_group_49 : decode cX9_group 49 = .ok (.ireturn, 1) := by decide +kernel
set_option maxRecDepth 20000 in
theorem ggX9_cover_X9_valueOr : GoodIn wsX9_cover wsX9_valueOr := goodIn_r _ [8, 9, 10, 11, 12, 7, 13, 14, 15, 16, 17, 18, 19, 20, 21, 22, 23, 24, 25, 26, 27, 28, 29, 30, 31, 32, 33, 34, 35, 36, 37, 38, 39, 40, 41, 42, 43] (by decide +kernel) (by decide +kernel)
set_option maxRecDepth 20000 in
theorem gX9_cover_X9_valueOr : GoodIn wsX9_cover (wsV RX9 93 RX9 yX9_valueOr wsX9_valueOr) := goodIn_app (goodIn_of _ (by decide +kernel)) ggX9_cover_X9_valueOr
theorem dX9_cover_0 : decode cX9_cover 0 = .ok (.aload_n 0, 1) := by decide +kernel
theorem dX9_cover_1 : decode cX9_cover 1 = .ok (.getfield 38, 3) := by decide +kernel
theorem dX9_cover_4 : decode cX9_cover 4 = .ok (.iload_n 1, 1) := by decide +kernel
theorem dX9_cover_5 : decode cX9_cover 5 = .ok (.iaload, 1) := by decide +kernel
theorem dX9_cover_6 : decode cX9_cover 6 = .ok (.ifCond .lt 10, 3) := by decide +kernel
theorem dX9_cover_9 : decode cX9_cover 9 = .ok (.aload_n 0, 1) := by decide +kernel
theorem dX9_cover_10 : decode cX9_cover 10 = .ok (.getfield 38, 3) := by decide +kernel
theorem dX9_cover_13 : decode cX9_cover 13 = .ok (.iload_n 1, 1) := by decide +kernel
theorem dX9_cover_14 : decode cX9_cover 14 = .ok (.iaload, 1) := by decide +kernel
theorem dX9_cover_15 : decode cX9_cover 15 = .ok (.ireturn, 1) := by decide +kernel
theorem dX9_cover_16 : decode cX9_cover 16 = .ok (.aload_n 0, 1) := by decide +kernel
theorem dX9_cover_17 : decode cX9_cover 17 = .ok (.getfield 35, 3) := by decide +kernel
theorem dX9_cover_20 : decode cX9_cover 20 = .ok (.bipush 8, 2) := by decide +kernel
theorem dX9_cover_22 : decode cX9_cover 22 = .ok (.iload_n 1, 1) := by decide +kernel
theorem dX9_cover_23 : decode cX9_cover 23 = .ok (.imul, 1) := by decide +kernel
theorem dX9_cover_24 : decode cX9_cover 24 = .ok (.iaload, 1) := by decide +kernel
theorem dX9_cover_25 : decode cX9_cover 25 = .ok (.istore_n 2, 1) := by decide +kernel
theorem dX9_cover_26 : decode cX9_cover 26 = .ok (.iconst 1, 1) := by decide +kernel
theorem dX9_cover_27 : decode cX9_cover 27 = .ok (.istore_n 3, 1) := by decide +kernel
theorem dX9_cover_28 : decode cX9_cover 28 = .ok (.iload_n 3, 1) := by decide +kernel
theorem dX9_cover_29 : decode cX9_cover 29 = .ok (.aload_n 0, 1) := by decide +kernel
theorem dX9_cover_30 : decode cX9_cover 30 = .ok (.getfield 32, 3) := by decide +kernel
theorem dX9_cover_33 : decode cX9_cover 33 = .ok (.iload_n 1, 1) := by decide +kernel
theorem dX9_cover_34 : decode cX9_cover 34 = .ok (.iaload, 1) := by decide +kernel
theorem dX9_cover_35 : decode cX9_cover 35 = .ok (.if_icmp .ge 47, 3) := by decide +kernel
theorem dX9_cover_38 : decode cX9_cover 38 = .ok (.aload_n 0, 1) := by decide +kernel
theorem dX9_cover_39 : decode cX9_cover 39 = .ok (.getfield 35, 3) := by decide +kernel
theorem dX9_cover_42 : decode cX9_cover 42 = .ok (.bipush 8, 2) := by decide +kernel
theorem dX9_cover_44 : decode cX9_cover 44 = .ok (.iload_n 1, 1) := by decide +kernel
theorem dX9_cover_45 : decode cX9_cover 45 = .ok (.imul, 1) := by decide +kernel
theorem dX9_cover_46 : decode cX9_cover 46 = .ok (.iload_n 3, 1) := by decide +kernel
theorem dX9_cover_47 : decode cX9_cover 47 = .ok (.iadd, 1) := by decide +kernel
theorem dX9_cover_48 : decode cX9_cover 48 = .ok (.iaload, 1) := by decide +kernel
theorem dX9_cover_49 : decode cX9_cover 49 = .ok (.istore 4, 2) := by decide +kernel
theorem dX9_cover_51 : decode cX9_cover 51 = .ok (.aload_n 0, 1) := by decide +kernel
theorem dX9_cover_52 : decode cX9_cover 52 = .ok (.iload 4, 2) := by decide +kernel
theorem dX9_cover_54 : decode cX9_cover 54 = .ok (.iconst 1, 1) := by decide +kernel
theorem dX9_cover_55 : decode cX9_cover 55 = .ok (.iconst (-1), 1) := by decide +kernel
theorem dX9_cover_56 : decode cX9_cover 56 = .ok (.invokevirtual 93, 3) := by decide +kernel
theorem dX9_cover_59 : decode cX9_cover 59 = .ok (.aload_n 0, 1) := by decide +kernel
theorem dX9_cover_60 : decode cX9_cover 60 = .ok (.iload_n 2, 1) := by decide +kernel
theorem dX9_cover_61 : decode cX9_cover 61 = .ok (.iconst 1, 1) := by decide +kernel
theorem dX9_cover_62 : decode cX9_cover 62 = .ok (.iconst (-1), 1) := by decide +kernel
theorem dX9_cover_63 : decode cX9_cover 63 = .ok (.invokevirtual 93, 3) := by decide +kernel
theorem dX9_cover_66 : decode cX9_cover 66 = .ok (.if_icmp .le 8, 3) := by decide +kernel
theorem dX9_cover_69 : decode cX9_cover 69 = .ok (.iload 4, 2) := by decide +kernel
theorem dX9_cover_71 : decode cX9_cover 71 = .ok (.goto 4, 3) := by decide +kernel
theorem dX9_cover_74 : decode cX9_cover 74 = .ok (.iload_n 2, 1) := by decide +kernel
theorem dX9_cover_75 : decode cX9_cover 75 = .ok (.istore_n 2, 1) := by decide +kernel
theorem dX9_cover_76 : decode cX9_cover 76 = .ok (.iinc 3 1, 3) := by decide +kernel
theorem dX9_cover_79 : decode cX9_cover 79 = .ok (.goto (-51), 3) := by decide +kernel
theorem dX9_cover_82 : decode cX9_cover 82 = .ok (.iload_n 2, 1) := by decide +kernel
theorem dX9_cover_83 : decode cX9_cover 83 = .ok (.ireturn, 1) := by decide +kernel
set_option maxRecDepth 20000 in
theorem ggX9_isStack_X9_in : GoodIn wsX9_isStack wsX9_in := goodIn_r _ [5] (by decide +kernel) (by decide +kernel)
set_option maxRecDepth 20000 in
theorem gX9_isStack_X9_in : GoodIn wsX9_isStack (va_wsS RX9 85 yX9_in wsX9_in) := goodIn_app (goodIn_of _ (by decide +kernel)) ggX9_isStack_X9_in
theorem dX9_isStack_0 : decode cX9_isStack 0 = .ok (.iload_n 1, 1) := by decide +kernel
theorem dX9_isStack_1 : decode cX9_isStack 1 = .ok (.iconst 0, 1) := by decide +kernel
theorem dX9_isStack_2 : decode cX9_isStack 2 = .ok (.bipush 9, 2) := by decide +kernel
theorem dX9_isStack_4 : decode cX9_isStack 4 = .ok (.invokestatic 85, 3) := by decide +kernel
theorem dX9_isStack_7 : decode cX9_isStack 7 = .ok (.ifCond .eq 16, 3) := by decide +kernel
theorem dX9_isStack_10 : decode cX9_isStack 10 = .ok (.aload_n 0, 1) := by decide +kernel
theorem dX9_isStack_11 : decode cX9_isStack 11 = .ok (.getfield 32, 3) := by decide +kernel
theorem dX9_isStack_14 : decode cX9_isStack 14 = .ok (.iload_n 1, 1) := by decide +kernel
theorem dX9_isStack_15 : decode cX9_isStack 15 = .ok (.iaload, 1) := by decide +kernel
theorem dX9_isStack_16 : decode cX9_isStack 16 = .ok (.ifCond .le 7, 3) := by decide +kernel
theorem dX9_isStack_19 : decode cX9_isStack 19 = .ok (.iconst 1, 1) := by decide +kernel
theorem dX9_isStack_20 : decode cX9_isStack 20 = .ok (.goto 4, 3) := by decide +kernel
theorem dX9_isStack_23 : decode cX9_isStack 23 = .ok (.iconst 0, 1) := by decide +kernel
theorem dX9_isStack_24 : decode cX9_isStack 24 = .ok (.ireturn, 1) := by decide +kernel
theorem dX9_leaves_0 : decode cX9_leaves 0 = .ok (.aload_n 0, 1) := by decide +kernel
theorem dX9_leaves_1 : decode cX9_leaves 1 = .ok (.getfield 29, 3) := by decide +kernel
theorem dX9_leaves_4 : decode cX9_leaves 4 = .ok (.iload_n 1, 1) := by decide +kernel
theorem dX9_leaves_5 : decode cX9_leaves 5 = .ok (.iaload, 1) := by decide +kernel
theorem dX9_leaves_6 : decode cX9_leaves 6 = .ok (.istore_n 2, 1) := by decide +kernel
theorem dX9_leaves_7 : decode cX9_leaves 7 = .ok (.iload_n 2, 1) := by decide +kernel
theorem dX9_leaves_8 : decode cX9_leaves 8 = .ok (.ifCond .ge 4, 3) := by decide +kernel
theorem dX9_leaves_11 : decode cX9_leaves 11 = .ok (.return_, 1) := by decide +kernel
theorem dX9_leaves_12 : decode cX9_leaves 12 = .ok (.iconst 0, 1) := by decide +kernel
theorem dX9_leaves_13 : decode cX9_leaves 13 = .ok (.istore_n 3, 1) := by decide +kernel
theorem dX9_leaves_14 : decode cX9_leaves 14 = .ok (.aload_n 0, 1) := by decide +kernel
theorem dX9_leaves_15 : decode cX9_leaves 15 = .ok (.getfield 35, 3) := by decide +kernel
theorem dX9_leaves_18 : decode cX9_leaves 18 = .ok (.bipush 8, 2) := by decide +kernel
theorem dX9_leaves_20 : decode cX9_leaves 20 = .ok (.iload_n 2, 1) := by decide +kernel
theorem dX9_leaves_21 : decode cX9_leaves 21 = .ok (.imul, 1) := by decide +kernel
theorem dX9_leaves_22 : decode cX9_leaves 22 = .ok (.iload_n 3, 1) := by decide +kernel
theorem dX9_leaves_23 : decode cX9_leaves 23 = .ok (.iadd, 1) := by decide +kernel
theorem dX9_leaves_24 : decode cX9_leaves 24 = .ok (.iaload, 1) := by decide +kernel
theorem dX9_leaves_25 : decode cX9_leaves 25 = .ok (.iload_n 1, 1) := by decide +kernel
theorem dX9_leaves_26 : decode cX9_leaves 26 = .ok (.if_icmp .eq 9, 3) := by decide +kernel
theorem dX9_leaves_29 : decode cX9_leaves 29 = .ok (.iinc 3 1, 3) := by decide +kernel
theorem dX9_leaves_32 : decode cX9_leaves 32 = .ok (.goto (-18), 3) := by decide +kernel
theorem dX9_leaves_35 : decode cX9_leaves 35 = .ok (.iload_n 3, 1) := by decide +kernel
theorem dX9_leaves_36 : decode cX9_leaves 36 = .ok (.iconst 1, 1) := by decide +kernel
theorem dX9_leaves_37 : decode cX9_leaves 37 = .ok (.iadd, 1) := by decide +kernel
theorem dX9_leaves_38 : decode cX9_leaves 38 = .ok (.istore 4, 2) := by decide +kernel
theorem dX9_leaves_40 : decode cX9_leaves 40 = .ok (.iload 4, 2) := by decide +kernel
theorem dX9_leaves_42 : decode cX9_leaves 42 = .ok (.aload_n 0, 1) := by decide +kernel
theorem dX9_leaves_43 : decode cX9_leaves 43 = .ok (.getfield 32, 3) := by decide +kernel
theorem dX9_leaves_46 : decode cX9_leaves 46 = .ok (.iload_n 2, 1) := by decide +kernel
theorem dX9_leaves_47 : decode cX9_leaves 47 = .ok (.iaload, 1) := by decide +kernel
theorem dX9_leaves_48 : decode cX9_leaves 48 = .ok (.if_icmp .ge 35, 3) := by decide +kernel
theorem dX9_leaves_51 : decode cX9_leaves 51 = .ok (.aload_n 0, 1) := by decide +kernel
theorem dX9_leaves_52 : decode cX9_leaves 52 = .ok (.getfield 35, 3) := by decide +kernel
theorem dX9_leaves_55 : decode cX9_leaves 55 = .ok (.bipush 8, 2) := by decide +kernel
theorem dX9_leaves_57 : decode cX9_leaves 57 = .ok (.iload_n 2, 1) := by decide +kernel
theorem dX9_leaves_58 : decode cX9_leaves 58 = .ok (.imul, 1) := by decide +kernel
theorem dX9_leaves_59 : decode cX9_leaves 59 = .ok (.iload 4, 2) := by decide +kernel
theorem dX9_leaves_61 : decode cX9_leaves 61 = .ok (.iadd, 1) := by decide +kernel
theorem dX9_leaves_62 : decode cX9_leaves 62 = .ok (.iconst 1, 1) := by decide +kernel
theorem dX9_leaves_63 : decode cX9_leaves 63 = .ok (.isub, 1) := by decide +kernel
theorem dX9_leaves_64 : decode cX9_leaves 64 = .ok (.aload_n 0, 1) := by decide +kernel
theorem dX9_leaves_65 : decode cX9_leaves 65 = .ok (.getfield 35, 3) := by decide +kernel
theorem dX9_leaves_68 : decode cX9_leaves 68 = .ok (.bipush 8, 2) := by decide +kernel
theorem dX9_leaves_70 : decode cX9_leaves 70 = .ok (.iload_n 2, 1) := by decide +kernel
theorem dX9_leaves_71 : decode cX9_leaves 71 = .ok (.imul, 1) := by decide +kernel
theorem dX9_leaves_72 : decode cX9_leaves 72 = .ok (.iload 4, 2) := by decide +kernel
theorem dX9_leaves_74 : decode cX9_leaves 74 = .ok (.iadd, 1) := by decide +kernel
theorem dX9_leaves_75 : decode cX9_leaves 75 = .ok (.iaload, 1) := by decide +kernel
theorem dX9_leaves_76 : decode cX9_leaves 76 = .ok (.iastore, 1) := by decide +kernel
theorem dX9_leaves_77 : decode cX9_leaves 77 = .ok (.iinc 4 1, 3) := by decide +kernel
theorem dX9_leaves_80 : decode cX9_leaves 80 = .ok (.goto (-40), 3) := by decide +kernel
theorem dX9_leaves_83 : decode cX9_leaves 83 = .ok (.aload_n 0, 1) := by decide +kernel
theorem dX9_leaves_84 : decode cX9_leaves 84 = .ok (.getfield 32, 3) := by decide +kernel
theorem dX9_leaves_87 : decode cX9_leaves 87 = .ok (.iload_n 2, 1) := by decide +kernel
theorem dX9_leaves_88 : decode cX9_leaves 88 = .ok (.dup2, 1) := by decide +kernel
theorem dX9_leaves_89 : decode cX9_leaves 89 = .ok (.iaload, 1) := by decide +kernel
theorem dX9_leaves_90 : decode cX9_leaves 90 = .ok (.iconst 1, 1) := by decide +kernel
theorem dX9_leaves_91 : decode cX9_leaves 91 = .ok (.isub, 1) := by decide +kernel
theorem dX9_leaves_92 : decode cX9_leaves 92 = .ok (.iastore, 1) := by decide +kernel
theorem dX9_leaves_93 : decode cX9_leaves 93 = .ok (.aload_n 0, 1) := by decide +kernel
theorem dX9_leaves_94 : decode cX9_leaves 94 = .ok (.getfield 29, 3) := by decide +kernel
theorem dX9_leaves_97 : decode cX9_leaves 97 = .ok (.iload_n 1, 1) := by decide +kernel
theorem dX9_leaves_98 : decode cX9_leaves 98 = .ok (.iconst (-1), 1) := by decide +kernel
theorem dX9_leaves_99 : decode cX9_leaves 99 = .ok (.iastore, 1) := by decide +kernel
theorem dX9_leaves_100 : decode cX9_leaves 100 = .ok (.aload_n 0, 1) := by decide +kernel
theorem dX9_leaves_101 : decode cX9_leaves 101 = .ok (.getfield 38, 3) := by decide +kernel
theorem dX9_leaves_104 : decode cX9_leaves 104 = .ok (.iload_n 2, 1) := by decide +kernel
theorem dX9_leaves_105 : decode cX9_leaves 105 = .ok (.aload_n 0, 1) := by decide +kernel
theorem dX9_leaves_106 : decode cX9_leaves 106 = .ok (.getfield 38, 3) := by decide +kernel
theorem dX9_leaves_109 : decode cX9_leaves 109 = .ok (.iload_n 2, 1) := by decide +kernel
theorem dX9_leaves_110 : decode cX9_leaves 110 = .ok (.iaload, 1) := by decide +kernel
theorem dX9_leaves_111 : decode cX9_leaves 111 = .ok (.iload_n 1, 1) := by decide +kernel
theorem dX9_leaves_112 : decode cX9_leaves 112 = .ok (.if_icmp .ne 7, 3) := by decide +kernel
theorem dX9_leaves_115 : decode cX9_leaves 115 = .ok (.iconst (-1), 1) := by decide +kernel
theorem dX9_leaves_116 : decode cX9_leaves 116 = .ok (.goto 9, 3) := by decide +kernel
theorem dX9_leaves_119 : decode cX9_leaves 119 = .ok (.aload_n 0, 1) := by decide +kernel
theorem dX9_leaves_120 : decode cX9_leaves 120 = .ok (.getfield 38, 3) := by decide +kernel
theorem dX9_leaves_123 : decode cX9_leaves 123 = .ok (.iload_n 2, 1) := by decide +kernel
theorem dX9_leaves_124 : decode cX9_leaves 124 = .ok (.iaload, 1) := by decide +kernel
theorem dX9_leaves_125 : decode cX9_leaves 125 = .ok (.iastore, 1) := by decide +kernel
theorem dX9_leaves_126 : decode cX9_leaves 126 = .ok (.aload_n 0, 1) := by decide +kernel
theorem dX9_leaves_127 : decode cX9_leaves 127 = .ok (.getfield 32, 3) := by decide +kernel
theorem dX9_leaves_130 : decode cX9_leaves 130 = .ok (.iload_n 2, 1) := by decide +kernel
theorem dX9_leaves_131 : decode cX9_leaves 131 = .ok (.iaload, 1) := by decide +kernel
theorem dX9_leaves_132 : decode cX9_leaves 132 = .ok (.iconst 1, 1) := by decide +kernel
theorem dX9_leaves_133 : decode cX9_leaves 133 = .ok (.if_icmp .ne 25, 3) := by decide +kernel
theorem dX9_leaves_136 : decode cX9_leaves 136 = .ok (.aload_n 0, 1) := by decide +kernel
theorem dX9_leaves_137 : decode cX9_leaves 137 = .ok (.getfield 29, 3) := by decide +kernel
theorem dX9_leaves_140 : decode cX9_leaves 140 = .ok (.aload_n 0, 1) := by decide +kernel
theorem dX9_leaves_141 : decode cX9_leaves 141 = .ok (.getfield 35, 3) := by decide +kernel
theorem dX9_leaves_144 : decode cX9_leaves 144 = .ok (.bipush 8, 2) := by decide +kernel
theorem dX9_leaves_146 : decode cX9_leaves 146 = .ok (.iload_n 2, 1) := by decide +kernel
theorem dX9_leaves_147 : decode cX9_leaves 147 = .ok (.imul, 1) := by decide +kernel
theorem dX9_leaves_148 : decode cX9_leaves 148 = .ok (.iaload, 1) := by decide +kernel
theorem dX9_leaves_149 : decode cX9_leaves 149 = .ok (.iconst (-1), 1) := by decide +kernel
theorem dX9_leaves_150 : decode cX9_leaves 150 = .ok (.iastore, 1) := by decide +kernel
theorem dX9_leaves_151 : decode cX9_leaves 151 = .ok (.aload_n 0, 1) := by decide +kernel
theorem dX9_leaves_152 : decode cX9_leaves 152 = .ok (.getfield 32, 3) := by decide +kernel
theorem dX9_leaves_155 : decode cX9_leaves 155 = .ok (.iload_n 2, 1) := by decide +kernel
theorem dX9_leaves_156 : decode cX9_leaves 156 = .ok (.iconst 0, 1) := by decide +kernel
theorem dX9_leaves_157 : decode cX9_leaves 157 = .ok (.iastore, 1) := by decide +kernel
theorem dX9_leaves_158 : decode cX9_leaves 158 = .ok (.return_, 1) := by decide +kernel
set_option maxRecDepth 20000 in
theorem ggX9_goes_X9_leaves : GoodIn wsX9_goes wsX9_leaves := goodIn_r _ [6, 7, 8, 9, 10, 11, 12, 13, 14, 15, 16, 17, 18, 19, 20, 21, 22, 23, 24, 25, 26, 27, 28, 29, 30, 31, 32, 33, 34, 35, 36, 37, 38] (by decide +kernel) (by decide +kernel)
set_option maxRecDepth 20000 in
theorem gX9_goes_X9_leaves : GoodIn wsX9_goes (wsV RX9 101 RX9 yX9_leaves wsX9_leaves) := goodIn_app (goodIn_of _ (by decide +kernel)) ggX9_goes_X9_leaves
theorem dX9_goes_0 : decode cX9_goes 0 = .ok (.aload_n 0, 1) := by decide +kernel
theorem dX9_goes_1 : decode cX9_goes 1 = .ok (.iload_n 1, 1) := by decide +kernel
theorem dX9_goes_2 : decode cX9_goes 2 = .ok (.invokevirtual 101, 3) := by decide +kernel
theorem dX9_goes_5 : decode cX9_goes 5 = .ok (.aload_n 0, 1) := by decide +kernel
theorem dX9_goes_6 : decode cX9_goes 6 = .ok (.getfield 7, 3) := by decide +kernel
theorem dX9_goes_9 : decode cX9_goes 9 = .ok (.iload_n 1, 1) := by decide +kernel
theorem dX9_goes_10 : decode cX9_goes 10 = .ok (.iconst 0, 1) := by decide +kernel
theorem dX9_goes_11 : decode cX9_goes 11 = .ok (.bastore, 1) := by decide +kernel
theorem dX9_goes_12 : decode cX9_goes 12 = .ok (.return_, 1) := by decide +kernel
theorem dX9_isField_0 : decode cX9_isField 0 = .ok (.iload_n 0, 1) := by decide +kernel
theorem dX9_isField_1 : decode cX9_isField 1 = .ok (.bipush 107, 2) := by decide +kernel
theorem dX9_isField_3 : decode cX9_isField 3 = .ok (.if_icmp .eq 27, 3) := by decide +kernel
theorem dX9_isField_6 : decode cX9_isField 6 = .ok (.iload_n 0, 1) := by decide +kernel
theorem dX9_isField_7 : decode cX9_isField 7 = .ok (.bipush 114, 2) := by decide +kernel
theorem dX9_isField_9 : decode cX9_isField 9 = .ok (.if_icmp .eq 21, 3) := by decide +kernel
theorem dX9_isField_12 : decode cX9_isField 12 = .ok (.iload_n 0, 1) := by decide +kernel
theorem dX9_isField_13 : decode cX9_isField 13 = .ok (.bipush 121, 2) := by decide +kernel
theorem dX9_isField_15 : decode cX9_isField 15 = .ok (.if_icmp .eq 15, 3) := by decide +kernel
theorem dX9_isField_18 : decode cX9_isField 18 = .ok (.iload_n 0, 1) := by decide +kernel
theorem dX9_isField_19 : decode cX9_isField 19 = .ok (.bipush 99, 2) := by decide +kernel
theorem dX9_isField_21 : decode cX9_isField 21 = .ok (.if_icmp .eq 9, 3) := by decide +kernel
theorem dX9_isField_24 : decode cX9_isField 24 = .ok (.iload_n 0, 1) := by decide +kernel
theorem dX9_isField_25 : decode cX9_isField 25 = .ok (.bipush 100, 2) := by decide +kernel
theorem dX9_isField_27 : decode cX9_isField 27 = .ok (.if_icmp .ne 7, 3) := by decide +kernel
theorem dX9_isField_30 : decode cX9_isField 30 = .ok (.iconst 1, 1) := by decide +kernel
theorem dX9_isField_31 : decode cX9_isField 31 = .ok (.goto 4, 3) := by decide +kernel
theorem dX9_isField_34 : decode cX9_isField 34 = .ok (.iconst 0, 1) := by decide +kernel
theorem dX9_isField_35 : decode cX9_isField 35 = .ok (.ireturn, 1) := by decide +kernel
theorem dX9_isDigit_0 : decode cX9_isDigit 0 = .ok (.iload_n 0, 1) := by decide +kernel
theorem dX9_isDigit_1 : decode cX9_isDigit 1 = .ok (.bipush 48, 2) := by decide +kernel
theorem dX9_isDigit_3 : decode cX9_isDigit 3 = .ok (.if_icmp .lt 13, 3) := by decide +kernel
theorem dX9_isDigit_6 : decode cX9_isDigit 6 = .ok (.iload_n 0, 1) := by decide +kernel
theorem dX9_isDigit_7 : decode cX9_isDigit 7 = .ok (.bipush 57, 2) := by decide +kernel
theorem dX9_isDigit_9 : decode cX9_isDigit 9 = .ok (.if_icmp .gt 7, 3) := by decide +kernel
theorem dX9_isDigit_12 : decode cX9_isDigit 12 = .ok (.iconst 1, 1) := by decide +kernel
theorem dX9_isDigit_13 : decode cX9_isDigit 13 = .ok (.goto 4, 3) := by decide +kernel
theorem dX9_isDigit_16 : decode cX9_isDigit 16 = .ok (.iconst 0, 1) := by decide +kernel
theorem dX9_isDigit_17 : decode cX9_isDigit 17 = .ok (.ireturn, 1) := by decide +kernel
set_option maxRecDepth 20000 in
theorem ggX9_behind_X9_isField : GoodIn wsX9_behind wsX9_isField := goodIn_r _ [4] (by decide +kernel) (by decide +kernel)
set_option maxRecDepth 20000 in
theorem gX9_behind_X9_isField : GoodIn wsX9_behind (va_wsS RX9 105 yX9_isField wsX9_isField) := goodIn_app (goodIn_of _ (by decide +kernel)) ggX9_behind_X9_isField
set_option maxRecDepth 20000 in
theorem ggX9_behind_X9_isDigit : GoodIn wsX9_behind wsX9_isDigit := goodIn_r _ [7] (by decide +kernel) (by decide +kernel)
set_option maxRecDepth 20000 in
theorem gX9_behind_X9_isDigit : GoodIn wsX9_behind (va_wsS RX9 109 yX9_isDigit wsX9_isDigit) := goodIn_app (goodIn_of _ (by decide +kernel)) ggX9_behind_X9_isDigit
theorem dX9_behind_0 : decode cX9_behind 0 = .ok (.iload_n 1, 1) := by decide +kernel
theorem dX9_behind_1 : decode cX9_behind 1 = .ok (.bipush 38, 2) := by decide +kernel
theorem dX9_behind_3 : decode cX9_behind 3 = .ok (.if_icmp .eq 9, 3) := by decide +kernel
theorem dX9_behind_6 : decode cX9_behind 6 = .ok (.iload_n 1, 1) := by decide +kernel
theorem dX9_behind_7 : decode cX9_behind 7 = .ok (.bipush 124, 2) := by decide +kernel
theorem dX9_behind_9 : decode cX9_behind 9 = .ok (.if_icmp .ne 7, 3) := by decide +kernel
theorem dX9_behind_12 : decode cX9_behind 12 = .ok (.iconst 1, 1) := by decide +kernel
theorem dX9_behind_13 : decode cX9_behind 13 = .ok (.goto 4, 3) := by decide +kernel
theorem dX9_behind_16 : decode cX9_behind 16 = .ok (.iconst 0, 1) := by decide +kernel
theorem dX9_behind_17 : decode cX9_behind 17 = .ok (.istore_n 3, 1) := by decide +kernel
theorem dX9_behind_18 : decode cX9_behind 18 = .ok (.iload_n 0, 1) := by decide +kernel
theorem dX9_behind_19 : decode cX9_behind 19 = .ok (.tableswitch 184 0 7 #[45, 122, 157, 184, 184, 184, 184, 170], 45) := by decide +kernel
theorem dX9_behind_64 : decode cX9_behind 64 = .ok (.iload_n 1, 1) := by decide +kernel
theorem dX9_behind_65 : decode cX9_behind 65 = .ok (.bipush 33, 2) := by decide +kernel
theorem dX9_behind_67 : decode cX9_behind 67 = .ok (.if_icmp .eq 15, 3) := by decide +kernel
theorem dX9_behind_70 : decode cX9_behind 70 = .ok (.iload_n 1, 1) := by decide +kernel
theorem dX9_behind_71 : decode cX9_behind 71 = .ok (.bipush 40, 2) := by decide +kernel
theorem dX9_behind_73 : decode cX9_behind 73 = .ok (.if_icmp .ne 11, 3) := by decide +kernel
theorem dX9_behind_76 : decode cX9_behind 76 = .ok (.iload_n 2, 1) := by decide +kernel
theorem dX9_behind_77 : decode cX9_behind 77 = .ok (.bipush 10, 2) := by decide +kernel
theorem dX9_behind_79 : decode cX9_behind 79 = .ok (.if_icmp .ge 5, 3) := by decide +kernel
theorem dX9_behind_82 : decode cX9_behind 82 = .ok (.iconst 0, 1) := by decide +kernel
theorem dX9_behind_83 : decode cX9_behind 83 = .ok (.ireturn, 1) := by decide +kernel
theorem dX9_behind_84 : decode cX9_behind 84 = .ok (.iload_n 1, 1) := by decide +kernel
theorem dX9_behind_85 : decode cX9_behind 85 = .ok (.invokestatic 105, 3) := by decide +kernel
theorem dX9_behind_88 : decode cX9_behind 88 = .ok (.ifCond .eq 5, 3) := by decide +kernel
theorem dX9_behind_91 : decode cX9_behind 91 = .ok (.iconst 1, 1) := by decide +kernel
theorem dX9_behind_92 : decode cX9_behind 92 = .ok (.ireturn, 1) := by decide +kernel
theorem dX9_behind_93 : decode cX9_behind 93 = .ok (.iload_n 1, 1) := by decide +kernel
theorem dX9_behind_94 : decode cX9_behind 94 = .ok (.bipush 116, 2) := by decide +kernel
theorem dX9_behind_96 : decode cX9_behind 96 = .ok (.if_icmp .eq 9, 3) := by decide +kernel
theorem dX9_behind_99 : decode cX9_behind 99 = .ok (.iload_n 1, 1) := by decide +kernel
theorem dX9_behind_100 : decode cX9_behind 100 = .ok (.bipush 97, 2) := by decide +kernel
theorem dX9_behind_102 : decode cX9_behind 102 = .ok (.if_icmp .ne 8, 3) := by decide +kernel
theorem dX9_behind_105 : decode cX9_behind 105 = .ok (.bipush 7, 2) := by decide +kernel
theorem dX9_behind_107 : decode cX9_behind 107 = .ok (.goto 33, 3) := by decide +kernel
theorem dX9_behind_110 : decode cX9_behind 110 = .ok (.iload_n 1, 1) := by decide +kernel
theorem dX9_behind_111 : decode cX9_behind 111 = .ok (.bipush 115, 2) := by decide +kernel
theorem dX9_behind_113 : decode cX9_behind 113 = .ok (.if_icmp .eq 21, 3) := by decide +kernel
theorem dX9_behind_116 : decode cX9_behind 116 = .ok (.iload_n 1, 1) := by decide +kernel
theorem dX9_behind_117 : decode cX9_behind 117 = .ok (.bipush 118, 2) := by decide +kernel
theorem dX9_behind_119 : decode cX9_behind 119 = .ok (.if_icmp .eq 15, 3) := by decide +kernel
theorem dX9_behind_122 : decode cX9_behind 122 = .ok (.iload_n 1, 1) := by decide +kernel
theorem dX9_behind_123 : decode cX9_behind 123 = .ok (.bipush 117, 2) := by decide +kernel
theorem dX9_behind_125 : decode cX9_behind 125 = .ok (.if_icmp .eq 9, 3) := by decide +kernel
theorem dX9_behind_128 : decode cX9_behind 128 = .ok (.iload_n 1, 1) := by decide +kernel
theorem dX9_behind_129 : decode cX9_behind 129 = .ok (.bipush 98, 2) := by decide +kernel
theorem dX9_behind_131 : decode cX9_behind 131 = .ok (.if_icmp .ne 8, 3) := by decide +kernel
theorem dX9_behind_134 : decode cX9_behind 134 = .ok (.bipush 8, 2) := by decide +kernel
theorem dX9_behind_136 : decode cX9_behind 136 = .ok (.goto 4, 3) := by decide +kernel
theorem dX9_behind_139 : decode cX9_behind 139 = .ok (.iconst (-1), 1) := by decide +kernel
theorem dX9_behind_140 : decode cX9_behind 140 = .ok (.ireturn, 1) := by decide +kernel
theorem dX9_behind_141 : decode cX9_behind 141 = .ok (.iload_n 1, 1) := by decide +kernel
theorem dX9_behind_142 : decode cX9_behind 142 = .ok (.bipush 60, 2) := by decide +kernel
theorem dX9_behind_144 : decode cX9_behind 144 = .ok (.if_icmp .eq 15, 3) := by decide +kernel
theorem dX9_behind_147 : decode cX9_behind 147 = .ok (.iload_n 1, 1) := by decide +kernel
theorem dX9_behind_148 : decode cX9_behind 148 = .ok (.bipush 61, 2) := by decide +kernel
theorem dX9_behind_150 : decode cX9_behind 150 = .ok (.if_icmp .eq 9, 3) := by decide +kernel
theorem dX9_behind_153 : decode cX9_behind 153 = .ok (.iload_n 1, 1) := by decide +kernel
theorem dX9_behind_154 : decode cX9_behind 154 = .ok (.bipush 62, 2) := by decide +kernel
theorem dX9_behind_156 : decode cX9_behind 156 = .ok (.if_icmp .ne 7, 3) := by decide +kernel
theorem dX9_behind_159 : decode cX9_behind 159 = .ok (.iconst 2, 1) := by decide +kernel
theorem dX9_behind_160 : decode cX9_behind 160 = .ok (.goto 15, 3) := by decide +kernel
theorem dX9_behind_163 : decode cX9_behind 163 = .ok (.iload_n 1, 1) := by decide +kernel
theorem dX9_behind_164 : decode cX9_behind 164 = .ok (.bipush 63, 2) := by decide +kernel
theorem dX9_behind_166 : decode cX9_behind 166 = .ok (.if_icmp .ne 8, 3) := by decide +kernel
theorem dX9_behind_169 : decode cX9_behind 169 = .ok (.bipush 8, 2) := by decide +kernel
theorem dX9_behind_171 : decode cX9_behind 171 = .ok (.goto 4, 3) := by decide +kernel
theorem dX9_behind_174 : decode cX9_behind 174 = .ok (.iconst (-1), 1) := by decide +kernel
theorem dX9_behind_175 : decode cX9_behind 175 = .ok (.ireturn, 1) := by decide +kernel
theorem dX9_behind_176 : decode cX9_behind 176 = .ok (.iload_n 1, 1) := by decide +kernel
theorem dX9_behind_177 : decode cX9_behind 177 = .ok (.invokestatic 109, 3) := by decide +kernel
theorem dX9_behind_180 : decode cX9_behind 180 = .ok (.ifCond .eq 7, 3) := by decide +kernel
theorem dX9_behind_183 : decode cX9_behind 183 = .ok (.iconst 3, 1) := by decide +kernel
theorem dX9_behind_184 : decode cX9_behind 184 = .ok (.goto 4, 3) := by decide +kernel
theorem dX9_behind_187 : decode cX9_behind 187 = .ok (.iconst (-1), 1) := by decide +kernel
theorem dX9_behind_188 : decode cX9_behind 188 = .ok (.ireturn, 1) := by decide +kernel
theorem dX9_behind_189 : decode cX9_behind 189 = .ok (.iload_n 1, 1) := by decide +kernel
theorem dX9_behind_190 : decode cX9_behind 190 = .ok (.invokestatic 109, 3) := by decide +kernel
theorem dX9_behind_193 : decode cX9_behind 193 = .ok (.ifCond .eq 8, 3) := by decide +kernel
theorem dX9_behind_196 : decode cX9_behind 196 = .ok (.bipush 8, 2) := by decide +kernel
theorem dX9_behind_198 : decode cX9_behind 198 = .ok (.goto 4, 3) := by decide +kernel
theorem dX9_behind_201 : decode cX9_behind 201 = .ok (.iconst (-1), 1) := by decide +kernel
theorem dX9_behind_202 : decode cX9_behind 202 = .ok (.ireturn, 1) := by decide +kernel
theorem dX9_behind_203 : decode cX9_behind 203 = .ok (.iload_n 0, 1) := by decide +kernel
theorem dX9_behind_204 : decode cX9_behind 204 = .ok (.bipush 8, 2) := by decide +kernel
theorem dX9_behind_206 : decode cX9_behind 206 = .ok (.if_icmp .ge 25, 3) := by decide +kernel
theorem dX9_behind_209 : decode cX9_behind 209 = .ok (.iload_n 1, 1) := by decide +kernel
theorem dX9_behind_210 : decode cX9_behind 210 = .ok (.invokestatic 109, 3) := by decide +kernel
theorem dX9_behind_213 : decode cX9_behind 213 = .ok (.ifCond .eq 18, 3) := by decide +kernel
theorem dX9_behind_216 : decode cX9_behind 216 = .ok (.iload_n 0, 1) := by decide +kernel
theorem dX9_behind_217 : decode cX9_behind 217 = .ok (.bipush 6, 2) := by decide +kernel
theorem dX9_behind_219 : decode cX9_behind 219 = .ok (.if_icmp .ne 8, 3) := by decide +kernel
theorem dX9_behind_222 : decode cX9_behind 222 = .ok (.bipush 8, 2) := by decide +kernel
theorem dX9_behind_224 : decode cX9_behind 224 = .ok (.goto 6, 3) := by decide +kernel
theorem dX9_behind_227 : decode cX9_behind 227 = .ok (.iload_n 0, 1) := by decide +kernel
theorem dX9_behind_228 : decode cX9_behind 228 = .ok (.iconst 1, 1) := by decide +kernel
theorem dX9_behind_229 : decode cX9_behind 229 = .ok (.iadd, 1) := by decide +kernel
theorem dX9_behind_230 : decode cX9_behind 230 = .ok (.ireturn, 1) := by decide +kernel
theorem dX9_behind_231 : decode cX9_behind 231 = .ok (.iload_n 3, 1) := by decide +kernel
theorem dX9_behind_232 : decode cX9_behind 232 = .ok (.ifCond .eq 7, 3) := by decide +kernel
theorem dX9_behind_235 : decode cX9_behind 235 = .ok (.iconst 0, 1) := by decide +kernel
theorem dX9_behind_236 : decode cX9_behind 236 = .ok (.goto 19, 3) := by decide +kernel
theorem dX9_behind_239 : decode cX9_behind 239 = .ok (.iload_n 1, 1) := by decide +kernel
theorem dX9_behind_240 : decode cX9_behind 240 = .ok (.bipush 41, 2) := by decide +kernel
theorem dX9_behind_242 : decode cX9_behind 242 = .ok (.if_icmp .ne 12, 3) := by decide +kernel
theorem dX9_behind_245 : decode cX9_behind 245 = .ok (.iload_n 2, 1) := by decide +kernel
theorem dX9_behind_246 : decode cX9_behind 246 = .ok (.ifCond .le 8, 3) := by decide +kernel
theorem dX9_behind_249 : decode cX9_behind 249 = .ok (.bipush 8, 2) := by decide +kernel
theorem dX9_behind_251 : decode cX9_behind 251 = .ok (.goto 4, 3) := by decide +kernel
theorem dX9_behind_254 : decode cX9_behind 254 = .ok (.iconst (-1), 1) := by decide +kernel
theorem dX9_behind_255 : decode cX9_behind 255 = .ok (.ireturn, 1) := by decide +kernel
set_option maxRecDepth 20000 in
theorem ggX9_fault_X9_behind : GoodIn wsX9_fault wsX9_behind := goodIn_r _ [6, 7, 8, 5, 9, 10, 11, 12] (by decide +kernel) (by decide +kernel)
set_option maxRecDepth 20000 in
theorem gX9_fault_X9_behind : GoodIn wsX9_fault (va_wsS RX9 116 yX9_behind wsX9_behind) := goodIn_app (goodIn_of _ (by decide +kernel)) ggX9_fault_X9_behind
set_option maxRecDepth 20000 in
theorem ggX9_fault_X9_in : GoodIn wsX9_fault wsX9_in := goodIn_r _ [15] (by decide +kernel) (by decide +kernel)
set_option maxRecDepth 20000 in
theorem gX9_fault_X9_in : GoodIn wsX9_fault (va_wsS RX9 85 yX9_in wsX9_in) := goodIn_app (goodIn_of _ (by decide +kernel)) ggX9_fault_X9_in
theorem dX9_fault_0 : decode cX9_fault 0 = .ok (.iconst 0, 1) := by decide +kernel
theorem dX9_fault_1 : decode cX9_fault 1 = .ok (.istore_n 1, 1) := by decide +kernel
theorem dX9_fault_2 : decode cX9_fault 2 = .ok (.iconst 0, 1) := by decide +kernel
theorem dX9_fault_3 : decode cX9_fault 3 = .ok (.istore_n 2, 1) := by decide +kernel
theorem dX9_fault_4 : decode cX9_fault 4 = .ok (.iconst 0, 1) := by decide +kernel
theorem dX9_fault_5 : decode cX9_fault 5 = .ok (.istore_n 3, 1) := by decide +kernel
theorem dX9_fault_6 : decode cX9_fault 6 = .ok (.iload_n 3, 1) := by decide +kernel
theorem dX9_fault_7 : decode cX9_fault 7 = .ok (.aload_n 0, 1) := by decide +kernel
theorem dX9_fault_8 : decode cX9_fault 8 = .ok (.getfield 112, 3) := by decide +kernel
theorem dX9_fault_11 : decode cX9_fault 11 = .ok (.if_icmp .ge 57, 3) := by decide +kernel
theorem dX9_fault_14 : decode cX9_fault 14 = .ok (.aload_n 0, 1) := by decide +kernel
theorem dX9_fault_15 : decode cX9_fault 15 = .ok (.getfield 44, 3) := by decide +kernel
theorem dX9_fault_18 : decode cX9_fault 18 = .ok (.iload_n 3, 1) := by decide +kernel
theorem dX9_fault_19 : decode cX9_fault 19 = .ok (.caload, 1) := by decide +kernel
theorem dX9_fault_20 : decode cX9_fault 20 = .ok (.istore 4, 2) := by decide +kernel
theorem dX9_fault_22 : decode cX9_fault 22 = .ok (.iload_n 1, 1) := by decide +kernel
theorem dX9_fault_23 : decode cX9_fault 23 = .ok (.iload 4, 2) := by decide +kernel
theorem dX9_fault_25 : decode cX9_fault 25 = .ok (.iload_n 2, 1) := by decide +kernel
theorem dX9_fault_26 : decode cX9_fault 26 = .ok (.invokestatic 116, 3) := by decide +kernel
theorem dX9_fault_29 : decode cX9_fault 29 = .ok (.istore_n 1, 1) := by decide +kernel
theorem dX9_fault_30 : decode cX9_fault 30 = .ok (.iload_n 1, 1) := by decide +kernel
theorem dX9_fault_31 : decode cX9_fault 31 = .ok (.ifCond .ge 5, 3) := by decide +kernel
theorem dX9_fault_34 : decode cX9_fault 34 = .ok (.iload_n 3, 1) := by decide +kernel
theorem dX9_fault_35 : decode cX9_fault 35 = .ok (.ireturn, 1) := by decide +kernel
theorem dX9_fault_36 : decode cX9_fault 36 = .ok (.iload_n 2, 1) := by decide +kernel
theorem dX9_fault_37 : decode cX9_fault 37 = .ok (.iload 4, 2) := by decide +kernel
theorem dX9_fault_39 : decode cX9_fault 39 = .ok (.bipush 40, 2) := by decide +kernel
theorem dX9_fault_41 : decode cX9_fault 41 = .ok (.if_icmp .ne 7, 3) := by decide +kernel
theorem dX9_fault_44 : decode cX9_fault 44 = .ok (.iconst 1, 1) := by decide +kernel
theorem dX9_fault_45 : decode cX9_fault 45 = .ok (.goto 15, 3) := by decide +kernel
theorem dX9_fault_48 : decode cX9_fault 48 = .ok (.iload 4, 2) := by decide +kernel
theorem dX9_fault_50 : decode cX9_fault 50 = .ok (.bipush 41, 2) := by decide +kernel
theorem dX9_fault_52 : decode cX9_fault 52 = .ok (.if_icmp .ne 7, 3) := by decide +kernel
theorem dX9_fault_55 : decode cX9_fault 55 = .ok (.iconst (-1), 1) := by decide +kernel
theorem dX9_fault_56 : decode cX9_fault 56 = .ok (.goto 4, 3) := by decide +kernel
theorem dX9_fault_59 : decode cX9_fault 59 = .ok (.iconst 0, 1) := by decide +kernel
theorem dX9_fault_60 : decode cX9_fault 60 = .ok (.iadd, 1) := by decide +kernel
theorem dX9_fault_61 : decode cX9_fault 61 = .ok (.istore_n 2, 1) := by decide +kernel
theorem dX9_fault_62 : decode cX9_fault 62 = .ok (.iinc 3 1, 3) := by decide +kernel
theorem dX9_fault_65 : decode cX9_fault 65 = .ok (.goto (-59), 3) := by decide +kernel
theorem dX9_fault_68 : decode cX9_fault 68 = .ok (.iload_n 2, 1) := by decide +kernel
theorem dX9_fault_69 : decode cX9_fault 69 = .ok (.ifCond .ne 23, 3) := by decide +kernel
theorem dX9_fault_72 : decode cX9_fault 72 = .ok (.iload_n 1, 1) := by decide +kernel
theorem dX9_fault_73 : decode cX9_fault 73 = .ok (.bipush 8, 2) := by decide +kernel
theorem dX9_fault_75 : decode cX9_fault 75 = .ok (.if_icmp .eq 13, 3) := by decide +kernel
theorem dX9_fault_78 : decode cX9_fault 78 = .ok (.iload_n 1, 1) := by decide +kernel
theorem dX9_fault_79 : decode cX9_fault 79 = .ok (.iconst 3, 1) := by decide +kernel
theorem dX9_fault_80 : decode cX9_fault 80 = .ok (.bipush 6, 2) := by decide +kernel
theorem dX9_fault_82 : decode cX9_fault 82 = .ok (.invokestatic 85, 3) := by decide +kernel
theorem dX9_fault_85 : decode cX9_fault 85 = .ok (.ifCond .eq 7, 3) := by decide +kernel
theorem dX9_fault_88 : decode cX9_fault 88 = .ok (.iconst 1, 1) := by decide +kernel
theorem dX9_fault_89 : decode cX9_fault 89 = .ok (.goto 4, 3) := by decide +kernel
theorem dX9_fault_92 : decode cX9_fault 92 = .ok (.iconst 0, 1) := by decide +kernel
theorem dX9_fault_93 : decode cX9_fault 93 = .ok (.istore_n 3, 1) := by decide +kernel
theorem dX9_fault_94 : decode cX9_fault 94 = .ok (.iload_n 3, 1) := by decide +kernel
theorem dX9_fault_95 : decode cX9_fault 95 = .ok (.ifCond .eq 8, 3) := by decide +kernel
theorem dX9_fault_98 : decode cX9_fault 98 = .ok (.bipush (-4), 2) := by decide +kernel
theorem dX9_fault_100 : decode cX9_fault 100 = .ok (.goto 7, 3) := by decide +kernel
theorem dX9_fault_103 : decode cX9_fault 103 = .ok (.aload_n 0, 1) := by decide +kernel
theorem dX9_fault_104 : decode cX9_fault 104 = .ok (.getfield 112, 3) := by decide +kernel
theorem dX9_fault_107 : decode cX9_fault 107 = .ok (.ireturn, 1) := by decide +kernel
theorem dX9_tells_0 : decode cX9_tells 0 = .ok (.aload_n 0, 1) := by decide +kernel
theorem dX9_tells_1 : decode cX9_tells 1 = .ok (.getfield 76, 3) := by decide +kernel
theorem dX9_tells_4 : decode cX9_tells 4 = .ok (.aload_n 0, 1) := by decide +kernel
theorem dX9_tells_5 : decode cX9_tells 5 = .ok (.getfield 120, 3) := by decide +kernel
theorem dX9_tells_8 : decode cX9_tells 8 = .ok (.aload_n 0, 1) := by decide +kernel
theorem dX9_tells_9 : decode cX9_tells 9 = .ok (.getfield 76, 3) := by decide +kernel
theorem dX9_tells_12 : decode cX9_tells 12 = .ok (.aload_n 0, 1) := by decide +kernel
theorem dX9_tells_13 : decode cX9_tells 13 = .ok (.getfield 120, 3) := by decide +kernel
theorem dX9_tells_16 : decode cX9_tells 16 = .ok (.baload, 1) := by decide +kernel
theorem dX9_tells_17 : decode cX9_tells 17 = .ok (.ifCond .eq 20, 3) := by decide +kernel
theorem dX9_tells_20 : decode cX9_tells 20 = .ok (.iload_n 1, 1) := by decide +kernel
theorem dX9_tells_21 : decode cX9_tells 21 = .ok (.aload_n 0, 1) := by decide +kernel
theorem dX9_tells_22 : decode cX9_tells 22 = .ok (.getfield 79, 3) := by decide +kernel
theorem dX9_tells_25 : decode cX9_tells 25 = .ok (.aload_n 0, 1) := by decide +kernel
theorem dX9_tells_26 : decode cX9_tells 26 = .ok (.getfield 120, 3) := by decide +kernel
theorem dX9_tells_29 : decode cX9_tells 29 = .ok (.baload, 1) := by decide +kernel
theorem dX9_tells_30 : decode cX9_tells 30 = .ok (.if_icmp .eq 7, 3) := by decide +kernel
theorem dX9_tells_33 : decode cX9_tells 33 = .ok (.iconst 1, 1) := by decide +kernel
theorem dX9_tells_34 : decode cX9_tells 34 = .ok (.goto 4, 3) := by decide +kernel
theorem dX9_tells_37 : decode cX9_tells 37 = .ok (.iconst 0, 1) := by decide +kernel
theorem dX9_tells_38 : decode cX9_tells 38 = .ok (.bastore, 1) := by decide +kernel
theorem dX9_tells_39 : decode cX9_tells 39 = .ok (.aload_n 0, 1) := by decide +kernel
theorem dX9_tells_40 : decode cX9_tells 40 = .ok (.getfield 79, 3) := by decide +kernel
theorem dX9_tells_43 : decode cX9_tells 43 = .ok (.aload_n 0, 1) := by decide +kernel
theorem dX9_tells_44 : decode cX9_tells 44 = .ok (.getfield 120, 3) := by decide +kernel
theorem dX9_tells_47 : decode cX9_tells 47 = .ok (.iconst 0, 1) := by decide +kernel
theorem dX9_tells_48 : decode cX9_tells 48 = .ok (.bastore, 1) := by decide +kernel
theorem dX9_tells_49 : decode cX9_tells 49 = .ok (.return_, 1) := by decide +kernel
