theorem dX8_chooseCover_42 : decode cX8_chooseCover 42 = .ok (.iload_n 1, 1) := by decide +kernel
theorem dX8_chooseCover_43 : decode cX8_chooseCover 43 = .ok (.if_icmp .eq 6, 3) := by decide +kernel
theorem dX8_chooseCover_46 : decode cX8_chooseCover 46 = .ok (.bipush (-2), 2) := by decide +kernel
theorem dX8_chooseCover_48 : decode cX8_chooseCover 48 = .ok (.ireturn, 1) := by decide +kernel
theorem dX8_chooseCover_49 : decode cX8_chooseCover 49 = .ok (.aload_n 0, 1) := by decide +kernel
theorem dX8_chooseCover_50 : decode cX8_chooseCover 50 = .ok (.getfield 28, 3) := by decide +kernel
theorem dX8_chooseCover_53 : decode cX8_chooseCover 53 = .ok (.iload_n 1, 1) := by decide +kernel
theorem dX8_chooseCover_54 : decode cX8_chooseCover 54 = .ok (.iload_n 2, 1) := by decide +kernel
theorem dX8_chooseCover_55 : decode cX8_chooseCover 55 = .ok (.invokevirtual 199, 3) := by decide +kernel
theorem dX8_chooseCover_58 : decode cX8_chooseCover 58 = .ok (.aload_n 0, 1) := by decide +kernel
theorem dX8_chooseCover_59 : decode cX8_chooseCover 59 = .ok (.invokevirtual 84, 3) := by decide +kernel
theorem dX8_chooseCover_62 : decode cX8_chooseCover 62 = .ok (.aload_n 0, 1) := by decide +kernel
theorem dX8_chooseCover_63 : decode cX8_chooseCover 63 = .ok (.getfield 28, 3) := by decide +kernel
theorem dX8_chooseCover_66 : decode cX8_chooseCover 66 = .ok (.iload_n 1, 1) := by decide +kernel
theorem dX8_chooseCover_67 : decode cX8_chooseCover 67 = .ok (.invokevirtual 202, 3) := by decide +kernel
theorem dX8_chooseCover_70 : decode cX8_chooseCover 70 = .ok (.ireturn, 1) := by decide +kernel
set_option maxRecDepth 20000 in
theorem ggX8_collapse_X6_has : GoodIn wsX8_collapse wsX6_has := goodIn_r _ [6, 7, 8, 9, 10, 29, 30, 31, 32, 33, 34, 35, 36] (by decide +kernel) (by decide +kernel)
set_option maxRecDepth 20000 in
theorem gX8_collapse_X6_has : GoodIn wsX8_collapse (wsV RX8 189 RX6 yX6_has wsX6_has) := goodIn_app (goodIn_of _ (by decide +kernel)) ggX8_collapse_X6_has
set_option maxRecDepth 20000 in
theorem ggX8_collapse_X8_isWithin : GoodIn wsX8_collapse wsX8_isWithin := goodIn_r _ [10] (by decide +kernel) (by decide +kernel)
set_option maxRecDepth 20000 in
theorem gX8_collapse_X8_isWithin : GoodIn wsX8_collapse (va_wsS RX8 71 yX8_isWithin wsX8_isWithin) := goodIn_app (goodIn_of _ (by decide +kernel)) ggX8_collapse_X8_isWithin
set_option maxRecDepth 20000 in
theorem ggX8_collapse_X6_isCollapsed : GoodIn wsX8_collapse wsX6_isCollapsed := goodIn_r _ [15, 16, 29, 30, 31, 32, 33, 34, 35, 36] (by decide +kernel) (by decide +kernel)
set_option maxRecDepth 20000 in
theorem gX8_collapse_X6_isCollapsed : GoodIn wsX8_collapse (wsV RX8 205 RX6 yX6_isCollapsed wsX6_isCollapsed) := goodIn_app (goodIn_of _ (by decide +kernel)) ggX8_collapse_X6_isCollapsed
set_option maxRecDepth 20000 in
theorem ggX8_collapse_X6_fold : GoodIn wsX8_collapse wsX6_fold := goodIn_r _ [20, 16, 29, 30, 31, 32, 33, 34, 35, 36] (by decide +kernel) (by decide +kernel)
set_option maxRecDepth 20000 in
theorem gX8_collapse_X6_fold : GoodIn wsX8_collapse (wsV RX8 208 RX6 yX6_fold wsX6_fold) := goodIn_app (goodIn_of _ (by decide +kernel)) ggX8_collapse_X6_fold
theorem dX8_collapse_0 : decode cX8_collapse 0 = .ok (.aload_n 0, 1) := by decide +kernel
theorem dX8_collapse_1 : decode cX8_collapse 1 = .ok (.getfield 28, 3) := by decide +kernel
theorem dX8_collapse_4 : decode cX8_collapse 4 = .ok (.iload_n 1, 1) := by decide +kernel
theorem dX8_collapse_5 : decode cX8_collapse 5 = .ok (.invokevirtual 189, 3) := by decide +kernel
theorem dX8_collapse_8 : decode cX8_collapse 8 = .ok (.ifCond .eq 12, 3) := by decide +kernel
theorem dX8_collapse_11 : decode cX8_collapse 11 = .ok (.iload_n 2, 1) := by decide +kernel
theorem dX8_collapse_12 : decode cX8_collapse 12 = .ok (.iconst 0, 1) := by decide +kernel
theorem dX8_collapse_13 : decode cX8_collapse 13 = .ok (.iconst 1, 1) := by decide +kernel
theorem dX8_collapse_14 : decode cX8_collapse 14 = .ok (.invokestatic 71, 3) := by decide +kernel
theorem dX8_collapse_17 : decode cX8_collapse 17 = .ok (.ifCond .ne 5, 3) := by decide +kernel
theorem dX8_collapse_20 : decode cX8_collapse 20 = .ok (.iconst (-1), 1) := by decide +kernel
theorem dX8_collapse_21 : decode cX8_collapse 21 = .ok (.ireturn, 1) := by decide +kernel
theorem dX8_collapse_22 : decode cX8_collapse 22 = .ok (.aload_n 0, 1) := by decide +kernel
theorem dX8_collapse_23 : decode cX8_collapse 23 = .ok (.getfield 28, 3) := by decide +kernel
theorem dX8_collapse_26 : decode cX8_collapse 26 = .ok (.iload_n 1, 1) := by decide +kernel
theorem dX8_collapse_27 : decode cX8_collapse 27 = .ok (.invokevirtual 205, 3) := by decide +kernel
theorem dX8_collapse_30 : decode cX8_collapse 30 = .ok (.ifCond .eq 7, 3) := by decide +kernel
theorem dX8_collapse_33 : decode cX8_collapse 33 = .ok (.iconst 1, 1) := by decide +kernel
theorem dX8_collapse_34 : decode cX8_collapse 34 = .ok (.goto 4, 3) := by decide +kernel
theorem dX8_collapse_37 : decode cX8_collapse 37 = .ok (.iconst 0, 1) := by decide +kernel
theorem dX8_collapse_38 : decode cX8_collapse 38 = .ok (.istore_n 3, 1) := by decide +kernel
theorem dX8_collapse_39 : decode cX8_collapse 39 = .ok (.aload_n 0, 1) := by decide +kernel
theorem dX8_collapse_40 : decode cX8_collapse 40 = .ok (.getfield 28, 3) := by decide +kernel
theorem dX8_collapse_43 : decode cX8_collapse 43 = .ok (.iload_n 1, 1) := by decide +kernel
theorem dX8_collapse_44 : decode cX8_collapse 44 = .ok (.iload_n 2, 1) := by decide +kernel
theorem dX8_collapse_45 : decode cX8_collapse 45 = .ok (.iconst 1, 1) := by decide +kernel
theorem dX8_collapse_46 : decode cX8_collapse 46 = .ok (.if_icmp .ne 7, 3) := by decide +kernel
theorem dX8_collapse_49 : decode cX8_collapse 49 = .ok (.iconst 1, 1) := by decide +kernel
theorem dX8_collapse_50 : decode cX8_collapse 50 = .ok (.goto 4, 3) := by decide +kernel
theorem dX8_collapse_53 : decode cX8_collapse 53 = .ok (.iconst 0, 1) := by decide +kernel
theorem dX8_collapse_54 : decode cX8_collapse 54 = .ok (.invokevirtual 208, 3) := by decide +kernel
theorem dX8_collapse_57 : decode cX8_collapse 57 = .ok (.iload_n 3, 1) := by decide +kernel
theorem dX8_collapse_58 : decode cX8_collapse 58 = .ok (.ireturn, 1) := by decide +kernel
set_option maxRecDepth 20000 in
theorem ggX8_stackOf_X1_has : GoodIn wsX8_stackOf wsX1_has := goodIn_r _ [7, 8, 9, 10, 11, 12, 13, 31, 32, 33, 34, 35, 36] (by decide +kernel) (by decide +kernel)
set_option maxRecDepth 20000 in
theorem gX8_stackOf_X1_has : GoodIn wsX8_stackOf (wsV RX8 87 RX1 yX1_has wsX1_has) := goodIn_app (goodIn_of _ (by decide +kernel)) ggX8_stackOf_X1_has
set_option maxRecDepth 20000 in
theorem ggX8_stackOf_X6_home : GoodIn wsX8_stackOf wsX6_home := goodIn_r _ [18, 19, 37, 38, 39, 40, 41, 42, 43, 44] (by decide +kernel) (by decide +kernel)
set_option maxRecDepth 20000 in
theorem gX8_stackOf_X6_home : GoodIn wsX8_stackOf (wsV RX8 182 RX6 yX6_home wsX6_home) := goodIn_app (goodIn_of _ (by decide +kernel)) ggX8_stackOf_X6_home
set_option maxRecDepth 20000 in
theorem ggX8_stackOf_X8_orNotFound : GoodIn wsX8_stackOf wsX8_orNotFound := goodIn_r _ [22] (by decide +kernel) (by decide +kernel)
set_option maxRecDepth 20000 in
theorem gX8_stackOf_X8_orNotFound : GoodIn wsX8_stackOf (va_wsS RX8 124 yX8_orNotFound wsX8_orNotFound) := goodIn_app (goodIn_of _ (by decide +kernel)) ggX8_stackOf_X8_orNotFound
theorem dX8_stackOf_0 : decode cX8_stackOf 0 = .ok (.aload_n 0, 1) := by decide +kernel
theorem dX8_stackOf_1 : decode cX8_stackOf 1 = .ok (.getfield 10, 3) := by decide +kernel
theorem dX8_stackOf_4 : decode cX8_stackOf 4 = .ok (.iload_n 1, 1) := by decide +kernel
theorem dX8_stackOf_5 : decode cX8_stackOf 5 = .ok (.invokevirtual 87, 3) := by decide +kernel
theorem dX8_stackOf_8 : decode cX8_stackOf 8 = .ok (.ifCond .ne 5, 3) := by decide +kernel
theorem dX8_stackOf_11 : decode cX8_stackOf 11 = .ok (.iconst (-1), 1) := by decide +kernel
theorem dX8_stackOf_12 : decode cX8_stackOf 12 = .ok (.ireturn, 1) := by decide +kernel
theorem dX8_stackOf_13 : decode cX8_stackOf 13 = .ok (.aload_n 0, 1) := by decide +kernel
theorem dX8_stackOf_14 : decode cX8_stackOf 14 = .ok (.getfield 28, 3) := by decide +kernel
theorem dX8_stackOf_17 : decode cX8_stackOf 17 = .ok (.iload_n 1, 1) := by decide +kernel
theorem dX8_stackOf_18 : decode cX8_stackOf 18 = .ok (.invokevirtual 182, 3) := by decide +kernel
theorem dX8_stackOf_21 : decode cX8_stackOf 21 = .ok (.invokestatic 124, 3) := by decide +kernel
theorem dX8_stackOf_24 : decode cX8_stackOf 24 = .ok (.ireturn, 1) := by decide +kernel
set_option maxRecDepth 20000 in
theorem ggX8_coverOf_X6_has : GoodIn wsX8_coverOf wsX6_has := goodIn_r _ [6, 7, 8, 9, 10, 35, 36, 37, 38, 39, 40, 41, 42] (by decide +kernel) (by decide +kernel)
set_option maxRecDepth 20000 in
theorem gX8_coverOf_X6_has : GoodIn wsX8_coverOf (wsV RX8 189 RX6 yX6_has wsX6_has) := goodIn_app (goodIn_of _ (by decide +kernel)) ggX8_coverOf_X6_has
set_option maxRecDepth 20000 in
theorem ggX8_coverOf_X6_cover : GoodIn wsX8_coverOf wsX6_cover := goodIn_r _ [14, 15, 16, 7, 17, 18, 19, 5, 20, 21, 22, 23, 24, 25, 26, 35, 36, 37, 38, 39, 40, 41, 42, 43, 44, 45, 46, 47, 48] (by decide +kernel) (by decide +kernel)
set_option maxRecDepth 20000 in
theorem gX8_coverOf_X6_cover : GoodIn wsX8_coverOf (wsV RX8 202 RX6 yX6_cover wsX6_cover) := goodIn_app (goodIn_of _ (by decide +kernel)) ggX8_coverOf_X6_cover
theorem dX8_coverOf_0 : decode cX8_coverOf 0 = .ok (.aload_n 0, 1) := by decide +kernel
theorem dX8_coverOf_1 : decode cX8_coverOf 1 = .ok (.getfield 28, 3) := by decide +kernel
theorem dX8_coverOf_4 : decode cX8_coverOf 4 = .ok (.iload_n 1, 1) := by decide +kernel
theorem dX8_coverOf_5 : decode cX8_coverOf 5 = .ok (.invokevirtual 189, 3) := by decide +kernel
theorem dX8_coverOf_8 : decode cX8_coverOf 8 = .ok (.ifCond .ne 5, 3) := by decide +kernel
theorem dX8_coverOf_11 : decode cX8_coverOf 11 = .ok (.iconst (-1), 1) := by decide +kernel
theorem dX8_coverOf_12 : decode cX8_coverOf 12 = .ok (.ireturn, 1) := by decide +kernel
theorem dX8_coverOf_13 : decode cX8_coverOf 13 = .ok (.aload_n 0, 1) := by decide +kernel
theorem dX8_coverOf_14 : decode cX8_coverOf 14 = .ok (.getfield 28, 3) := by decide +kernel
theorem dX8_coverOf_17 : decode cX8_coverOf 17 = .ok (.iload_n 1, 1) := by decide +kernel
theorem dX8_coverOf_18 : decode cX8_coverOf 18 = .ok (.invokevirtual 202, 3) := by decide +kernel
theorem dX8_coverOf_21 : decode cX8_coverOf 21 = .ok (.ireturn, 1) := by decide +kernel
set_option maxRecDepth 20000 in
theorem ggX8_stackAt_X6_has : GoodIn wsX8_stackAt wsX6_has := goodIn_r _ [6, 7, 8, 9, 10, 30, 31, 32, 33, 34, 35, 36, 37] (by decide +kernel) (by decide +kernel)
set_option maxRecDepth 20000 in
theorem gX8_stackAt_X6_has : GoodIn wsX8_stackAt (wsV RX8 189 RX6 yX6_has wsX6_has) := goodIn_app (goodIn_of _ (by decide +kernel)) ggX8_stackAt_X6_has
set_option maxRecDepth 20000 in
theorem ggX8_stackAt_X6_fileAt : GoodIn wsX8_stackAt wsX6_fileAt := goodIn_r _ [14, 7, 15, 16, 17, 5, 18, 30, 31, 32, 33, 34, 35, 36, 37] (by decide +kernel) (by decide +kernel)
set_option maxRecDepth 20000 in
theorem gX8_stackAt_X6_fileAt : GoodIn wsX8_stackAt (wsV RX8 212 RX6 yX6_fileAt wsX6_fileAt) := goodIn_app (goodIn_of _ (by decide +kernel)) ggX8_stackAt_X6_fileAt
set_option maxRecDepth 20000 in
theorem ggX8_stackAt_X8_orNotFound : GoodIn wsX8_stackAt wsX8_orNotFound := goodIn_r _ [21] (by decide +kernel) (by decide +kernel)
set_option maxRecDepth 20000 in
theorem gX8_stackAt_X8_orNotFound : GoodIn wsX8_stackAt (va_wsS RX8 124 yX8_orNotFound wsX8_orNotFound) := goodIn_app (goodIn_of _ (by decide +kernel)) ggX8_stackAt_X8_orNotFound
theorem dX8_stackAt_0 : decode cX8_stackAt 0 = .ok (.aload_n 0, 1) := by decide +kernel
theorem dX8_stackAt_1 : decode cX8_stackAt 1 = .ok (.getfield 28, 3) := by decide +kernel
theorem dX8_stackAt_4 : decode cX8_stackAt 4 = .ok (.iload_n 1, 1) := by decide +kernel
theorem dX8_stackAt_5 : decode cX8_stackAt 5 = .ok (.invokevirtual 189, 3) := by decide +kernel
theorem dX8_stackAt_8 : decode cX8_stackAt 8 = .ok (.ifCond .eq 7, 3) := by decide +kernel
theorem dX8_stackAt_11 : decode cX8_stackAt 11 = .ok (.iload_n 2, 1) := by decide +kernel
theorem dX8_stackAt_12 : decode cX8_stackAt 12 = .ok (.ifCond .ge 5, 3) := by decide +kernel
theorem dX8_stackAt_15 : decode cX8_stackAt 15 = .ok (.iconst (-1), 1) := by decide +kernel
theorem dX8_stackAt_16 : decode cX8_stackAt 16 = .ok (.ireturn, 1) := by decide +kernel
theorem dX8_stackAt_17 : decode cX8_stackAt 17 = .ok (.aload_n 0, 1) := by decide +kernel
theorem dX8_stackAt_18 : decode cX8_stackAt 18 = .ok (.getfield 28, 3) := by decide +kernel
theorem dX8_stackAt_21 : decode cX8_stackAt 21 = .ok (.iload_n 1, 1) := by decide +kernel
theorem dX8_stackAt_22 : decode cX8_stackAt 22 = .ok (.iload_n 2, 1) := by decide +kernel
theorem dX8_stackAt_23 : decode cX8_stackAt 23 = .ok (.invokevirtual 212, 3) := by decide +kernel
theorem dX8_stackAt_26 : decode cX8_stackAt 26 = .ok (.invokestatic 124, 3) := by decide +kernel
theorem dX8_stackAt_29 : decode cX8_stackAt 29 = .ok (.ireturn, 1) := by decide +kernel
set_option maxRecDepth 20000 in
theorem ggX8_type_X8_isWithin : GoodIn wsX8_type wsX8_isWithin := goodIn_r _ [5] (by decide +kernel) (by decide +kernel)
set_option maxRecDepth 20000 in
theorem gX8_type_X8_isWithin : GoodIn wsX8_type (va_wsS RX8 71 yX8_isWithin wsX8_isWithin) := goodIn_app (goodIn_of _ (by decide +kernel)) ggX8_type_X8_isWithin
set_option maxRecDepth 20000 in
theorem ggX8_type_X5_length : GoodIn wsX8_type wsX5_length := goodIn_r _ [10, 11, 25, 26] (by decide +kernel) (by decide +kernel)
set_option maxRecDepth 20000 in
theorem gX8_type_X5_length : GoodIn wsX8_type (wsV RX8 215 RX5 yX5_length wsX5_length) := goodIn_app (goodIn_of _ (by decide +kernel)) ggX8_type_X5_length
set_option maxRecDepth 20000 in
theorem ggX8_type_X5_append : GoodIn wsX8_type wsX5_append := goodIn_r _ [15, 11, 16, 25, 26] (by decide +kernel) (by decide +kernel)
set_option maxRecDepth 20000 in
theorem gX8_type_X5_append : GoodIn wsX8_type (wsV RX8 218 RX5 yX5_append wsX5_append) := goodIn_app (goodIn_of _ (by decide +kernel)) ggX8_type_X5_append
theorem dX8_type_0 : decode cX8_type 0 = .ok (.iload_n 1, 1) := by decide +kernel
theorem dX8_type_1 : decode cX8_type 1 = .ok (.bipush 33, 2) := by decide +kernel
theorem dX8_type_3 : decode cX8_type 3 = .ok (.bipush 126, 2) := by decide +kernel
theorem dX8_type_5 : decode cX8_type 5 = .ok (.invokestatic 71, 3) := by decide +kernel
theorem dX8_type_8 : decode cX8_type 8 = .ok (.ifCond .ne 5, 3) := by decide +kernel
theorem dX8_type_11 : decode cX8_type 11 = .ok (.iconst (-1), 1) := by decide +kernel
theorem dX8_type_12 : decode cX8_type 12 = .ok (.ireturn, 1) := by decide +kernel
theorem dX8_type_13 : decode cX8_type 13 = .ok (.aload_n 0, 1) := by decide +kernel
theorem dX8_type_14 : decode cX8_type 14 = .ok (.getfield 35, 3) := by decide +kernel
theorem dX8_type_17 : decode cX8_type 17 = .ok (.invokevirtual 215, 3) := by decide +kernel
theorem dX8_type_20 : decode cX8_type 20 = .ok (.bipush 80, 2) := by decide +kernel
theorem dX8_type_22 : decode cX8_type 22 = .ok (.if_icmp .ne 6, 3) := by decide +kernel
theorem dX8_type_25 : decode cX8_type 25 = .ok (.bipush (-3), 2) := by decide +kernel
theorem dX8_type_27 : decode cX8_type 27 = .ok (.ireturn, 1) := by decide +kernel
theorem dX8_type_28 : decode cX8_type 28 = .ok (.aload_n 0, 1) := by decide +kernel
theorem dX8_type_29 : decode cX8_type 29 = .ok (.getfield 35, 3) := by decide +kernel
theorem dX8_type_32 : decode cX8_type 32 = .ok (.iload_n 1, 1) := by decide +kernel
theorem dX8_type_33 : decode cX8_type 33 = .ok (.i2c, 1) := by decide +kernel
theorem dX8_type_34 : decode cX8_type 34 = .ok (.invokevirtual 218, 3) := by decide +kernel
theorem dX8_type_37 : decode cX8_type 37 = .ok (.aload_n 0, 1) := by decide +kernel
theorem dX8_type_38 : decode cX8_type 38 = .ok (.getfield 35, 3) := by decide +kernel
theorem dX8_type_41 : decode cX8_type 41 = .ok (.invokevirtual 215, 3) := by decide +kernel
theorem dX8_type_44 : decode cX8_type 44 = .ok (.ireturn, 1) := by decide +kernel
set_option maxRecDepth 20000 in
theorem ggX8_clearRule_X5_length : GoodIn wsX8_clearRule wsX5_length := goodIn_r _ [6, 7, 20, 21] (by decide +kernel) (by decide +kernel)
set_option maxRecDepth 20000 in
theorem gX8_clearRule_X5_length : GoodIn wsX8_clearRule (wsV RX8 215 RX5 yX5_length wsX5_length) := goodIn_app (goodIn_of _ (by decide +kernel)) ggX8_clearRule_X5_length
set_option maxRecDepth 20000 in
theorem ggX8_clearRule_X5_empty : GoodIn wsX8_clearRule wsX5_empty := goodIn_r _ [11, 7, 20, 21] (by decide +kernel) (by decide +kernel)
set_option maxRecDepth 20000 in
theorem gX8_clearRule_X5_empty : GoodIn wsX8_clearRule (wsV RX8 222 RX5 yX5_empty wsX5_empty) := goodIn_app (goodIn_of _ (by decide +kernel)) ggX8_clearRule_X5_empty
theorem dX8_clearRule_0 : decode cX8_clearRule 0 = .ok (.aload_n 0, 1) := by decide +kernel
theorem dX8_clearRule_1 : decode cX8_clearRule 1 = .ok (.getfield 35, 3) := by decide +kernel
theorem dX8_clearRule_4 : decode cX8_clearRule 4 = .ok (.invokevirtual 215, 3) := by decide +kernel
theorem dX8_clearRule_7 : decode cX8_clearRule 7 = .ok (.istore_n 1, 1) := by decide +kernel
theorem dX8_clearRule_8 : decode cX8_clearRule 8 = .ok (.aload_n 0, 1) := by decide +kernel
theorem dX8_clearRule_9 : decode cX8_clearRule 9 = .ok (.getfield 35, 3) := by decide +kernel
theorem dX8_clearRule_12 : decode cX8_clearRule 12 = .ok (.invokevirtual 222, 3) := by decide +kernel
theorem dX8_clearRule_15 : decode cX8_clearRule 15 = .ok (.iload_n 1, 1) := by decide +kernel
theorem dX8_clearRule_16 : decode cX8_clearRule 16 = .ok (.ireturn, 1) := by decide +kernel
set_option maxRecDepth 20000 in
theorem ggX8_satisfies_X1_has : GoodIn wsX8_satisfies wsX1_has := goodIn_r _ [8, 9, 10, 11, 12, 13, 14, 177, 178, 179, 180, 181, 182] (by decide +kernel) (by decide +kernel)
set_option maxRecDepth 20000 in
theorem gX8_satisfies_X1_has : GoodIn wsX8_satisfies (wsV RX8 87 RX1 yX1_has wsX1_has) := goodIn_app (goodIn_of _ (by decide +kernel)) ggX8_satisfies_X1_has
set_option maxRecDepth 20000 in
theorem ggX8_satisfies_X8_isTextUsable : GoodIn wsX8_satisfies wsX8_isTextUsable := goodIn_r _ [18, 3, 19, 20, 21, 22, 23, 24, 25, 26, 27, 28, 29, 30, 31, 32, 33, 34, 35, 36, 37, 38, 39, 40, 41, 42, 43, 44, 45, 46, 47, 48, 49, 50, 51, 52, 53, 54, 55, 56, 57, 11, 58, 59, 60, 10, 12, 61, 62, 63, 64, 65, 66, 169, 170, 171, 172, 173, 174, 175, 176, 183, 184, 185, 186, 187, 188, 189, 190, 191] (by decide +kernel) (by decide +kernel)
set_option maxRecDepth 20000 in
theorem gX8_satisfies_X8_isTextUsable : GoodIn wsX8_satisfies (wsV RX8 228 RX8 yX8_isTextUsable wsX8_isTextUsable) := goodIn_app (goodIn_of _ (by decide +kernel)) ggX8_satisfies_X8_isTextUsable
set_option maxRecDepth 20000 in
theorem ggX8_satisfies_X4_filesFor : GoodIn wsX8_satisfies wsX4_filesFor := goodIn_r _ [71, 72, 73, 74, 75, 76, 77, 70, 78, 79, 80, 81, 82, 83, 7, 84, 9, 85, 86, 87, 22, 88, 24, 89, 52, 53, 54, 25, 90, 91, 92, 93, 94, 95, 96, 97, 98, 99, 51, 38, 39, 40, 100, 101, 102, 103, 13, 11, 14, 104, 105, 106, 107, 108, 109, 110, 111, 112, 113, 114, 115, 10, 12, 116, 117, 118, 64, 119, 120, 121, 122, 123, 124, 125, 126, 127, 128, 129, 130, 131, 132, 133, 134, 135, 136, 137, 138, 139, 140, 141, 142, 143, 144, 145, 146, 147, 33, 34, 148, 149, 150, 151, 152, 153, 154, 155, 156, 157, 158, 159, 160, 161, 162, 163, 164, 165, 166, 167, 192, 193, 194, 195, 196, 197, 198, 199, 177, 178, 179, 180, 181, 182, 183, 184, 185, 186, 187, 188, 189, 190, 191, 200, 201, 202, 203, 204, 205, 206, 207, 208, 209, 210] (by decide +kernel) (by decide +kernel)
set_option maxRecDepth 20000 in
theorem gX8_satisfies_X4_filesFor : GoodIn wsX8_satisfies (wsV RX8 231 RX4 yX4_filesFor wsX4_filesFor) := goodIn_app (goodIn_of _ (by decide +kernel)) ggX8_satisfies_X4_filesFor
set_option maxRecDepth 20000 in
theorem ggX8_satisfies_X8_holds : GoodIn wsX8_satisfies wsX8_holds := goodIn_r _ [14] (by decide +kernel) (by decide +kernel)
set_option maxRecDepth 20000 in
theorem gX8_satisfies_X8_holds : GoodIn wsX8_satisfies (va_wsS RX8 178 yX8_holds wsX8_holds) := goodIn_app (goodIn_of _ (by decide +kernel)) ggX8_satisfies_X8_holds
theorem dX8_satisfies_0 : decode cX8_satisfies 0 = .ok (.aload_n 0, 1) := by decide +kernel
theorem dX8_satisfies_1 : decode cX8_satisfies 1 = .ok (.getfield 10, 3) := by decide +kernel
theorem dX8_satisfies_4 : decode cX8_satisfies 4 = .ok (.iload_n 1, 1) := by decide +kernel
theorem dX8_satisfies_5 : decode cX8_satisfies 5 = .ok (.invokevirtual 87, 3) := by decide +kernel
theorem dX8_satisfies_8 : decode cX8_satisfies 8 = .ok (.ifCond .ne 5, 3) := by decide +kernel
theorem dX8_satisfies_11 : decode cX8_satisfies 11 = .ok (.iconst (-1), 1) := by decide +kernel
theorem dX8_satisfies_12 : decode cX8_satisfies 12 = .ok (.ireturn, 1) := by decide +kernel
theorem dX8_satisfies_13 : decode cX8_satisfies 13 = .ok (.aload_n 0, 1) := by decide +kernel
theorem dX8_satisfies_14 : decode cX8_satisfies 14 = .ok (.bipush 8, 2) := by decide +kernel
theorem dX8_satisfies_16 : decode cX8_satisfies 16 = .ok (.invokevirtual 228, 3) := by decide +kernel
theorem dX8_satisfies_19 : decode cX8_satisfies 19 = .ok (.ifCond .ne 6, 3) := by decide +kernel
theorem dX8_satisfies_22 : decode cX8_satisfies 22 = .ok (.bipush (-2), 2) := by decide +kernel
theorem dX8_satisfies_24 : decode cX8_satisfies 24 = .ok (.ireturn, 1) := by decide +kernel
theorem dX8_satisfies_25 : decode cX8_satisfies 25 = .ok (.aload_n 0, 1) := by decide +kernel
theorem dX8_satisfies_26 : decode cX8_satisfies 26 = .ok (.getfield 51, 3) := by decide +kernel
theorem dX8_satisfies_29 : decode cX8_satisfies 29 = .ok (.aload_n 0, 1) := by decide +kernel
theorem dX8_satisfies_30 : decode cX8_satisfies 30 = .ok (.getfield 35, 3) := by decide +kernel
theorem dX8_satisfies_33 : decode cX8_satisfies 33 = .ok (.invokevirtual 231, 3) := by decide +kernel
theorem dX8_satisfies_36 : decode cX8_satisfies 36 = .ok (.iload_n 1, 1) := by decide +kernel
theorem dX8_satisfies_37 : decode cX8_satisfies 37 = .ok (.invokestatic 178, 3) := by decide +kernel
theorem dX8_satisfies_40 : decode cX8_satisfies 40 = .ok (.ifCond .eq 7, 3) := by decide +kernel
theorem dX8_satisfies_43 : decode cX8_satisfies 43 = .ok (.iconst 1, 1) := by decide +kernel
theorem dX8_satisfies_44 : decode cX8_satisfies 44 = .ok (.goto 4, 3) := by decide +kernel
theorem dX8_satisfies_47 : decode cX8_satisfies 47 = .ok (.iconst 0, 1) := by decide +kernel
theorem dX8_satisfies_48 : decode cX8_satisfies 48 = .ok (.ireturn, 1) := by decide +kernel
set_option maxRecDepth 20000 in
theorem ggX8_select_X8_isTextUsable : GoodIn wsX8_select wsX8_isTextUsable := goodIn_r _ [7, 2, 8, 9, 10, 11, 12, 13, 14, 15, 16, 17, 18, 19, 20, 21, 22, 23, 24, 25, 26, 27, 28, 29, 30, 31, 32, 33, 34, 35, 36, 37, 38, 39, 40, 41, 42, 43, 44, 45, 46, 6, 47, 48, 49, 50, 51, 52, 53, 54, 55, 56, 57, 170, 171, 172, 173, 174, 175, 176, 177, 178, 179, 180, 181, 182, 183, 184, 185, 186] (by decide +kernel) (by decide +kernel)
set_option maxRecDepth 20000 in
theorem gX8_select_X8_isTextUsable : GoodIn wsX8_select (wsV RX8 228 RX8 yX8_isTextUsable wsX8_isTextUsable) := goodIn_app (goodIn_of _ (by decide +kernel)) ggX8_select_X8_isTextUsable
set_option maxRecDepth 20000 in
theorem ggX8_select_X4_filesFor : GoodIn wsX8_select wsX4_filesFor := goodIn_r _ [62, 63, 64, 65, 66, 67, 68, 61, 69, 70, 71, 72, 73, 74, 75, 76, 77, 78, 79, 80, 11, 81, 13, 82, 41, 42, 43, 14, 83, 84, 85, 86, 87, 88, 89, 90, 91, 92, 40, 27, 28, 29, 93, 94, 95, 96, 97, 6, 98, 99, 100, 101, 102, 103, 104, 105, 106, 107, 108, 109, 110, 50, 51, 111, 112, 113, 55, 114, 115, 116, 117, 118, 119, 120, 121, 122, 123, 124, 125, 126, 127, 128, 129, 130, 131, 132, 133, 134, 135, 136, 137, 138, 139, 140, 141, 142, 22, 23, 143, 144, 145, 146, 147, 148, 149, 150, 151, 152, 153, 154, 155, 156, 157, 158, 159, 160, 161, 162, 187, 188, 189, 190, 191, 192, 193, 194, 195, 196, 197, 198, 199, 200, 178, 179, 180, 181, 182, 183, 184, 185, 186, 201, 202, 203, 204, 205, 206, 207, 208, 209, 210, 211] (by decide +kernel) (by decide +kernel)
set_option maxRecDepth 20000 in
theorem gX8_select_X4_filesFor : GoodIn wsX8_select (wsV RX8 231 RX4 yX4_filesFor wsX4_filesFor) := goodIn_app (goodIn_of _ (by decide +kernel)) ggX8_select_X4_filesFor
set_option maxRecDepth 20000 in
theorem ggX8_select_J13_bitCount_95d88 : GoodIn wsX8_select wsJ13_bitCount_95d88 := goodIn_r _ [166, 167, 168, 169] (by decide +kernel) (by decide +kernel)
set_option maxRecDepth 20000 in
theorem gX8_select_J13_bitCount_95d88 : GoodIn wsX8_select (va_wsS RX8 153 yJ13_bitCount_95d88 wsJ13_bitCount_95d88) := goodIn_app (goodIn_of _ (by decide +kernel)) ggX8_select_J13_bitCount_95d88
theorem dX8_select_0 : decode cX8_select 0 = .ok (.aload_n 0, 1) := by decide +kernel
theorem dX8_select_1 : decode cX8_select 1 = .ok (.bipush 8, 2) := by decide +kernel
theorem dX8_select_3 : decode cX8_select 3 = .ok (.invokevirtual 228, 3) := by decide +kernel
theorem dX8_select_6 : decode cX8_select 6 = .ok (.ifCond .ne 6, 3) := by decide +kernel
theorem dX8_select_9 : decode cX8_select 9 = .ok (.bipush (-2), 2) := by decide +kernel
theorem dX8_select_11 : decode cX8_select 11 = .ok (.ireturn, 1) := by decide +kernel
theorem dX8_select_12 : decode cX8_select 12 = .ok (.aload_n 0, 1) := by decide +kernel
theorem dX8_select_13 : decode cX8_select 13 = .ok (.getfield 51, 3) := by decide +kernel
theorem dX8_select_16 : decode cX8_select 16 = .ok (.aload_n 0, 1) := by decide +kernel
theorem dX8_select_17 : decode cX8_select 17 = .ok (.getfield 35, 3) := by decide +kernel
theorem dX8_select_20 : decode cX8_select 20 = .ok (.invokevirtual 231, 3) := by decide +kernel
theorem dX8_select_23 : decode cX8_select 23 = .ok (.invokestatic 153, 3) := by decide +kernel
theorem dX8_select_26 : decode cX8_select 26 = .ok (.ireturn, 1) := by decide +kernel
set_option maxRecDepth 20000 in
theorem ggX8_makeAlbum_X8_freeAlbum : GoodIn wsX8_makeAlbum wsX8_freeAlbum := goodIn_r _ [7, 8, 9, 10, 6, 11, 1, 12, 13, 14, 15, 16, 17, 18, 19, 20, 298, 299, 300, 301, 302, 303, 304, 305, 306, 307, 308, 309, 310, 311, 312] (by decide +kernel) (by decide +kernel)
set_option maxRecDepth 20000 in
theorem gX8_makeAlbum_X8_freeAlbum : GoodIn wsX8_makeAlbum (wsV RX8 235 RX8 yX8_freeAlbum wsX8_freeAlbum) := goodIn_app (goodIn_of _ (by decide +kernel)) ggX8_makeAlbum_X8_freeAlbum
set_option maxRecDepth 20000 in
theorem ggX8_makeAlbum_X8_isTextUsable : GoodIn wsX8_makeAlbum wsX8_isTextUsable := goodIn_r _ [24, 2, 25, 26, 27, 28, 29, 30, 31, 32, 33, 34, 35, 36, 37, 38, 39, 40, 41, 42, 43, 44, 45, 46, 47, 48, 49, 50, 51, 52, 53, 54, 55, 56, 57, 58, 59, 60, 8, 9, 10, 6, 11, 1, 12, 13, 14, 15, 16, 17, 18, 19, 20, 298, 299, 300, 301, 302, 303, 304, 305, 313, 314, 306, 307, 308, 309, 310, 311, 312] (by decide +kernel) (by decide +kernel)
set_option maxRecDepth 20000 in
theorem gX8_makeAlbum_X8_isTextUsable : GoodIn wsX8_makeAlbum (wsV RX8 228 RX8 yX8_isTextUsable wsX8_isTextUsable) := goodIn_app (goodIn_of _ (by decide +kernel)) ggX8_makeAlbum_X8_isTextUsable
set_option maxRecDepth 20000 in
theorem ggX8_makeAlbum_X0_begin : GoodIn wsX8_makeAlbum wsX0_begin := goodIn_r _ [64, 20, 65, 66, 67, 68, 69, 70, 18, 71, 72, 73, 74, 75, 76, 77, 78, 79, 80, 81, 28, 82, 31, 30, 83, 84, 85, 86, 306, 307, 308, 309, 310, 311, 312, 313, 314] (by decide +kernel) (by decide +kernel)
set_option maxRecDepth 20000 in
theorem gX8_makeAlbum_X0_begin : GoodIn wsX8_makeAlbum (wsV RX8 238 RX0 yX0_begin wsX0_begin) := goodIn_app (goodIn_of _ (by decide +kernel)) ggX8_makeAlbum_X0_begin
set_option maxRecDepth 20000 in
theorem ggX8_makeAlbum_X8_settle : GoodIn wsX8_makeAlbum wsX8_settle := goodIn_r _ [90, 91, 92, 93, 94, 1, 95, 96, 97, 98, 99, 100, 101, 102, 6, 103, 104, 105, 106, 107, 108, 109, 110, 111, 112, 113, 114, 115, 116, 117, 118, 119, 120, 121, 122, 123, 124, 125, 126, 127, 128, 129, 130, 131, 132, 133, 134, 135, 136, 137, 138, 139, 140, 141, 142, 143, 144, 145, 146, 147, 148, 149, 150, 151, 152, 153, 154, 155, 156, 157, 158, 159, 160, 161, 162, 163, 164, 165, 166, 167, 168, 169, 170, 171, 172, 173, 174, 175, 176, 177, 178, 179, 13, 14, 180, 181, 182, 183, 184, 185, 186, 187, 188, 189, 190, 8, 9, 10, 11, 12, 15, 16, 17, 18, 19, 20, 191, 192, 193, 194, 78, 195, 196, 197, 198, 199, 200, 201, 202, 203, 204, 205, 206, 207, 208, 209, 210, 211, 212, 28, 213, 30, 214, 58, 59, 60, 31, 215, 216, 217, 218, 219, 220, 221, 222, 223, 224, 57, 44, 45, 46, 225, 226, 227, 228, 229, 230, 231, 232, 233, 234, 235, 236, 237, 238, 65, 239, 240, 241, 242, 243, 244, 245, 246, 247, 248, 249, 250, 251, 252, 253, 254, 255, 256, 257, 258, 259, 260, 39, 40, 261, 262, 263, 264, 265, 266, 267, 268, 269, 270, 271, 272, 273, 274, 275, 276, 277, 278, 279, 280, 281, 282, 283, 284, 66, 67, 285, 286, 287, 288, 289, 290, 291, 292, 293, 294, 295, 296, 297, 298, 299, 300, 301, 302, 303, 304, 305, 315, 316, 317, 318, 319, 320, 321, 322, 323, 324, 325, 326, 327, 328, 329, 330, 331, 306, 307, 308, 309, 310, 311, 312, 332, 333, 334, 335, 336, 337, 338, 339, 313, 314, 340, 341, 342, 343, 344] (by decide +kernel) (by decide +kernel)
set_option maxRecDepth 20000 in
theorem gX8_makeAlbum_X8_settle : GoodIn wsX8_makeAlbum (wsV RX8 84 RX8 yX8_settle wsX8_settle) := goodIn_app (goodIn_of _ (by decide +kernel)) ggX8_makeAlbum_X8_settle
theorem dX8_makeAlbum_0 : decode cX8_makeAlbum 0 = .ok (.aload_n 0, 1) := by decide +kernel
theorem dX8_makeAlbum_1 : decode cX8_makeAlbum 1 = .ok (.invokevirtual 235, 3) := by decide +kernel
theorem dX8_makeAlbum_4 : decode cX8_makeAlbum 4 = .ok (.istore_n 1, 1) := by decide +kernel
theorem dX8_makeAlbum_5 : decode cX8_makeAlbum 5 = .ok (.aload_n 0, 1) := by decide +kernel
theorem dX8_makeAlbum_6 : decode cX8_makeAlbum 6 = .ok (.iload_n 1, 1) := by decide +kernel
theorem dX8_makeAlbum_7 : decode cX8_makeAlbum 7 = .ok (.invokevirtual 228, 3) := by decide +kernel
theorem dX8_makeAlbum_10 : decode cX8_makeAlbum 10 = .ok (.ifCond .ne 6, 3) := by decide +kernel
theorem dX8_makeAlbum_13 : decode cX8_makeAlbum 13 = .ok (.bipush (-2), 2) := by decide +kernel
theorem dX8_makeAlbum_15 : decode cX8_makeAlbum 15 = .ok (.ireturn, 1) := by decide +kernel
theorem dX8_makeAlbum_16 : decode cX8_makeAlbum 16 = .ok (.iload_n 1, 1) := by decide +kernel
theorem dX8_makeAlbum_17 : decode cX8_makeAlbum 17 = .ok (.bipush 8, 2) := by decide +kernel
theorem dX8_makeAlbum_19 : decode cX8_makeAlbum 19 = .ok (.if_icmp .ne 6, 3) := by decide +kernel
theorem dX8_makeAlbum_22 : decode cX8_makeAlbum 22 = .ok (.bipush (-3), 2) := by decide +kernel
theorem dX8_makeAlbum_24 : decode cX8_makeAlbum 24 = .ok (.ireturn, 1) := by decide +kernel
theorem dX8_makeAlbum_25 : decode cX8_makeAlbum 25 = .ok (.aload_n 0, 1) := by decide +kernel
theorem dX8_makeAlbum_26 : decode cX8_makeAlbum 26 = .ok (.getfield 41, 3) := by decide +kernel
theorem dX8_makeAlbum_29 : decode cX8_makeAlbum 29 = .ok (.iload_n 1, 1) := by decide +kernel
theorem dX8_makeAlbum_30 : decode cX8_makeAlbum 30 = .ok (.aaload, 1) := by decide +kernel
theorem dX8_makeAlbum_31 : decode cX8_makeAlbum 31 = .ok (.aload_n 0, 1) := by decide +kernel
theorem dX8_makeAlbum_32 : decode cX8_makeAlbum 32 = .ok (.getfield 35, 3) := by decide +kernel
theorem dX8_makeAlbum_35 : decode cX8_makeAlbum 35 = .ok (.invokevirtual 238, 3) := by decide +kernel
theorem dX8_makeAlbum_38 : decode cX8_makeAlbum 38 = .ok (.aload_n 0, 1) := by decide +kernel
theorem dX8_makeAlbum_39 : decode cX8_makeAlbum 39 = .ok (.invokevirtual 84, 3) := by decide +kernel
theorem dX8_makeAlbum_42 : decode cX8_makeAlbum 42 = .ok (.iload_n 1, 1) := by decide +kernel
theorem dX8_makeAlbum_43 : decode cX8_makeAlbum 43 = .ok (.ireturn, 1) := by decide +kernel
set_option maxRecDepth 20000 in
theorem ggX8_albumSize_X8_hasAlbum : GoodIn wsX8_albumSize wsX8_hasAlbum := goodIn_r _ [6, 1, 7, 8, 5, 9, 10, 11, 12, 13, 14, 15, 28, 29, 30, 31, 32, 33, 34, 35, 36, 37, 38, 39, 40, 41, 42] (by decide +kernel) (by decide +kernel)
set_option maxRecDepth 20000 in
theorem gX8_albumSize_X8_hasAlbum : GoodIn wsX8_albumSize (wsV RX8 241 RX8 yX8_hasAlbum wsX8_hasAlbum) := goodIn_app (goodIn_of _ (by decide +kernel)) ggX8_albumSize_X8_hasAlbum
set_option maxRecDepth 20000 in
theorem ggX8_albumSize_X0_members : GoodIn wsX8_albumSize wsX0_members := goodIn_r _ [19, 20, 36, 37, 38, 39, 40, 41, 42] (by decide +kernel) (by decide +kernel)
set_option maxRecDepth 20000 in
theorem gX8_albumSize_X0_members : GoodIn wsX8_albumSize (wsV RX8 256 RX0 yX0_members wsX0_members) := goodIn_app (goodIn_of _ (by decide +kernel)) ggX8_albumSize_X0_members
set_option maxRecDepth 20000 in
theorem ggX8_albumSize_J13_bitCount_95d88 : GoodIn wsX8_albumSize wsJ13_bitCount_95d88 := goodIn_r _ [24, 25, 26, 27] (by decide +kernel) (by decide +kernel)
set_option maxRecDepth 20000 in
theorem gX8_albumSize_J13_bitCount_95d88 : GoodIn wsX8_albumSize (va_wsS RX8 153 yJ13_bitCount_95d88 wsJ13_bitCount_95d88) := goodIn_app (goodIn_of _ (by decide +kernel)) ggX8_albumSize_J13_bitCount_95d88
theorem dX8_albumSize_0 : decode cX8_albumSize 0 = .ok (.aload_n 0, 1) := by decide +kernel
theorem dX8_albumSize_1 : decode cX8_albumSize 1 = .ok (.iload_n 1, 1) := by decide +kernel
theorem dX8_albumSize_2 : decode cX8_albumSize 2 = .ok (.invokevirtual 241, 3) := by decide +kernel
theorem dX8_albumSize_5 : decode cX8_albumSize 5 = .ok (.ifCond .ne 5, 3) := by decide +kernel
theorem dX8_albumSize_8 : decode cX8_albumSize 8 = .ok (.iconst (-1), 1) := by decide +kernel
theorem dX8_albumSize_9 : decode cX8_albumSize 9 = .ok (.ireturn, 1) := by decide +kernel
theorem dX8_albumSize_10 : decode cX8_albumSize 10 = .ok (.aload_n 0, 1) := by decide +kernel
theorem dX8_albumSize_11 : decode cX8_albumSize 11 = .ok (.getfield 41, 3) := by decide +kernel
theorem dX8_albumSize_14 : decode cX8_albumSize 14 = .ok (.iload_n 1, 1) := by decide +kernel
theorem dX8_albumSize_15 : decode cX8_albumSize 15 = .ok (.aaload, 1) := by decide +kernel
theorem dX8_albumSize_16 : decode cX8_albumSize 16 = .ok (.invokevirtual 256, 3) := by decide +kernel
theorem dX8_albumSize_19 : decode cX8_albumSize 19 = .ok (.invokestatic 153, 3) := by decide +kernel
theorem dX8_albumSize_22 : decode cX8_albumSize 22 = .ok (.ireturn, 1) := by decide +kernel
set_option maxRecDepth 20000 in
theorem ggX8_isIn_X8_hasAlbum : GoodIn wsX8_isIn wsX8_hasAlbum := goodIn_r _ [7, 2, 8, 9, 6, 10, 11, 12, 13, 14, 15, 16, 31, 32, 33, 34, 35, 36, 37, 38, 39, 40, 41, 42, 43, 44, 45] (by decide +kernel) (by decide +kernel)
set_option maxRecDepth 20000 in
theorem gX8_isIn_X8_hasAlbum : GoodIn wsX8_isIn (wsV RX8 241 RX8 yX8_hasAlbum wsX8_hasAlbum) := goodIn_app (goodIn_of _ (by decide +kernel)) ggX8_isIn_X8_hasAlbum
set_option maxRecDepth 20000 in
theorem ggX8_isIn_X1_has : GoodIn wsX8_isIn wsX1_has := goodIn_r _ [21, 22, 9, 6, 10, 23, 24, 46, 47, 48, 49, 50, 51] (by decide +kernel) (by decide +kernel)
set_option maxRecDepth 20000 in
theorem gX8_isIn_X1_has : GoodIn wsX8_isIn (wsV RX8 87 RX1 yX1_has wsX1_has) := goodIn_app (goodIn_of _ (by decide +kernel)) ggX8_isIn_X1_has
set_option maxRecDepth 20000 in
theorem ggX8_isIn_X0_members : GoodIn wsX8_isIn wsX0_members := goodIn_r _ [28, 29, 39, 40, 41, 42, 43, 44, 45] (by decide +kernel) (by decide +kernel)
set_option maxRecDepth 20000 in
theorem gX8_isIn_X0_members : GoodIn wsX8_isIn (wsV RX8 256 RX0 yX0_members wsX0_members) := goodIn_app (goodIn_of _ (by decide +kernel)) ggX8_isIn_X0_members
set_option maxRecDepth 20000 in
theorem ggX8_isIn_X8_holds : GoodIn wsX8_isIn wsX8_holds := goodIn_r _ [24] (by decide +kernel) (by decide +kernel)
set_option maxRecDepth 20000 in
theorem gX8_isIn_X8_holds : GoodIn wsX8_isIn (va_wsS RX8 178 yX8_holds wsX8_holds) := goodIn_app (goodIn_of _ (by decide +kernel)) ggX8_isIn_X8_holds
theorem dX8_isIn_0 : decode cX8_isIn 0 = .ok (.aload_n 0, 1) := by decide +kernel
theorem dX8_isIn_1 : decode cX8_isIn 1 = .ok (.iload_n 1, 1) := by decide +kernel
theorem dX8_isIn_2 : decode cX8_isIn 2 = .ok (.invokevirtual 241, 3) := by decide +kernel
theorem dX8_isIn_5 : decode cX8_isIn 5 = .ok (.ifCond .eq 14, 3) := by decide +kernel
theorem dX8_isIn_8 : decode cX8_isIn 8 = .ok (.aload_n 0, 1) := by decide +kernel
theorem dX8_isIn_9 : decode cX8_isIn 9 = .ok (.getfield 10, 3) := by decide +kernel
theorem dX8_isIn_12 : decode cX8_isIn 12 = .ok (.iload_n 2, 1) := by decide +kernel
theorem dX8_isIn_13 : decode cX8_isIn 13 = .ok (.invokevirtual 87, 3) := by decide +kernel
theorem dX8_isIn_16 : decode cX8_isIn 16 = .ok (.ifCond .ne 5, 3) := by decide +kernel
theorem dX8_isIn_19 : decode cX8_isIn 19 = .ok (.iconst (-1), 1) := by decide +kernel
theorem dX8_isIn_20 : decode cX8_isIn 20 = .ok (.ireturn, 1) := by decide +kernel
theorem dX8_isIn_21 : decode cX8_isIn 21 = .ok (.aload_n 0, 1) := by decide +kernel
theorem dX8_isIn_22 : decode cX8_isIn 22 = .ok (.getfield 41, 3) := by decide +kernel
theorem dX8_isIn_25 : decode cX8_isIn 25 = .ok (.iload_n 1, 1) := by decide +kernel
theorem dX8_isIn_26 : decode cX8_isIn 26 = .ok (.aaload, 1) := by decide +kernel
theorem dX8_isIn_27 : decode cX8_isIn 27 = .ok (.invokevirtual 256, 3) := by decide +kernel
theorem dX8_isIn_30 : decode cX8_isIn 30 = .ok (.iload_n 2, 1) := by decide +kernel
theorem dX8_isIn_31 : decode cX8_isIn 31 = .ok (.invokestatic 178, 3) := by decide +kernel
theorem dX8_isIn_34 : decode cX8_isIn 34 = .ok (.ifCond .eq 7, 3) := by decide +kernel
theorem dX8_isIn_37 : decode cX8_isIn 37 = .ok (.iconst 1, 1) := by decide +kernel
theorem dX8_isIn_38 : decode cX8_isIn 38 = .ok (.goto 4, 3) := by decide +kernel
theorem dX8_isIn_41 : decode cX8_isIn 41 = .ok (.iconst 0, 1) := by decide +kernel
theorem dX8_isIn_42 : decode cX8_isIn 42 = .ok (.ireturn, 1) := by decide +kernel
set_option maxRecDepth 20000 in
theorem ggX8_viewSize_X8_hasAlbum : GoodIn wsX8_viewSize wsX8_hasAlbum := goodIn_r _ [7, 2, 8, 9, 6, 10, 11, 12, 13, 14, 15, 16, 71, 72, 73, 74, 75, 76, 77, 78, 79, 80, 81, 82, 83, 84, 85] (by decide +kernel) (by decide +kernel)
set_option maxRecDepth 20000 in
theorem gX8_viewSize_X8_hasAlbum : GoodIn wsX8_viewSize (wsV RX8 241 RX8 yX8_hasAlbum wsX8_hasAlbum) := goodIn_app (goodIn_of _ (by decide +kernel)) ggX8_viewSize_X8_hasAlbum
set_option maxRecDepth 20000 in
theorem ggX8_viewSize_X7_shown : GoodIn wsX8_viewSize wsX7_shown := goodIn_r _ [21, 22, 23, 24, 25, 14, 26, 27, 28, 29, 30, 31, 32, 33, 9, 6, 10, 34, 35, 36, 37, 38, 39, 40, 41, 42, 43, 44, 45, 46, 47, 48, 49, 50, 51, 52, 53, 54, 55, 56, 57, 58, 59, 60, 61, 62, 63, 86, 87, 79, 80, 81, 82, 83, 84, 85, 88, 89, 90, 91, 92, 93, 94, 95, 96, 97, 98, 99, 100, 101] (by decide +kernel) (by decide +kernel)
set_option maxRecDepth 20000 in
theorem gX8_viewSize_X7_shown : GoodIn wsX8_viewSize (wsV RX8 265 RX7 yX7_shown wsX7_shown) := goodIn_app (goodIn_of _ (by decide +kernel)) ggX8_viewSize_X7_shown
set_option maxRecDepth 20000 in
theorem ggX8_viewSize_J13_bitCount_95d88 : GoodIn wsX8_viewSize wsJ13_bitCount_95d88 := goodIn_r _ [67, 68, 69, 70] (by decide +kernel) (by decide +kernel)
set_option maxRecDepth 20000 in
theorem gX8_viewSize_J13_bitCount_95d88 : GoodIn wsX8_viewSize (va_wsS RX8 153 yJ13_bitCount_95d88 wsJ13_bitCount_95d88) := goodIn_app (goodIn_of _ (by decide +kernel)) ggX8_viewSize_J13_bitCount_95d88
theorem dX8_viewSize_0 : decode cX8_viewSize 0 = .ok (.aload_n 0, 1) := by decide +kernel
theorem dX8_viewSize_1 : decode cX8_viewSize 1 = .ok (.iload_n 1, 1) := by decide +kernel
theorem dX8_viewSize_2 : decode cX8_viewSize 2 = .ok (.invokevirtual 241, 3) := by decide +kernel
theorem dX8_viewSize_5 : decode cX8_viewSize 5 = .ok (.ifCond .ne 5, 3) := by decide +kernel
theorem dX8_viewSize_8 : decode cX8_viewSize 8 = .ok (.iconst (-1), 1) := by decide +kernel
theorem dX8_viewSize_9 : decode cX8_viewSize 9 = .ok (.ireturn, 1) := by decide +kernel
theorem dX8_viewSize_10 : decode cX8_viewSize 10 = .ok (.aload_n 0, 1) := by decide +kernel
theorem dX8_viewSize_11 : decode cX8_viewSize 11 = .ok (.getfield 60, 3) := by decide +kernel
theorem dX8_viewSize_14 : decode cX8_viewSize 14 = .ok (.aload_n 0, 1) := by decide +kernel
theorem dX8_viewSize_15 : decode cX8_viewSize 15 = .ok (.getfield 41, 3) := by decide +kernel
theorem dX8_viewSize_18 : decode cX8_viewSize 18 = .ok (.iload_n 1, 1) := by decide +kernel
theorem dX8_viewSize_19 : decode cX8_viewSize 19 = .ok (.aaload, 1) := by decide +kernel
theorem dX8_viewSize_20 : decode cX8_viewSize 20 = .ok (.invokevirtual 265, 3) := by decide +kernel
theorem dX8_viewSize_23 : decode cX8_viewSize 23 = .ok (.invokestatic 153, 3) := by decide +kernel
theorem dX8_viewSize_26 : decode cX8_viewSize 26 = .ok (.ireturn, 1) := by decide +kernel
set_option maxRecDepth 20000 in
theorem ggX8_viewAt_X8_hasAlbum : GoodIn wsX8_viewAt wsX8_hasAlbum := goodIn_r _ [7, 2, 8, 9, 6, 10, 11, 12, 13, 14, 15, 16, 91, 92, 93, 94, 95, 96, 97, 98, 99, 100, 101, 102, 103, 104, 105] (by decide +kernel) (by decide +kernel)
set_option maxRecDepth 20000 in
theorem gX8_viewAt_X8_hasAlbum : GoodIn wsX8_viewAt (wsV RX8 241 RX8 yX8_hasAlbum wsX8_hasAlbum) := goodIn_app (goodIn_of _ (by decide +kernel)) ggX8_viewAt_X8_hasAlbum
set_option maxRecDepth 20000 in
theorem ggX8_viewAt_X7_fileAt : GoodIn wsX8_viewAt wsX7_fileAt := goodIn_r _ [21, 22, 23, 24, 20, 25, 26, 27, 28, 29, 14, 30, 31, 32, 33, 34, 35, 36, 37, 9, 6, 10, 38, 39, 40, 41, 42, 43, 44, 45, 46, 47, 48, 49, 50, 51, 52, 53, 54, 55, 56, 57, 58, 59, 60, 61, 62, 63, 64, 65, 66, 67, 68, 69, 70, 71, 72, 73, 74, 75, 76, 77, 78, 79, 80, 81, 82, 83, 84, 85, 86, 87, 106, 107, 99, 100, 101, 102, 103, 104, 105, 108, 109, 110, 111, 112, 113, 114, 115, 116, 117, 118, 119, 120, 121] (by decide +kernel) (by decide +kernel)
set_option maxRecDepth 20000 in
theorem gX8_viewAt_X7_fileAt : GoodIn wsX8_viewAt (wsV RX8 269 RX7 yX7_fileAt wsX7_fileAt) := goodIn_app (goodIn_of _ (by decide +kernel)) ggX8_viewAt_X7_fileAt
set_option maxRecDepth 20000 in
theorem ggX8_viewAt_X8_orNotFound : GoodIn wsX8_viewAt wsX8_orNotFound := goodIn_r _ [90] (by decide +kernel) (by decide +kernel)
set_option maxRecDepth 20000 in
theorem gX8_viewAt_X8_orNotFound : GoodIn wsX8_viewAt (va_wsS RX8 124 yX8_orNotFound wsX8_orNotFound) := goodIn_app (goodIn_of _ (by decide +kernel)) ggX8_viewAt_X8_orNotFound
theorem dX8_viewAt_0 : decode cX8_viewAt 0 = .ok (.aload_n 0, 1) := by decide +kernel
theorem dX8_viewAt_1 : decode cX8_viewAt 1 = .ok (.iload_n 1, 1) := by decide +kernel
theorem dX8_viewAt_2 : decode cX8_viewAt 2 = .ok (.invokevirtual 241, 3) := by decide +kernel
theorem dX8_viewAt_5 : decode cX8_viewAt 5 = .ok (.ifCond .eq 7, 3) := by decide +kernel
theorem dX8_viewAt_8 : decode cX8_viewAt 8 = .ok (.iload_n 2, 1) := by decide +kernel
theorem dX8_viewAt_9 : decode cX8_viewAt 9 = .ok (.ifCond .ge 5, 3) := by decide +kernel
theorem dX8_viewAt_12 : decode cX8_viewAt 12 = .ok (.iconst (-1), 1) := by decide +kernel
theorem dX8_viewAt_13 : decode cX8_viewAt 13 = .ok (.ireturn, 1) := by decide +kernel
theorem dX8_viewAt_14 : decode cX8_viewAt 14 = .ok (.aload_n 0, 1) := by decide +kernel
theorem dX8_viewAt_15 : decode cX8_viewAt 15 = .ok (.getfield 60, 3) := by decide +kernel
theorem dX8_viewAt_18 : decode cX8_viewAt 18 = .ok (.aload_n 0, 1) := by decide +kernel
theorem dX8_viewAt_19 : decode cX8_viewAt 19 = .ok (.getfield 41, 3) := by decide +kernel
theorem dX8_viewAt_22 : decode cX8_viewAt 22 = .ok (.iload_n 1, 1) := by decide +kernel
theorem dX8_viewAt_23 : decode cX8_viewAt 23 = .ok (.aaload, 1) := by decide +kernel
theorem dX8_viewAt_24 : decode cX8_viewAt 24 = .ok (.iload_n 2, 1) := by decide +kernel
theorem dX8_viewAt_25 : decode cX8_viewAt 25 = .ok (.invokevirtual 269, 3) := by decide +kernel
theorem dX8_viewAt_28 : decode cX8_viewAt 28 = .ok (.invokestatic 124, 3) := by decide +kernel
theorem dX8_viewAt_31 : decode cX8_viewAt 31 = .ok (.ireturn, 1) := by decide +kernel
set_option maxRecDepth 20000 in
theorem ggX8_journalSize_X3_length : GoodIn wsX8_journalSize wsX3_length := goodIn_r _ [6, 7, 16, 17, 18, 19, 20] (by decide +kernel) (by decide +kernel)
set_option maxRecDepth 20000 in
theorem gX8_journalSize_X3_length : GoodIn wsX8_journalSize (wsV RX8 272 RX3 yX3_length wsX3_length) := goodIn_app (goodIn_of _ (by decide +kernel)) ggX8_journalSize_X3_length
theorem dX8_journalSize_0 : decode cX8_journalSize 0 = .ok (.aload_n 0, 1) := by decide +kernel
theorem dX8_journalSize_1 : decode cX8_journalSize 1 = .ok (.getfield 67, 3) := by decide +kernel
theorem dX8_journalSize_4 : decode cX8_journalSize 4 = .ok (.invokevirtual 272, 3) := by decide +kernel
theorem dX8_journalSize_7 : decode cX8_journalSize 7 = .ok (.ireturn, 1) := by decide +kernel
set_option maxRecDepth 20000 in
theorem ggX8_turnover_X8_hasAlbum : GoodIn wsX8_turnover wsX8_hasAlbum := goodIn_r _ [6, 1, 7, 8, 5, 9, 10, 11, 12, 13, 14, 15, 26, 27, 28, 29, 30, 31, 32, 33, 34, 35, 36, 37, 38, 39, 40] (by decide +kernel) (by decide +kernel)
set_option maxRecDepth 20000 in
theorem gX8_turnover_X8_hasAlbum : GoodIn wsX8_turnover (wsV RX8 241 RX8 yX8_hasAlbum wsX8_hasAlbum) := goodIn_app (goodIn_of _ (by decide +kernel)) ggX8_turnover_X8_hasAlbum
set_option maxRecDepth 20000 in
theorem ggX8_turnover_X8_isWithin : GoodIn wsX8_turnover wsX8_isWithin := goodIn_r _ [9] (by decide +kernel) (by decide +kernel)
set_option maxRecDepth 20000 in
theorem gX8_turnover_X8_isWithin : GoodIn wsX8_turnover (va_wsS RX8 71 yX8_isWithin wsX8_isWithin) := goodIn_app (goodIn_of _ (by decide +kernel)) ggX8_turnover_X8_isWithin
set_option maxRecDepth 20000 in
theorem ggX8_turnover_X0_joined : GoodIn wsX8_turnover wsX0_joined := goodIn_r _ [19, 20, 34, 35, 36, 37, 38, 39, 40] (by decide +kernel) (by decide +kernel)
set_option maxRecDepth 20000 in
theorem gX8_turnover_X0_joined : GoodIn wsX8_turnover (wsV RX8 282 RX0 yX0_joined wsX0_joined) := goodIn_app (goodIn_of _ (by decide +kernel)) ggX8_turnover_X0_joined
set_option maxRecDepth 20000 in
theorem ggX8_turnover_X0_left : GoodIn wsX8_turnover wsX0_left := goodIn_r _ [24, 25, 34, 35, 36, 37, 38, 39, 40] (by decide +kernel) (by decide +kernel)
set_option maxRecDepth 20000 in
theorem gX8_turnover_X0_left : GoodIn wsX8_turnover (wsV RX8 285 RX0 yX0_left wsX0_left) := goodIn_app (goodIn_of _ (by decide +kernel)) ggX8_turnover_X0_left
theorem dX8_turnover_0 : decode cX8_turnover 0 = .ok (.aload_n 0, 1) := by decide +kernel
theorem dX8_turnover_1 : decode cX8_turnover 1 = .ok (.iload_n 1, 1) := by decide +kernel
theorem dX8_turnover_2 : decode cX8_turnover 2 = .ok (.invokevirtual 241, 3) := by decide +kernel
theorem dX8_turnover_5 : decode cX8_turnover 5 = .ok (.ifCond .eq 12, 3) := by decide +kernel
theorem dX8_turnover_8 : decode cX8_turnover 8 = .ok (.iload_n 2, 1) := by decide +kernel
theorem dX8_turnover_9 : decode cX8_turnover 9 = .ok (.iconst 0, 1) := by decide +kernel
theorem dX8_turnover_10 : decode cX8_turnover 10 = .ok (.iconst 1, 1) := by decide +kernel
theorem dX8_turnover_11 : decode cX8_turnover 11 = .ok (.invokestatic 71, 3) := by decide +kernel
theorem dX8_turnover_14 : decode cX8_turnover 14 = .ok (.ifCond .ne 5, 3) := by decide +kernel
theorem dX8_turnover_17 : decode cX8_turnover 17 = .ok (.iconst (-1), 1) := by decide +kernel
theorem dX8_turnover_18 : decode cX8_turnover 18 = .ok (.ireturn, 1) := by decide +kernel
theorem dX8_turnover_19 : decode cX8_turnover 19 = .ok (.iload_n 2, 1) := by decide +kernel
theorem dX8_turnover_20 : decode cX8_turnover 20 = .ok (.iconst 1, 1) := by decide +kernel
theorem dX8_turnover_21 : decode cX8_turnover 21 = .ok (.if_icmp .ne 15, 3) := by decide +kernel
theorem dX8_turnover_24 : decode cX8_turnover 24 = .ok (.aload_n 0, 1) := by decide +kernel
theorem dX8_turnover_25 : decode cX8_turnover 25 = .ok (.getfield 41, 3) := by decide +kernel
theorem dX8_turnover_28 : decode cX8_turnover 28 = .ok (.iload_n 1, 1) := by decide +kernel
theorem dX8_turnover_29 : decode cX8_turnover 29 = .ok (.aaload, 1) := by decide +kernel
theorem dX8_turnover_30 : decode cX8_turnover 30 = .ok (.invokevirtual 282, 3) := by decide +kernel
theorem dX8_turnover_33 : decode cX8_turnover 33 = .ok (.goto 12, 3) := by decide +kernel
theorem dX8_turnover_36 : decode cX8_turnover 36 = .ok (.aload_n 0, 1) := by decide +kernel
theorem dX8_turnover_37 : decode cX8_turnover 37 = .ok (.getfield 41, 3) := by decide +kernel
theorem dX8_turnover_40 : decode cX8_turnover 40 = .ok (.iload_n 1, 1) := by decide +kernel
theorem dX8_turnover_41 : decode cX8_turnover 41 = .ok (.aaload, 1) := by decide +kernel
theorem dX8_turnover_42 : decode cX8_turnover 42 = .ok (.invokevirtual 285, 3) := by decide +kernel
theorem dX8_turnover_45 : decode cX8_turnover 45 = .ok (.ireturn, 1) := by decide +kernel
set_option maxRecDepth 20000 in
theorem ggX8_count_X6_howMany : GoodIn wsX8_count wsX6_howMany := goodIn_r _ [8, 9, 10, 11, 7, 12, 13, 14, 15, 16, 77, 78, 79, 80, 81, 82, 83, 84] (by decide +kernel) (by decide +kernel)
set_option maxRecDepth 20000 in
theorem gX8_count_X6_howMany : GoodIn wsX8_count (wsV RX8 288 RX6 yX6_howMany wsX6_howMany) := goodIn_app (goodIn_of _ (by decide +kernel)) ggX8_count_X6_howMany
set_option maxRecDepth 20000 in
theorem ggX8_count_X8_albumCount : GoodIn wsX8_count wsX8_albumCount := goodIn_r _ [20, 21, 22, 23, 15, 24, 25, 26, 14, 16, 27, 28, 29, 30, 31, 32, 69, 70, 71, 72, 73, 74, 75, 76, 85, 86, 87, 88, 89, 90, 91] (by decide +kernel) (by decide +kernel)
set_option maxRecDepth 20000 in
theorem gX8_count_X8_albumCount : GoodIn wsX8_count (wsV RX8 250 RX8 yX8_albumCount wsX8_albumCount) := goodIn_app (goodIn_of _ (by decide +kernel)) ggX8_count_X8_albumCount
set_option maxRecDepth 20000 in
theorem ggX8_count_X2_keepers : GoodIn wsX8_count wsX2_keepers := goodIn_r _ [37, 38, 92, 93, 94] (by decide +kernel) (by decide +kernel)
set_option maxRecDepth 20000 in
theorem gX8_count_X2_keepers : GoodIn wsX8_count (wsV RX8 163 RX2 yX2_keepers wsX2_keepers) := goodIn_app (goodIn_of _ (by decide +kernel)) ggX8_count_X2_keepers
set_option maxRecDepth 20000 in
theorem ggX8_count_X2_duplicates : GoodIn wsX8_count wsX2_duplicates := goodIn_r _ [42, 43, 92, 93, 94] (by decide +kernel) (by decide +kernel)
set_option maxRecDepth 20000 in
theorem gX8_count_X2_duplicates : GoodIn wsX8_count (wsV RX8 289 RX2 yX2_duplicates wsX2_duplicates) := goodIn_app (goodIn_of _ (by decide +kernel)) ggX8_count_X2_duplicates
set_option maxRecDepth 20000 in
theorem ggX8_count_J13_bitCount_95d88 : GoodIn wsX8_count wsJ13_bitCount_95d88 := goodIn_r _ [47, 48, 49, 50] (by decide +kernel) (by decide +kernel)
set_option maxRecDepth 20000 in
theorem gX8_count_J13_bitCount_95d88 : GoodIn wsX8_count (va_wsS RX8 153 yJ13_bitCount_95d88 wsJ13_bitCount_95d88) := goodIn_app (goodIn_of _ (by decide +kernel)) ggX8_count_J13_bitCount_95d88
set_option maxRecDepth 20000 in
theorem ggX8_count_X6_stacked : GoodIn wsX8_count wsX6_stacked := goodIn_r _ [54, 55, 77, 78, 79, 80, 81, 82, 83, 84] (by decide +kernel) (by decide +kernel)
set_option maxRecDepth 20000 in
theorem gX8_count_X6_stacked : GoodIn wsX8_count (wsV RX8 292 RX6 yX6_stacked wsX6_stacked) := goodIn_app (goodIn_of _ (by decide +kernel)) ggX8_count_X6_stacked
set_option maxRecDepth 20000 in
theorem ggX8_count_X1_all : GoodIn wsX8_count wsX1_all := goodIn_r _ [60, 61, 95, 96, 97, 98, 99, 100] (by decide +kernel) (by decide +kernel)
set_option maxRecDepth 20000 in
theorem gX8_count_X1_all : GoodIn wsX8_count (wsV RX8 159 RX1 yX1_all wsX1_all) := goodIn_app (goodIn_of _ (by decide +kernel)) ggX8_count_X1_all
set_option maxRecDepth 20000 in
theorem ggX8_count_X1_sumOfSizes : GoodIn wsX8_count wsX1_sumOfSizes := goodIn_r _ [65, 66, 67, 15, 68, 95, 96, 97, 98, 99, 100] (by decide +kernel) (by decide +kernel)
set_option maxRecDepth 20000 in
theorem gX8_count_X1_sumOfSizes : GoodIn wsX8_count (wsV RX8 168 RX1 yX1_sumOfSizes wsX1_sumOfSizes) := goodIn_app (goodIn_of _ (by decide +kernel)) ggX8_count_X1_sumOfSizes
theorem dX8_count_0 : decode cX8_count 0 = .ok (.iload_n 1, 1) := by decide +kernel
theorem dX8_count_1 : decode cX8_count 1 = .ok (.tableswitch 93 0 4 #[35, 43, 48, 67, 78], 35) := by decide +kernel
theorem dX8_count_36 : decode cX8_count 36 = .ok (.aload_n 0, 1) := by decide +kernel
theorem dX8_count_37 : decode cX8_count 37 = .ok (.getfield 28, 3) := by decide +kernel
theorem dX8_count_40 : decode cX8_count 40 = .ok (.invokevirtual 288, 3) := by decide +kernel
theorem dX8_count_43 : decode cX8_count 43 = .ok (.ireturn, 1) := by decide +kernel
theorem dX8_count_44 : decode cX8_count 44 = .ok (.aload_n 0, 1) := by decide +kernel
theorem dX8_count_45 : decode cX8_count 45 = .ok (.invokevirtual 250, 3) := by decide +kernel
theorem dX8_count_48 : decode cX8_count 48 = .ok (.ireturn, 1) := by decide +kernel
theorem dX8_count_49 : decode cX8_count 49 = .ok (.aload_n 0, 1) := by decide +kernel
theorem dX8_count_50 : decode cX8_count 50 = .ok (.getfield 21, 3) := by decide +kernel
theorem dX8_count_53 : decode cX8_count 53 = .ok (.invokevirtual 163, 3) := by decide +kernel
theorem dX8_count_56 : decode cX8_count 56 = .ok (.aload_n 0, 1) := by decide +kernel
theorem dX8_count_57 : decode cX8_count 57 = .ok (.getfield 21, 3) := by decide +kernel
theorem dX8_count_60 : decode cX8_count 60 = .ok (.invokevirtual 289, 3) := by decide +kernel
theorem dX8_count_63 : decode cX8_count 63 = .ok (.land, 1) := by decide +kernel
theorem dX8_count_64 : decode cX8_count 64 = .ok (.invokestatic 153, 3) := by decide +kernel
theorem dX8_count_67 : decode cX8_count 67 = .ok (.ireturn, 1) := by decide +kernel
theorem dX8_count_68 : decode cX8_count 68 = .ok (.aload_n 0, 1) := by decide +kernel
theorem dX8_count_69 : decode cX8_count 69 = .ok (.getfield 28, 3) := by decide +kernel
theorem dX8_count_72 : decode cX8_count 72 = .ok (.invokevirtual 292, 3) := by decide +kernel
theorem dX8_count_75 : decode cX8_count 75 = .ok (.invokestatic 153, 3) := by decide +kernel
theorem dX8_count_78 : decode cX8_count 78 = .ok (.ireturn, 1) := by decide +kernel
theorem dX8_count_79 : decode cX8_count 79 = .ok (.aload_n 0, 1) := by decide +kernel
theorem dX8_count_80 : decode cX8_count 80 = .ok (.getfield 10, 3) := by decide +kernel
theorem dX8_count_83 : decode cX8_count 83 = .ok (.aload_n 0, 1) := by decide +kernel
theorem dX8_count_84 : decode cX8_count 84 = .ok (.getfield 10, 3) := by decide +kernel
theorem dX8_count_87 : decode cX8_count 87 = .ok (.invokevirtual 159, 3) := by decide +kernel
theorem dX8_count_90 : decode cX8_count 90 = .ok (.invokevirtual 168, 3) := by decide +kernel
theorem dX8_count_93 : decode cX8_count 93 = .ok (.ireturn, 1) := by decide +kernel
theorem dX8_count_94 : decode cX8_count 94 = .ok (.iconst (-1), 1) := by decide +kernel
theorem dX8_count_95 : decode cX8_count 95 = .ok (.ireturn, 1) := by decide +kernel
theorem dX8_isWithin_0 : decode cX8_isWithin 0 = .ok (.iload_n 0, 1) := by decide +kernel
theorem dX8_isWithin_1 : decode cX8_isWithin 1 = .ok (.iload_n 1, 1) := by decide +kernel
theorem dX8_isWithin_2 : decode cX8_isWithin 2 = .ok (.if_icmp .lt 12, 3) := by decide +kernel
theorem dX8_isWithin_5 : decode cX8_isWithin 5 = .ok (.iload_n 0, 1) := by decide +kernel
theorem dX8_isWithin_6 : decode cX8_isWithin 6 = .ok (.iload_n 2, 1) := by decide +kernel
theorem dX8_isWithin_7 : decode cX8_isWithin 7 = .ok (.if_icmp .gt 7, 3) := by decide +kernel
theorem dX8_isWithin_10 : decode cX8_isWithin 10 = .ok (.iconst 1, 1) := by decide +kernel
theorem dX8_isWithin_11 : decode cX8_isWithin 11 = .ok (.goto 4, 3) := by decide +kernel
theorem dX8_isWithin_14 : decode cX8_isWithin 14 = .ok (.iconst 0, 1) := by decide +kernel
theorem dX8_isWithin_15 : decode cX8_isWithin 15 = .ok (.ireturn, 1) := by decide +kernel
set_option maxRecDepth 20000 in
theorem ggX8_isSource_X8_isWithin : GoodIn wsX8_isSource wsX8_isWithin := goodIn_r _ [4] (by decide +kernel) (by decide +kernel)
set_option maxRecDepth 20000 in
theorem gX8_isSource_X8_isWithin : GoodIn wsX8_isSource (va_wsS RX8 71 yX8_isWithin wsX8_isWithin) := goodIn_app (goodIn_of _ (by decide +kernel)) ggX8_isSource_X8_isWithin
theorem dX8_isSource_0 : decode cX8_isSource 0 = .ok (.iload_n 0, 1) := by decide +kernel
theorem dX8_isSource_1 : decode cX8_isSource 1 = .ok (.iconst 0, 1) := by decide +kernel
theorem dX8_isSource_2 : decode cX8_isSource 2 = .ok (.iconst 2, 1) := by decide +kernel
theorem dX8_isSource_3 : decode cX8_isSource 3 = .ok (.invokestatic 71, 3) := by decide +kernel
theorem dX8_isSource_6 : decode cX8_isSource 6 = .ok (.ireturn, 1) := by decide +kernel
theorem dX8_orNotFound_0 : decode cX8_orNotFound 0 = .ok (.iload_n 0, 1) := by decide +kernel
theorem dX8_orNotFound_1 : decode cX8_orNotFound 1 = .ok (.iconst (-1), 1) := by decide +kernel
theorem dX8_orNotFound_2 : decode cX8_orNotFound 2 = .ok (.if_icmp .ne 8, 3) := by decide +kernel
theorem dX8_orNotFound_5 : decode cX8_orNotFound 5 = .ok (.bipush (-4), 2) := by decide +kernel
theorem dX8_orNotFound_7 : decode cX8_orNotFound 7 = .ok (.goto 4, 3) := by decide +kernel
theorem dX8_orNotFound_10 : decode cX8_orNotFound 10 = .ok (.iload_n 0, 1) := by decide +kernel
theorem dX8_orNotFound_11 : decode cX8_orNotFound 11 = .ok (.ireturn, 1) := by decide +kernel
theorem dX8_holds_0 : decode cX8_holds 0 = .ok (.lload_n 0, 1) := by decide +kernel
theorem dX8_holds_1 : decode cX8_holds 1 = .ok (.iload_n 2, 1) := by decide +kernel
theorem dX8_holds_2 : decode cX8_holds 2 = .ok (.lushr, 1) := by decide +kernel
theorem dX8_holds_3 : decode cX8_holds 3 = .ok (.lconst 1, 1) := by decide +kernel
theorem dX8_holds_4 : decode cX8_holds 4 = .ok (.land, 1) := by decide +kernel
theorem dX8_holds_5 : decode cX8_holds 5 = .ok (.lconst 1, 1) := by decide +kernel
theorem dX8_holds_6 : decode cX8_holds 6 = .ok (.lcmp, 1) := by decide +kernel
theorem dX8_holds_7 : decode cX8_holds 7 = .ok (.ifCond .ne 7, 3) := by decide +kernel
theorem dX8_holds_10 : decode cX8_holds 10 = .ok (.iconst 1, 1) := by decide +kernel
theorem dX8_holds_11 : decode cX8_holds 11 = .ok (.goto 4, 3) := by decide +kernel
theorem dX8_holds_14 : decode cX8_holds 14 = .ok (.iconst 0, 1) := by decide +kernel
theorem dX8_holds_15 : decode cX8_holds 15 = .ok (.ireturn, 1) := by decide +kernel
theorem dX8_only_0 : decode cX8_only 0 = .ok (.lconst 1, 1) := by decide +kernel
theorem dX8_only_1 : decode cX8_only 1 = .ok (.iload_n 0, 1) := by decide +kernel
theorem dX8_only_2 : decode cX8_only 2 = .ok (.lshl, 1) := by decide +kernel
theorem dX8_only_3 : decode cX8_only 3 = .ok (.lreturn, 1) := by decide +kernel
set_option maxRecDepth 20000 in
theorem ggX8_isSlot_X1_has : GoodIn wsX8_isSlot wsX1_has := goodIn_r _ [6, 7, 8, 9, 10, 11, 12, 25, 26, 27, 28, 29, 30] (by decide +kernel) (by decide +kernel)
set_option maxRecDepth 20000 in
theorem gX8_isSlot_X1_has : GoodIn wsX8_isSlot (wsV RX8 87 RX1 yX1_has wsX1_has) := goodIn_app (goodIn_of _ (by decide +kernel)) ggX8_isSlot_X1_has
set_option maxRecDepth 20000 in
theorem ggX8_isSlot_X8_isSource : GoodIn wsX8_isSlot wsX8_isSource := goodIn_r _ [15, 16, 8, 9, 10] (by decide +kernel) (by decide +kernel)
set_option maxRecDepth 20000 in
theorem gX8_isSlot_X8_isSource : GoodIn wsX8_isSlot (va_wsS RX8 137 yX8_isSource wsX8_isSource) := goodIn_app (goodIn_of _ (by decide +kernel)) ggX8_isSlot_X8_isSource
set_option maxRecDepth 20000 in
theorem ggX8_isSlot_X8_isWithin : GoodIn wsX8_isSlot wsX8_isWithin := goodIn_r _ [10] (by decide +kernel) (by decide +kernel)
set_option maxRecDepth 20000 in
theorem gX8_isSlot_X8_isWithin : GoodIn wsX8_isSlot (va_wsS RX8 71 yX8_isWithin wsX8_isWithin) := goodIn_app (goodIn_of _ (by decide +kernel)) ggX8_isSlot_X8_isWithin
theorem dX8_isSlot_0 : decode cX8_isSlot 0 = .ok (.aload_n 0, 1) := by decide +kernel
theorem dX8_isSlot_1 : decode cX8_isSlot 1 = .ok (.getfield 10, 3) := by decide +kernel
theorem dX8_isSlot_4 : decode cX8_isSlot 4 = .ok (.iload_n 1, 1) := by decide +kernel
theorem dX8_isSlot_5 : decode cX8_isSlot 5 = .ok (.invokevirtual 87, 3) := by decide +kernel
theorem dX8_isSlot_8 : decode cX8_isSlot 8 = .ok (.ifCond .eq 23, 3) := by decide +kernel
theorem dX8_isSlot_11 : decode cX8_isSlot 11 = .ok (.iload_n 2, 1) := by decide +kernel
theorem dX8_isSlot_12 : decode cX8_isSlot 12 = .ok (.invokestatic 137, 3) := by decide +kernel
theorem dX8_isSlot_15 : decode cX8_isSlot 15 = .ok (.ifCond .eq 16, 3) := by decide +kernel
theorem dX8_isSlot_18 : decode cX8_isSlot 18 = .ok (.iload_n 3, 1) := by decide +kernel
theorem dX8_isSlot_19 : decode cX8_isSlot 19 = .ok (.iconst 0, 1) := by decide +kernel
theorem dX8_isSlot_20 : decode cX8_isSlot 20 = .ok (.iconst 5, 1) := by decide +kernel
theorem dX8_isSlot_21 : decode cX8_isSlot 21 = .ok (.invokestatic 71, 3) := by decide +kernel
theorem dX8_isSlot_24 : decode cX8_isSlot 24 = .ok (.ifCond .eq 7, 3) := by decide +kernel
theorem dX8_isSlot_27 : decode cX8_isSlot 27 = .ok (.iconst 1, 1) := by decide +kernel
theorem dX8_isSlot_28 : decode cX8_isSlot 28 = .ok (.goto 4, 3) := by decide +kernel
theorem dX8_isSlot_31 : decode cX8_isSlot 31 = .ok (.iconst 0, 1) := by decide +kernel
theorem dX8_isSlot_32 : decode cX8_isSlot 32 = .ok (.ireturn, 1) := by decide +kernel
set_option maxRecDepth 20000 in
theorem ggX8_discard_X6_release : GoodIn wsX8_discard wsX6_release := goodIn_r _ [7, 8, 9, 10, 11, 12, 13, 14, 6, 15, 16, 17, 18, 19, 20, 21, 22, 23, 24, 25, 26, 27, 43, 44, 45, 46, 47, 48, 49, 50] (by decide +kernel) (by decide +kernel)
set_option maxRecDepth 20000 in
theorem gX8_discard_X6_release : GoodIn wsX8_discard (wsV RX8 196 RX6 yX6_release wsX6_release) := goodIn_app (goodIn_of _ (by decide +kernel)) ggX8_discard_X6_release
set_option maxRecDepth 20000 in
theorem ggX8_discard_X1_drop : GoodIn wsX8_discard wsX1_drop := goodIn_r _ [32, 33, 34, 25, 26, 27, 51, 52, 53, 54, 55, 56] (by decide +kernel) (by decide +kernel)
set_option maxRecDepth 20000 in
theorem gX8_discard_X1_drop : GoodIn wsX8_discard (wsV RX8 295 RX1 yX1_drop wsX1_drop) := goodIn_app (goodIn_of _ (by decide +kernel)) ggX8_discard_X1_drop
theorem dX8_discard_0 : decode cX8_discard 0 = .ok (.aload_n 0, 1) := by decide +kernel
theorem dX8_discard_1 : decode cX8_discard 1 = .ok (.getfield 28, 3) := by decide +kernel
theorem dX8_discard_4 : decode cX8_discard 4 = .ok (.iload_n 1, 1) := by decide +kernel
theorem dX8_discard_5 : decode cX8_discard 5 = .ok (.invokevirtual 196, 3) := by decide +kernel
theorem dX8_discard_8 : decode cX8_discard 8 = .ok (.aload_n 0, 1) := by decide +kernel
theorem dX8_discard_9 : decode cX8_discard 9 = .ok (.getfield 10, 3) := by decide +kernel
theorem dX8_discard_12 : decode cX8_discard 12 = .ok (.iload_n 1, 1) := by decide +kernel
theorem dX8_discard_13 : decode cX8_discard 13 = .ok (.invokevirtual 295, 3) := by decide +kernel
theorem dX8_discard_16 : decode cX8_discard 16 = .ok (.return_, 1) := by decide +kernel
set_option maxRecDepth 20000 in
theorem ggX8_hasAlbum_X8_isWithin : GoodIn wsX8_hasAlbum wsX8_isWithin := goodIn_r _ [5] (by decide +kernel) (by decide +kernel)
set_option maxRecDepth 20000 in
theorem gX8_hasAlbum_X8_isWithin : GoodIn wsX8_hasAlbum (va_wsS RX8 71 yX8_isWithin wsX8_isWithin) := goodIn_app (goodIn_of _ (by decide +kernel)) ggX8_hasAlbum_X8_isWithin
set_option maxRecDepth 20000 in
theorem ggX8_hasAlbum_X0_exists : GoodIn wsX8_hasAlbum wsX0_exists := goodIn_r _ [10, 11, 20, 21, 22, 23, 24, 25, 26] (by decide +kernel) (by decide +kernel)
set_option maxRecDepth 20000 in
theorem gX8_hasAlbum_X0_exists : GoodIn wsX8_hasAlbum (wsV RX8 298 RX0 yX0_exists wsX0_exists) := goodIn_app (goodIn_of _ (by decide +kernel)) ggX8_hasAlbum_X0_exists
theorem dX8_hasAlbum_0 : decode cX8_hasAlbum 0 = .ok (.iload_n 1, 1) := by decide +kernel
theorem dX8_hasAlbum_1 : decode cX8_hasAlbum 1 = .ok (.iconst 0, 1) := by decide +kernel
theorem dX8_hasAlbum_2 : decode cX8_hasAlbum 2 = .ok (.bipush 7, 2) := by decide +kernel
theorem dX8_hasAlbum_4 : decode cX8_hasAlbum 4 = .ok (.invokestatic 71, 3) := by decide +kernel
theorem dX8_hasAlbum_7 : decode cX8_hasAlbum 7 = .ok (.ifCond .eq 19, 3) := by decide +kernel
theorem dX8_hasAlbum_10 : decode cX8_hasAlbum 10 = .ok (.aload_n 0, 1) := by decide +kernel
theorem dX8_hasAlbum_11 : decode cX8_hasAlbum 11 = .ok (.getfield 41, 3) := by decide +kernel
theorem dX8_hasAlbum_14 : decode cX8_hasAlbum 14 = .ok (.iload_n 1, 1) := by decide +kernel
theorem dX8_hasAlbum_15 : decode cX8_hasAlbum 15 = .ok (.aaload, 1) := by decide +kernel
theorem dX8_hasAlbum_16 : decode cX8_hasAlbum 16 = .ok (.invokevirtual 298, 3) := by decide +kernel
theorem dX8_hasAlbum_19 : decode cX8_hasAlbum 19 = .ok (.ifCond .eq 7, 3) := by decide +kernel
theorem dX8_hasAlbum_22 : decode cX8_hasAlbum 22 = .ok (.iconst 1, 1) := by decide +kernel
theorem dX8_hasAlbum_23 : decode cX8_hasAlbum 23 = .ok (.goto 4, 3) := by decide +kernel
theorem dX8_hasAlbum_26 : decode cX8_hasAlbum 26 = .ok (.iconst 0, 1) := by decide +kernel
theorem dX8_hasAlbum_27 : decode cX8_hasAlbum 27 = .ok (.ireturn, 1) := by decide +kernel
set_option maxRecDepth 20000 in
theorem ggX8_albumCount_X8_hasAlbum : GoodIn wsX8_albumCount wsX8_hasAlbum := goodIn_r _ [5, 6, 7, 8, 4, 9, 10, 11, 12, 13, 14, 15, 16, 17, 18, 19, 20, 21, 22, 23, 24, 25, 26, 27, 28, 29, 30] (by decide +kernel) (by decide +kernel)
set_option maxRecDepth 20000 in
theorem gX8_albumCount_X8_hasAlbum : GoodIn wsX8_albumCount (wsV RX8 241 RX8 yX8_hasAlbum wsX8_hasAlbum) := goodIn_app (goodIn_of _ (by decide +kernel)) ggX8_albumCount_X8_hasAlbum
theorem dX8_albumCount_0 : decode cX8_albumCount 0 = .ok (.iconst 0, 1) := by decide +kernel
theorem dX8_albumCount_1 : decode cX8_albumCount 1 = .ok (.istore_n 1, 1) := by decide +kernel
theorem dX8_albumCount_2 : decode cX8_albumCount 2 = .ok (.iconst 0, 1) := by decide +kernel
theorem dX8_albumCount_3 : decode cX8_albumCount 3 = .ok (.istore_n 2, 1) := by decide +kernel
theorem dX8_albumCount_4 : decode cX8_albumCount 4 = .ok (.iload_n 2, 1) := by decide +kernel
theorem dX8_albumCount_5 : decode cX8_albumCount 5 = .ok (.bipush 8, 2) := by decide +kernel
theorem dX8_albumCount_7 : decode cX8_albumCount 7 = .ok (.if_icmp .ge 20, 3) := by decide +kernel
theorem dX8_albumCount_10 : decode cX8_albumCount 10 = .ok (.aload_n 0, 1) := by decide +kernel
theorem dX8_albumCount_11 : decode cX8_albumCount 11 = .ok (.iload_n 2, 1) := by decide +kernel
theorem dX8_albumCount_12 : decode cX8_albumCount 12 = .ok (.invokevirtual 241, 3) := by decide +kernel
theorem dX8_albumCount_15 : decode cX8_albumCount 15 = .ok (.ifCond .eq 6, 3) := by decide +kernel
theorem dX8_albumCount_18 : decode cX8_albumCount 18 = .ok (.iinc 1 1, 3) := by decide +kernel
theorem dX8_albumCount_21 : decode cX8_albumCount 21 = .ok (.iinc 2 1, 3) := by decide +kernel
theorem dX8_albumCount_24 : decode cX8_albumCount 24 = .ok (.goto (-20), 3) := by decide +kernel
theorem dX8_albumCount_27 : decode cX8_albumCount 27 = .ok (.iload_n 1, 1) := by decide +kernel
theorem dX8_albumCount_28 : decode cX8_albumCount 28 = .ok (.ireturn, 1) := by decide +kernel
set_option maxRecDepth 20000 in
theorem ggX8_freeAlbum_X8_hasAlbum : GoodIn wsX8_freeAlbum wsX8_hasAlbum := goodIn_r _ [5, 6, 7, 8, 4, 9, 10, 11, 12, 13, 14, 15, 16, 17, 18, 19, 20, 21, 22, 23, 24, 25, 26, 27, 28, 29, 30] (by decide +kernel) (by decide +kernel)
set_option maxRecDepth 20000 in
theorem gX8_freeAlbum_X8_hasAlbum : GoodIn wsX8_freeAlbum (wsV RX8 241 RX8 yX8_hasAlbum wsX8_hasAlbum) := goodIn_app (goodIn_of _ (by decide +kernel)) ggX8_freeAlbum_X8_hasAlbum
theorem dX8_freeAlbum_0 : decode cX8_freeAlbum 0 = .ok (.iconst 0, 1) := by decide +kernel
theorem dX8_freeAlbum_1 : decode cX8_freeAlbum 1 = .ok (.istore_n 1, 1) := by decide +kernel
theorem dX8_freeAlbum_2 : decode cX8_freeAlbum 2 = .ok (.iload_n 1, 1) := by decide +kernel
theorem dX8_freeAlbum_3 : decode cX8_freeAlbum 3 = .ok (.bipush 8, 2) := by decide +kernel
theorem dX8_freeAlbum_5 : decode cX8_freeAlbum 5 = .ok (.if_icmp .ge 17, 3) := by decide +kernel
theorem dX8_freeAlbum_8 : decode cX8_freeAlbum 8 = .ok (.aload_n 0, 1) := by decide +kernel
theorem dX8_freeAlbum_9 : decode cX8_freeAlbum 9 = .ok (.iload_n 1, 1) := by decide +kernel
theorem dX8_freeAlbum_10 : decode cX8_freeAlbum 10 = .ok (.invokevirtual 241, 3) := by decide +kernel
theorem dX8_freeAlbum_13 : decode cX8_freeAlbum 13 = .ok (.ifCond .eq 9, 3) := by decide +kernel
theorem dX8_freeAlbum_16 : decode cX8_freeAlbum 16 = .ok (.iinc 1 1, 3) := by decide +kernel
theorem dX8_freeAlbum_19 : decode cX8_freeAlbum 19 = .ok (.goto (-17), 3) := by decide +kernel
theorem dX8_freeAlbum_22 : decode cX8_freeAlbum 22 = .ok (.iload_n 1, 1) := by decide +kernel
theorem dX8_freeAlbum_23 : decode cX8_freeAlbum 23 = .ok (.ireturn, 1) := by decide +kernel
set_option maxRecDepth 20000 in
theorem ggX8_isTextUsable_X5_firstFault : GoodIn wsX8_isTextUsable wsX5_firstFault := goodIn_r _ [6, 7, 8, 9, 10, 5, 11, 12, 13, 14, 15, 16, 17, 18, 19, 20, 21, 22, 23, 24, 25, 26, 27, 28, 29, 61, 62] (by decide +kernel) (by decide +kernel)
set_option maxRecDepth 20000 in
theorem gX8_isTextUsable_X5_firstFault : GoodIn wsX8_isTextUsable (wsV RX8 225 RX5 yX5_firstFault wsX5_firstFault) := goodIn_app (goodIn_of _ (by decide +kernel)) ggX8_isTextUsable_X5_firstFault
set_option maxRecDepth 20000 in
theorem ggX8_isTextUsable_X5_names : GoodIn wsX8_isTextUsable wsX5_names := goodIn_r _ [33, 7, 34, 35, 36, 5, 37, 8, 61, 62] (by decide +kernel) (by decide +kernel)
set_option maxRecDepth 20000 in
theorem gX8_isTextUsable_X5_names : GoodIn wsX8_isTextUsable (wsV RX8 305 RX5 yX5_names wsX5_names) := goodIn_app (goodIn_of _ (by decide +kernel)) ggX8_isTextUsable_X5_names
set_option maxRecDepth 20000 in
theorem ggX8_isTextUsable_X8_hasAlbum : GoodIn wsX8_isTextUsable wsX8_hasAlbum := goodIn_r _ [42, 43, 44, 45, 41, 46, 47, 48, 49, 50, 51, 52, 53, 54, 55, 56, 57, 58, 59, 60, 63, 64, 65, 66, 67, 68, 69] (by decide +kernel) (by decide +kernel)
set_option maxRecDepth 20000 in
theorem gX8_isTextUsable_X8_hasAlbum : GoodIn wsX8_isTextUsable (wsV RX8 241 RX8 yX8_hasAlbum wsX8_hasAlbum) := goodIn_app (goodIn_of _ (by decide +kernel)) ggX8_isTextUsable_X8_hasAlbum
theorem dX8_isTextUsable_0 : decode cX8_isTextUsable 0 = .ok (.aload_n 0, 1) := by decide +kernel
theorem dX8_isTextUsable_1 : decode cX8_isTextUsable 1 = .ok (.getfield 35, 3) := by decide +kernel
theorem dX8_isTextUsable_4 : decode cX8_isTextUsable 4 = .ok (.invokevirtual 225, 3) := by decide +kernel
theorem dX8_isTextUsable_7 : decode cX8_isTextUsable 7 = .ok (.iconst (-1), 1) := by decide +kernel
theorem dX8_isTextUsable_8 : decode cX8_isTextUsable 8 = .ok (.if_icmp .eq 5, 3) := by decide +kernel
theorem dX8_isTextUsable_11 : decode cX8_isTextUsable 11 = .ok (.iconst 0, 1) := by decide +kernel
theorem dX8_isTextUsable_12 : decode cX8_isTextUsable 12 = .ok (.ireturn, 1) := by decide +kernel
theorem dX8_isTextUsable_13 : decode cX8_isTextUsable 13 = .ok (.iconst 0, 1) := by decide +kernel
theorem dX8_isTextUsable_14 : decode cX8_isTextUsable 14 = .ok (.istore_n 2, 1) := by decide +kernel
theorem dX8_isTextUsable_15 : decode cX8_isTextUsable 15 = .ok (.iload_n 2, 1) := by decide +kernel
theorem dX8_isTextUsable_16 : decode cX8_isTextUsable 16 = .ok (.bipush 9, 2) := by decide +kernel
theorem dX8_isTextUsable_18 : decode cX8_isTextUsable 18 = .ok (.if_icmp .gt 35, 3) := by decide +kernel
theorem dX8_isTextUsable_21 : decode cX8_isTextUsable 21 = .ok (.aload_n 0, 1) := by decide +kernel
theorem dX8_isTextUsable_22 : decode cX8_isTextUsable 22 = .ok (.getfield 35, 3) := by decide +kernel
theorem dX8_isTextUsable_25 : decode cX8_isTextUsable 25 = .ok (.iload_n 2, 1) := by decide +kernel
theorem dX8_isTextUsable_26 : decode cX8_isTextUsable 26 = .ok (.invokevirtual 305, 3) := by decide +kernel
theorem dX8_isTextUsable_29 : decode cX8_isTextUsable 29 = .ok (.ifCond .eq 18, 3) := by decide +kernel
theorem dX8_isTextUsable_32 : decode cX8_isTextUsable 32 = .ok (.iload_n 2, 1) := by decide +kernel
theorem dX8_isTextUsable_33 : decode cX8_isTextUsable 33 = .ok (.iload_n 1, 1) := by decide +kernel
theorem dX8_isTextUsable_34 : decode cX8_isTextUsable 34 = .ok (.if_icmp .ge 11, 3) := by decide +kernel
theorem dX8_isTextUsable_37 : decode cX8_isTextUsable 37 = .ok (.aload_n 0, 1) := by decide +kernel
theorem dX8_isTextUsable_38 : decode cX8_isTextUsable 38 = .ok (.iload_n 2, 1) := by decide +kernel
theorem dX8_isTextUsable_39 : decode cX8_isTextUsable 39 = .ok (.invokevirtual 241, 3) := by decide +kernel
theorem dX8_isTextUsable_42 : decode cX8_isTextUsable 42 = .ok (.ifCond .ne 5, 3) := by decide +kernel
theorem dX8_isTextUsable_45 : decode cX8_isTextUsable 45 = .ok (.iconst 0, 1) := by decide +kernel
theorem dX8_isTextUsable_46 : decode cX8_isTextUsable 46 = .ok (.ireturn, 1) := by decide +kernel
theorem dX8_isTextUsable_47 : decode cX8_isTextUsable 47 = .ok (.iinc 2 1, 3) := by decide +kernel
theorem dX8_isTextUsable_50 : decode cX8_isTextUsable 50 = .ok (.goto (-35), 3) := by decide +kernel
theorem dX8_isTextUsable_53 : decode cX8_isTextUsable 53 = .ok (.iconst 1, 1) := by decide +kernel
theorem dX8_isTextUsable_54 : decode cX8_isTextUsable 54 = .ok (.ireturn, 1) := by decide +kernel
set_option maxRecDepth 20000 in
theorem ggX8_settle_X1_settleValues : GoodIn wsX8_settle wsX1_settleValues := goodIn_r _ [11, 12, 13, 14, 15, 16, 17, 18, 10, 19, 20, 21, 22, 23, 24, 25, 26, 27, 28, 29, 30, 31, 32, 33, 34, 35, 36, 37, 247, 248, 249, 250, 251, 252] (by decide +kernel) (by decide +kernel)
set_option maxRecDepth 20000 in
theorem gX8_settle_X1_settleValues : GoodIn wsX8_settle (wsV RX8 306 RX1 yX1_settleValues wsX1_settleValues) := goodIn_app (goodIn_of _ (by decide +kernel)) ggX8_settle_X1_settleValues
set_option maxRecDepth 20000 in
theorem ggX8_settle_X2_regroup : GoodIn wsX8_settle wsX2_regroup := goodIn_r _ [42, 43, 44, 45, 46, 47, 48, 49, 10, 50, 12, 13, 14, 15, 51, 52, 53, 54, 55, 56, 57, 58, 59, 60, 41, 61, 62, 63, 64, 65, 66, 67, 68, 69, 20, 70, 71, 72, 73, 74, 75, 76, 77, 78, 79, 80, 253, 254, 255, 247, 248, 249, 250, 251, 252] (by decide +kernel) (by decide +kernel)
set_option maxRecDepth 20000 in
theorem gX8_settle_X2_regroup : GoodIn wsX8_settle (wsV RX8 309 RX2 yX2_regroup wsX2_regroup) := goodIn_app (goodIn_of _ (by decide +kernel)) ggX8_settle_X2_regroup
set_option maxRecDepth 20000 in
theorem ggX8_settle_X6_findCovers : GoodIn wsX8_settle wsX6_findCovers := goodIn_r _ [85, 86, 87, 88, 89, 84, 90, 91, 92, 14, 93, 94, 95, 96, 97, 98, 99, 100, 101, 102, 103, 104, 67, 68, 10, 69, 20, 56, 57, 256, 257, 258, 259, 260, 261, 262, 263, 247, 248, 249, 250, 251, 252] (by decide +kernel) (by decide +kernel)
set_option maxRecDepth 20000 in
theorem gX8_settle_X6_findCovers : GoodIn wsX8_settle (wsV RX8 312 RX6 yX6_findCovers wsX6_findCovers) := goodIn_app (goodIn_of _ (by decide +kernel)) ggX8_settle_X6_findCovers
set_option maxRecDepth 20000 in
theorem ggX8_settle_X8_hasAlbum : GoodIn wsX8_settle wsX8_hasAlbum := goodIn_r _ [108, 5, 109, 92, 14, 93, 110, 111, 112, 113, 114, 115, 239, 240, 241, 242, 243, 244, 245, 246, 264, 265, 266, 267, 268, 269, 270] (by decide +kernel) (by decide +kernel)
set_option maxRecDepth 20000 in
theorem gX8_settle_X8_hasAlbum : GoodIn wsX8_settle (wsV RX8 241 RX8 yX8_hasAlbum wsX8_hasAlbum) := goodIn_app (goodIn_of _ (by decide +kernel)) ggX8_settle_X8_hasAlbum
set_option maxRecDepth 20000 in
theorem ggX8_settle_X0_rule : GoodIn wsX8_settle wsX0_rule := goodIn_r _ [119, 120, 264, 265, 266, 267, 268, 269, 270] (by decide +kernel) (by decide +kernel)
set_option maxRecDepth 20000 in
theorem gX8_settle_X0_rule : GoodIn wsX8_settle (wsV RX8 315 RX0 yX0_rule wsX0_rule) := goodIn_app (goodIn_of _ (by decide +kernel)) ggX8_settle_X0_rule
set_option maxRecDepth 20000 in
theorem ggX8_settle_X4_filesFor : GoodIn wsX8_settle wsX4_filesFor := goodIn_r _ [125, 126, 127, 128, 129, 130, 131, 124, 132, 133, 134, 135, 48, 49, 10, 50, 12, 136, 137, 138, 139, 140, 141, 142, 143, 144, 145, 146, 147, 148, 149, 150, 151, 152, 153, 154, 155, 156, 157, 158, 159, 160, 161, 162, 163, 164, 13, 14, 15, 165, 67, 68, 69, 20, 56, 57, 166, 167, 168, 169, 170, 92, 93, 171, 172, 173, 113, 174, 175, 176, 177, 178, 84, 179, 180, 181, 182, 183, 184, 86, 185, 186, 187, 41, 188, 44, 189, 190, 191, 192, 43, 193, 194, 195, 196, 197, 198, 199, 200, 201, 202, 203, 204, 205, 206, 207, 208, 209, 210, 211, 212, 213, 214, 215, 216, 217, 218, 219, 271, 272, 273, 274, 275, 276, 277, 278, 247, 248, 249, 250, 251, 252, 279, 280, 264, 265, 266, 267, 268, 269, 270, 256, 257, 258, 259, 260, 261, 262, 263, 253, 254, 255] (by decide +kernel) (by decide +kernel)
set_option maxRecDepth 20000 in
theorem gX8_settle_X4_filesFor : GoodIn wsX8_settle (wsV RX8 231 RX4 yX4_filesFor wsX4_filesFor) := goodIn_app (goodIn_of _ (by decide +kernel)) ggX8_settle_X4_filesFor
set_option maxRecDepth 20000 in
theorem ggX8_settle_X0_become : GoodIn wsX8_settle wsX0_become := goodIn_r _ [223, 175, 224, 225, 13, 14, 15, 226, 227, 228, 229, 230, 231, 232, 233, 234, 235, 236, 237, 23, 238, 264, 265, 266, 267, 268, 269, 270, 281, 282, 283, 284, 285] (by decide +kernel) (by decide +kernel)
set_option maxRecDepth 20000 in
theorem gX8_settle_X0_become : GoodIn wsX8_settle (wsV RX8 319 RX0 yX0_become wsX0_become) := goodIn_app (goodIn_of _ (by decide +kernel)) ggX8_settle_X0_become
theorem dX8_settle_0 : decode cX8_settle 0 = .ok (.aload_n 0, 1) := by decide +kernel
theorem dX8_settle_1 : decode cX8_settle 1 = .ok (.getfield 10, 3) := by decide +kernel
theorem dX8_settle_4 : decode cX8_settle 4 = .ok (.invokevirtual 306, 3) := by decide +kernel
theorem dX8_settle_7 : decode cX8_settle 7 = .ok (.aload_n 0, 1) := by decide +kernel
theorem dX8_settle_8 : decode cX8_settle 8 = .ok (.getfield 21, 3) := by decide +kernel
theorem dX8_settle_11 : decode cX8_settle 11 = .ok (.invokevirtual 309, 3) := by decide +kernel
theorem dX8_settle_14 : decode cX8_settle 14 = .ok (.aload_n 0, 1) := by decide +kernel
theorem dX8_settle_15 : decode cX8_settle 15 = .ok (.getfield 28, 3) := by decide +kernel
theorem dX8_settle_18 : decode cX8_settle 18 = .ok (.invokevirtual 312, 3) := by decide +kernel
theorem dX8_settle_21 : decode cX8_settle 21 = .ok (.iconst 0, 1) := by decide +kernel
theorem dX8_settle_22 : decode cX8_settle 22 = .ok (.istore_n 1, 1) := by decide +kernel
theorem dX8_settle_23 : decode cX8_settle 23 = .ok (.iload_n 1, 1) := by decide +kernel
theorem dX8_settle_24 : decode cX8_settle 24 = .ok (.bipush 8, 2) := by decide +kernel
theorem dX8_settle_26 : decode cX8_settle 26 = .ok (.if_icmp .ge 49, 3) := by decide +kernel
theorem dX8_settle_29 : decode cX8_settle 29 = .ok (.aload_n 0, 1) := by decide +kernel
theorem dX8_settle_30 : decode cX8_settle 30 = .ok (.iload_n 1, 1) := by decide +kernel
theorem dX8_settle_31 : decode cX8_settle 31 = .ok (.invokevirtual 241, 3) := by decide +kernel
theorem dX8_settle_34 : decode cX8_settle 34 = .ok (.ifCond .eq 35, 3) := by decide +kernel
theorem dX8_settle_37 : decode cX8_settle 37 = .ok (.aload_n 0, 1) := by decide +kernel
theorem dX8_settle_38 : decode cX8_settle 38 = .ok (.getfield 51, 3) := by decide +kernel
theorem dX8_settle_41 : decode cX8_settle 41 = .ok (.aload_n 0, 1) := by decide +kernel
theorem dX8_settle_42 : decode cX8_settle 42 = .ok (.getfield 41, 3) := by decide +kernel
theorem dX8_settle_45 : decode cX8_settle 45 = .ok (.iload_n 1, 1) := by decide +kernel
theorem dX8_settle_46 : decode cX8_settle 46 = .ok (.aaload, 1) := by decide +kernel
theorem dX8_settle_47 : decode cX8_settle 47 = .ok (.invokevirtual 315, 3) := by decide +kernel
theorem dX8_settle_50 : decode cX8_settle 50 = .ok (.invokevirtual 231, 3) := by decide +kernel
theorem dX8_settle_53 : decode cX8_settle 53 = .ok (.lstore_n 2, 1) := by decide +kernel
theorem dX8_settle_54 : decode cX8_settle 54 = .ok (.aload_n 0, 1) := by decide +kernel
theorem dX8_settle_55 : decode cX8_settle 55 = .ok (.getfield 41, 3) := by decide +kernel
theorem dX8_settle_58 : decode cX8_settle 58 = .ok (.iload_n 1, 1) := by decide +kernel
theorem dX8_settle_59 : decode cX8_settle 59 = .ok (.aaload, 1) := by decide +kernel
theorem dX8_settle_60 : decode cX8_settle 60 = .ok (.lload_n 2, 1) := by decide +kernel
theorem dX8_settle_61 : decode cX8_settle 61 = .ok (.iload_n 1, 1) := by decide +kernel
theorem dX8_settle_62 : decode cX8_settle 62 = .ok (.aload_n 0, 1) := by decide +kernel
theorem dX8_settle_63 : decode cX8_settle 63 = .ok (.getfield 67, 3) := by decide +kernel
theorem dX8_settle_66 : decode cX8_settle 66 = .ok (.invokevirtual 319, 3) := by decide +kernel
theorem dX8_settle_69 : decode cX8_settle 69 = .ok (.iinc 1 1, 3) := by decide +kernel
theorem dX8_settle_72 : decode cX8_settle 72 = .ok (.goto (-49), 3) := by decide +kernel
theorem dX8_settle_75 : decode cX8_settle 75 = .ok (.return_, 1) := by decide +kernel
theorem dJ13_bitCount_95d88_0 : decode cJ13_bitCount_95d88 0 = .ok (.lload_n 0, 1) := by decide +kernel
theorem dJ13_bitCount_95d88_1 : decode cJ13_bitCount_95d88 1 = .ok (.lload_n 0, 1) := by decide +kernel
theorem dJ13_bitCount_95d88_2 : decode cJ13_bitCount_95d88 2 = .ok (.iconst 1, 1) := by decide +kernel
theorem dJ13_bitCount_95d88_3 : decode cJ13_bitCount_95d88 3 = .ok (.lushr, 1) := by decide +kernel
theorem dJ13_bitCount_95d88_4 : decode cJ13_bitCount_95d88 4 = .ok (.ldc2_w 314, 3) := by decide +kernel
theorem dJ13_bitCount_95d88_7 : decode cJ13_bitCount_95d88 7 = .ok (.land, 1) := by decide +kernel
theorem dJ13_bitCount_95d88_8 : decode cJ13_bitCount_95d88 8 = .ok (.lsub, 1) := by decide +kernel
theorem dJ13_bitCount_95d88_9 : decode cJ13_bitCount_95d88 9 = .ok (.lstore_n 0, 1) := by decide +kernel
theorem dJ13_bitCount_95d88_10 : decode cJ13_bitCount_95d88 10 = .ok (.lload_n 0, 1) := by decide +kernel
theorem dJ13_bitCount_95d88_11 : decode cJ13_bitCount_95d88 11 = .ok (.ldc2_w 316, 3) := by decide +kernel
theorem dJ13_bitCount_95d88_14 : decode cJ13_bitCount_95d88 14 = .ok (.land, 1) := by decide +kernel
theorem dJ13_bitCount_95d88_15 : decode cJ13_bitCount_95d88 15 = .ok (.lload_n 0, 1) := by decide +kernel
theorem dJ13_bitCount_95d88_16 : decode cJ13_bitCount_95d88 16 = .ok (.iconst 2, 1) := by decide +kernel
theorem dJ13_bitCount_95d88_17 : decode cJ13_bitCount_95d88 17 = .ok (.lushr, 1) := by decide +kernel
theorem dJ13_bitCount_95d88_18 : decode cJ13_bitCount_95d88 18 = .ok (.ldc2_w 316, 3) := by decide +kernel
theorem dJ13_bitCount_95d88_21 : decode cJ13_bitCount_95d88 21 = .ok (.land, 1) := by decide +kernel
theorem dJ13_bitCount_95d88_22 : decode cJ13_bitCount_95d88 22 = .ok (.ladd, 1) := by decide +kernel
theorem dJ13_bitCount_95d88_23 : decode cJ13_bitCount_95d88 23 = .ok (.lstore_n 0, 1) := by decide +kernel
theorem dJ13_bitCount_95d88_24 : decode cJ13_bitCount_95d88 24 = .ok (.lload_n 0, 1) := by decide +kernel
theorem dJ13_bitCount_95d88_25 : decode cJ13_bitCount_95d88 25 = .ok (.lload_n 0, 1) := by decide +kernel
theorem dJ13_bitCount_95d88_26 : decode cJ13_bitCount_95d88 26 = .ok (.iconst 4, 1) := by decide +kernel
theorem dJ13_bitCount_95d88_27 : decode cJ13_bitCount_95d88 27 = .ok (.lushr, 1) := by decide +kernel
theorem dJ13_bitCount_95d88_28 : decode cJ13_bitCount_95d88 28 = .ok (.ladd, 1) := by decide +kernel
theorem dJ13_bitCount_95d88_29 : decode cJ13_bitCount_95d88 29 = .ok (.ldc2_w 318, 3) := by decide +kernel
theorem dJ13_bitCount_95d88_32 : decode cJ13_bitCount_95d88 32 = .ok (.land, 1) := by decide +kernel
theorem dJ13_bitCount_95d88_33 : decode cJ13_bitCount_95d88 33 = .ok (.lstore_n 0, 1) := by decide +kernel
theorem dJ13_bitCount_95d88_34 : decode cJ13_bitCount_95d88 34 = .ok (.lload_n 0, 1) := by decide +kernel
theorem dJ13_bitCount_95d88_35 : decode cJ13_bitCount_95d88 35 = .ok (.lload_n 0, 1) := by decide +kernel
theorem dJ13_bitCount_95d88_36 : decode cJ13_bitCount_95d88 36 = .ok (.bipush 8, 2) := by decide +kernel
theorem dJ13_bitCount_95d88_38 : decode cJ13_bitCount_95d88 38 = .ok (.lushr, 1) := by decide +kernel
theorem dJ13_bitCount_95d88_39 : decode cJ13_bitCount_95d88 39 = .ok (.ladd, 1) := by decide +kernel
theorem dJ13_bitCount_95d88_40 : decode cJ13_bitCount_95d88 40 = .ok (.lstore_n 0, 1) := by decide +kernel
theorem dJ13_bitCount_95d88_41 : decode cJ13_bitCount_95d88 41 = .ok (.lload_n 0, 1) := by decide +kernel
theorem dJ13_bitCount_95d88_42 : decode cJ13_bitCount_95d88 42 = .ok (.lload_n 0, 1) := by decide +kernel
theorem dJ13_bitCount_95d88_43 : decode cJ13_bitCount_95d88 43 = .ok (.bipush 16, 2) := by decide +kernel
theorem dJ13_bitCount_95d88_45 : decode cJ13_bitCount_95d88 45 = .ok (.lushr, 1) := by decide +kernel
theorem dJ13_bitCount_95d88_46 : decode cJ13_bitCount_95d88 46 = .ok (.ladd, 1) := by decide +kernel
theorem dJ13_bitCount_95d88_47 : decode cJ13_bitCount_95d88 47 = .ok (.lstore_n 0, 1) := by decide +kernel
theorem dJ13_bitCount_95d88_48 : decode cJ13_bitCount_95d88 48 = .ok (.lload_n 0, 1) := by decide +kernel
theorem dJ13_bitCount_95d88_49 : decode cJ13_bitCount_95d88 49 = .ok (.lload_n 0, 1) := by decide +kernel
theorem dJ13_bitCount_95d88_50 : decode cJ13_bitCount_95d88 50 = .ok (.bipush 32, 2) := by decide +kernel
theorem dJ13_bitCount_95d88_52 : decode cJ13_bitCount_95d88 52 = .ok (.lushr, 1) := by decide +kernel
theorem dJ13_bitCount_95d88_53 : decode cJ13_bitCount_95d88 53 = .ok (.ladd, 1) := by decide +kernel
theorem dJ13_bitCount_95d88_54 : decode cJ13_bitCount_95d88 54 = .ok (.lstore_n 0, 1) := by decide +kernel
theorem dJ13_bitCount_95d88_55 : decode cJ13_bitCount_95d88 55 = .ok (.lload_n 0, 1) := by decide +kernel
theorem dJ13_bitCount_95d88_56 : decode cJ13_bitCount_95d88 56 = .ok (.l2i, 1) := by decide +kernel
theorem dJ13_bitCount_95d88_57 : decode cJ13_bitCount_95d88 57 = .ok (.bipush 127, 2) := by decide +kernel
theorem dJ13_bitCount_95d88_59 : decode cJ13_bitCount_95d88 59 = .ok (.iand, 1) := by decide +kernel
theorem dJ13_bitCount_95d88_60 : decode cJ13_bitCount_95d88 60 = .ok (.ireturn, 1) := by decide +kernel
theorem dJ9_max_7cf53_0 : decode cJ9_max_7cf53 0 = .ok (.iload_n 0, 1) := by decide +kernel
theorem dJ9_max_7cf53_1 : decode cJ9_max_7cf53 1 = .ok (.iload_n 1, 1) := by decide +kernel
theorem dJ9_max_7cf53_2 : decode cJ9_max_7cf53 2 = .ok (.if_icmp .lt 7, 3) := by decide +kernel
theorem dJ9_max_7cf53_5 : decode cJ9_max_7cf53 5 = .ok (.iload_n 0, 1) := by decide +kernel
theorem dJ9_max_7cf53_6 : decode cJ9_max_7cf53 6 = .ok (.goto 4, 3) := by decide +kernel
theorem dJ9_max_7cf53_9 : decode cJ9_max_7cf53 9 = .ok (.iload_n 1, 1) := by decide +kernel
theorem dJ9_max_7cf53_10 : decode cJ9_max_7cf53 10 = .ok (.ireturn, 1) := by decide +kernel
theorem dJ9_min_7cf53_0 : decode cJ9_min_7cf53 0 = .ok (.iload_n 0, 1) := by decide +kernel
theorem dJ9_min_7cf53_1 : decode cJ9_min_7cf53 1 = .ok (.iload_n 1, 1) := by decide +kernel
theorem dJ9_min_7cf53_2 : decode cJ9_min_7cf53 2 = .ok (.if_icmp .gt 7, 3) := by decide +kernel
theorem dJ9_min_7cf53_5 : decode cJ9_min_7cf53 5 = .ok (.iload_n 0, 1) := by decide +kernel
theorem dJ9_min_7cf53_6 : decode cJ9_min_7cf53 6 = .ok (.goto 4, 3) := by decide +kernel
theorem dJ9_min_7cf53_9 : decode cJ9_min_7cf53 9 = .ok (.iload_n 1, 1) := by decide +kernel
theorem dJ9_min_7cf53_10 : decode cJ9_min_7cf53 10 = .ok (.ireturn, 1) := by decide +kernel
theorem dJ7_rangeCheck_23922_0 : decode cJ7_rangeCheck_23922 0 = .ok (.iload_n 1, 1) := by decide +kernel
theorem dJ7_rangeCheck_23922_1 : decode cJ7_rangeCheck_23922 1 = .ok (.iload_n 2, 1) := by decide +kernel
theorem dJ7_rangeCheck_23922_2 : decode cJ7_rangeCheck_23922 2 = .ok (.if_icmp .le 44, 3) := by decide +kernel
theorem dJ7_rangeCheck_23922_5 : decode cJ7_rangeCheck_23922 5 = .ok (.new 43, 3) := by decide +kernel
theorem dJ7_rangeCheck_23922_8 : decode cJ7_rangeCheck_23922 8 = .ok (.dup, 1) := by decide +kernel
theorem dJ7_rangeCheck_23922_9 : decode cJ7_rangeCheck_23922 9 = .ok (.new 45, 3) := by decide +kernel
theorem dJ7_rangeCheck_23922_12 : decode cJ7_rangeCheck_23922 12 = .ok (.dup, 1) := by decide +kernel
theorem dJ7_rangeCheck_23922_13 : decode cJ7_rangeCheck_23922 13 = .ok (.invokespecial 47, 3) := by decide +kernel
theorem dJ7_rangeCheck_23922_16 : decode cJ7_rangeCheck_23922 16 = .ok (.ldc 48, 2) := by decide +kernel
theorem dJ7_rangeCheck_23922_18 : decode cJ7_rangeCheck_23922 18 = .ok (.invokevirtual 50, 3) := by decide +kernel
theorem dJ7_rangeCheck_23922_21 : decode cJ7_rangeCheck_23922 21 = .ok (.iload_n 1, 1) := by decide +kernel
theorem dJ7_rangeCheck_23922_22 : decode cJ7_rangeCheck_23922 22 = .ok (.invokevirtual 54, 3) := by decide +kernel
theorem dJ7_rangeCheck_23922_25 : decode cJ7_rangeCheck_23922 25 = .ok (.ldc 57, 2) := by decide +kernel
theorem dJ7_rangeCheck_23922_27 : decode cJ7_rangeCheck_23922 27 = .ok (.invokevirtual 50, 3) := by decide +kernel
theorem dJ7_rangeCheck_23922_30 : decode cJ7_rangeCheck_23922 30 = .ok (.iload_n 2, 1) := by decide +kernel
theorem dJ7_rangeCheck_23922_31 : decode cJ7_rangeCheck_23922 31 = .ok (.invokevirtual 54, 3) := by decide +kernel
theorem dJ7_rangeCheck_23922_34 : decode cJ7_rangeCheck_23922 34 = .ok (.ldc 59, 2) := by decide +kernel
theorem dJ7_rangeCheck_23922_36 : decode cJ7_rangeCheck_23922 36 = .ok (.invokevirtual 50, 3) := by decide +kernel
theorem dJ7_rangeCheck_23922_39 : decode cJ7_rangeCheck_23922 39 = .ok (.invokevirtual 61, 3) := by decide +kernel
theorem dJ7_rangeCheck_23922_42 : decode cJ7_rangeCheck_23922 42 = .ok (.invokespecial 65, 3) := by decide +kernel
theorem dJ7_rangeCheck_23922_45 : decode cJ7_rangeCheck_23922 45 = .ok (.athrow, 1) := by decide +kernel
theorem dJ7_rangeCheck_23922_46 : decode cJ7_rangeCheck_23922 46 = .ok (.iload_n 1, 1) := by decide +kernel
theorem dJ7_rangeCheck_23922_47 : decode cJ7_rangeCheck_23922 47 = .ok (.ifCond .ge 12, 3) := by decide +kernel
theorem dJ7_rangeCheck_23922_50 : decode cJ7_rangeCheck_23922 50 = .ok (.new 68, 3) := by decide +kernel
theorem dJ7_rangeCheck_23922_53 : decode cJ7_rangeCheck_23922 53 = .ok (.dup, 1) := by decide +kernel
theorem dJ7_rangeCheck_23922_54 : decode cJ7_rangeCheck_23922 54 = .ok (.iload_n 1, 1) := by decide +kernel
theorem dJ7_rangeCheck_23922_55 : decode cJ7_rangeCheck_23922 55 = .ok (.invokespecial 70, 3) := by decide +kernel
theorem dJ7_rangeCheck_23922_58 : decode cJ7_rangeCheck_23922 58 = .ok (.athrow, 1) := by decide +kernel
theorem dJ7_rangeCheck_23922_59 : decode cJ7_rangeCheck_23922 59 = .ok (.iload_n 2, 1) := by decide +kernel
theorem dJ7_rangeCheck_23922_60 : decode cJ7_rangeCheck_23922 60 = .ok (.iload_n 0, 1) := by decide +kernel
theorem dJ7_rangeCheck_23922_61 : decode cJ7_rangeCheck_23922 61 = .ok (.if_icmp .le 12, 3) := by decide +kernel
theorem dJ7_rangeCheck_23922_64 : decode cJ7_rangeCheck_23922 64 = .ok (.new 68, 3) := by decide +kernel
theorem dJ7_rangeCheck_23922_67 : decode cJ7_rangeCheck_23922 67 = .ok (.dup, 1) := by decide +kernel
theorem dJ7_rangeCheck_23922_68 : decode cJ7_rangeCheck_23922 68 = .ok (.iload_n 2, 1) := by decide +kernel
theorem dJ7_rangeCheck_23922_69 : decode cJ7_rangeCheck_23922 69 = .ok (.invokespecial 70, 3) := by decide +kernel
theorem dJ7_rangeCheck_23922_72 : decode cJ7_rangeCheck_23922 72 = .ok (.athrow, 1) := by decide +kernel
theorem dJ7_rangeCheck_23922_73 : decode cJ7_rangeCheck_23922 73 = .ok (.return_, 1) := by decide +kernel
theorem dJ7_fill_53178_0 : decode cJ7_fill_53178 0 = .ok (.iconst 0, 1) := by decide +kernel
theorem dJ7_fill_53178_1 : decode cJ7_fill_53178 1 = .ok (.istore_n 2, 1) := by decide +kernel
theorem dJ7_fill_53178_2 : decode cJ7_fill_53178 2 = .ok (.aload_n 0, 1) := by decide +kernel
theorem dJ7_fill_53178_3 : decode cJ7_fill_53178 3 = .ok (.arraylength, 1) := by decide +kernel
theorem dJ7_fill_53178_4 : decode cJ7_fill_53178 4 = .ok (.istore_n 3, 1) := by decide +kernel
theorem dJ7_fill_53178_5 : decode cJ7_fill_53178 5 = .ok (.iload_n 2, 1) := by decide +kernel
theorem dJ7_fill_53178_6 : decode cJ7_fill_53178 6 = .ok (.iload_n 3, 1) := by decide +kernel
theorem dJ7_fill_53178_7 : decode cJ7_fill_53178 7 = .ok (.if_icmp .ge 13, 3) := by decide +kernel
theorem dJ7_fill_53178_10 : decode cJ7_fill_53178 10 = .ok (.aload_n 0, 1) := by decide +kernel
theorem dJ7_fill_53178_11 : decode cJ7_fill_53178 11 = .ok (.iload_n 2, 1) := by decide +kernel
theorem dJ7_fill_53178_12 : decode cJ7_fill_53178 12 = .ok (.iload_n 1, 1) := by decide +kernel
theorem dJ7_fill_53178_13 : decode cJ7_fill_53178 13 = .ok (.iastore, 1) := by decide +kernel
theorem dJ7_fill_53178_14 : decode cJ7_fill_53178 14 = .ok (.iinc 2 1, 3) := by decide +kernel
theorem dJ7_fill_53178_17 : decode cJ7_fill_53178 17 = .ok (.goto (-12), 3) := by decide +kernel
theorem dJ7_fill_53178_20 : decode cJ7_fill_53178 20 = .ok (.return_, 1) := by decide +kernel
set_option maxRecDepth 20000 in
theorem ggJ7_fill_fda19_J7_rangeCheck_23922 : GoodIn wsJ7_fill_fda19 wsJ7_rangeCheck_23922 := goodIn_r _ [4] (by decide +kernel) (by decide +kernel)
set_option maxRecDepth 20000 in
theorem gJ7_fill_fda19_J7_rangeCheck_23922 : GoodIn wsJ7_fill_fda19 (va_wsS RJ7 13 yJ7_rangeCheck_23922 wsJ7_rangeCheck_23922) := goodIn_app (goodIn_of _ (by decide +kernel)) ggJ7_fill_fda19_J7_rangeCheck_23922
theorem dJ7_fill_fda19_0 : decode cJ7_fill_fda19 0 = .ok (.aload_n 0, 1) := by decide +kernel
theorem dJ7_fill_fda19_1 : decode cJ7_fill_fda19 1 = .ok (.arraylength, 1) := by decide +kernel
theorem dJ7_fill_fda19_2 : decode cJ7_fill_fda19 2 = .ok (.iload_n 1, 1) := by decide +kernel
theorem dJ7_fill_fda19_3 : decode cJ7_fill_fda19 3 = .ok (.iload_n 2, 1) := by decide +kernel
theorem dJ7_fill_fda19_4 : decode cJ7_fill_fda19 4 = .ok (.invokestatic 13, 3) := by decide +kernel
theorem dJ7_fill_fda19_7 : decode cJ7_fill_fda19 7 = .ok (.iload_n 1, 1) := by decide +kernel
theorem dJ7_fill_fda19_8 : decode cJ7_fill_fda19 8 = .ok (.istore 4, 2) := by decide +kernel
theorem dJ7_fill_fda19_10 : decode cJ7_fill_fda19 10 = .ok (.iload 4, 2) := by decide +kernel
theorem dJ7_fill_fda19_12 : decode cJ7_fill_fda19 12 = .ok (.iload_n 2, 1) := by decide +kernel
theorem dJ7_fill_fda19_13 : decode cJ7_fill_fda19 13 = .ok (.if_icmp .ge 14, 3) := by decide +kernel
theorem dJ7_fill_fda19_16 : decode cJ7_fill_fda19 16 = .ok (.aload_n 0, 1) := by decide +kernel
theorem dJ7_fill_fda19_17 : decode cJ7_fill_fda19 17 = .ok (.iload 4, 2) := by decide +kernel
theorem dJ7_fill_fda19_19 : decode cJ7_fill_fda19 19 = .ok (.iload_n 3, 1) := by decide +kernel
theorem dJ7_fill_fda19_20 : decode cJ7_fill_fda19 20 = .ok (.iastore, 1) := by decide +kernel
theorem dJ7_fill_fda19_21 : decode cJ7_fill_fda19 21 = .ok (.iinc 4 1, 3) := by decide +kernel
theorem dJ7_fill_fda19_24 : decode cJ7_fill_fda19 24 = .ok (.goto (-14), 3) := by decide +kernel
theorem dJ7_fill_fda19_27 : decode cJ7_fill_fda19 27 = .ok (.return_, 1) := by decide +kernel
theorem dL_cell_0 : decode cL_cell 0 = .ok (.iload_n 1, 1) := by decide +kernel
theorem dL_cell_1 : decode cL_cell 1 = .ok (.aload_n 0, 1) := by decide +kernel
theorem dL_cell_2 : decode cL_cell 2 = .ok (.arraylength, 1) := by decide +kernel
theorem dL_cell_3 : decode cL_cell 3 = .ok (.if_icmp .ge 9, 3) := by decide +kernel
theorem dL_cell_6 : decode cL_cell 6 = .ok (.aload_n 0, 1) := by decide +kernel
theorem dL_cell_7 : decode cL_cell 7 = .ok (.iload_n 1, 1) := by decide +kernel
theorem dL_cell_8 : decode cL_cell 8 = .ok (.iaload, 1) := by decide +kernel
theorem dL_cell_9 : decode cL_cell 9 = .ok (.goto 10, 3) := by decide +kernel
theorem dL_cell_12 : decode cL_cell 12 = .ok (.ldc 7, 2) := by decide +kernel
theorem dL_cell_14 : decode cL_cell 14 = .ok (.iload_n 1, 1) := by decide +kernel
theorem dL_cell_15 : decode cL_cell 15 = .ok (.imul, 1) := by decide +kernel
theorem dL_cell_16 : decode cL_cell 16 = .ok (.bipush 109, 2) := by decide +kernel
theorem dL_cell_18 : decode cL_cell 18 = .ok (.iadd, 1) := by decide +kernel
theorem dL_cell_19 : decode cL_cell 19 = .ok (.ldc 8, 2) := by decide +kernel
theorem dL_cell_21 : decode cL_cell 21 = .ok (.iand, 1) := by decide +kernel
theorem dL_cell_22 : decode cL_cell 22 = .ok (.ireturn, 1) := by decide +kernel
set_option maxRecDepth 20000 in
theorem ggL_types_X8_clearRule : GoodIn wsL_types wsX8_clearRule := goodIn_r _ [6, 7, 8, 9, 10, 11, 12, 13, 14, 15, 16, 17, 30, 31, 32, 33, 34, 35, 36, 37, 38, 39] (by decide +kernel) (by decide +kernel)
set_option maxRecDepth 20000 in
theorem gL_types_X8_clearRule : GoodIn wsL_types (wsV RL 9 RX8 yX8_clearRule wsX8_clearRule) := goodIn_app (goodIn_of _ (by decide +kernel)) ggL_types_X8_clearRule
set_option maxRecDepth 20000 in
theorem ggL_types_X8_type : GoodIn wsL_types wsX8_type := goodIn_r _ [21, 7, 22, 23, 5, 24, 8, 9, 10, 11, 12, 13, 25, 26, 27, 28, 29, 30, 31, 32, 33, 34, 35, 36, 37, 38, 39] (by decide +kernel) (by decide +kernel)
set_option maxRecDepth 20000 in
theorem gL_types_X8_type : GoodIn wsL_types (wsV RL 17 RX8 yX8_type wsX8_type) := goodIn_app (goodIn_of _ (by decide +kernel)) ggL_types_X8_type
theorem dL_types_0 : decode cL_types 0 = .ok (.aload_n 0, 1) := by decide +kernel
theorem dL_types_1 : decode cL_types 1 = .ok (.invokevirtual 9, 3) := by decide +kernel
theorem dL_types_4 : decode cL_types 4 = .ok (.pop, 1) := by decide +kernel
theorem dL_types_5 : decode cL_types 5 = .ok (.iconst 1, 1) := by decide +kernel
theorem dL_types_6 : decode cL_types 6 = .ok (.istore_n 3, 1) := by decide +kernel
theorem dL_types_7 : decode cL_types 7 = .ok (.lload_n 1, 1) := by decide +kernel
theorem dL_types_8 : decode cL_types 8 = .ok (.lstore 4, 2) := by decide +kernel
theorem dL_types_10 : decode cL_types 10 = .ok (.lload 4, 2) := by decide +kernel
theorem dL_types_12 : decode cL_types 12 = .ok (.lconst 0, 1) := by decide +kernel
theorem dL_types_13 : decode cL_types 13 = .ok (.lcmp, 1) := by decide +kernel
theorem dL_types_14 : decode cL_types 14 = .ok (.ifCond .le 37, 3) := by decide +kernel
theorem dL_types_17 : decode cL_types 17 = .ok (.iload_n 3, 1) := by decide +kernel
theorem dL_types_18 : decode cL_types 18 = .ok (.ifCond .eq 21, 3) := by decide +kernel
theorem dL_types_21 : decode cL_types 21 = .ok (.aload_n 0, 1) := by decide +kernel
theorem dL_types_22 : decode cL_types 22 = .ok (.lload 4, 2) := by decide +kernel
theorem dL_types_24 : decode cL_types 24 = .ok (.ldc2_w 15, 3) := by decide +kernel
theorem dL_types_27 : decode cL_types 27 = .ok (.land, 1) := by decide +kernel
theorem dL_types_28 : decode cL_types 28 = .ok (.l2i, 1) := by decide +kernel
theorem dL_types_29 : decode cL_types 29 = .ok (.invokevirtual 17, 3) := by decide +kernel
theorem dL_types_32 : decode cL_types 32 = .ok (.ifCond .le 7, 3) := by decide +kernel
theorem dL_types_35 : decode cL_types 35 = .ok (.iconst 1, 1) := by decide +kernel
theorem dL_types_36 : decode cL_types 36 = .ok (.goto 4, 3) := by decide +kernel
theorem dL_types_39 : decode cL_types 39 = .ok (.iconst 0, 1) := by decide +kernel
theorem dL_types_40 : decode cL_types 40 = .ok (.istore_n 3, 1) := by decide +kernel
theorem dL_types_41 : decode cL_types 41 = .ok (.lload 4, 2) := by decide +kernel
theorem dL_types_43 : decode cL_types 43 = .ok (.bipush 8, 2) := by decide +kernel
theorem dL_types_45 : decode cL_types 45 = .ok (.lshr, 1) := by decide +kernel
theorem dL_types_46 : decode cL_types 46 = .ok (.lstore 4, 2) := by decide +kernel
theorem dL_types_48 : decode cL_types 48 = .ok (.goto (-38), 3) := by decide +kernel
theorem dL_types_51 : decode cL_types 51 = .ok (.iload_n 3, 1) := by decide +kernel
theorem dL_types_52 : decode cL_types 52 = .ok (.ireturn, 1) := by decide +kernel
theorem dL_text_0 : decode cL_text 0 = .ok (.iload_n 0, 1) := by decide +kernel
theorem dL_text_1 : decode cL_text 1 = .ok (.ifCond .ne 9, 3) := by decide +kernel
theorem dL_text_4 : decode cL_text 4 = .ok (.ldc2_w 21, 3) := by decide +kernel
theorem dL_text_7 : decode cL_text 7 = .ok (.goto 39, 3) := by decide +kernel
theorem dL_text_10 : decode cL_text 10 = .ok (.iload_n 0, 1) := by decide +kernel
theorem dL_text_11 : decode cL_text 11 = .ok (.iconst 1, 1) := by decide +kernel
theorem dL_text_12 : decode cL_text 12 = .ok (.if_icmp .ne 9, 3) := by decide +kernel
theorem dL_text_15 : decode cL_text 15 = .ok (.ldc2_w 23, 3) := by decide +kernel
theorem dL_text_18 : decode cL_text 18 = .ok (.goto 28, 3) := by decide +kernel
theorem dL_text_21 : decode cL_text 21 = .ok (.iload_n 0, 1) := by decide +kernel
theorem dL_text_22 : decode cL_text 22 = .ok (.iconst 2, 1) := by decide +kernel
theorem dL_text_23 : decode cL_text 23 = .ok (.if_icmp .ne 9, 3) := by decide +kernel
theorem dL_text_26 : decode cL_text 26 = .ok (.ldc2_w 25, 3) := by decide +kernel
theorem dL_text_29 : decode cL_text 29 = .ok (.goto 17, 3) := by decide +kernel
theorem dL_text_32 : decode cL_text 32 = .ok (.iload_n 0, 1) := by decide +kernel
theorem dL_text_33 : decode cL_text 33 = .ok (.iconst 3, 1) := by decide +kernel
theorem dL_text_34 : decode cL_text 34 = .ok (.if_icmp .ne 9, 3) := by decide +kernel
theorem dL_text_37 : decode cL_text 37 = .ok (.ldc2_w 27, 3) := by decide +kernel
theorem dL_text_40 : decode cL_text 40 = .ok (.goto 6, 3) := by decide +kernel
theorem dL_text_43 : decode cL_text 43 = .ok (.ldc2_w 29, 3) := by decide +kernel
theorem dL_text_46 : decode cL_text 46 = .ok (.lreturn, 1) := by decide +kernel
set_option maxRecDepth 20000 in
theorem ggL_acts_X8_fileCount : GoodIn wsL_acts wsX8_fileCount := goodIn_r _ [5, 6, 7, 8, 9, 10, 11, 12, 13, 14, 15, 16, 17, 18, 19, 434, 435, 436, 437, 438, 439, 440, 441, 442, 443, 444, 445, 446, 447] (by decide +kernel) (by decide +kernel)
set_option maxRecDepth 20000 in
theorem gL_acts_X8_fileCount : GoodIn wsL_acts (wsV RL 31 RX8 yX8_fileCount wsX8_fileCount) := goodIn_app (goodIn_of _ (by decide +kernel)) ggL_acts_X8_fileCount
set_option maxRecDepth 20000 in
theorem ggL_acts_X8_add : GoodIn wsL_acts wsX8_add := goodIn_r _ [23, 24, 6, 25, 26, 4, 27, 28, 29, 30, 10, 31, 12, 32, 33, 34, 35, 36, 37, 38, 39, 40, 41, 42, 43, 44, 45, 46, 47, 48, 49, 50, 51, 52, 53, 54, 55, 56, 57, 58, 59, 60, 61, 62, 63, 64, 65, 66, 67, 68, 69, 70, 71, 72, 73, 74, 75, 76, 77, 78, 79, 80, 81, 82, 83, 84, 85, 86, 87, 88, 89, 90, 91, 92, 93, 94, 95, 96, 97, 98, 99, 100, 101, 102, 103, 104, 105, 106, 107, 108, 109, 110, 111, 112, 113, 114, 115, 116, 117, 14, 15, 16, 17, 18, 19, 118, 119, 120, 121, 122, 123, 124, 125, 126, 127, 128, 129, 130, 131, 132, 133, 134, 135, 136, 137, 138, 139, 140, 141, 142, 143, 144, 145, 146, 147, 148, 149, 150, 151, 152, 153, 154, 155, 156, 157, 158, 159, 160, 161, 162, 163, 164, 165, 166, 167, 168, 169, 170, 171, 172, 173, 174, 175, 176, 177, 178, 179, 180, 181, 182, 183, 184, 185, 186, 187, 188, 189, 190, 191, 192, 193, 194, 195, 196, 197, 198, 199, 200, 201, 202, 203, 204, 205, 206, 207, 208, 209, 210, 211, 212, 213, 214, 215, 216, 217, 218, 219, 220, 221, 222, 223, 224, 225, 226, 227, 228, 229, 230, 231, 232, 233, 234, 235, 236, 237, 238, 239, 240, 241, 242, 243, 244, 245, 246, 247, 248, 249, 250, 251, 252, 253, 254, 255, 256, 257, 258, 259, 260, 261, 262, 263, 264, 265, 266, 267, 268, 269, 270, 271, 272, 434, 435, 436, 437, 438, 439, 440, 441, 442, 443, 444, 445, 446, 447, 448, 449, 450, 451, 452, 453, 454, 455, 456, 457, 458, 459, 460, 461, 462, 463, 464, 465, 466, 467, 468, 469, 470, 471, 472, 473, 474, 475, 476, 477, 478, 479, 480] (by decide +kernel) (by decide +kernel)
set_option maxRecDepth 20000 in
theorem gL_acts_X8_add : GoodIn wsL_acts (wsV RL 34 RX8 yX8_add wsX8_add) := goodIn_app (goodIn_of _ (by decide +kernel)) ggL_acts_X8_add
set_option maxRecDepth 20000 in
theorem ggL_acts_X8_setValue : GoodIn wsL_acts wsX8_setValue := goodIn_r _ [276, 277, 278, 6, 279, 280, 281, 4, 282, 283, 284, 285, 10, 286, 12, 26, 27, 32, 33, 287, 288, 289, 25, 290, 81, 82, 83, 40, 43, 44, 45, 291, 292, 293, 294, 53, 54, 55, 56, 57, 58, 59, 60, 61, 62, 63, 64, 65, 66, 67, 68, 69, 70, 71, 72, 73, 74, 75, 76, 77, 78, 79, 80, 84, 85, 86, 87, 88, 89, 90, 91, 92, 93, 94, 95, 96, 97, 98, 99, 100, 38, 41, 42, 101, 102, 103, 104, 105, 106, 107, 108, 109, 110, 111, 112, 113, 114, 115, 116, 117, 14, 15, 16, 17, 18, 19, 118, 119, 120, 121, 122, 123, 124, 125, 126, 127, 128, 129, 130, 131, 132, 133, 134, 135, 136, 137, 138, 139, 140, 141, 142, 143, 144, 145, 146, 147, 148, 149, 150, 151, 152, 153, 154, 155, 156, 157, 158, 159, 160, 161, 162, 163, 164, 165, 166, 167, 168, 169, 170, 171, 172, 173, 174, 175, 176, 177, 178, 179, 180, 181, 182, 183, 184, 185, 186, 187, 188, 189, 190, 191, 192, 193, 194, 195, 196, 197, 198, 199, 200, 201, 202, 203, 204, 205, 206, 207, 208, 209, 210, 211, 212, 213, 214, 215, 216, 217, 218, 219, 220, 221, 222, 223, 224, 225, 226, 227, 228, 229, 230, 231, 232, 233, 234, 235, 236, 237, 238, 239, 240, 241, 242, 243, 244, 245, 246, 247, 248, 249, 250, 251, 252, 253, 254, 255, 256, 257, 258, 259, 260, 261, 262, 263, 264, 265, 266, 267, 268, 269, 270, 271, 272, 295, 296, 297, 434, 435, 436, 437, 438, 439, 440, 441, 442, 443, 444, 445, 446, 447, 448, 449, 450, 451, 452, 453, 454, 455, 456, 457, 458, 459, 460, 461, 462, 463, 464, 465, 466, 467, 468, 469, 470, 471, 472, 473, 474, 475, 476, 477, 478, 479, 480] (by decide +kernel) (by decide +kernel)
set_option maxRecDepth 20000 in
theorem gL_acts_X8_setValue : GoodIn wsL_acts (wsV RL 38 RX8 yX8_setValue wsX8_setValue) := goodIn_app (goodIn_of _ (by decide +kernel)) ggL_acts_X8_setValue
set_option maxRecDepth 20000 in
theorem ggL_acts_X8_clearValue : GoodIn wsL_acts wsX8_clearValue := goodIn_r _ [301, 6, 279, 280, 281, 4, 282, 283, 284, 285, 10, 286, 12, 26, 27, 32, 33, 287, 288, 289, 25, 290, 81, 82, 83, 40, 43, 44, 45, 291, 292, 293, 294, 53, 54, 55, 56, 57, 58, 59, 60, 61, 62, 63, 64, 65, 66, 67, 68, 69, 70, 71, 72, 73, 74, 75, 76, 77, 78, 79, 80, 84, 85, 86, 87, 88, 89, 90, 91, 92, 93, 94, 95, 96, 97, 98, 99, 100, 38, 41, 42, 101, 102, 103, 104, 105, 106, 107, 108, 109, 110, 111, 112, 113, 114, 115, 116, 117, 14, 15, 16, 17, 18, 19, 118, 119, 120, 121, 122, 123, 124, 125, 126, 127, 128, 129, 130, 131, 132, 133, 134, 135, 136, 137, 138, 139, 140, 141, 142, 143, 144, 145, 146, 147, 148, 149, 150, 151, 152, 153, 154, 155, 156, 157, 158, 159, 160, 161, 162, 163, 164, 165, 166, 167, 168, 169, 170, 171, 172, 173, 174, 175, 176, 177, 178, 179, 180, 181, 182, 183, 184, 185, 186, 187, 188, 189, 190, 191, 192, 193, 194, 195, 196, 197, 198, 199, 200, 201, 202, 203, 204, 205, 206, 207, 208, 209, 210, 211, 212, 213, 214, 215, 216, 217, 218, 219, 220, 221, 222, 223, 224, 225, 226, 227, 228, 229, 230, 231, 232, 233, 234, 235, 236, 237, 238, 239, 240, 241, 242, 243, 244, 245, 246, 247, 248, 249, 250, 251, 252, 253, 254, 255, 256, 257, 258, 259, 260, 261, 262, 263, 264, 265, 266, 267, 268, 269, 270, 271, 272, 434, 435, 436, 437, 438, 439, 440, 441, 442, 443, 444, 445, 446, 447, 448, 449, 450, 451, 452, 453, 454, 455, 456, 457, 458, 459, 460, 461, 462, 463, 464, 465, 466, 467, 468, 469, 470, 471, 472, 473, 474, 475, 476, 477, 478, 479, 480] (by decide +kernel) (by decide +kernel)
set_option maxRecDepth 20000 in
theorem gL_acts_X8_clearValue : GoodIn wsL_acts (wsV RL 42 RX8 yX8_clearValue wsX8_clearValue) := goodIn_app (goodIn_of _ (by decide +kernel)) ggL_acts_X8_clearValue
set_option maxRecDepth 20000 in
theorem ggL_acts_X8_stack : GoodIn wsL_acts wsX8_stack := goodIn_r _ [305, 6, 58, 283, 284, 285, 10, 286, 12, 26, 4, 27, 32, 33, 306, 307, 308, 121, 309, 310, 311, 312, 313, 314, 124, 125, 126, 127, 128, 315, 316, 317, 318, 133, 319, 320, 321, 322, 323, 134, 214, 136, 137, 138, 41, 42, 53, 54, 55, 56, 57, 59, 60, 61, 62, 63, 64, 65, 66, 67, 68, 69, 70, 71, 72, 73, 74, 75, 76, 77, 78, 79, 80, 81, 82, 83, 40, 43, 44, 45, 84, 85, 86, 87, 88, 89, 90, 91, 92, 93, 94, 95, 96, 97, 98, 99, 100, 38, 101, 102, 103, 104, 105, 106, 107, 108, 109, 110, 111, 112, 113, 114, 115, 116, 117, 14, 15, 16, 17, 18, 19, 118, 119, 120, 122, 123, 129, 130, 131, 132, 135, 139, 140, 141, 142, 143, 25, 144, 145, 146, 147, 148, 149, 150, 151, 152, 153, 154, 155, 156, 157, 158, 159, 160, 161, 162, 163, 164, 165, 166, 167, 168, 169, 170, 171, 172, 173, 174, 175, 176, 177, 178, 179, 180, 181, 182, 183, 184, 185, 186, 187, 188, 189, 190, 191, 192, 193, 194, 195, 196, 197, 198, 199, 200, 201, 202, 203, 204, 205, 206, 207, 208, 209, 210, 211, 212, 213, 215, 216, 217, 218, 219, 220, 221, 222, 223, 224, 225, 226, 227, 228, 229, 230, 231, 232, 233, 234, 235, 236, 237, 238, 239, 240, 241, 242, 243, 244, 245, 246, 247, 248, 249, 250, 251, 252, 253, 254, 255, 256, 257, 258, 259, 260, 261, 262, 263, 264, 265, 266, 267, 268, 269, 270, 271, 272, 434, 435, 436, 437, 438, 439, 440, 441, 442, 443, 444, 445, 446, 447, 451, 452, 453, 454, 455, 456, 457, 458, 448, 449, 450, 459, 460, 461, 462, 463, 464, 465, 466, 467, 468, 469, 470, 471, 472, 473, 474, 475, 476, 477, 478, 479, 480] (by decide +kernel) (by decide +kernel)
set_option maxRecDepth 20000 in
theorem gL_acts_X8_stack : GoodIn wsL_acts (wsV RL 46 RX8 yX8_stack wsX8_stack) := goodIn_app (goodIn_of _ (by decide +kernel)) ggL_acts_X8_stack
set_option maxRecDepth 20000 in
theorem ggL_acts_X8_putInto : GoodIn wsL_acts wsX8_putInto := goodIn_r _ [327, 58, 6, 328, 125, 126, 121, 127, 128, 26, 4, 27, 283, 284, 285, 10, 286, 12, 32, 33, 329, 330, 331, 332, 25, 306, 307, 308, 309, 310, 333, 321, 322, 323, 134, 214, 136, 137, 138, 41, 42, 53, 54, 55, 56, 57, 59, 60, 61, 62, 63, 64, 65, 66, 67, 68, 69, 70, 71, 72, 73, 74, 75, 76, 77, 78, 79, 80, 81, 82, 83, 40, 43, 44, 45, 84, 85, 86, 87, 88, 89, 90, 91, 92, 93, 94, 95, 96, 97, 98, 99, 100, 38, 101, 102, 103, 104, 105, 106, 107, 108, 109, 110, 111, 112, 113, 114, 115, 116, 117, 14, 15, 16, 17, 18, 19, 118, 119, 120, 122, 123, 124, 129, 130, 131, 132, 133, 135, 139, 140, 141, 142, 143, 144, 145, 146, 147, 148, 149, 150, 151, 152, 153, 154, 155, 156, 157, 158, 159, 160, 161, 162, 163, 164, 165, 166, 167, 168, 169, 170, 171, 172, 173, 174, 175, 176, 177, 178, 179, 180, 181, 182, 183, 184, 185, 186, 187, 188, 189, 190, 191, 192, 193, 194, 195, 196, 197, 198, 199, 200, 201, 202, 203, 204, 205, 206, 207, 208, 209, 210, 211, 212, 213, 215, 216, 217, 218, 219, 220, 221, 222, 223, 224, 225, 226, 227, 228, 229, 230, 231, 232, 233, 234, 235, 236, 237, 238, 239, 240, 241, 242, 243, 244, 245, 246, 247, 248, 249, 250, 251, 252, 253, 254, 255, 256, 257, 258, 259, 260, 261, 262, 263, 264, 265, 266, 267, 268, 269, 270, 271, 272, 434, 435, 436, 437, 438, 439, 440, 441, 451, 452, 453, 454, 455, 456, 457, 458, 442, 443, 444, 445, 446, 447, 448, 449, 450, 459, 460, 461, 462, 463, 464, 465, 466, 467, 468, 469, 470, 471, 472, 473, 474, 475, 476, 477, 478, 479, 480] (by decide +kernel) (by decide +kernel)
set_option maxRecDepth 20000 in
theorem gL_acts_X8_putInto : GoodIn wsL_acts (wsV RL 49 RX8 yX8_putInto wsX8_putInto) := goodIn_app (goodIn_of _ (by decide +kernel)) ggL_acts_X8_putInto
set_option maxRecDepth 20000 in
theorem ggL_acts_X8_takeOut : GoodIn wsL_acts wsX8_takeOut := goodIn_r _ [337, 6, 58, 283, 284, 285, 10, 286, 12, 26, 4, 27, 32, 33, 306, 307, 308, 121, 309, 310, 338, 339, 340, 341, 133, 128, 134, 342, 343, 344, 345, 136, 137, 138, 346, 347, 348, 349, 214, 350, 41, 42, 53, 54, 55, 56, 57, 59, 60, 61, 62, 63, 64, 65, 66, 67, 68, 69, 70, 71, 72, 73, 74, 75, 76, 77, 78, 79, 80, 81, 82, 83, 40, 43, 44, 45, 84, 85, 86, 87, 88, 89, 90, 91, 92, 93, 94, 95, 96, 97, 98, 99, 100, 38, 101, 102, 103, 104, 105, 106, 107, 108, 109, 110, 111, 112, 113, 114, 115, 116, 117, 14, 15, 16, 17, 18, 19, 118, 119, 120, 122, 123, 124, 125, 126, 127, 129, 130, 131, 132, 135, 139, 140, 141, 142, 143, 25, 144, 145, 146, 147, 148, 149, 150, 151, 152, 153, 154, 155, 156, 157, 158, 159, 160, 161, 162, 163, 164, 165, 166, 167, 168, 169, 170, 171, 172, 173, 174, 175, 176, 177, 178, 179, 180, 181, 182, 183, 184, 185, 186, 187, 188, 189, 190, 191, 192, 193, 194, 195, 196, 197, 198, 199, 200, 201, 202, 203, 204, 205, 206, 207, 208, 209, 210, 211, 212, 213, 215, 216, 217, 218, 219, 220, 221, 222, 223, 224, 225, 226, 227, 228, 229, 230, 231, 232, 233, 234, 235, 236, 237, 238, 239, 240, 241, 242, 243, 244, 245, 246, 247, 248, 249, 250, 251, 252, 253, 254, 255, 256, 257, 258, 259, 260, 261, 262, 263, 264, 265, 266, 267, 268, 269, 270, 271, 272, 329, 330, 331, 332, 434, 435, 436, 437, 438, 439, 440, 441, 442, 443, 444, 445, 446, 447, 451, 452, 453, 454, 455, 456, 457, 458, 448, 449, 450, 459, 460, 461, 462, 463, 464, 465, 466, 467, 468, 469, 470, 471, 472, 473, 474, 475, 476, 477, 478, 479, 480] (by decide +kernel) (by decide +kernel)
set_option maxRecDepth 20000 in
theorem gL_acts_X8_takeOut : GoodIn wsL_acts (wsV RL 52 RX8 yX8_takeOut wsX8_takeOut) := goodIn_app (goodIn_of _ (by decide +kernel)) ggL_acts_X8_takeOut
set_option maxRecDepth 20000 in
theorem ggL_acts_X8_collapse : GoodIn wsL_acts wsX8_collapse := goodIn_r _ [354, 58, 328, 125, 126, 121, 127, 128, 26, 4, 27, 25, 355, 356, 357, 358, 319, 359, 360, 361, 362, 434, 435, 436, 437, 438, 439, 440, 441, 451, 452, 453, 454, 455, 456, 457, 458] (by decide +kernel) (by decide +kernel)
set_option maxRecDepth 20000 in
theorem gL_acts_X8_collapse : GoodIn wsL_acts (wsV RL 55 RX8 yX8_collapse wsX8_collapse) := goodIn_app (goodIn_of _ (by decide +kernel)) ggL_acts_X8_collapse
set_option maxRecDepth 20000 in
theorem ggL_acts_X8_chooseCover : GoodIn wsL_acts wsX8_chooseCover := goodIn_r _ [366, 58, 6, 328, 125, 126, 121, 127, 128, 26, 4, 27, 283, 284, 285, 10, 286, 12, 32, 33, 306, 307, 308, 309, 310, 367, 368, 369, 370, 133, 53, 54, 55, 56, 57, 59, 60, 61, 62, 63, 64, 65, 66, 67, 68, 69, 70, 71, 72, 73, 74, 75, 76, 77, 78, 79, 80, 81, 82, 83, 40, 43, 44, 45, 84, 85, 86, 87, 88, 89, 90, 91, 92, 93, 94, 95, 96, 97, 98, 99, 100, 38, 41, 42, 101, 102, 103, 104, 105, 106, 107, 108, 109, 110, 111, 112, 113, 114, 115, 116, 117, 14, 15, 16, 17, 18, 19, 118, 119, 120, 122, 123, 124, 129, 130, 131, 132, 134, 135, 136, 137, 138, 139, 140, 141, 142, 143, 25, 144, 145, 146, 147, 148, 149, 150, 151, 152, 153, 154, 155, 156, 157, 158, 159, 160, 161, 162, 163, 164, 165, 166, 167, 168, 169, 170, 171, 172, 173, 174, 175, 176, 177, 178, 179, 180, 181, 182, 183, 184, 185, 186, 187, 188, 189, 190, 191, 192, 193, 194, 195, 196, 197, 198, 199, 200, 201, 202, 203, 204, 205, 206, 207, 208, 209, 210, 211, 212, 213, 214, 215, 216, 217, 218, 219, 220, 221, 222, 223, 224, 225, 226, 227, 228, 229, 230, 231, 232, 233, 234, 235, 236, 237, 238, 239, 240, 241, 242, 243, 244, 245, 246, 247, 248, 249, 250, 251, 252, 253, 254, 255, 256, 257, 258, 259, 260, 261, 262, 263, 264, 265, 266, 267, 268, 269, 270, 271, 272, 371, 434, 435, 436, 437, 438, 439, 440, 441, 451, 452, 453, 454, 455, 456, 457, 458, 442, 443, 444, 445, 446, 447, 448, 449, 450, 459, 460, 461, 462, 463, 464, 465, 466, 467, 468, 469, 470, 471, 472, 473, 474, 475, 476, 477, 478, 479, 480] (by decide +kernel) (by decide +kernel)
set_option maxRecDepth 20000 in
theorem gL_acts_X8_chooseCover : GoodIn wsL_acts (wsV RL 58 RX8 yX8_chooseCover wsX8_chooseCover) := goodIn_app (goodIn_of _ (by decide +kernel)) ggL_acts_X8_chooseCover
set_option maxRecDepth 20000 in
theorem ggL_acts_X8_merge : GoodIn wsL_acts wsX8_merge := goodIn_r _ [375, 6, 57, 376, 283, 284, 285, 10, 286, 12, 26, 4, 27, 32, 33, 377, 378, 379, 87, 380, 91, 97, 98, 99, 100, 38, 41, 42, 101, 102, 103, 104, 105, 106, 107, 108, 109, 110, 111, 112, 70, 113, 114, 115, 116, 381, 382, 383, 384, 385, 386, 387, 388, 389, 390, 80, 81, 82, 83, 40, 43, 44, 45, 391, 292, 293, 294, 392, 393, 394, 395, 396, 397, 398, 399, 58, 338, 339, 340, 121, 341, 310, 133, 128, 134, 342, 343, 344, 345, 136, 137, 138, 346, 347, 348, 349, 214, 350, 400, 401, 402, 403, 404, 53, 54, 55, 56, 59, 60, 61, 62, 63, 64, 65, 66, 67, 68, 69, 71, 72, 73, 74, 75, 76, 77, 78, 79, 84, 85, 86, 88, 89, 90, 92, 93, 94, 95, 96, 117, 14, 15, 16, 17, 18, 19, 118, 119, 120, 122, 123, 124, 125, 126, 127, 129, 130, 131, 132, 135, 139, 140, 141, 142, 143, 25, 144, 145, 146, 147, 148, 149, 150, 151, 152, 153, 154, 155, 156, 157, 158, 159, 160, 161, 162, 163, 164, 165, 166, 167, 168, 169, 170, 171, 172, 173, 174, 175, 176, 177, 178, 179, 180, 181, 182, 183, 184, 185, 186, 187, 188, 189, 190, 191, 192, 193, 194, 195, 196, 197, 198, 199, 200, 201, 202, 203, 204, 205, 206, 207, 208, 209, 210, 211, 212, 213, 215, 216, 217, 218, 219, 220, 221, 222, 223, 224, 225, 226, 227, 228, 229, 230, 231, 232, 233, 234, 235, 236, 237, 238, 239, 240, 241, 242, 243, 244, 245, 246, 247, 248, 249, 250, 251, 252, 253, 254, 255, 256, 257, 258, 259, 260, 261, 262, 263, 264, 265, 266, 267, 268, 269, 270, 271, 272, 405, 434, 435, 436, 437, 438, 439, 440, 441, 442, 443, 444, 445, 446, 447, 448, 449, 450, 451, 452, 453, 454, 455, 456, 457, 458, 459, 460, 461, 462, 463, 464, 465, 466, 467, 468, 469, 470, 471, 472, 473, 474, 475, 476, 477, 478, 479, 480] (by decide +kernel) (by decide +kernel)
set_option maxRecDepth 20000 in
theorem gL_acts_X8_merge : GoodIn wsL_acts (wsV RL 61 RX8 yX8_merge wsX8_merge) := goodIn_app (goodIn_of _ (by decide +kernel)) ggL_acts_X8_merge
set_option maxRecDepth 20000 in
theorem ggL_acts_X8_remove : GoodIn wsL_acts wsX8_remove := goodIn_r _ [409, 6, 283, 284, 285, 10, 286, 12, 26, 4, 27, 32, 33, 396, 397, 398, 399, 58, 338, 339, 340, 121, 341, 310, 133, 128, 134, 342, 343, 344, 345, 136, 137, 138, 346, 347, 348, 349, 214, 350, 41, 42, 400, 401, 402, 403, 404, 53, 54, 55, 56, 57, 59, 60, 61, 62, 63, 64, 65, 66, 67, 68, 69, 70, 71, 72, 73, 74, 75, 76, 77, 78, 79, 80, 81, 82, 83, 40, 43, 44, 45, 84, 85, 86, 87, 88, 89, 90, 91, 92, 93, 94, 95, 96, 97, 98, 99, 100, 38, 101, 102, 103, 104, 105, 106, 107, 108, 109, 110, 111, 112, 113, 114, 115, 116, 117, 14, 15, 16, 17, 18, 19, 118, 119, 120, 122, 123, 124, 125, 126, 127, 129, 130, 131, 132, 135, 139, 140, 141, 142, 143, 25, 144, 145, 146, 147, 148, 149, 150, 151, 152, 153, 154, 155, 156, 157, 158, 159, 160, 161, 162, 163, 164, 165, 166, 167, 168, 169, 170, 171, 172, 173, 174, 175, 176, 177, 178, 179, 180, 181, 182, 183, 184, 185, 186, 187, 188, 189, 190, 191, 192, 193, 194, 195, 196, 197, 198, 199, 200, 201, 202, 203, 204, 205, 206, 207, 208, 209, 210, 211, 212, 213, 215, 216, 217, 218, 219, 220, 221, 222, 223, 224, 225, 226, 227, 228, 229, 230, 231, 232, 233, 234, 235, 236, 237, 238, 239, 240, 241, 242, 243, 244, 245, 246, 247, 248, 249, 250, 251, 252, 253, 254, 255, 256, 257, 258, 259, 260, 261, 262, 263, 264, 265, 266, 267, 268, 269, 270, 271, 272, 7, 8, 9, 11, 13, 434, 435, 436, 437, 438, 439, 440, 441, 442, 443, 444, 445, 446, 447, 451, 452, 453, 454, 455, 456, 457, 458, 448, 449, 450, 459, 460, 461, 462, 463, 464, 465, 466, 467, 468, 469, 470, 471, 472, 473, 474, 475, 476, 477, 478, 479, 480] (by decide +kernel) (by decide +kernel)
set_option maxRecDepth 20000 in
theorem gL_acts_X8_remove : GoodIn wsL_acts (wsV RL 64 RX8 yX8_remove wsX8_remove) := goodIn_app (goodIn_of _ (by decide +kernel)) ggL_acts_X8_remove
set_option maxRecDepth 20000 in
theorem ggL_acts_X8_setDigest : GoodIn wsL_acts wsX8_setDigest := goodIn_r _ [413, 6, 283, 284, 285, 10, 286, 12, 26, 4, 27, 32, 33, 25, 414, 415, 416, 417, 38, 418, 419, 420, 421, 53, 54, 55, 56, 57, 58, 59, 60, 61, 62, 63, 64, 65, 66, 67, 68, 69, 70, 71, 72, 73, 74, 75, 76, 77, 78, 79, 80, 81, 82, 83, 40, 43, 44, 45, 84, 85, 86, 87, 88, 89, 90, 91, 92, 93, 94, 95, 96, 97, 98, 99, 100, 41, 42, 101, 102, 103, 104, 105, 106, 107, 108, 109, 110, 111, 112, 113, 114, 115, 116, 117, 14, 15, 16, 17, 18, 19, 118, 119, 120, 121, 122, 123, 124, 125, 126, 127, 128, 129, 130, 131, 132, 133, 134, 135, 136, 137, 138, 139, 140, 141, 142, 143, 144, 145, 146, 147, 148, 149, 150, 151, 152, 153, 154, 155, 156, 157, 158, 159, 160, 161, 162, 163, 164, 165, 166, 167, 168, 169, 170, 171, 172, 173, 174, 175, 176, 177, 178, 179, 180, 181, 182, 183, 184, 185, 186, 187, 188, 189, 190, 191, 192, 193, 194, 195, 196, 197, 198, 199, 200, 201, 202, 203, 204, 205, 206, 207, 208, 209, 210, 211, 212, 213, 214, 215, 216, 217, 218, 219, 220, 221, 222, 223, 224, 225, 226, 227, 228, 229, 230, 231, 232, 233, 234, 235, 236, 237, 238, 239, 240, 241, 242, 243, 244, 245, 246, 247, 248, 249, 250, 251, 252, 253, 254, 255, 256, 257, 258, 259, 260, 261, 262, 263, 264, 265, 266, 267, 268, 269, 270, 271, 272, 434, 435, 436, 437, 438, 439, 440, 441, 442, 443, 444, 445, 446, 447, 448, 449, 450, 451, 452, 453, 454, 455, 456, 457, 458, 459, 460, 461, 462, 463, 464, 465, 466, 467, 468, 469, 470, 471, 472, 473, 474, 475, 476, 477, 478, 479, 480] (by decide +kernel) (by decide +kernel)
set_option maxRecDepth 20000 in
theorem gL_acts_X8_setDigest : GoodIn wsL_acts (wsV RL 67 RX8 yX8_setDigest wsX8_setDigest) := goodIn_app (goodIn_of _ (by decide +kernel)) ggL_acts_X8_setDigest
set_option maxRecDepth 20000 in
theorem ggL_acts_X8_setOrder : GoodIn wsL_acts wsX8_setOrder := goodIn_r _ [425, 6, 287, 288, 4, 289, 25, 26, 27, 426, 427, 428, 10, 429, 79, 430, 431, 432, 433, 53, 54, 55, 56, 57, 58, 59, 60, 61, 62, 63, 64, 65, 12, 32, 33, 66, 67, 68, 69, 70, 71, 72, 73, 74, 75, 76, 77, 78, 80, 81, 82, 83, 40, 43, 44, 45, 84, 85, 86, 87, 88, 89, 90, 91, 92, 93, 94, 95, 96, 97, 98, 99, 100, 38, 41, 42, 101, 102, 103, 104, 105, 106, 107, 108, 109, 110, 111, 112, 113, 114, 115, 116, 117, 14, 15, 16, 17, 18, 19, 118, 119, 120, 121, 122, 123, 124, 125, 126, 127, 128, 129, 130, 131, 132, 133, 134, 135, 136, 137, 138, 139, 140, 141, 142, 143, 144, 145, 146, 147, 148, 149, 150, 151, 152, 153, 154, 155, 156, 157, 158, 159, 160, 161, 162, 163, 164, 165, 166, 167, 168, 169, 170, 171, 172, 173, 174, 175, 176, 177, 178, 179, 180, 181, 182, 183, 184, 185, 186, 187, 188, 189, 190, 191, 192, 193, 194, 195, 196, 197, 198, 199, 200, 201, 202, 203, 204, 205, 206, 207, 208, 209, 210, 211, 212, 213, 214, 215, 216, 217, 218, 219, 220, 221, 222, 223, 224, 225, 226, 227, 228, 229, 230, 231, 232, 233, 234, 235, 236, 237, 238, 239, 240, 241, 242, 243, 244, 245, 246, 247, 248, 249, 250, 251, 252, 253, 254, 255, 256, 257, 258, 259, 260, 261, 262, 263, 264, 265, 266, 267, 268, 269, 270, 271, 272, 434, 435, 436, 437, 438, 439, 440, 441, 442, 443, 444, 445, 446, 447, 448, 449, 450, 451, 452, 453, 454, 455, 456, 457, 458, 459, 460, 461, 462, 463, 464, 465, 466, 467, 468, 469, 470, 471, 472, 473, 474, 475, 476, 477, 478, 479, 480] (by decide +kernel) (by decide +kernel)
set_option maxRecDepth 20000 in
theorem gL_acts_X8_setOrder : GoodIn wsL_acts (wsV RL 70 RX8 yX8_setOrder wsX8_setOrder) := goodIn_app (goodIn_of _ (by decide +kernel)) ggL_acts_X8_setOrder
theorem dL_acts_0 : decode cL_acts 0 = .ok (.iload_n 1, 1) := by decide +kernel
theorem dL_acts_1 : decode cL_acts 1 = .ok (.iconst 4, 1) := by decide +kernel
theorem dL_acts_2 : decode cL_acts 2 = .ok (.ishr, 1) := by decide +kernel
theorem dL_acts_3 : decode cL_acts 3 = .ok (.bipush 12, 2) := by decide +kernel
theorem dL_acts_5 : decode cL_acts 5 = .ok (.irem, 1) := by decide +kernel
theorem dL_acts_6 : decode cL_acts 6 = .ok (.istore_n 2, 1) := by decide +kernel
theorem dL_acts_7 : decode cL_acts 7 = .ok (.iload_n 1, 1) := by decide +kernel
theorem dL_acts_8 : decode cL_acts 8 = .ok (.bipush 8, 2) := by decide +kernel
theorem dL_acts_10 : decode cL_acts 10 = .ok (.ishr, 1) := by decide +kernel
theorem dL_acts_11 : decode cL_acts 11 = .ok (.bipush 12, 2) := by decide +kernel
theorem dL_acts_13 : decode cL_acts 13 = .ok (.irem, 1) := by decide +kernel
theorem dL_acts_14 : decode cL_acts 14 = .ok (.istore_n 3, 1) := by decide +kernel
theorem dL_acts_15 : decode cL_acts 15 = .ok (.iload_n 1, 1) := by decide +kernel
theorem dL_acts_16 : decode cL_acts 16 = .ok (.bipush 16, 2) := by decide +kernel
theorem dL_acts_18 : decode cL_acts 18 = .ok (.irem, 1) := by decide +kernel
theorem dL_acts_19 : decode cL_acts 19 = .ok (.tableswitch 322 0 14 #[73, 73, 73, 111, 111, 111, 138, 165, 185, 185, 202, 222, 238, 272, 297], 73) := by decide +kernel
theorem dL_acts_92 : decode cL_acts 92 = .ok (.aload_n 0, 1) := by decide +kernel
theorem dL_acts_93 : decode cL_acts 93 = .ok (.invokevirtual 31, 3) := by decide +kernel
theorem dL_acts_96 : decode cL_acts 96 = .ok (.bipush 11, 2) := by decide +kernel
theorem dL_acts_98 : decode cL_acts 98 = .ok (.if_icmp .gt 26, 3) := by decide +kernel
theorem dL_acts_101 : decode cL_acts 101 = .ok (.aload_n 0, 1) := by decide +kernel
theorem dL_acts_102 : decode cL_acts 102 = .ok (.iload_n 1, 1) := by decide +kernel
theorem dL_acts_103 : decode cL_acts 103 = .ok (.bipush 12, 2) := by decide +kernel
theorem dL_acts_105 : decode cL_acts 105 = .ok (.ishr, 1) := by decide +kernel
theorem dL_acts_106 : decode cL_acts 106 = .ok (.bipush 6, 2) := by decide +kernel
theorem dL_acts_108 : decode cL_acts 108 = .ok (.irem, 1) := by decide +kernel
theorem dL_acts_109 : decode cL_acts 109 = .ok (.iconst 1, 1) := by decide +kernel
theorem dL_acts_110 : decode cL_acts 110 = .ok (.iload_n 1, 1) := by decide +kernel
theorem dL_acts_111 : decode cL_acts 111 = .ok (.bipush 15, 2) := by decide +kernel
theorem dL_acts_113 : decode cL_acts 113 = .ok (.ishr, 1) := by decide +kernel
theorem dL_acts_114 : decode cL_acts 114 = .ok (.bipush 100, 2) := by decide +kernel
theorem dL_acts_116 : decode cL_acts 116 = .ok (.irem, 1) := by decide +kernel
theorem dL_acts_117 : decode cL_acts 117 = .ok (.iadd, 1) := by decide +kernel
theorem dL_acts_118 : decode cL_acts 118 = .ok (.invokevirtual 34, 3) := by decide +kernel
theorem dL_acts_121 : decode cL_acts 121 = .ok (.ifCond .lt 7, 3) := by decide +kernel
theorem dL_acts_124 : decode cL_acts 124 = .ok (.iconst 1, 1) := by decide +kernel
theorem dL_acts_125 : decode cL_acts 125 = .ok (.goto 4, 3) := by decide +kernel
theorem dL_acts_128 : decode cL_acts 128 = .ok (.iconst 0, 1) := by decide +kernel
theorem dL_acts_129 : decode cL_acts 129 = .ok (.ireturn, 1) := by decide +kernel
theorem dL_acts_130 : decode cL_acts 130 = .ok (.aload_n 0, 1) := by decide +kernel
theorem dL_acts_131 : decode cL_acts 131 = .ok (.iload_n 2, 1) := by decide +kernel
theorem dL_acts_132 : decode cL_acts 132 = .ok (.iload_n 3, 1) := by decide +kernel
theorem dL_acts_133 : decode cL_acts 133 = .ok (.iconst 3, 1) := by decide +kernel
theorem dL_acts_134 : decode cL_acts 134 = .ok (.irem, 1) := by decide +kernel
theorem dL_acts_135 : decode cL_acts 135 = .ok (.iconst 1, 1) := by decide +kernel
theorem dL_acts_136 : decode cL_acts 136 = .ok (.iload_n 1, 1) := by decide +kernel
theorem dL_acts_137 : decode cL_acts 137 = .ok (.bipush 12, 2) := by decide +kernel
theorem dL_acts_139 : decode cL_acts 139 = .ok (.ishr, 1) := by decide +kernel
theorem dL_acts_140 : decode cL_acts 140 = .ok (.bipush 6, 2) := by decide +kernel
theorem dL_acts_142 : decode cL_acts 142 = .ok (.irem, 1) := by decide +kernel
theorem dL_acts_143 : decode cL_acts 143 = .ok (.invokevirtual 38, 3) := by decide +kernel
theorem dL_acts_146 : decode cL_acts 146 = .ok (.bipush (-5), 2) := by decide +kernel
theorem dL_acts_148 : decode cL_acts 148 = .ok (.if_icmp .le 7, 3) := by decide +kernel
theorem dL_acts_151 : decode cL_acts 151 = .ok (.iconst 1, 1) := by decide +kernel
theorem dL_acts_152 : decode cL_acts 152 = .ok (.goto 4, 3) := by decide +kernel
theorem dL_acts_155 : decode cL_acts 155 = .ok (.iconst 0, 1) := by decide +kernel
theorem dL_acts_156 : decode cL_acts 156 = .ok (.ireturn, 1) := by decide +kernel
theorem dL_acts_157 : decode cL_acts 157 = .ok (.aload_n 0, 1) := by decide +kernel
theorem dL_acts_158 : decode cL_acts 158 = .ok (.iload_n 2, 1) := by decide +kernel
theorem dL_acts_159 : decode cL_acts 159 = .ok (.iload_n 3, 1) := by decide +kernel
theorem dL_acts_160 : decode cL_acts 160 = .ok (.iconst 3, 1) := by decide +kernel
theorem dL_acts_161 : decode cL_acts 161 = .ok (.irem, 1) := by decide +kernel
theorem dL_acts_162 : decode cL_acts 162 = .ok (.iconst 5, 1) := by decide +kernel
theorem dL_acts_163 : decode cL_acts 163 = .ok (.iload_n 1, 1) := by decide +kernel
theorem dL_acts_164 : decode cL_acts 164 = .ok (.bipush 12, 2) := by decide +kernel
theorem dL_acts_166 : decode cL_acts 166 = .ok (.ishr, 1) := by decide +kernel
theorem dL_acts_167 : decode cL_acts 167 = .ok (.bipush 16, 2) := by decide +kernel
theorem dL_acts_169 : decode cL_acts 169 = .ok (.irem, 1) := by decide +kernel
theorem dL_acts_170 : decode cL_acts 170 = .ok (.invokevirtual 38, 3) := by decide +kernel
theorem dL_acts_173 : decode cL_acts 173 = .ok (.bipush (-5), 2) := by decide +kernel
theorem dL_acts_175 : decode cL_acts 175 = .ok (.if_icmp .le 7, 3) := by decide +kernel
theorem dL_acts_178 : decode cL_acts 178 = .ok (.iconst 1, 1) := by decide +kernel
theorem dL_acts_179 : decode cL_acts 179 = .ok (.goto 4, 3) := by decide +kernel
theorem dL_acts_182 : decode cL_acts 182 = .ok (.iconst 0, 1) := by decide +kernel
theorem dL_acts_183 : decode cL_acts 183 = .ok (.ireturn, 1) := by decide +kernel
theorem dL_acts_184 : decode cL_acts 184 = .ok (.aload_n 0, 1) := by decide +kernel
theorem dL_acts_185 : decode cL_acts 185 = .ok (.iload_n 2, 1) := by decide +kernel
theorem dL_acts_186 : decode cL_acts 186 = .ok (.iload_n 3, 1) := by decide +kernel
theorem dL_acts_187 : decode cL_acts 187 = .ok (.iconst 3, 1) := by decide +kernel
theorem dL_acts_188 : decode cL_acts 188 = .ok (.irem, 1) := by decide +kernel
theorem dL_acts_189 : decode cL_acts 189 = .ok (.iconst 1, 1) := by decide +kernel
theorem dL_acts_190 : decode cL_acts 190 = .ok (.invokevirtual 42, 3) := by decide +kernel
theorem dL_acts_193 : decode cL_acts 193 = .ok (.bipush (-5), 2) := by decide +kernel
theorem dL_acts_195 : decode cL_acts 195 = .ok (.if_icmp .le 7, 3) := by decide +kernel
theorem dL_acts_198 : decode cL_acts 198 = .ok (.iconst 1, 1) := by decide +kernel
theorem dL_acts_199 : decode cL_acts 199 = .ok (.goto 4, 3) := by decide +kernel
theorem dL_acts_202 : decode cL_acts 202 = .ok (.iconst 0, 1) := by decide +kernel
theorem dL_acts_203 : decode cL_acts 203 = .ok (.ireturn, 1) := by decide +kernel
theorem dL_acts_204 : decode cL_acts 204 = .ok (.aload_n 0, 1) := by decide +kernel
theorem dL_acts_205 : decode cL_acts 205 = .ok (.iload_n 2, 1) := by decide +kernel
theorem dL_acts_206 : decode cL_acts 206 = .ok (.iload_n 3, 1) := by decide +kernel
theorem dL_acts_207 : decode cL_acts 207 = .ok (.invokevirtual 46, 3) := by decide +kernel
theorem dL_acts_210 : decode cL_acts 210 = .ok (.bipush (-4), 2) := by decide +kernel
theorem dL_acts_212 : decode cL_acts 212 = .ok (.if_icmp .le 7, 3) := by decide +kernel
theorem dL_acts_215 : decode cL_acts 215 = .ok (.iconst 1, 1) := by decide +kernel
theorem dL_acts_216 : decode cL_acts 216 = .ok (.goto 4, 3) := by decide +kernel
theorem dL_acts_219 : decode cL_acts 219 = .ok (.iconst 0, 1) := by decide +kernel
theorem dL_acts_220 : decode cL_acts 220 = .ok (.ireturn, 1) := by decide +kernel
theorem dL_acts_221 : decode cL_acts 221 = .ok (.aload_n 0, 1) := by decide +kernel
theorem dL_acts_222 : decode cL_acts 222 = .ok (.iload_n 3, 1) := by decide +kernel
theorem dL_acts_223 : decode cL_acts 223 = .ok (.iconst 3, 1) := by decide +kernel
theorem dL_acts_224 : decode cL_acts 224 = .ok (.irem, 1) := by decide +kernel
theorem dL_acts_225 : decode cL_acts 225 = .ok (.iload_n 2, 1) := by decide +kernel
theorem dL_acts_226 : decode cL_acts 226 = .ok (.iconst 0, 1) := by decide +kernel
theorem dL_acts_227 : decode cL_acts 227 = .ok (.invokevirtual 49, 3) := by decide +kernel
theorem dL_acts_230 : decode cL_acts 230 = .ok (.bipush (-4), 2) := by decide +kernel
theorem dL_acts_232 : decode cL_acts 232 = .ok (.if_icmp .le 7, 3) := by decide +kernel
theorem dL_acts_235 : decode cL_acts 235 = .ok (.iconst 1, 1) := by decide +kernel
theorem dL_acts_236 : decode cL_acts 236 = .ok (.goto 4, 3) := by decide +kernel
theorem dL_acts_239 : decode cL_acts 239 = .ok (.iconst 0, 1) := by decide +kernel
theorem dL_acts_240 : decode cL_acts 240 = .ok (.ireturn, 1) := by decide +kernel
theorem dL_acts_241 : decode cL_acts 241 = .ok (.aload_n 0, 1) := by decide +kernel
theorem dL_acts_242 : decode cL_acts 242 = .ok (.iload_n 2, 1) := by decide +kernel
theorem dL_acts_243 : decode cL_acts 243 = .ok (.invokevirtual 52, 3) := by decide +kernel
theorem dL_acts_246 : decode cL_acts 246 = .ok (.bipush (-3), 2) := by decide +kernel
theorem dL_acts_248 : decode cL_acts 248 = .ok (.if_icmp .le 7, 3) := by decide +kernel
theorem dL_acts_251 : decode cL_acts 251 = .ok (.iconst 1, 1) := by decide +kernel
theorem dL_acts_252 : decode cL_acts 252 = .ok (.goto 4, 3) := by decide +kernel
theorem dL_acts_255 : decode cL_acts 255 = .ok (.iconst 0, 1) := by decide +kernel
theorem dL_acts_256 : decode cL_acts 256 = .ok (.ireturn, 1) := by decide +kernel
theorem dL_acts_257 : decode cL_acts 257 = .ok (.aload_n 0, 1) := by decide +kernel
theorem dL_acts_258 : decode cL_acts 258 = .ok (.iload_n 3, 1) := by decide +kernel
theorem dL_acts_259 : decode cL_acts 259 = .ok (.iconst 3, 1) := by decide +kernel
theorem dL_acts_260 : decode cL_acts 260 = .ok (.irem, 1) := by decide +kernel
theorem dL_acts_261 : decode cL_acts 261 = .ok (.iload_n 2, 1) := by decide +kernel
theorem dL_acts_262 : decode cL_acts 262 = .ok (.iconst 2, 1) := by decide +kernel
theorem dL_acts_263 : decode cL_acts 263 = .ok (.irem, 1) := by decide +kernel
theorem dL_acts_264 : decode cL_acts 264 = .ok (.invokevirtual 55, 3) := by decide +kernel
theorem dL_acts_267 : decode cL_acts 267 = .ok (.bipush (-2), 2) := by decide +kernel
theorem dL_acts_269 : decode cL_acts 269 = .ok (.if_icmp .le 20, 3) := by decide +kernel
theorem dL_acts_272 : decode cL_acts 272 = .ok (.aload_n 0, 1) := by decide +kernel
theorem dL_acts_273 : decode cL_acts 273 = .ok (.iload_n 3, 1) := by decide +kernel
theorem dL_acts_274 : decode cL_acts 274 = .ok (.iconst 3, 1) := by decide +kernel
theorem dL_acts_275 : decode cL_acts 275 = .ok (.irem, 1) := by decide +kernel
theorem dL_acts_276 : decode cL_acts 276 = .ok (.iload_n 2, 1) := by decide +kernel
theorem dL_acts_277 : decode cL_acts 277 = .ok (.invokevirtual 58, 3) := by decide +kernel
theorem dL_acts_280 : decode cL_acts 280 = .ok (.bipush (-3), 2) := by decide +kernel
theorem dL_acts_282 : decode cL_acts 282 = .ok (.if_icmp .le 7, 3) := by decide +kernel
theorem dL_acts_285 : decode cL_acts 285 = .ok (.iconst 1, 1) := by decide +kernel
theorem dL_acts_286 : decode cL_acts 286 = .ok (.goto 4, 3) := by decide +kernel
theorem dL_acts_289 : decode cL_acts 289 = .ok (.iconst 0, 1) := by decide +kernel
theorem dL_acts_290 : decode cL_acts 290 = .ok (.ireturn, 1) := by decide +kernel
theorem dL_acts_291 : decode cL_acts 291 = .ok (.iload_n 1, 1) := by decide +kernel
theorem dL_acts_292 : decode cL_acts 292 = .ok (.bipush 12, 2) := by decide +kernel
theorem dL_acts_294 : decode cL_acts 294 = .ok (.ishr, 1) := by decide +kernel
theorem dL_acts_295 : decode cL_acts 295 = .ok (.iconst 4, 1) := by decide +kernel
theorem dL_acts_296 : decode cL_acts 296 = .ok (.irem, 1) := by decide +kernel
theorem dL_acts_297 : decode cL_acts 297 = .ok (.ifCond .gt 13, 3) := by decide +kernel
theorem dL_acts_300 : decode cL_acts 300 = .ok (.aload_n 0, 1) := by decide +kernel
theorem dL_acts_301 : decode cL_acts 301 = .ok (.iload_n 2, 1) := by decide +kernel
theorem dL_acts_302 : decode cL_acts 302 = .ok (.invokevirtual 61, 3) := by decide +kernel
theorem dL_acts_305 : decode cL_acts 305 = .ok (.bipush (-3), 2) := by decide +kernel
theorem dL_acts_307 : decode cL_acts 307 = .ok (.if_icmp .le 7, 3) := by decide +kernel
theorem dL_acts_310 : decode cL_acts 310 = .ok (.iconst 1, 1) := by decide +kernel
theorem dL_acts_311 : decode cL_acts 311 = .ok (.goto 4, 3) := by decide +kernel
theorem dL_acts_314 : decode cL_acts 314 = .ok (.iconst 0, 1) := by decide +kernel
theorem dL_acts_315 : decode cL_acts 315 = .ok (.ireturn, 1) := by decide +kernel
theorem dL_acts_316 : decode cL_acts 316 = .ok (.iload_n 1, 1) := by decide +kernel
theorem dL_acts_317 : decode cL_acts 317 = .ok (.bipush 12, 2) := by decide +kernel
theorem dL_acts_319 : decode cL_acts 319 = .ok (.ishr, 1) := by decide +kernel
theorem dL_acts_320 : decode cL_acts 320 = .ok (.iconst 3, 1) := by decide +kernel
theorem dL_acts_321 : decode cL_acts 321 = .ok (.irem, 1) := by decide +kernel
theorem dL_acts_322 : decode cL_acts 322 = .ok (.ifCond .gt 13, 3) := by decide +kernel
theorem dL_acts_325 : decode cL_acts 325 = .ok (.aload_n 0, 1) := by decide +kernel
theorem dL_acts_326 : decode cL_acts 326 = .ok (.iload_n 2, 1) := by decide +kernel
theorem dL_acts_327 : decode cL_acts 327 = .ok (.invokevirtual 64, 3) := by decide +kernel
theorem dL_acts_330 : decode cL_acts 330 = .ok (.bipush (-2), 2) := by decide +kernel
theorem dL_acts_332 : decode cL_acts 332 = .ok (.if_icmp .le 7, 3) := by decide +kernel
theorem dL_acts_335 : decode cL_acts 335 = .ok (.iconst 1, 1) := by decide +kernel
theorem dL_acts_336 : decode cL_acts 336 = .ok (.goto 4, 3) := by decide +kernel
theorem dL_acts_339 : decode cL_acts 339 = .ok (.iconst 0, 1) := by decide +kernel
theorem dL_acts_340 : decode cL_acts 340 = .ok (.ireturn, 1) := by decide +kernel
theorem dL_acts_341 : decode cL_acts 341 = .ok (.aload_n 0, 1) := by decide +kernel
theorem dL_acts_342 : decode cL_acts 342 = .ok (.iload_n 2, 1) := by decide +kernel
theorem dL_acts_343 : decode cL_acts 343 = .ok (.iload_n 1, 1) := by decide +kernel
theorem dL_acts_344 : decode cL_acts 344 = .ok (.bipush 12, 2) := by decide +kernel
theorem dL_acts_346 : decode cL_acts 346 = .ok (.ishr, 1) := by decide +kernel
theorem dL_acts_347 : decode cL_acts 347 = .ok (.bipush 6, 2) := by decide +kernel
theorem dL_acts_349 : decode cL_acts 349 = .ok (.irem, 1) := by decide +kernel
theorem dL_acts_350 : decode cL_acts 350 = .ok (.invokevirtual 67, 3) := by decide +kernel
theorem dL_acts_353 : decode cL_acts 353 = .ok (.bipush (-2), 2) := by decide +kernel
theorem dL_acts_355 : decode cL_acts 355 = .ok (.if_icmp .le 29, 3) := by decide +kernel
theorem dL_acts_358 : decode cL_acts 358 = .ok (.aload_n 0, 1) := by decide +kernel
theorem dL_acts_359 : decode cL_acts 359 = .ok (.iload_n 3, 1) := by decide +kernel
theorem dL_acts_360 : decode cL_acts 360 = .ok (.iconst 3, 1) := by decide +kernel
theorem dL_acts_361 : decode cL_acts 361 = .ok (.irem, 1) := by decide +kernel
theorem dL_acts_362 : decode cL_acts 362 = .ok (.iload_n 3, 1) := by decide +kernel
theorem dL_acts_363 : decode cL_acts 363 = .ok (.iconst 1, 1) := by decide +kernel
theorem dL_acts_364 : decode cL_acts 364 = .ok (.iadd, 1) := by decide +kernel
theorem dL_acts_365 : decode cL_acts 365 = .ok (.iconst 3, 1) := by decide +kernel
theorem dL_acts_366 : decode cL_acts 366 = .ok (.irem, 1) := by decide +kernel
theorem dL_acts_367 : decode cL_acts 367 = .ok (.iload_n 3, 1) := by decide +kernel
theorem dL_acts_368 : decode cL_acts 368 = .ok (.iconst 2, 1) := by decide +kernel
theorem dL_acts_369 : decode cL_acts 369 = .ok (.iadd, 1) := by decide +kernel
theorem dL_acts_370 : decode cL_acts 370 = .ok (.iconst 3, 1) := by decide +kernel
theorem dL_acts_371 : decode cL_acts 371 = .ok (.irem, 1) := by decide +kernel
theorem dL_acts_372 : decode cL_acts 372 = .ok (.invokevirtual 70, 3) := by decide +kernel
theorem dL_acts_375 : decode cL_acts 375 = .ok (.bipush 12, 2) := by decide +kernel
theorem dL_acts_377 : decode cL_acts 377 = .ok (.if_icmp .lt 7, 3) := by decide +kernel
theorem dL_acts_380 : decode cL_acts 380 = .ok (.iconst 1, 1) := by decide +kernel
theorem dL_acts_381 : decode cL_acts 381 = .ok (.goto 4, 3) := by decide +kernel
theorem dL_acts_384 : decode cL_acts 384 = .ok (.iconst 0, 1) := by decide +kernel
theorem dL_acts_385 : decode cL_acts 385 = .ok (.ireturn, 1) := by decide +kernel
set_option maxRecDepth 20000 in
theorem ggL_albums_L_text : GoodIn wsL_albums wsL_text := goodIn_r _ [4, 5, 6, 7, 8, 9] (by decide +kernel) (by decide +kernel)
set_option maxRecDepth 20000 in
theorem gL_albums_L_text : GoodIn wsL_albums (va_wsS RL 73 yL_text wsL_text) := goodIn_app (goodIn_of _ (by decide +kernel)) ggL_albums_L_text
set_option maxRecDepth 20000 in
theorem ggL_albums_L_types : GoodIn wsL_albums wsL_types := goodIn_r _ [12, 13, 14, 15, 16, 17, 18, 19, 20, 21, 22, 23, 24, 25, 26, 27, 28, 29, 30, 31, 32, 33, 34, 35, 36, 37, 38, 39, 40, 41, 342, 343, 344, 345, 346, 347, 348, 349, 350, 351] (by decide +kernel) (by decide +kernel)
set_option maxRecDepth 20000 in
theorem gL_albums_L_types : GoodIn wsL_albums (va_wsS RL 79 yL_types wsL_types) := goodIn_app (goodIn_of _ (by decide +kernel)) ggL_albums_L_types
set_option maxRecDepth 20000 in
theorem ggL_albums_X8_isIn : GoodIn wsL_albums wsX8_isIn := goodIn_r _ [45, 46, 47, 48, 49, 50, 17, 51, 34, 35, 36, 52, 53, 54, 55, 56, 57, 58, 59, 60, 61, 62, 63, 64, 65, 66, 67, 68, 69, 70, 71, 342, 343, 344, 345, 346, 347, 348, 349, 352, 353, 354, 355, 356, 357, 358, 359, 360, 361, 362, 363, 364] (by decide +kernel) (by decide +kernel)
set_option maxRecDepth 20000 in
theorem gL_albums_X8_isIn : GoodIn wsL_albums (wsV RL 83 RX8 yX8_isIn wsX8_isIn) := goodIn_app (goodIn_of _ (by decide +kernel)) ggL_albums_X8_isIn
set_option maxRecDepth 20000 in
theorem ggL_albums_X8_satisfies : GoodIn wsL_albums wsX8_satisfies := goodIn_r _ [75, 46, 76, 19, 58, 59, 60, 61, 62, 63, 35, 17, 36, 64, 65, 77, 78, 79, 80, 81, 82, 83, 23, 84, 25, 41, 85, 86, 87, 88, 89, 90, 91, 92, 93, 94, 95, 96, 97, 98, 99, 100, 101, 102, 103, 104, 105, 106, 107, 108, 109, 110, 111, 112, 113, 48, 49, 50, 51, 47, 34, 52, 53, 54, 55, 56, 57, 114, 115, 116, 117, 118, 119, 120, 121, 122, 123, 124, 125, 126, 127, 128, 129, 130, 131, 132, 21, 22, 24, 133, 134, 135, 136, 137, 138, 139, 140, 141, 142, 143, 144, 145, 146, 147, 148, 149, 150, 151, 152, 153, 154, 155, 156, 157, 158, 159, 160, 67, 68, 69, 70, 161, 162, 163, 164, 165, 166, 167, 168, 169, 170, 171, 172, 173, 174, 175, 176, 177, 178, 179, 180, 181, 182, 183, 184, 185, 186, 187, 188, 189, 190, 191, 192, 193, 194, 195, 196, 197, 198, 199, 200, 201, 202, 203, 204, 205, 206, 207, 71, 342, 343, 344, 345, 346, 347, 348, 349, 359, 360, 361, 362, 363, 364, 350, 351, 352, 353, 354, 355, 356, 357, 358, 365, 366, 367, 368, 369, 370, 371, 372, 373, 374, 375, 376, 377, 378, 379, 380, 381, 382, 383] (by decide +kernel) (by decide +kernel)
set_option maxRecDepth 20000 in
theorem gL_albums_X8_satisfies : GoodIn wsL_albums (wsV RL 86 RX8 yX8_satisfies wsX8_satisfies) := goodIn_app (goodIn_of _ (by decide +kernel)) ggL_albums_X8_satisfies
set_option maxRecDepth 20000 in
theorem ggL_albums_X8_albumSize : GoodIn wsL_albums wsX8_albumSize := goodIn_r _ [211, 47, 48, 49, 50, 17, 51, 34, 35, 36, 52, 53, 54, 55, 56, 57, 66, 67, 68, 69, 70, 212, 213, 214, 215, 216, 217, 218, 342, 343, 344, 345, 346, 347, 348, 349, 352, 353, 354, 355, 356, 357, 358] (by decide +kernel) (by decide +kernel)
set_option maxRecDepth 20000 in
theorem gL_albums_X8_albumSize : GoodIn wsL_albums (wsV RL 89 RX8 yX8_albumSize wsX8_albumSize) := goodIn_app (goodIn_of _ (by decide +kernel)) ggL_albums_X8_albumSize
set_option maxRecDepth 20000 in
theorem ggL_albums_X8_select : GoodIn wsL_albums wsX8_select := goodIn_r _ [222, 76, 19, 77, 78, 79, 17, 80, 81, 82, 83, 23, 84, 25, 41, 85, 86, 87, 88, 89, 90, 91, 92, 93, 94, 95, 96, 97, 98, 99, 100, 101, 102, 103, 104, 105, 106, 107, 108, 109, 110, 111, 112, 113, 48, 49, 50, 51, 47, 34, 35, 36, 52, 53, 54, 55, 56, 57, 114, 115, 116, 117, 118, 119, 120, 121, 122, 123, 124, 125, 126, 127, 128, 129, 130, 61, 131, 63, 132, 21, 22, 24, 133, 134, 135, 136, 137, 138, 139, 140, 141, 142, 143, 144, 145, 146, 147, 64, 65, 148, 149, 150, 151, 152, 153, 154, 155, 156, 157, 158, 159, 160, 67, 68, 69, 70, 161, 162, 163, 164, 165, 166, 167, 168, 169, 170, 171, 172, 173, 174, 175, 176, 177, 178, 179, 180, 181, 182, 183, 184, 185, 186, 187, 188, 189, 190, 191, 192, 193, 194, 195, 196, 197, 198, 199, 200, 201, 202, 203, 204, 205, 206, 207, 212, 213, 214, 215, 216, 217, 218, 342, 343, 344, 345, 346, 347, 348, 349, 350, 351, 352, 353, 354, 355, 356, 357, 358, 365, 366, 367, 368, 369, 370, 371, 372, 359, 360, 361, 362, 363, 364, 373, 374, 375, 376, 377, 378, 379, 380, 381, 382, 383] (by decide +kernel) (by decide +kernel)
set_option maxRecDepth 20000 in
theorem gL_albums_X8_select : GoodIn wsL_albums (wsV RL 92 RX8 yX8_select wsX8_select) := goodIn_app (goodIn_of _ (by decide +kernel)) ggL_albums_X8_select
set_option maxRecDepth 20000 in
theorem ggL_albums_X8_turnover : GoodIn wsL_albums wsX8_turnover := goodIn_r _ [226, 47, 48, 49, 50, 17, 51, 34, 35, 36, 52, 53, 54, 55, 56, 57, 227, 228, 229, 230, 231, 232, 233, 234, 235, 236, 342, 343, 344, 345, 346, 347, 348, 349, 352, 353, 354, 355, 356, 357, 358] (by decide +kernel) (by decide +kernel)
set_option maxRecDepth 20000 in
theorem gL_albums_X8_turnover : GoodIn wsL_albums (wsV RL 95 RX8 yX8_turnover wsX8_turnover) := goodIn_app (goodIn_of _ (by decide +kernel)) ggL_albums_X8_turnover
set_option maxRecDepth 20000 in
theorem ggL_albums_X8_viewSize : GoodIn wsL_albums wsX8_viewSize := goodIn_r _ [240, 241, 47, 48, 49, 50, 17, 51, 34, 35, 36, 52, 53, 54, 55, 56, 57, 242, 243, 244, 245, 246, 247, 248, 67, 68, 69, 70, 249, 250, 251, 164, 252, 253, 254, 255, 256, 257, 258, 259, 260, 261, 262, 263, 264, 265, 266, 267, 64, 65, 153, 154, 268, 269, 270, 271, 272, 273, 274, 149, 150, 61, 151, 152, 212, 213, 214, 215, 216, 217, 218, 342, 343, 344, 345, 346, 347, 348, 349, 352, 353, 354, 355, 356, 357, 358, 384, 385, 373, 374, 375, 376, 377, 378, 379, 380, 359, 360, 361, 362, 363, 364] (by decide +kernel) (by decide +kernel)
set_option maxRecDepth 20000 in
theorem gL_albums_X8_viewSize : GoodIn wsL_albums (wsV RL 98 RX8 yX8_viewSize wsX8_viewSize) := goodIn_app (goodIn_of _ (by decide +kernel)) ggL_albums_X8_viewSize
set_option maxRecDepth 20000 in
theorem ggL_albums_X8_viewAt : GoodIn wsL_albums wsX8_viewAt := goodIn_r _ [278, 241, 47, 48, 49, 50, 17, 51, 34, 35, 36, 52, 53, 54, 55, 56, 57, 279, 280, 281, 245, 282, 283, 243, 244, 246, 247, 248, 67, 68, 69, 70, 249, 250, 251, 164, 252, 253, 254, 255, 256, 257, 258, 259, 260, 261, 262, 263, 264, 265, 266, 267, 64, 65, 153, 154, 268, 269, 270, 271, 272, 273, 274, 149, 150, 61, 151, 152, 284, 285, 286, 287, 288, 289, 290, 291, 292, 293, 294, 295, 296, 297, 298, 299, 300, 301, 302, 303, 304, 305, 306, 342, 343, 344, 345, 346, 347, 348, 349, 352, 353, 354, 355, 356, 357, 358, 384, 385, 373, 374, 375, 376, 377, 378, 379, 380, 359, 360, 361, 362, 363, 364] (by decide +kernel) (by decide +kernel)
set_option maxRecDepth 20000 in
theorem gL_albums_X8_viewAt : GoodIn wsL_albums (wsV RL 101 RX8 yX8_viewAt wsX8_viewAt) := goodIn_app (goodIn_of _ (by decide +kernel)) ggL_albums_X8_viewAt
set_option maxRecDepth 20000 in
theorem ggL_albums_X8_value : GoodIn wsL_albums wsX8_value := goodIn_r _ [310, 46, 58, 59, 60, 61, 62, 63, 35, 17, 36, 64, 65, 34, 311, 312, 313, 314, 315, 316, 317, 318, 319, 320, 321, 149, 150, 151, 152, 304, 305, 306, 342, 343, 344, 345, 346, 347, 348, 349, 359, 360, 361, 362, 363, 364] (by decide +kernel) (by decide +kernel)
set_option maxRecDepth 20000 in
theorem gL_albums_X8_value : GoodIn wsL_albums (wsV RL 104 RX8 yX8_value wsX8_value) := goodIn_app (goodIn_of _ (by decide +kernel)) ggL_albums_X8_value
set_option maxRecDepth 20000 in
theorem ggL_albums_X8_stackOf : GoodIn wsL_albums wsX8_stackOf := goodIn_r _ [325, 46, 326, 58, 59, 60, 61, 62, 63, 35, 17, 36, 64, 65, 327, 328, 329, 164, 330, 331, 304, 305, 306, 342, 343, 344, 345, 346, 347, 348, 349, 359, 360, 361, 362, 363, 364, 373, 374, 375, 376, 377, 378, 379, 380] (by decide +kernel) (by decide +kernel)
set_option maxRecDepth 20000 in
theorem gL_albums_X8_stackOf : GoodIn wsL_albums (wsV RL 107 RX8 yX8_stackOf wsX8_stackOf) := goodIn_app (goodIn_of _ (by decide +kernel)) ggL_albums_X8_stackOf
set_option maxRecDepth 20000 in
theorem ggL_albums_X8_collapse : GoodIn wsL_albums wsX8_collapse := goodIn_r _ [335, 326, 336, 250, 251, 164, 252, 253, 35, 17, 36, 34, 337, 255, 256, 257, 258, 338, 339, 340, 341, 342, 343, 344, 345, 346, 347, 348, 349, 373, 374, 375, 376, 377, 378, 379, 380] (by decide +kernel) (by decide +kernel)
set_option maxRecDepth 20000 in
theorem gL_albums_X8_collapse : GoodIn wsL_albums (wsV RL 55 RX8 yX8_collapse wsX8_collapse) := goodIn_app (goodIn_of _ (by decide +kernel)) ggL_albums_X8_collapse
theorem dL_albums_0 : decode cL_albums 0 = .ok (.iconst 1, 1) := by decide +kernel
theorem dL_albums_1 : decode cL_albums 1 = .ok (.istore_n 1, 1) := by decide +kernel
theorem dL_albums_2 : decode cL_albums 2 = .ok (.iconst 0, 1) := by decide +kernel
theorem dL_albums_3 : decode cL_albums 3 = .ok (.istore_n 2, 1) := by decide +kernel
theorem dL_albums_4 : decode cL_albums 4 = .ok (.iload_n 2, 1) := by decide +kernel
theorem dL_albums_5 : decode cL_albums 5 = .ok (.iconst 5, 1) := by decide +kernel
theorem dL_albums_6 : decode cL_albums 6 = .ok (.if_icmp .ge 324, 3) := by decide +kernel
theorem dL_albums_9 : decode cL_albums 9 = .ok (.iload_n 1, 1) := by decide +kernel
theorem dL_albums_10 : decode cL_albums 10 = .ok (.ifCond .eq 320, 3) := by decide +kernel
theorem dL_albums_13 : decode cL_albums 13 = .ok (.iconst 0, 1) := by decide +kernel
theorem dL_albums_14 : decode cL_albums 14 = .ok (.istore_n 3, 1) := by decide +kernel
theorem dL_albums_15 : decode cL_albums 15 = .ok (.aload_n 0, 1) := by decide +kernel
theorem dL_albums_16 : decode cL_albums 16 = .ok (.iload_n 2, 1) := by decide +kernel
theorem dL_albums_17 : decode cL_albums 17 = .ok (.invokestatic 73, 3) := by decide +kernel
theorem dL_albums_20 : decode cL_albums 20 = .ok (.invokestatic 79, 3) := by decide +kernel
theorem dL_albums_23 : decode cL_albums 23 = .ok (.istore_n 1, 1) := by decide +kernel
theorem dL_albums_24 : decode cL_albums 24 = .ok (.iconst 0, 1) := by decide +kernel
theorem dL_albums_25 : decode cL_albums 25 = .ok (.istore 4, 2) := by decide +kernel
theorem dL_albums_27 : decode cL_albums 27 = .ok (.iload 4, 2) := by decide +kernel
theorem dL_albums_29 : decode cL_albums 29 = .ok (.bipush 40, 2) := by decide +kernel
theorem dL_albums_31 : decode cL_albums 31 = .ok (.if_icmp .ge 53, 3) := by decide +kernel
theorem dL_albums_34 : decode cL_albums 34 = .ok (.iload_n 1, 1) := by decide +kernel
theorem dL_albums_35 : decode cL_albums 35 = .ok (.ifCond .eq 49, 3) := by decide +kernel
theorem dL_albums_38 : decode cL_albums 38 = .ok (.aload_n 0, 1) := by decide +kernel
theorem dL_albums_39 : decode cL_albums 39 = .ok (.iload_n 2, 1) := by decide +kernel
theorem dL_albums_40 : decode cL_albums 40 = .ok (.iload 4, 2) := by decide +kernel
theorem dL_albums_42 : decode cL_albums 42 = .ok (.invokevirtual 83, 3) := by decide +kernel
theorem dL_albums_45 : decode cL_albums 45 = .ok (.istore 5, 2) := by decide +kernel
theorem dL_albums_47 : decode cL_albums 47 = .ok (.aload_n 0, 1) := by decide +kernel
theorem dL_albums_48 : decode cL_albums 48 = .ok (.iload 4, 2) := by decide +kernel
theorem dL_albums_50 : decode cL_albums 50 = .ok (.invokevirtual 86, 3) := by decide +kernel
theorem dL_albums_53 : decode cL_albums 53 = .ok (.iload 5, 2) := by decide +kernel
theorem dL_albums_55 : decode cL_albums 55 = .ok (.if_icmp .ne 7, 3) := by decide +kernel
theorem dL_albums_58 : decode cL_albums 58 = .ok (.iconst 1, 1) := by decide +kernel
theorem dL_albums_59 : decode cL_albums 59 = .ok (.goto 4, 3) := by decide +kernel
theorem dL_albums_62 : decode cL_albums 62 = .ok (.iconst 0, 1) := by decide +kernel
theorem dL_albums_63 : decode cL_albums 63 = .ok (.istore_n 1, 1) := by decide +kernel
theorem dL_albums_64 : decode cL_albums 64 = .ok (.iload_n 3, 1) := by decide +kernel
theorem dL_albums_65 : decode cL_albums 65 = .ok (.iload 5, 2) := by decide +kernel
theorem dL_albums_67 : decode cL_albums 67 = .ok (.iconst 1, 1) := by decide +kernel
theorem dL_albums_68 : decode cL_albums 68 = .ok (.if_icmp .ne 7, 3) := by decide +kernel
theorem dL_albums_71 : decode cL_albums 71 = .ok (.iconst 1, 1) := by decide +kernel
theorem dL_albums_72 : decode cL_albums 72 = .ok (.goto 4, 3) := by decide +kernel
theorem dL_albums_75 : decode cL_albums 75 = .ok (.iconst 0, 1) := by decide +kernel
theorem dL_albums_76 : decode cL_albums 76 = .ok (.iadd, 1) := by decide +kernel
theorem dL_albums_77 : decode cL_albums 77 = .ok (.istore_n 3, 1) := by decide +kernel
theorem dL_albums_78 : decode cL_albums 78 = .ok (.iinc 4 1, 3) := by decide +kernel
theorem dL_albums_81 : decode cL_albums 81 = .ok (.goto (-54), 3) := by decide +kernel
theorem dL_albums_84 : decode cL_albums 84 = .ok (.iload_n 1, 1) := by decide +kernel
theorem dL_albums_85 : decode cL_albums 85 = .ok (.ifCond .eq 41, 3) := by decide +kernel
theorem dL_albums_88 : decode cL_albums 88 = .ok (.aload_n 0, 1) := by decide +kernel
theorem dL_albums_89 : decode cL_albums 89 = .ok (.iload_n 2, 1) := by decide +kernel
theorem dL_albums_90 : decode cL_albums 90 = .ok (.invokevirtual 89, 3) := by decide +kernel
theorem dL_albums_93 : decode cL_albums 93 = .ok (.iload_n 3, 1) := by decide +kernel
theorem dL_albums_94 : decode cL_albums 94 = .ok (.if_icmp .ne 32, 3) := by decide +kernel
theorem dL_albums_97 : decode cL_albums 97 = .ok (.aload_n 0, 1) := by decide +kernel
theorem dL_albums_98 : decode cL_albums 98 = .ok (.invokevirtual 92, 3) := by decide +kernel
theorem dL_albums_101 : decode cL_albums 101 = .ok (.iload_n 3, 1) := by decide +kernel
theorem dL_albums_102 : decode cL_albums 102 = .ok (.if_icmp .ne 24, 3) := by decide +kernel
theorem dL_albums_105 : decode cL_albums 105 = .ok (.aload_n 0, 1) := by decide +kernel
theorem dL_albums_106 : decode cL_albums 106 = .ok (.iload_n 2, 1) := by decide +kernel
theorem dL_albums_107 : decode cL_albums 107 = .ok (.iconst 1, 1) := by decide +kernel
theorem dL_albums_108 : decode cL_albums 108 = .ok (.invokevirtual 95, 3) := by decide +kernel
theorem dL_albums_111 : decode cL_albums 111 = .ok (.aload_n 0, 1) := by decide +kernel
theorem dL_albums_112 : decode cL_albums 112 = .ok (.iload_n 2, 1) := by decide +kernel
theorem dL_albums_113 : decode cL_albums 113 = .ok (.iconst 0, 1) := by decide +kernel
theorem dL_albums_114 : decode cL_albums 114 = .ok (.invokevirtual 95, 3) := by decide +kernel
theorem dL_albums_117 : decode cL_albums 117 = .ok (.isub, 1) := by decide +kernel
theorem dL_albums_118 : decode cL_albums 118 = .ok (.iload_n 3, 1) := by decide +kernel
theorem dL_albums_119 : decode cL_albums 119 = .ok (.if_icmp .ne 7, 3) := by decide +kernel
theorem dL_albums_122 : decode cL_albums 122 = .ok (.iconst 1, 1) := by decide +kernel
theorem dL_albums_123 : decode cL_albums 123 = .ok (.goto 4, 3) := by decide +kernel
theorem dL_albums_126 : decode cL_albums 126 = .ok (.iconst 0, 1) := by decide +kernel
theorem dL_albums_127 : decode cL_albums 127 = .ok (.istore_n 1, 1) := by decide +kernel
theorem dL_albums_128 : decode cL_albums 128 = .ok (.iload_n 1, 1) := by decide +kernel
theorem dL_albums_129 : decode cL_albums 129 = .ok (.ifCond .eq 11, 3) := by decide +kernel
theorem dL_albums_132 : decode cL_albums 132 = .ok (.aload_n 0, 1) := by decide +kernel
theorem dL_albums_133 : decode cL_albums 133 = .ok (.iload_n 2, 1) := by decide +kernel
theorem dL_albums_134 : decode cL_albums 134 = .ok (.invokevirtual 98, 3) := by decide +kernel
theorem dL_albums_137 : decode cL_albums 137 = .ok (.goto 4, 3) := by decide +kernel
theorem dL_albums_140 : decode cL_albums 140 = .ok (.iconst 0, 1) := by decide +kernel
theorem dL_albums_141 : decode cL_albums 141 = .ok (.istore 4, 2) := by decide +kernel
theorem dL_albums_143 : decode cL_albums 143 = .ok (.bipush 6, 2) := by decide +kernel
theorem dL_albums_145 : decode cL_albums 145 = .ok (.istore 5, 2) := by decide +kernel
theorem dL_albums_147 : decode cL_albums 147 = .ok (.iconst 0, 1) := by decide +kernel
theorem dL_albums_148 : decode cL_albums 148 = .ok (.istore 6, 2) := by decide +kernel
theorem dL_albums_150 : decode cL_albums 150 = .ok (.iload 6, 2) := by decide +kernel
theorem dL_albums_152 : decode cL_albums 152 = .ok (.iload 4, 2) := by decide +kernel
theorem dL_albums_154 : decode cL_albums 154 = .ok (.if_icmp .ge 154, 3) := by decide +kernel
theorem dL_albums_157 : decode cL_albums 157 = .ok (.iload_n 1, 1) := by decide +kernel
theorem dL_albums_158 : decode cL_albums 158 = .ok (.ifCond .eq 150, 3) := by decide +kernel
theorem dL_albums_161 : decode cL_albums 161 = .ok (.aload_n 0, 1) := by decide +kernel
theorem dL_albums_162 : decode cL_albums 162 = .ok (.iload_n 2, 1) := by decide +kernel
theorem dL_albums_163 : decode cL_albums 163 = .ok (.iload 6, 2) := by decide +kernel
theorem dL_albums_165 : decode cL_albums 165 = .ok (.invokevirtual 101, 3) := by decide +kernel
theorem dL_albums_168 : decode cL_albums 168 = .ok (.istore 7, 2) := by decide +kernel
theorem dL_albums_170 : decode cL_albums 170 = .ok (.aload_n 0, 1) := by decide +kernel
theorem dL_albums_171 : decode cL_albums 171 = .ok (.iload 7, 2) := by decide +kernel
theorem dL_albums_173 : decode cL_albums 173 = .ok (.iconst 1, 1) := by decide +kernel
theorem dL_albums_174 : decode cL_albums 174 = .ok (.invokevirtual 104, 3) := by decide +kernel
theorem dL_albums_177 : decode cL_albums 177 = .ok (.istore 8, 2) := by decide +kernel
theorem dL_albums_179 : decode cL_albums 179 = .ok (.aload_n 0, 1) := by decide +kernel
theorem dL_albums_180 : decode cL_albums 180 = .ok (.iload_n 2, 1) := by decide +kernel
theorem dL_albums_181 : decode cL_albums 181 = .ok (.iload 7, 2) := by decide +kernel
theorem dL_albums_183 : decode cL_albums 183 = .ok (.invokevirtual 83, 3) := by decide +kernel
theorem dL_albums_186 : decode cL_albums 186 = .ok (.iconst 1, 1) := by decide +kernel
theorem dL_albums_187 : decode cL_albums 187 = .ok (.if_icmp .ne 23, 3) := by decide +kernel
theorem dL_albums_190 : decode cL_albums 190 = .ok (.iload 8, 2) := by decide +kernel
theorem dL_albums_192 : decode cL_albums 192 = .ok (.ifCond .ge 7, 3) := by decide +kernel
theorem dL_albums_195 : decode cL_albums 195 = .ok (.iconst (-1), 1) := by decide +kernel
theorem dL_albums_196 : decode cL_albums 196 = .ok (.goto 5, 3) := by decide +kernel
theorem dL_albums_199 : decode cL_albums 199 = .ok (.iload 8, 2) := by decide +kernel
theorem dL_albums_201 : decode cL_albums 201 = .ok (.iload 5, 2) := by decide +kernel
theorem dL_albums_203 : decode cL_albums 203 = .ok (.if_icmp .gt 7, 3) := by decide +kernel
theorem dL_albums_206 : decode cL_albums 206 = .ok (.iconst 1, 1) := by decide +kernel
theorem dL_albums_207 : decode cL_albums 207 = .ok (.goto 4, 3) := by decide +kernel
theorem dL_albums_210 : decode cL_albums 210 = .ok (.iconst 0, 1) := by decide +kernel
theorem dL_albums_211 : decode cL_albums 211 = .ok (.istore_n 1, 1) := by decide +kernel
theorem dL_albums_212 : decode cL_albums 212 = .ok (.iload 8, 2) := by decide +kernel
theorem dL_albums_214 : decode cL_albums 214 = .ok (.ifCond .ge 7, 3) := by decide +kernel
theorem dL_albums_217 : decode cL_albums 217 = .ok (.iconst (-1), 1) := by decide +kernel
theorem dL_albums_218 : decode cL_albums 218 = .ok (.goto 5, 3) := by decide +kernel
theorem dL_albums_221 : decode cL_albums 221 = .ok (.iload 8, 2) := by decide +kernel
theorem dL_albums_223 : decode cL_albums 223 = .ok (.istore 5, 2) := by decide +kernel
theorem dL_albums_225 : decode cL_albums 225 = .ok (.iconst 0, 1) := by decide +kernel
theorem dL_albums_226 : decode cL_albums 226 = .ok (.istore 9, 2) := by decide +kernel
theorem dL_albums_228 : decode cL_albums 228 = .ok (.iload 9, 2) := by decide +kernel
theorem dL_albums_230 : decode cL_albums 230 = .ok (.iload 6, 2) := by decide +kernel
theorem dL_albums_232 : decode cL_albums 232 = .ok (.if_icmp .ge 70, 3) := by decide +kernel
theorem dL_albums_235 : decode cL_albums 235 = .ok (.iload_n 1, 1) := by decide +kernel
theorem dL_albums_236 : decode cL_albums 236 = .ok (.ifCond .eq 66, 3) := by decide +kernel
theorem dL_albums_239 : decode cL_albums 239 = .ok (.aload_n 0, 1) := by decide +kernel
theorem dL_albums_240 : decode cL_albums 240 = .ok (.iload 7, 2) := by decide +kernel
theorem dL_albums_242 : decode cL_albums 242 = .ok (.invokevirtual 107, 3) := by decide +kernel
theorem dL_albums_245 : decode cL_albums 245 = .ok (.istore 10, 2) := by decide +kernel
theorem dL_albums_247 : decode cL_albums 247 = .ok (.aload_n 0, 1) := by decide +kernel
theorem dL_albums_248 : decode cL_albums 248 = .ok (.iload_n 2, 1) := by decide +kernel
theorem dL_albums_249 : decode cL_albums 249 = .ok (.iload 9, 2) := by decide +kernel
theorem dL_albums_251 : decode cL_albums 251 = .ok (.invokevirtual 101, 3) := by decide +kernel
theorem dL_albums_254 : decode cL_albums 254 = .ok (.iload 7, 2) := by decide +kernel
theorem dL_albums_256 : decode cL_albums 256 = .ok (.if_icmp .eq 38, 3) := by decide +kernel
theorem dL_albums_259 : decode cL_albums 259 = .ok (.iload 10, 2) := by decide +kernel
theorem dL_albums_261 : decode cL_albums 261 = .ok (.ifCond .lt 29, 3) := by decide +kernel
theorem dL_albums_264 : decode cL_albums 264 = .ok (.aload_n 0, 1) := by decide +kernel
theorem dL_albums_265 : decode cL_albums 265 = .ok (.aload_n 0, 1) := by decide +kernel
theorem dL_albums_266 : decode cL_albums 266 = .ok (.iload_n 2, 1) := by decide +kernel
theorem dL_albums_267 : decode cL_albums 267 = .ok (.iload 9, 2) := by decide +kernel
theorem dL_albums_269 : decode cL_albums 269 = .ok (.invokevirtual 101, 3) := by decide +kernel
theorem dL_albums_272 : decode cL_albums 272 = .ok (.invokevirtual 107, 3) := by decide +kernel
theorem dL_albums_275 : decode cL_albums 275 = .ok (.iload 10, 2) := by decide +kernel
theorem dL_albums_277 : decode cL_albums 277 = .ok (.if_icmp .ne 13, 3) := by decide +kernel
theorem dL_albums_280 : decode cL_albums 280 = .ok (.aload_n 0, 1) := by decide +kernel
theorem dL_albums_281 : decode cL_albums 281 = .ok (.iload 10, 2) := by decide +kernel
theorem dL_albums_283 : decode cL_albums 283 = .ok (.iconst 0, 1) := by decide +kernel
theorem dL_albums_284 : decode cL_albums 284 = .ok (.invokevirtual 55, 3) := by decide +kernel
theorem dL_albums_287 : decode cL_albums 287 = .ok (.ifCond .ne 7, 3) := by decide +kernel
theorem dL_albums_290 : decode cL_albums 290 = .ok (.iconst 1, 1) := by decide +kernel
theorem dL_albums_291 : decode cL_albums 291 = .ok (.goto 4, 3) := by decide +kernel
theorem dL_albums_294 : decode cL_albums 294 = .ok (.iconst 0, 1) := by decide +kernel
theorem dL_albums_295 : decode cL_albums 295 = .ok (.istore_n 1, 1) := by decide +kernel
theorem dL_albums_296 : decode cL_albums 296 = .ok (.iinc 9 1, 3) := by decide +kernel
theorem dL_albums_299 : decode cL_albums 299 = .ok (.goto (-71), 3) := by decide +kernel
theorem dL_albums_302 : decode cL_albums 302 = .ok (.iinc 6 1, 3) := by decide +kernel
theorem dL_albums_305 : decode cL_albums 305 = .ok (.goto (-155), 3) := by decide +kernel
theorem dL_albums_308 : decode cL_albums 308 = .ok (.iload_n 1, 1) := by decide +kernel
theorem dL_albums_309 : decode cL_albums 309 = .ok (.ifCond .eq 13, 3) := by decide +kernel
theorem dL_albums_312 : decode cL_albums 312 = .ok (.iload 4, 2) := by decide +kernel
theorem dL_albums_314 : decode cL_albums 314 = .ok (.iload_n 3, 1) := by decide +kernel
theorem dL_albums_315 : decode cL_albums 315 = .ok (.if_icmp .gt 7, 3) := by decide +kernel
theorem dL_albums_318 : decode cL_albums 318 = .ok (.iconst 1, 1) := by decide +kernel
theorem dL_albums_319 : decode cL_albums 319 = .ok (.goto 4, 3) := by decide +kernel
theorem dL_albums_322 : decode cL_albums 322 = .ok (.iconst 0, 1) := by decide +kernel
theorem dL_albums_323 : decode cL_albums 323 = .ok (.istore_n 1, 1) := by decide +kernel
theorem dL_albums_324 : decode cL_albums 324 = .ok (.iinc 2 1, 3) := by decide +kernel
theorem dL_albums_327 : decode cL_albums 327 = .ok (.goto (-323), 3) := by decide +kernel
theorem dL_albums_330 : decode cL_albums 330 = .ok (.iload_n 1, 1) := by decide +kernel
theorem dL_albums_331 : decode cL_albums 331 = .ok (.ireturn, 1) := by decide +kernel
set_option maxRecDepth 20000 in
theorem ggL_groups_X8_keeperOf : GoodIn wsL_groups wsX8_keeperOf := goodIn_r _ [5, 6, 7, 8, 9, 10, 11, 12, 13, 14, 4, 15, 16, 17, 18, 19, 20, 21, 22, 23, 24, 25, 26, 27, 28, 29, 30, 31, 32, 33, 34, 35, 36, 37, 38, 39, 40, 41, 42, 43, 44, 45, 46, 47, 180, 181, 182, 183, 184, 185, 186, 187, 188, 189, 190, 191, 192, 193, 194, 195, 196] (by decide +kernel) (by decide +kernel)
set_option maxRecDepth 20000 in
theorem gL_groups_X8_keeperOf : GoodIn wsL_groups (wsV RL 110 RX8 yX8_keeperOf wsX8_keeperOf) := goodIn_app (goodIn_of _ (by decide +kernel)) ggL_groups_X8_keeperOf
set_option maxRecDepth 20000 in
theorem ggL_groups_X8_value : GoodIn wsL_groups wsX8_value := goodIn_r _ [51, 6, 8, 9, 10, 11, 12, 13, 14, 4, 15, 16, 17, 52, 53, 54, 55, 56, 28, 57, 58, 59, 60, 61, 62, 40, 41, 42, 43, 63, 64, 65, 180, 181, 182, 183, 184, 185, 186, 187, 188, 189, 190, 191, 192, 193] (by decide +kernel) (by decide +kernel)
set_option maxRecDepth 20000 in
theorem gL_groups_X8_value : GoodIn wsL_groups (wsV RL 104 RX8 yX8_value wsX8_value) := goodIn_app (goodIn_of _ (by decide +kernel)) ggL_groups_X8_value
set_option maxRecDepth 20000 in
theorem ggL_groups_X8_groupSize : GoodIn wsL_groups wsX8_groupSize := goodIn_r _ [69, 6, 8, 9, 10, 11, 12, 13, 14, 4, 15, 16, 17, 70, 25, 26, 27, 28, 29, 30, 71, 72, 73, 74, 75, 76, 77, 180, 181, 182, 183, 184, 185, 186, 187, 188, 189, 190, 191, 192, 193] (by decide +kernel) (by decide +kernel)
set_option maxRecDepth 20000 in
theorem gL_groups_X8_groupSize : GoodIn wsL_groups (wsV RL 113 RX8 yX8_groupSize wsX8_groupSize) := goodIn_app (goodIn_of _ (by decide +kernel)) ggL_groups_X8_groupSize
set_option maxRecDepth 20000 in
theorem ggL_groups_X8_stackOf : GoodIn wsL_groups wsX8_stackOf := goodIn_r _ [81, 6, 82, 8, 9, 10, 11, 12, 13, 14, 4, 15, 16, 17, 83, 84, 85, 86, 87, 88, 63, 64, 65, 180, 181, 182, 183, 184, 185, 186, 187, 188, 189, 190, 191, 192, 193, 197, 198, 199, 200, 201, 202, 203, 204] (by decide +kernel) (by decide +kernel)
set_option maxRecDepth 20000 in
theorem gL_groups_X8_stackOf : GoodIn wsL_groups (wsV RL 107 RX8 yX8_stackOf wsX8_stackOf) := goodIn_app (goodIn_of _ (by decide +kernel)) ggL_groups_X8_stackOf
set_option maxRecDepth 20000 in
theorem ggL_groups_X8_coverOf : GoodIn wsL_groups wsX8_coverOf := goodIn_r _ [92, 82, 93, 94, 95, 86, 96, 97, 14, 4, 15, 98, 99, 100, 101, 102, 103, 104, 105, 106, 107, 108, 40, 41, 11, 42, 43, 180, 181, 182, 183, 184, 185, 186, 187, 197, 198, 199, 200, 201, 202, 203, 204, 188, 189, 190, 191, 192, 193] (by decide +kernel) (by decide +kernel)
set_option maxRecDepth 20000 in
theorem gL_groups_X8_coverOf : GoodIn wsL_groups (wsV RL 116 RX8 yX8_coverOf wsX8_coverOf) := goodIn_app (goodIn_of _ (by decide +kernel)) ggL_groups_X8_coverOf
set_option maxRecDepth 20000 in
theorem ggL_groups_X8_stackAt : GoodIn wsL_groups wsX8_stackAt := goodIn_r _ [112, 82, 93, 94, 95, 86, 96, 97, 14, 4, 15, 113, 114, 115, 116, 103, 105, 106, 107, 63, 64, 65, 180, 181, 182, 183, 184, 185, 186, 187, 197, 198, 199, 200, 201, 202, 203, 204] (by decide +kernel) (by decide +kernel)
set_option maxRecDepth 20000 in
theorem gL_groups_X8_stackAt : GoodIn wsL_groups (wsV RL 119 RX8 yX8_stackAt wsX8_stackAt) := goodIn_app (goodIn_of _ (by decide +kernel)) ggL_groups_X8_stackAt
set_option maxRecDepth 20000 in
theorem ggL_groups_X8_wasted : GoodIn wsL_groups wsX8_wasted := goodIn_r _ [120, 6, 7, 121, 122, 123, 124, 11, 125, 13, 126, 127, 128, 21, 129, 130, 131, 132, 133, 134, 61, 16, 4, 17, 180, 181, 182, 183, 184, 185, 186, 187, 188, 189, 190, 191, 192, 193, 194, 195, 196] (by decide +kernel) (by decide +kernel)
set_option maxRecDepth 20000 in
theorem gL_groups_X8_wasted : GoodIn wsL_groups (wsV RL 122 RX8 yX8_wasted wsX8_wasted) := goodIn_app (goodIn_of _ (by decide +kernel)) ggL_groups_X8_wasted
set_option maxRecDepth 20000 in
theorem ggL_groups_X8_count : GoodIn wsL_groups wsX8_count := goodIn_r _ [138, 82, 7, 6, 139, 140, 141, 86, 142, 143, 94, 95, 96, 97, 14, 4, 15, 144, 145, 146, 147, 148, 149, 150, 151, 152, 52, 153, 154, 155, 156, 157, 158, 126, 127, 128, 21, 129, 130, 159, 160, 161, 162, 163, 71, 72, 73, 74, 75, 76, 77, 164, 165, 166, 167, 168, 122, 123, 124, 11, 125, 13, 131, 132, 133, 134, 61, 16, 17, 180, 181, 182, 183, 184, 185, 186, 187, 197, 198, 199, 200, 201, 202, 203, 204, 205, 206, 207, 208, 209, 210, 211, 194, 195, 196, 188, 189, 190, 191, 192, 193] (by decide +kernel) (by decide +kernel)
set_option maxRecDepth 20000 in
theorem gL_groups_X8_count : GoodIn wsL_groups (wsV RL 125 RX8 yX8_count wsX8_count) := goodIn_app (goodIn_of _ (by decide +kernel)) ggL_groups_X8_count
set_option maxRecDepth 20000 in
theorem ggL_groups_X8_journalSize : GoodIn wsL_groups wsX8_journalSize := goodIn_r _ [172, 173, 174, 175, 176, 177, 178, 179, 180, 181, 182, 183, 184, 185, 186, 187, 212, 213, 214, 215, 216] (by decide +kernel) (by decide +kernel)
set_option maxRecDepth 20000 in
theorem gL_groups_X8_journalSize : GoodIn wsL_groups (wsV RL 128 RX8 yX8_journalSize wsX8_journalSize) := goodIn_app (goodIn_of _ (by decide +kernel)) ggL_groups_X8_journalSize
theorem dL_groups_0 : decode cL_groups 0 = .ok (.iconst 0, 1) := by decide +kernel
theorem dL_groups_1 : decode cL_groups 1 = .ok (.istore_n 1, 1) := by decide +kernel
theorem dL_groups_2 : decode cL_groups 2 = .ok (.iconst 0, 1) := by decide +kernel
theorem dL_groups_3 : decode cL_groups 3 = .ok (.istore_n 2, 1) := by decide +kernel
theorem dL_groups_4 : decode cL_groups 4 = .ok (.iconst 0, 1) := by decide +kernel
theorem dL_groups_5 : decode cL_groups 5 = .ok (.istore_n 3, 1) := by decide +kernel
theorem dL_groups_6 : decode cL_groups 6 = .ok (.iconst 1, 1) := by decide +kernel
theorem dL_groups_7 : decode cL_groups 7 = .ok (.istore 4, 2) := by decide +kernel
theorem dL_groups_9 : decode cL_groups 9 = .ok (.iconst 0, 1) := by decide +kernel
theorem dL_groups_10 : decode cL_groups 10 = .ok (.istore 5, 2) := by decide +kernel
theorem dL_groups_12 : decode cL_groups 12 = .ok (.iload 5, 2) := by decide +kernel
theorem dL_groups_14 : decode cL_groups 14 = .ok (.bipush 40, 2) := by decide +kernel
theorem dL_groups_16 : decode cL_groups 16 = .ok (.if_icmp .ge 200, 3) := by decide +kernel
theorem dL_groups_19 : decode cL_groups 19 = .ok (.iload 4, 2) := by decide +kernel
theorem dL_groups_21 : decode cL_groups 21 = .ok (.ifCond .eq 195, 3) := by decide +kernel
theorem dL_groups_24 : decode cL_groups 24 = .ok (.aload_n 0, 1) := by decide +kernel
theorem dL_groups_25 : decode cL_groups 25 = .ok (.iload 5, 2) := by decide +kernel
theorem dL_groups_27 : decode cL_groups 27 = .ok (.invokevirtual 110, 3) := by decide +kernel
theorem dL_groups_30 : decode cL_groups 30 = .ok (.istore 6, 2) := by decide +kernel
theorem dL_groups_32 : decode cL_groups 32 = .ok (.iload 6, 2) := by decide +kernel
theorem dL_groups_34 : decode cL_groups 34 = .ok (.ifCond .lt 176, 3) := by decide +kernel
theorem dL_groups_37 : decode cL_groups 37 = .ok (.aload_n 0, 1) := by decide +kernel
theorem dL_groups_38 : decode cL_groups 38 = .ok (.iload 6, 2) := by decide +kernel
theorem dL_groups_40 : decode cL_groups 40 = .ok (.invokevirtual 110, 3) := by decide +kernel
theorem dL_groups_43 : decode cL_groups 43 = .ok (.iload 6, 2) := by decide +kernel
theorem dL_groups_45 : decode cL_groups 45 = .ok (.if_icmp .ne 41, 3) := by decide +kernel
theorem dL_groups_48 : decode cL_groups 48 = .ok (.aload_n 0, 1) := by decide +kernel
theorem dL_groups_49 : decode cL_groups 49 = .ok (.iload 6, 2) := by decide +kernel
theorem dL_groups_51 : decode cL_groups 51 = .ok (.bipush 6, 2) := by decide +kernel
theorem dL_groups_53 : decode cL_groups 53 = .ok (.invokevirtual 104, 3) := by decide +kernel
theorem dL_groups_56 : decode cL_groups 56 = .ok (.aload_n 0, 1) := by decide +kernel
theorem dL_groups_57 : decode cL_groups 57 = .ok (.iload 5, 2) := by decide +kernel
theorem dL_groups_59 : decode cL_groups 59 = .ok (.bipush 6, 2) := by decide +kernel
theorem dL_groups_61 : decode cL_groups 61 = .ok (.invokevirtual 104, 3) := by decide +kernel
theorem dL_groups_64 : decode cL_groups 64 = .ok (.if_icmp .ne 22, 3) := by decide +kernel
theorem dL_groups_67 : decode cL_groups 67 = .ok (.aload_n 0, 1) := by decide +kernel
theorem dL_groups_68 : decode cL_groups 68 = .ok (.iload 6, 2) := by decide +kernel
theorem dL_groups_70 : decode cL_groups 70 = .ok (.invokevirtual 113, 3) := by decide +kernel
theorem dL_groups_73 : decode cL_groups 73 = .ok (.aload_n 0, 1) := by decide +kernel
theorem dL_groups_74 : decode cL_groups 74 = .ok (.iload 5, 2) := by decide +kernel
theorem dL_groups_76 : decode cL_groups 76 = .ok (.invokevirtual 113, 3) := by decide +kernel
theorem dL_groups_79 : decode cL_groups 79 = .ok (.if_icmp .ne 7, 3) := by decide +kernel
theorem dL_groups_82 : decode cL_groups 82 = .ok (.iconst 1, 1) := by decide +kernel
theorem dL_groups_83 : decode cL_groups 83 = .ok (.goto 4, 3) := by decide +kernel
theorem dL_groups_86 : decode cL_groups 86 = .ok (.iconst 0, 1) := by decide +kernel
theorem dL_groups_87 : decode cL_groups 87 = .ok (.istore 4, 2) := by decide +kernel
theorem dL_groups_89 : decode cL_groups 89 = .ok (.iload_n 1, 1) := by decide +kernel
theorem dL_groups_90 : decode cL_groups 90 = .ok (.iload 6, 2) := by decide +kernel
theorem dL_groups_92 : decode cL_groups 92 = .ok (.iload 5, 2) := by decide +kernel
theorem dL_groups_94 : decode cL_groups 94 = .ok (.if_icmp .ne 7, 3) := by decide +kernel
theorem dL_groups_97 : decode cL_groups 97 = .ok (.iconst 0, 1) := by decide +kernel
theorem dL_groups_98 : decode cL_groups 98 = .ok (.goto 11, 3) := by decide +kernel
theorem dL_groups_101 : decode cL_groups 101 = .ok (.aload_n 0, 1) := by decide +kernel
theorem dL_groups_102 : decode cL_groups 102 = .ok (.iload 5, 2) := by decide +kernel
theorem dL_groups_104 : decode cL_groups 104 = .ok (.bipush 7, 2) := by decide +kernel
theorem dL_groups_106 : decode cL_groups 106 = .ok (.invokevirtual 104, 3) := by decide +kernel
theorem dL_groups_109 : decode cL_groups 109 = .ok (.iadd, 1) := by decide +kernel
theorem dL_groups_110 : decode cL_groups 110 = .ok (.istore_n 1, 1) := by decide +kernel
theorem dL_groups_111 : decode cL_groups 111 = .ok (.iload_n 2, 1) := by decide +kernel
theorem dL_groups_112 : decode cL_groups 112 = .ok (.aload_n 0, 1) := by decide +kernel
theorem dL_groups_113 : decode cL_groups 113 = .ok (.iload 5, 2) := by decide +kernel
theorem dL_groups_115 : decode cL_groups 115 = .ok (.bipush 7, 2) := by decide +kernel
theorem dL_groups_117 : decode cL_groups 117 = .ok (.invokevirtual 104, 3) := by decide +kernel
theorem dL_groups_120 : decode cL_groups 120 = .ok (.iadd, 1) := by decide +kernel
theorem dL_groups_121 : decode cL_groups 121 = .ok (.istore_n 2, 1) := by decide +kernel
theorem dL_groups_122 : decode cL_groups 122 = .ok (.iload_n 3, 1) := by decide +kernel
theorem dL_groups_123 : decode cL_groups 123 = .ok (.iload 6, 2) := by decide +kernel
theorem dL_groups_125 : decode cL_groups 125 = .ok (.iload 5, 2) := by decide +kernel
theorem dL_groups_127 : decode cL_groups 127 = .ok (.if_icmp .ne 17, 3) := by decide +kernel
theorem dL_groups_130 : decode cL_groups 130 = .ok (.aload_n 0, 1) := by decide +kernel
theorem dL_groups_131 : decode cL_groups 131 = .ok (.iload 5, 2) := by decide +kernel
theorem dL_groups_133 : decode cL_groups 133 = .ok (.invokevirtual 113, 3) := by decide +kernel
theorem dL_groups_136 : decode cL_groups 136 = .ok (.iconst 1, 1) := by decide +kernel
theorem dL_groups_137 : decode cL_groups 137 = .ok (.if_icmp .le 7, 3) := by decide +kernel
theorem dL_groups_140 : decode cL_groups 140 = .ok (.iconst 1, 1) := by decide +kernel
theorem dL_groups_141 : decode cL_groups 141 = .ok (.goto 4, 3) := by decide +kernel
theorem dL_groups_144 : decode cL_groups 144 = .ok (.iconst 0, 1) := by decide +kernel
theorem dL_groups_145 : decode cL_groups 145 = .ok (.iadd, 1) := by decide +kernel
theorem dL_groups_146 : decode cL_groups 146 = .ok (.istore_n 3, 1) := by decide +kernel
theorem dL_groups_147 : decode cL_groups 147 = .ok (.aload_n 0, 1) := by decide +kernel
theorem dL_groups_148 : decode cL_groups 148 = .ok (.iload 5, 2) := by decide +kernel
theorem dL_groups_150 : decode cL_groups 150 = .ok (.invokevirtual 107, 3) := by decide +kernel
theorem dL_groups_153 : decode cL_groups 153 = .ok (.istore 7, 2) := by decide +kernel
theorem dL_groups_155 : decode cL_groups 155 = .ok (.iload 4, 2) := by decide +kernel
theorem dL_groups_157 : decode cL_groups 157 = .ok (.ifCond .eq 50, 3) := by decide +kernel
theorem dL_groups_160 : decode cL_groups 160 = .ok (.iload 7, 2) := by decide +kernel
theorem dL_groups_162 : decode cL_groups 162 = .ok (.ifCond .lt 41, 3) := by decide +kernel
theorem dL_groups_165 : decode cL_groups 165 = .ok (.aload_n 0, 1) := by decide +kernel
theorem dL_groups_166 : decode cL_groups 166 = .ok (.aload_n 0, 1) := by decide +kernel
theorem dL_groups_167 : decode cL_groups 167 = .ok (.iload 7, 2) := by decide +kernel
theorem dL_groups_169 : decode cL_groups 169 = .ok (.invokevirtual 116, 3) := by decide +kernel
theorem dL_groups_172 : decode cL_groups 172 = .ok (.invokevirtual 107, 3) := by decide +kernel
theorem dL_groups_175 : decode cL_groups 175 = .ok (.iload 7, 2) := by decide +kernel
theorem dL_groups_177 : decode cL_groups 177 = .ok (.if_icmp .ne 30, 3) := by decide +kernel
theorem dL_groups_180 : decode cL_groups 180 = .ok (.aload_n 0, 1) := by decide +kernel
theorem dL_groups_181 : decode cL_groups 181 = .ok (.iload 7, 2) := by decide +kernel
theorem dL_groups_183 : decode cL_groups 183 = .ok (.iconst 1, 1) := by decide +kernel
theorem dL_groups_184 : decode cL_groups 184 = .ok (.invokevirtual 119, 3) := by decide +kernel
theorem dL_groups_187 : decode cL_groups 187 = .ok (.ifCond .lt 20, 3) := by decide +kernel
theorem dL_groups_190 : decode cL_groups 190 = .ok (.aload_n 0, 1) := by decide +kernel
theorem dL_groups_191 : decode cL_groups 191 = .ok (.iload 7, 2) := by decide +kernel
theorem dL_groups_193 : decode cL_groups 193 = .ok (.bipush 8, 2) := by decide +kernel
theorem dL_groups_195 : decode cL_groups 195 = .ok (.invokevirtual 119, 3) := by decide +kernel
theorem dL_groups_198 : decode cL_groups 198 = .ok (.bipush (-4), 2) := by decide +kernel
theorem dL_groups_200 : decode cL_groups 200 = .ok (.if_icmp .ne 7, 3) := by decide +kernel
theorem dL_groups_203 : decode cL_groups 203 = .ok (.iconst 1, 1) := by decide +kernel
theorem dL_groups_204 : decode cL_groups 204 = .ok (.goto 4, 3) := by decide +kernel
theorem dL_groups_207 : decode cL_groups 207 = .ok (.iconst 0, 1) := by decide +kernel
theorem dL_groups_208 : decode cL_groups 208 = .ok (.istore 4, 2) := by decide +kernel
theorem dL_groups_210 : decode cL_groups 210 = .ok (.iinc 5 1, 3) := by decide +kernel
theorem dL_groups_213 : decode cL_groups 213 = .ok (.goto (-201), 3) := by decide +kernel
theorem dL_groups_216 : decode cL_groups 216 = .ok (.iload 4, 2) := by decide +kernel
theorem dL_groups_218 : decode cL_groups 218 = .ok (.ifCond .eq 42, 3) := by decide +kernel
theorem dL_groups_221 : decode cL_groups 221 = .ok (.aload_n 0, 1) := by decide +kernel
theorem dL_groups_222 : decode cL_groups 222 = .ok (.invokevirtual 122, 3) := by decide +kernel
theorem dL_groups_225 : decode cL_groups 225 = .ok (.iload_n 1, 1) := by decide +kernel
theorem dL_groups_226 : decode cL_groups 226 = .ok (.if_icmp .ne 34, 3) := by decide +kernel
theorem dL_groups_229 : decode cL_groups 229 = .ok (.aload_n 0, 1) := by decide +kernel
theorem dL_groups_230 : decode cL_groups 230 = .ok (.iconst 4, 1) := by decide +kernel
theorem dL_groups_231 : decode cL_groups 231 = .ok (.invokevirtual 125, 3) := by decide +kernel
theorem dL_groups_234 : decode cL_groups 234 = .ok (.iload_n 2, 1) := by decide +kernel
theorem dL_groups_235 : decode cL_groups 235 = .ok (.if_icmp .ne 25, 3) := by decide +kernel
theorem dL_groups_238 : decode cL_groups 238 = .ok (.aload_n 0, 1) := by decide +kernel
theorem dL_groups_239 : decode cL_groups 239 = .ok (.iconst 2, 1) := by decide +kernel
theorem dL_groups_240 : decode cL_groups 240 = .ok (.invokevirtual 125, 3) := by decide +kernel
theorem dL_groups_243 : decode cL_groups 243 = .ok (.iload_n 3, 1) := by decide +kernel
theorem dL_groups_244 : decode cL_groups 244 = .ok (.if_icmp .ne 16, 3) := by decide +kernel
theorem dL_groups_247 : decode cL_groups 247 = .ok (.aload_n 0, 1) := by decide +kernel
theorem dL_groups_248 : decode cL_groups 248 = .ok (.invokevirtual 128, 3) := by decide +kernel
theorem dL_groups_251 : decode cL_groups 251 = .ok (.bipush 24, 2) := by decide +kernel
theorem dL_groups_253 : decode cL_groups 253 = .ok (.if_icmp .gt 7, 3) := by decide +kernel
theorem dL_groups_256 : decode cL_groups 256 = .ok (.iconst 1, 1) := by decide +kernel
theorem dL_groups_257 : decode cL_groups 257 = .ok (.goto 4, 3) := by decide +kernel
theorem dL_groups_260 : decode cL_groups 260 = .ok (.iconst 0, 1) := by decide +kernel
theorem dL_groups_261 : decode cL_groups 261 = .ok (.ireturn, 1) := by decide +kernel
