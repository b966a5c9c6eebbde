theorem dX5_inItem_12 : decode cX5_inItem 12 = .ok (.iload_n 1, 1) := by decide +kernel
theorem dX5_inItem_13 : decode cX5_inItem 13 = .ok (.bipush 10, 2) := by decide +kernel
theorem dX5_inItem_15 : decode cX5_inItem 15 = .ok (.if_icmp .ge 5, 3) := by decide +kernel
theorem dX5_inItem_18 : decode cX5_inItem 18 = .ok (.iconst 0, 1) := by decide +kernel
theorem dX5_inItem_19 : decode cX5_inItem 19 = .ok (.ireturn, 1) := by decide +kernel
theorem dX5_inItem_20 : decode cX5_inItem 20 = .ok (.iload_n 0, 1) := by decide +kernel
theorem dX5_inItem_21 : decode cX5_inItem 21 = .ok (.invokestatic 51, 3) := by decide +kernel
theorem dX5_inItem_24 : decode cX5_inItem 24 = .ok (.iconst (-1), 1) := by decide +kernel
theorem dX5_inItem_25 : decode cX5_inItem 25 = .ok (.if_icmp .eq 5, 3) := by decide +kernel
theorem dX5_inItem_28 : decode cX5_inItem 28 = .ok (.iconst 1, 1) := by decide +kernel
theorem dX5_inItem_29 : decode cX5_inItem 29 = .ok (.ireturn, 1) := by decide +kernel
theorem dX5_inItem_30 : decode cX5_inItem 30 = .ok (.iload_n 0, 1) := by decide +kernel
theorem dX5_inItem_31 : decode cX5_inItem 31 = .ok (.lookupswitch 61 #[(97, 57), (98, 59), (115, 59), (116, 57), (117, 59), (118, 59)], 57) := by decide +kernel
theorem dX5_inItem_88 : decode cX5_inItem 88 = .ok (.iconst 2, 1) := by decide +kernel
theorem dX5_inItem_89 : decode cX5_inItem 89 = .ok (.ireturn, 1) := by decide +kernel
theorem dX5_inItem_90 : decode cX5_inItem 90 = .ok (.iconst 3, 1) := by decide +kernel
theorem dX5_inItem_91 : decode cX5_inItem 91 = .ok (.ireturn, 1) := by decide +kernel
theorem dX5_inItem_92 : decode cX5_inItem 92 = .ok (.iconst (-1), 1) := by decide +kernel
theorem dX5_inItem_93 : decode cX5_inItem 93 = .ok (.ireturn, 1) := by decide +kernel
theorem dX5_afterField_0 : decode cX5_afterField 0 = .ok (.iload_n 0, 1) := by decide +kernel
theorem dX5_afterField_1 : decode cX5_afterField 1 = .ok (.tableswitch 35 60 63 #[31, 31, 31, 33], 31) := by decide +kernel
theorem dX5_afterField_32 : decode cX5_afterField 32 = .ok (.iconst 4, 1) := by decide +kernel
theorem dX5_afterField_33 : decode cX5_afterField 33 = .ok (.ireturn, 1) := by decide +kernel
theorem dX5_afterField_34 : decode cX5_afterField 34 = .ok (.iconst 3, 1) := by decide +kernel
theorem dX5_afterField_35 : decode cX5_afterField 35 = .ok (.ireturn, 1) := by decide +kernel
theorem dX5_afterField_36 : decode cX5_afterField 36 = .ok (.iconst (-1), 1) := by decide +kernel
theorem dX5_afterField_37 : decode cX5_afterField 37 = .ok (.ireturn, 1) := by decide +kernel
set_option maxRecDepth 20000 in
theorem ggX5_inNumber_X5_isDigit : GoodIn wsX5_inNumber wsX5_isDigit := goodIn_r _ [4] (by decide +kernel) (by decide +kernel)
set_option maxRecDepth 20000 in
theorem gX5_inNumber_X5_isDigit : GoodIn wsX5_inNumber (va_wsS RX5 29 yX5_isDigit wsX5_isDigit) := goodIn_app (goodIn_of _ (by decide +kernel)) ggX5_inNumber_X5_isDigit
set_option maxRecDepth 20000 in
theorem ggX5_inNumber_X5_afterItem : GoodIn wsX5_inNumber wsX5_afterItem := goodIn_r _ [7] (by decide +kernel) (by decide +kernel)
set_option maxRecDepth 20000 in
theorem gX5_inNumber_X5_afterItem : GoodIn wsX5_inNumber (va_wsS RX5 45 yX5_afterItem wsX5_afterItem) := goodIn_app (goodIn_of _ (by decide +kernel)) ggX5_inNumber_X5_afterItem
theorem dX5_inNumber_0 : decode cX5_inNumber 0 = .ok (.iload_n 0, 1) := by decide +kernel
theorem dX5_inNumber_1 : decode cX5_inNumber 1 = .ok (.iconst 4, 1) := by decide +kernel
theorem dX5_inNumber_2 : decode cX5_inNumber 2 = .ok (.isub, 1) := by decide +kernel
theorem dX5_inNumber_3 : decode cX5_inNumber 3 = .ok (.istore_n 3, 1) := by decide +kernel
theorem dX5_inNumber_4 : decode cX5_inNumber 4 = .ok (.iload_n 1, 1) := by decide +kernel
theorem dX5_inNumber_5 : decode cX5_inNumber 5 = .ok (.invokestatic 29, 3) := by decide +kernel
theorem dX5_inNumber_8 : decode cX5_inNumber 8 = .ok (.ifCond .eq 16, 3) := by decide +kernel
theorem dX5_inNumber_11 : decode cX5_inNumber 11 = .ok (.iload_n 3, 1) := by decide +kernel
theorem dX5_inNumber_12 : decode cX5_inNumber 12 = .ok (.iconst 5, 1) := by decide +kernel
theorem dX5_inNumber_13 : decode cX5_inNumber 13 = .ok (.if_icmp .ge 9, 3) := by decide +kernel
theorem dX5_inNumber_16 : decode cX5_inNumber 16 = .ok (.iload_n 0, 1) := by decide +kernel
theorem dX5_inNumber_17 : decode cX5_inNumber 17 = .ok (.iconst 1, 1) := by decide +kernel
theorem dX5_inNumber_18 : decode cX5_inNumber 18 = .ok (.iadd, 1) := by decide +kernel
theorem dX5_inNumber_19 : decode cX5_inNumber 19 = .ok (.goto 4, 3) := by decide +kernel
theorem dX5_inNumber_22 : decode cX5_inNumber 22 = .ok (.iconst (-1), 1) := by decide +kernel
theorem dX5_inNumber_23 : decode cX5_inNumber 23 = .ok (.ireturn, 1) := by decide +kernel
theorem dX5_inNumber_24 : decode cX5_inNumber 24 = .ok (.iload_n 3, 1) := by decide +kernel
theorem dX5_inNumber_25 : decode cX5_inNumber 25 = .ok (.ifCond .le 11, 3) := by decide +kernel
theorem dX5_inNumber_28 : decode cX5_inNumber 28 = .ok (.iload_n 1, 1) := by decide +kernel
theorem dX5_inNumber_29 : decode cX5_inNumber 29 = .ok (.iload_n 2, 1) := by decide +kernel
theorem dX5_inNumber_30 : decode cX5_inNumber 30 = .ok (.invokestatic 45, 3) := by decide +kernel
theorem dX5_inNumber_33 : decode cX5_inNumber 33 = .ok (.goto 4, 3) := by decide +kernel
theorem dX5_inNumber_36 : decode cX5_inNumber 36 = .ok (.iconst (-1), 1) := by decide +kernel
theorem dX5_inNumber_37 : decode cX5_inNumber 37 = .ok (.ireturn, 1) := by decide +kernel
theorem dX5_afterItem_0 : decode cX5_afterItem 0 = .ok (.iload_n 0, 1) := by decide +kernel
theorem dX5_afterItem_1 : decode cX5_afterItem 1 = .ok (.bipush 38, 2) := by decide +kernel
theorem dX5_afterItem_3 : decode cX5_afterItem 3 = .ok (.if_icmp .eq 9, 3) := by decide +kernel
theorem dX5_afterItem_6 : decode cX5_afterItem 6 = .ok (.iload_n 0, 1) := by decide +kernel
theorem dX5_afterItem_7 : decode cX5_afterItem 7 = .ok (.bipush 124, 2) := by decide +kernel
theorem dX5_afterItem_9 : decode cX5_afterItem 9 = .ok (.if_icmp .ne 5, 3) := by decide +kernel
theorem dX5_afterItem_12 : decode cX5_afterItem 12 = .ok (.iconst 0, 1) := by decide +kernel
theorem dX5_afterItem_13 : decode cX5_afterItem 13 = .ok (.ireturn, 1) := by decide +kernel
theorem dX5_afterItem_14 : decode cX5_afterItem 14 = .ok (.iload_n 0, 1) := by decide +kernel
theorem dX5_afterItem_15 : decode cX5_afterItem 15 = .ok (.bipush 41, 2) := by decide +kernel
theorem dX5_afterItem_17 : decode cX5_afterItem 17 = .ok (.if_icmp .ne 11, 3) := by decide +kernel
theorem dX5_afterItem_20 : decode cX5_afterItem 20 = .ok (.iload_n 1, 1) := by decide +kernel
theorem dX5_afterItem_21 : decode cX5_afterItem 21 = .ok (.ifCond .le 7, 3) := by decide +kernel
theorem dX5_afterItem_24 : decode cX5_afterItem 24 = .ok (.iconst 3, 1) := by decide +kernel
theorem dX5_afterItem_25 : decode cX5_afterItem 25 = .ok (.goto 4, 3) := by decide +kernel
theorem dX5_afterItem_28 : decode cX5_afterItem 28 = .ok (.iconst (-1), 1) := by decide +kernel
theorem dX5_afterItem_29 : decode cX5_afterItem 29 = .ok (.ireturn, 1) := by decide +kernel
theorem dX5_isDigit_0 : decode cX5_isDigit 0 = .ok (.iload_n 0, 1) := by decide +kernel
theorem dX5_isDigit_1 : decode cX5_isDigit 1 = .ok (.bipush 48, 2) := by decide +kernel
theorem dX5_isDigit_3 : decode cX5_isDigit 3 = .ok (.if_icmp .lt 13, 3) := by decide +kernel
theorem dX5_isDigit_6 : decode cX5_isDigit 6 = .ok (.iload_n 0, 1) := by decide +kernel
theorem dX5_isDigit_7 : decode cX5_isDigit 7 = .ok (.bipush 57, 2) := by decide +kernel
theorem dX5_isDigit_9 : decode cX5_isDigit 9 = .ok (.if_icmp .gt 7, 3) := by decide +kernel
theorem dX5_isDigit_12 : decode cX5_isDigit 12 = .ok (.iconst 1, 1) := by decide +kernel
theorem dX5_isDigit_13 : decode cX5_isDigit 13 = .ok (.goto 4, 3) := by decide +kernel
theorem dX5_isDigit_16 : decode cX5_isDigit 16 = .ok (.iconst 0, 1) := by decide +kernel
theorem dX5_isDigit_17 : decode cX5_isDigit 17 = .ok (.ireturn, 1) := by decide +kernel
theorem dX5_fieldNamed_0 : decode cX5_fieldNamed 0 = .ok (.iload_n 0, 1) := by decide +kernel
theorem dX5_fieldNamed_1 : decode cX5_fieldNamed 1 = .ok (.lookupswitch 61 #[(99, 57), (100, 59), (107, 51), (114, 53), (121, 55)], 51) := by decide +kernel
theorem dX5_fieldNamed_52 : decode cX5_fieldNamed 52 = .ok (.iconst 0, 1) := by decide +kernel
theorem dX5_fieldNamed_53 : decode cX5_fieldNamed 53 = .ok (.ireturn, 1) := by decide +kernel
theorem dX5_fieldNamed_54 : decode cX5_fieldNamed 54 = .ok (.iconst 1, 1) := by decide +kernel
theorem dX5_fieldNamed_55 : decode cX5_fieldNamed 55 = .ok (.ireturn, 1) := by decide +kernel
theorem dX5_fieldNamed_56 : decode cX5_fieldNamed 56 = .ok (.iconst 2, 1) := by decide +kernel
theorem dX5_fieldNamed_57 : decode cX5_fieldNamed 57 = .ok (.ireturn, 1) := by decide +kernel
theorem dX5_fieldNamed_58 : decode cX5_fieldNamed 58 = .ok (.iconst 3, 1) := by decide +kernel
theorem dX5_fieldNamed_59 : decode cX5_fieldNamed 59 = .ok (.ireturn, 1) := by decide +kernel
theorem dX5_fieldNamed_60 : decode cX5_fieldNamed 60 = .ok (.iconst 4, 1) := by decide +kernel
theorem dX5_fieldNamed_61 : decode cX5_fieldNamed 61 = .ok (.ireturn, 1) := by decide +kernel
theorem dX5_fieldNamed_62 : decode cX5_fieldNamed 62 = .ok (.iconst (-1), 1) := by decide +kernel
theorem dX5_fieldNamed_63 : decode cX5_fieldNamed 63 = .ok (.ireturn, 1) := by decide +kernel
set_option maxRecDepth 20000 in
theorem ggX6_init_J7_fill_53178 : GoodIn wsX6_init wsJ7_fill_53178 := goodIn_r _ [15] (by decide +kernel) (by decide +kernel)
set_option maxRecDepth 20000 in
theorem gX6_init_J7_fill_53178 : GoodIn wsX6_init (va_wsS RX6 32 yJ7_fill_53178 wsJ7_fill_53178) := goodIn_app (goodIn_of _ (by decide +kernel)) ggX6_init_J7_fill_53178
theorem dX6_init_0 : decode cX6_init 0 = .ok (.aload_n 0, 1) := by decide +kernel
theorem dX6_init_1 : decode cX6_init 1 = .ok (.invokespecial 3, 3) := by decide +kernel
theorem dX6_init_4 : decode cX6_init 4 = .ok (.aload_n 0, 1) := by decide +kernel
theorem dX6_init_5 : decode cX6_init 5 = .ok (.aload_n 1, 1) := by decide +kernel
theorem dX6_init_6 : decode cX6_init 6 = .ok (.putfield 9, 3) := by decide +kernel
theorem dX6_init_9 : decode cX6_init 9 = .ok (.aload_n 0, 1) := by decide +kernel
theorem dX6_init_10 : decode cX6_init 10 = .ok (.bipush 80, 2) := by decide +kernel
theorem dX6_init_12 : decode cX6_init 12 = .ok (.newarray .int, 2) := by decide +kernel
theorem dX6_init_14 : decode cX6_init 14 = .ok (.putfield 15, 3) := by decide +kernel
theorem dX6_init_17 : decode cX6_init 17 = .ok (.aload_n 0, 1) := by decide +kernel
theorem dX6_init_18 : decode cX6_init 18 = .ok (.bipush 10, 2) := by decide +kernel
theorem dX6_init_20 : decode cX6_init 20 = .ok (.newarray .int, 2) := by decide +kernel
theorem dX6_init_22 : decode cX6_init 22 = .ok (.putfield 19, 3) := by decide +kernel
theorem dX6_init_25 : decode cX6_init 25 = .ok (.aload_n 0, 1) := by decide +kernel
theorem dX6_init_26 : decode cX6_init 26 = .ok (.bipush 10, 2) := by decide +kernel
theorem dX6_init_28 : decode cX6_init 28 = .ok (.newarray .int, 2) := by decide +kernel
theorem dX6_init_30 : decode cX6_init 30 = .ok (.putfield 22, 3) := by decide +kernel
theorem dX6_init_33 : decode cX6_init 33 = .ok (.aload_n 0, 1) := by decide +kernel
theorem dX6_init_34 : decode cX6_init 34 = .ok (.bipush 10, 2) := by decide +kernel
theorem dX6_init_36 : decode cX6_init 36 = .ok (.newarray .boolean, 2) := by decide +kernel
theorem dX6_init_38 : decode cX6_init 38 = .ok (.putfield 25, 3) := by decide +kernel
theorem dX6_init_41 : decode cX6_init 41 = .ok (.aload_n 0, 1) := by decide +kernel
theorem dX6_init_42 : decode cX6_init 42 = .ok (.bipush 40, 2) := by decide +kernel
theorem dX6_init_44 : decode cX6_init 44 = .ok (.newarray .int, 2) := by decide +kernel
theorem dX6_init_46 : decode cX6_init 46 = .ok (.putfield 29, 3) := by decide +kernel
theorem dX6_init_49 : decode cX6_init 49 = .ok (.aload_n 0, 1) := by decide +kernel
theorem dX6_init_50 : decode cX6_init 50 = .ok (.getfield 29, 3) := by decide +kernel
theorem dX6_init_53 : decode cX6_init 53 = .ok (.iconst (-1), 1) := by decide +kernel
theorem dX6_init_54 : decode cX6_init 54 = .ok (.invokestatic 32, 3) := by decide +kernel
theorem dX6_init_57 : decode cX6_init 57 = .ok (.return_, 1) := by decide +kernel
set_option maxRecDepth 20000 in
theorem ggX6_has_X8_isWithin : GoodIn wsX6_has wsX8_isWithin := goodIn_r _ [4] (by decide +kernel) (by decide +kernel)
set_option maxRecDepth 20000 in
theorem gX6_has_X8_isWithin_n38 : GoodIn wsX6_has (wsX8_isWithin) := ggX6_has_X8_isWithin
theorem dX6_has_0 : decode cX6_has 0 = .ok (.iload_n 1, 1) := by decide +kernel
theorem dX6_has_1 : decode cX6_has 1 = .ok (.iconst 0, 1) := by decide +kernel
theorem dX6_has_2 : decode cX6_has 2 = .ok (.bipush 9, 2) := by decide +kernel
theorem dX6_has_4 : decode cX6_has 4 = .ok (.invokestatic 38, 3) := by decide +kernel
theorem dX6_has_7 : decode cX6_has 7 = .ok (.ifCond .eq 16, 3) := by decide +kernel
theorem dX6_has_10 : decode cX6_has 10 = .ok (.aload_n 0, 1) := by decide +kernel
theorem dX6_has_11 : decode cX6_has 11 = .ok (.getfield 19, 3) := by decide +kernel
theorem dX6_has_14 : decode cX6_has 14 = .ok (.iload_n 1, 1) := by decide +kernel
theorem dX6_has_15 : decode cX6_has 15 = .ok (.iaload, 1) := by decide +kernel
theorem dX6_has_16 : decode cX6_has 16 = .ok (.ifCond .le 7, 3) := by decide +kernel
theorem dX6_has_19 : decode cX6_has 19 = .ok (.iconst 1, 1) := by decide +kernel
theorem dX6_has_20 : decode cX6_has 20 = .ok (.goto 4, 3) := by decide +kernel
theorem dX6_has_23 : decode cX6_has 23 = .ok (.iconst 0, 1) := by decide +kernel
theorem dX6_has_24 : decode cX6_has 24 = .ok (.ireturn, 1) := by decide +kernel
set_option maxRecDepth 20000 in
theorem ggX6_howMany_X6_has : GoodIn wsX6_howMany wsX6_has := goodIn_r _ [5, 6, 7, 8, 9, 10, 11, 12, 13, 14, 15, 16, 17] (by decide +kernel) (by decide +kernel)
set_option maxRecDepth 20000 in
theorem gX6_howMany_X6_has : GoodIn wsX6_howMany (wsV RX6 42 RX6 yX6_has wsX6_has) := goodIn_app (goodIn_of _ (by decide +kernel)) ggX6_howMany_X6_has
theorem dX6_howMany_0 : decode cX6_howMany 0 = .ok (.iconst 0, 1) := by decide +kernel
theorem dX6_howMany_1 : decode cX6_howMany 1 = .ok (.istore_n 1, 1) := by decide +kernel
theorem dX6_howMany_2 : decode cX6_howMany 2 = .ok (.iconst 0, 1) := by decide +kernel
theorem dX6_howMany_3 : decode cX6_howMany 3 = .ok (.istore_n 2, 1) := by decide +kernel
theorem dX6_howMany_4 : decode cX6_howMany 4 = .ok (.iload_n 2, 1) := by decide +kernel
theorem dX6_howMany_5 : decode cX6_howMany 5 = .ok (.bipush 10, 2) := by decide +kernel
theorem dX6_howMany_7 : decode cX6_howMany 7 = .ok (.if_icmp .ge 20, 3) := by decide +kernel
theorem dX6_howMany_10 : decode cX6_howMany 10 = .ok (.aload_n 0, 1) := by decide +kernel
theorem dX6_howMany_11 : decode cX6_howMany 11 = .ok (.iload_n 2, 1) := by decide +kernel
theorem dX6_howMany_12 : decode cX6_howMany 12 = .ok (.invokevirtual 42, 3) := by decide +kernel
theorem dX6_howMany_15 : decode cX6_howMany 15 = .ok (.ifCond .eq 6, 3) := by decide +kernel
theorem dX6_howMany_18 : decode cX6_howMany 18 = .ok (.iinc 1 1, 3) := by decide +kernel
theorem dX6_howMany_21 : decode cX6_howMany 21 = .ok (.iinc 2 1, 3) := by decide +kernel
theorem dX6_howMany_24 : decode cX6_howMany 24 = .ok (.goto (-20), 3) := by decide +kernel
theorem dX6_howMany_27 : decode cX6_howMany 27 = .ok (.iload_n 1, 1) := by decide +kernel
theorem dX6_howMany_28 : decode cX6_howMany 28 = .ok (.ireturn, 1) := by decide +kernel
set_option maxRecDepth 20000 in
theorem ggX6_freeNumber_X6_has : GoodIn wsX6_freeNumber wsX6_has := goodIn_r _ [5, 6, 7, 8, 9, 10, 11, 12, 13, 14, 15, 16, 17] (by decide +kernel) (by decide +kernel)
set_option maxRecDepth 20000 in
theorem gX6_freeNumber_X6_has : GoodIn wsX6_freeNumber (wsV RX6 42 RX6 yX6_has wsX6_has) := goodIn_app (goodIn_of _ (by decide +kernel)) ggX6_freeNumber_X6_has
theorem dX6_freeNumber_0 : decode cX6_freeNumber 0 = .ok (.iconst 0, 1) := by decide +kernel
theorem dX6_freeNumber_1 : decode cX6_freeNumber 1 = .ok (.istore_n 1, 1) := by decide +kernel
theorem dX6_freeNumber_2 : decode cX6_freeNumber 2 = .ok (.iload_n 1, 1) := by decide +kernel
theorem dX6_freeNumber_3 : decode cX6_freeNumber 3 = .ok (.bipush 10, 2) := by decide +kernel
theorem dX6_freeNumber_5 : decode cX6_freeNumber 5 = .ok (.if_icmp .ge 19, 3) := by decide +kernel
theorem dX6_freeNumber_8 : decode cX6_freeNumber 8 = .ok (.aload_n 0, 1) := by decide +kernel
theorem dX6_freeNumber_9 : decode cX6_freeNumber 9 = .ok (.iload_n 1, 1) := by decide +kernel
theorem dX6_freeNumber_10 : decode cX6_freeNumber 10 = .ok (.invokevirtual 42, 3) := by decide +kernel
theorem dX6_freeNumber_13 : decode cX6_freeNumber 13 = .ok (.ifCond .ne 5, 3) := by decide +kernel
theorem dX6_freeNumber_16 : decode cX6_freeNumber 16 = .ok (.iload_n 1, 1) := by decide +kernel
theorem dX6_freeNumber_17 : decode cX6_freeNumber 17 = .ok (.ireturn, 1) := by decide +kernel
theorem dX6_freeNumber_18 : decode cX6_freeNumber 18 = .ok (.iinc 1 1, 3) := by decide +kernel
theorem dX6_freeNumber_21 : decode cX6_freeNumber 21 = .ok (.goto (-19), 3) := by decide +kernel
theorem dX6_freeNumber_24 : decode cX6_freeNumber 24 = .ok (.iconst (-1), 1) := by decide +kernel
theorem dX6_freeNumber_25 : decode cX6_freeNumber 25 = .ok (.ireturn, 1) := by decide +kernel
theorem dX6_stacked_0 : decode cX6_stacked 0 = .ok (.aload_n 0, 1) := by decide +kernel
theorem dX6_stacked_1 : decode cX6_stacked 1 = .ok (.getfield 46, 3) := by decide +kernel
theorem dX6_stacked_4 : decode cX6_stacked 4 = .ok (.lreturn, 1) := by decide +kernel
theorem dX6_covers_0 : decode cX6_covers 0 = .ok (.aload_n 0, 1) := by decide +kernel
theorem dX6_covers_1 : decode cX6_covers 1 = .ok (.getfield 50, 3) := by decide +kernel
theorem dX6_covers_4 : decode cX6_covers 4 = .ok (.lreturn, 1) := by decide +kernel
theorem dX6_home_0 : decode cX6_home 0 = .ok (.aload_n 0, 1) := by decide +kernel
theorem dX6_home_1 : decode cX6_home 1 = .ok (.getfield 29, 3) := by decide +kernel
theorem dX6_home_4 : decode cX6_home 4 = .ok (.iload_n 1, 1) := by decide +kernel
theorem dX6_home_5 : decode cX6_home 5 = .ok (.iaload, 1) := by decide +kernel
theorem dX6_home_6 : decode cX6_home 6 = .ok (.ireturn, 1) := by decide +kernel
theorem dX6_height_0 : decode cX6_height 0 = .ok (.aload_n 0, 1) := by decide +kernel
theorem dX6_height_1 : decode cX6_height 1 = .ok (.getfield 19, 3) := by decide +kernel
theorem dX6_height_4 : decode cX6_height 4 = .ok (.iload_n 1, 1) := by decide +kernel
theorem dX6_height_5 : decode cX6_height 5 = .ok (.iaload, 1) := by decide +kernel
theorem dX6_height_6 : decode cX6_height 6 = .ok (.ireturn, 1) := by decide +kernel
theorem dX6_isCollapsed_0 : decode cX6_isCollapsed 0 = .ok (.aload_n 0, 1) := by decide +kernel
theorem dX6_isCollapsed_1 : decode cX6_isCollapsed 1 = .ok (.getfield 25, 3) := by decide +kernel
theorem dX6_isCollapsed_4 : decode cX6_isCollapsed 4 = .ok (.iload_n 1, 1) := by decide +kernel
theorem dX6_isCollapsed_5 : decode cX6_isCollapsed 5 = .ok (.baload, 1) := by decide +kernel
theorem dX6_isCollapsed_6 : decode cX6_isCollapsed 6 = .ok (.ireturn, 1) := by decide +kernel
theorem dX6_fold_0 : decode cX6_fold 0 = .ok (.aload_n 0, 1) := by decide +kernel
theorem dX6_fold_1 : decode cX6_fold 1 = .ok (.getfield 25, 3) := by decide +kernel
theorem dX6_fold_4 : decode cX6_fold 4 = .ok (.iload_n 1, 1) := by decide +kernel
theorem dX6_fold_5 : decode cX6_fold 5 = .ok (.iload_n 2, 1) := by decide +kernel
theorem dX6_fold_6 : decode cX6_fold 6 = .ok (.bastore, 1) := by decide +kernel
theorem dX6_fold_7 : decode cX6_fold 7 = .ok (.return_, 1) := by decide +kernel
theorem dX6_choose_0 : decode cX6_choose 0 = .ok (.aload_n 0, 1) := by decide +kernel
theorem dX6_choose_1 : decode cX6_choose 1 = .ok (.getfield 22, 3) := by decide +kernel
theorem dX6_choose_4 : decode cX6_choose 4 = .ok (.iload_n 1, 1) := by decide +kernel
theorem dX6_choose_5 : decode cX6_choose 5 = .ok (.iload_n 2, 1) := by decide +kernel
theorem dX6_choose_6 : decode cX6_choose 6 = .ok (.iastore, 1) := by decide +kernel
theorem dX6_choose_7 : decode cX6_choose 7 = .ok (.return_, 1) := by decide +kernel
set_option maxRecDepth 20000 in
theorem ggX6_begin_X6_insert : GoodIn wsX6_begin wsX6_insert := goodIn_r _ [7, 8, 9, 10, 11, 12, 13, 6, 14, 15, 16, 17, 18, 19, 20, 21, 22, 23, 24, 25] (by decide +kernel) (by decide +kernel)
set_option maxRecDepth 20000 in
theorem gX6_begin_X6_insert : GoodIn wsX6_begin (wsV RX6 53 RX6 yX6_insert wsX6_insert) := goodIn_app (goodIn_of _ (by decide +kernel)) ggX6_begin_X6_insert
theorem dX6_begin_0 : decode cX6_begin 0 = .ok (.aload_n 0, 1) := by decide +kernel
theorem dX6_begin_1 : decode cX6_begin 1 = .ok (.getfield 22, 3) := by decide +kernel
theorem dX6_begin_4 : decode cX6_begin 4 = .ok (.iload_n 1, 1) := by decide +kernel
theorem dX6_begin_5 : decode cX6_begin 5 = .ok (.iconst (-1), 1) := by decide +kernel
theorem dX6_begin_6 : decode cX6_begin 6 = .ok (.iastore, 1) := by decide +kernel
theorem dX6_begin_7 : decode cX6_begin 7 = .ok (.aload_n 0, 1) := by decide +kernel
theorem dX6_begin_8 : decode cX6_begin 8 = .ok (.getfield 25, 3) := by decide +kernel
theorem dX6_begin_11 : decode cX6_begin 11 = .ok (.iload_n 1, 1) := by decide +kernel
theorem dX6_begin_12 : decode cX6_begin 12 = .ok (.iconst 0, 1) := by decide +kernel
theorem dX6_begin_13 : decode cX6_begin 13 = .ok (.bastore, 1) := by decide +kernel
theorem dX6_begin_14 : decode cX6_begin 14 = .ok (.aload_n 0, 1) := by decide +kernel
theorem dX6_begin_15 : decode cX6_begin 15 = .ok (.iload_n 1, 1) := by decide +kernel
theorem dX6_begin_16 : decode cX6_begin 16 = .ok (.iload_n 2, 1) := by decide +kernel
theorem dX6_begin_17 : decode cX6_begin 17 = .ok (.iconst 0, 1) := by decide +kernel
theorem dX6_begin_18 : decode cX6_begin 18 = .ok (.invokevirtual 53, 3) := by decide +kernel
theorem dX6_begin_21 : decode cX6_begin 21 = .ok (.aload_n 0, 1) := by decide +kernel
theorem dX6_begin_22 : decode cX6_begin 22 = .ok (.iload_n 1, 1) := by decide +kernel
theorem dX6_begin_23 : decode cX6_begin 23 = .ok (.iload_n 3, 1) := by decide +kernel
theorem dX6_begin_24 : decode cX6_begin 24 = .ok (.iconst 1, 1) := by decide +kernel
theorem dX6_begin_25 : decode cX6_begin 25 = .ok (.invokevirtual 53, 3) := by decide +kernel
theorem dX6_begin_28 : decode cX6_begin 28 = .ok (.return_, 1) := by decide +kernel
set_option maxRecDepth 20000 in
theorem ggX6_insert_X6_spot : GoodIn wsX6_insert wsX6_spot := goodIn_r _ [8] (by decide +kernel) (by decide +kernel)
set_option maxRecDepth 20000 in
theorem gX6_insert_X6_spot : GoodIn wsX6_insert (va_wsS RX6 57 yX6_spot wsX6_spot) := goodIn_app (goodIn_of _ (by decide +kernel)) ggX6_insert_X6_spot
set_option maxRecDepth 20000 in
theorem ggX6_insert_X8_only : GoodIn wsX6_insert wsX8_only := goodIn_r _ [11] (by decide +kernel) (by decide +kernel)
set_option maxRecDepth 20000 in
theorem gX6_insert_X8_only_n61 : GoodIn wsX6_insert (wsX8_only) := ggX6_insert_X8_only
theorem dX6_insert_0 : decode cX6_insert 0 = .ok (.aload_n 0, 1) := by decide +kernel
theorem dX6_insert_1 : decode cX6_insert 1 = .ok (.getfield 19, 3) := by decide +kernel
theorem dX6_insert_4 : decode cX6_insert 4 = .ok (.iload_n 1, 1) := by decide +kernel
theorem dX6_insert_5 : decode cX6_insert 5 = .ok (.iaload, 1) := by decide +kernel
theorem dX6_insert_6 : decode cX6_insert 6 = .ok (.istore 4, 2) := by decide +kernel
theorem dX6_insert_8 : decode cX6_insert 8 = .ok (.iload 4, 2) := by decide +kernel
theorem dX6_insert_10 : decode cX6_insert 10 = .ok (.iload_n 3, 1) := by decide +kernel
theorem dX6_insert_11 : decode cX6_insert 11 = .ok (.if_icmp .le 33, 3) := by decide +kernel
theorem dX6_insert_14 : decode cX6_insert 14 = .ok (.aload_n 0, 1) := by decide +kernel
theorem dX6_insert_15 : decode cX6_insert 15 = .ok (.getfield 15, 3) := by decide +kernel
theorem dX6_insert_18 : decode cX6_insert 18 = .ok (.iload_n 1, 1) := by decide +kernel
theorem dX6_insert_19 : decode cX6_insert 19 = .ok (.iload 4, 2) := by decide +kernel
theorem dX6_insert_21 : decode cX6_insert 21 = .ok (.invokestatic 57, 3) := by decide +kernel
theorem dX6_insert_24 : decode cX6_insert 24 = .ok (.aload_n 0, 1) := by decide +kernel
theorem dX6_insert_25 : decode cX6_insert 25 = .ok (.getfield 15, 3) := by decide +kernel
theorem dX6_insert_28 : decode cX6_insert 28 = .ok (.iload_n 1, 1) := by decide +kernel
theorem dX6_insert_29 : decode cX6_insert 29 = .ok (.iload 4, 2) := by decide +kernel
theorem dX6_insert_31 : decode cX6_insert 31 = .ok (.iconst 1, 1) := by decide +kernel
theorem dX6_insert_32 : decode cX6_insert 32 = .ok (.isub, 1) := by decide +kernel
theorem dX6_insert_33 : decode cX6_insert 33 = .ok (.invokestatic 57, 3) := by decide +kernel
theorem dX6_insert_36 : decode cX6_insert 36 = .ok (.iaload, 1) := by decide +kernel
theorem dX6_insert_37 : decode cX6_insert 37 = .ok (.iastore, 1) := by decide +kernel
theorem dX6_insert_38 : decode cX6_insert 38 = .ok (.iinc 4 (-1), 3) := by decide +kernel
theorem dX6_insert_41 : decode cX6_insert 41 = .ok (.goto (-33), 3) := by decide +kernel
theorem dX6_insert_44 : decode cX6_insert 44 = .ok (.aload_n 0, 1) := by decide +kernel
theorem dX6_insert_45 : decode cX6_insert 45 = .ok (.getfield 15, 3) := by decide +kernel
theorem dX6_insert_48 : decode cX6_insert 48 = .ok (.iload_n 1, 1) := by decide +kernel
theorem dX6_insert_49 : decode cX6_insert 49 = .ok (.iload_n 3, 1) := by decide +kernel
theorem dX6_insert_50 : decode cX6_insert 50 = .ok (.invokestatic 57, 3) := by decide +kernel
theorem dX6_insert_53 : decode cX6_insert 53 = .ok (.iload_n 2, 1) := by decide +kernel
theorem dX6_insert_54 : decode cX6_insert 54 = .ok (.iastore, 1) := by decide +kernel
theorem dX6_insert_55 : decode cX6_insert 55 = .ok (.aload_n 0, 1) := by decide +kernel
theorem dX6_insert_56 : decode cX6_insert 56 = .ok (.getfield 19, 3) := by decide +kernel
theorem dX6_insert_59 : decode cX6_insert 59 = .ok (.iload_n 1, 1) := by decide +kernel
theorem dX6_insert_60 : decode cX6_insert 60 = .ok (.dup2, 1) := by decide +kernel
theorem dX6_insert_61 : decode cX6_insert 61 = .ok (.iaload, 1) := by decide +kernel
theorem dX6_insert_62 : decode cX6_insert 62 = .ok (.iconst 1, 1) := by decide +kernel
theorem dX6_insert_63 : decode cX6_insert 63 = .ok (.iadd, 1) := by decide +kernel
theorem dX6_insert_64 : decode cX6_insert 64 = .ok (.iastore, 1) := by decide +kernel
theorem dX6_insert_65 : decode cX6_insert 65 = .ok (.aload_n 0, 1) := by decide +kernel
theorem dX6_insert_66 : decode cX6_insert 66 = .ok (.getfield 29, 3) := by decide +kernel
theorem dX6_insert_69 : decode cX6_insert 69 = .ok (.iload_n 2, 1) := by decide +kernel
theorem dX6_insert_70 : decode cX6_insert 70 = .ok (.iload_n 1, 1) := by decide +kernel
theorem dX6_insert_71 : decode cX6_insert 71 = .ok (.iastore, 1) := by decide +kernel
theorem dX6_insert_72 : decode cX6_insert 72 = .ok (.aload_n 0, 1) := by decide +kernel
theorem dX6_insert_73 : decode cX6_insert 73 = .ok (.dup, 1) := by decide +kernel
theorem dX6_insert_74 : decode cX6_insert 74 = .ok (.getfield 46, 3) := by decide +kernel
theorem dX6_insert_77 : decode cX6_insert 77 = .ok (.iload_n 2, 1) := by decide +kernel
theorem dX6_insert_78 : decode cX6_insert 78 = .ok (.invokestatic 61, 3) := by decide +kernel
theorem dX6_insert_81 : decode cX6_insert 81 = .ok (.lor, 1) := by decide +kernel
theorem dX6_insert_82 : decode cX6_insert 82 = .ok (.putfield 46, 3) := by decide +kernel
theorem dX6_insert_85 : decode cX6_insert 85 = .ok (.return_, 1) := by decide +kernel
set_option maxRecDepth 20000 in
theorem ggX6_release_X6_closeGap : GoodIn wsX6_release wsX6_closeGap := goodIn_r _ [9, 3, 4, 10, 11, 8, 12, 22, 23, 24, 25, 26, 27, 28, 29] (by decide +kernel) (by decide +kernel)
set_option maxRecDepth 20000 in
theorem gX6_release_X6_closeGap : GoodIn wsX6_release (wsV RX6 65 RX6 yX6_closeGap wsX6_closeGap) := goodIn_app (goodIn_of _ (by decide +kernel)) ggX6_release_X6_closeGap
set_option maxRecDepth 20000 in
theorem ggX6_release_X6_leave : GoodIn wsX6_release wsX6_leave := goodIn_r _ [16, 1, 17, 18, 19, 20, 21, 22, 23, 24, 25, 26, 27, 28, 29] (by decide +kernel) (by decide +kernel)
set_option maxRecDepth 20000 in
theorem gX6_release_X6_leave : GoodIn wsX6_release (wsV RX6 69 RX6 yX6_leave wsX6_leave) := goodIn_app (goodIn_of _ (by decide +kernel)) ggX6_release_X6_leave
set_option maxRecDepth 20000 in
theorem ggX6_release_X6_spot : GoodIn wsX6_release wsX6_spot := goodIn_r _ [12] (by decide +kernel) (by decide +kernel)
set_option maxRecDepth 20000 in
theorem gX6_release_X6_spot : GoodIn wsX6_release (va_wsS RX6 57 yX6_spot wsX6_spot) := goodIn_app (goodIn_of _ (by decide +kernel)) ggX6_release_X6_spot
theorem dX6_release_0 : decode cX6_release 0 = .ok (.aload_n 0, 1) := by decide +kernel
theorem dX6_release_1 : decode cX6_release 1 = .ok (.getfield 29, 3) := by decide +kernel
theorem dX6_release_4 : decode cX6_release 4 = .ok (.iload_n 1, 1) := by decide +kernel
theorem dX6_release_5 : decode cX6_release 5 = .ok (.iaload, 1) := by decide +kernel
theorem dX6_release_6 : decode cX6_release 6 = .ok (.istore_n 2, 1) := by decide +kernel
theorem dX6_release_7 : decode cX6_release 7 = .ok (.iload_n 2, 1) := by decide +kernel
theorem dX6_release_8 : decode cX6_release 8 = .ok (.iconst (-1), 1) := by decide +kernel
theorem dX6_release_9 : decode cX6_release 9 = .ok (.if_icmp .ne 4, 3) := by decide +kernel
theorem dX6_release_12 : decode cX6_release 12 = .ok (.return_, 1) := by decide +kernel
theorem dX6_release_13 : decode cX6_release 13 = .ok (.aload_n 0, 1) := by decide +kernel
theorem dX6_release_14 : decode cX6_release 14 = .ok (.iload_n 2, 1) := by decide +kernel
theorem dX6_release_15 : decode cX6_release 15 = .ok (.iload_n 1, 1) := by decide +kernel
theorem dX6_release_16 : decode cX6_release 16 = .ok (.invokevirtual 65, 3) := by decide +kernel
theorem dX6_release_19 : decode cX6_release 19 = .ok (.aload_n 0, 1) := by decide +kernel
theorem dX6_release_20 : decode cX6_release 20 = .ok (.iload_n 1, 1) := by decide +kernel
theorem dX6_release_21 : decode cX6_release 21 = .ok (.invokevirtual 69, 3) := by decide +kernel
theorem dX6_release_24 : decode cX6_release 24 = .ok (.aload_n 0, 1) := by decide +kernel
theorem dX6_release_25 : decode cX6_release 25 = .ok (.getfield 22, 3) := by decide +kernel
theorem dX6_release_28 : decode cX6_release 28 = .ok (.iload_n 2, 1) := by decide +kernel
theorem dX6_release_29 : decode cX6_release 29 = .ok (.iaload, 1) := by decide +kernel
theorem dX6_release_30 : decode cX6_release 30 = .ok (.iload_n 1, 1) := by decide +kernel
theorem dX6_release_31 : decode cX6_release 31 = .ok (.if_icmp .ne 10, 3) := by decide +kernel
theorem dX6_release_34 : decode cX6_release 34 = .ok (.aload_n 0, 1) := by decide +kernel
theorem dX6_release_35 : decode cX6_release 35 = .ok (.getfield 22, 3) := by decide +kernel
theorem dX6_release_38 : decode cX6_release 38 = .ok (.iload_n 2, 1) := by decide +kernel
theorem dX6_release_39 : decode cX6_release 39 = .ok (.iconst (-1), 1) := by decide +kernel
theorem dX6_release_40 : decode cX6_release 40 = .ok (.iastore, 1) := by decide +kernel
theorem dX6_release_41 : decode cX6_release 41 = .ok (.aload_n 0, 1) := by decide +kernel
theorem dX6_release_42 : decode cX6_release 42 = .ok (.getfield 19, 3) := by decide +kernel
theorem dX6_release_45 : decode cX6_release 45 = .ok (.iload_n 2, 1) := by decide +kernel
theorem dX6_release_46 : decode cX6_release 46 = .ok (.iaload, 1) := by decide +kernel
theorem dX6_release_47 : decode cX6_release 47 = .ok (.iconst 1, 1) := by decide +kernel
theorem dX6_release_48 : decode cX6_release 48 = .ok (.if_icmp .ne 24, 3) := by decide +kernel
theorem dX6_release_51 : decode cX6_release 51 = .ok (.aload_n 0, 1) := by decide +kernel
theorem dX6_release_52 : decode cX6_release 52 = .ok (.aload_n 0, 1) := by decide +kernel
theorem dX6_release_53 : decode cX6_release 53 = .ok (.getfield 15, 3) := by decide +kernel
theorem dX6_release_56 : decode cX6_release 56 = .ok (.iload_n 2, 1) := by decide +kernel
theorem dX6_release_57 : decode cX6_release 57 = .ok (.iconst 0, 1) := by decide +kernel
theorem dX6_release_58 : decode cX6_release 58 = .ok (.invokestatic 57, 3) := by decide +kernel
theorem dX6_release_61 : decode cX6_release 61 = .ok (.iaload, 1) := by decide +kernel
theorem dX6_release_62 : decode cX6_release 62 = .ok (.invokevirtual 69, 3) := by decide +kernel
theorem dX6_release_65 : decode cX6_release 65 = .ok (.aload_n 0, 1) := by decide +kernel
theorem dX6_release_66 : decode cX6_release 66 = .ok (.getfield 19, 3) := by decide +kernel
theorem dX6_release_69 : decode cX6_release 69 = .ok (.iload_n 2, 1) := by decide +kernel
theorem dX6_release_70 : decode cX6_release 70 = .ok (.iconst 0, 1) := by decide +kernel
theorem dX6_release_71 : decode cX6_release 71 = .ok (.iastore, 1) := by decide +kernel
theorem dX6_release_72 : decode cX6_release 72 = .ok (.return_, 1) := by decide +kernel
set_option maxRecDepth 20000 in
theorem ggX6_closeGap_X6_spot : GoodIn wsX6_closeGap wsX6_spot := goodIn_r _ [6] (by decide +kernel) (by decide +kernel)
set_option maxRecDepth 20000 in
theorem gX6_closeGap_X6_spot : GoodIn wsX6_closeGap (va_wsS RX6 57 yX6_spot wsX6_spot) := goodIn_app (goodIn_of _ (by decide +kernel)) ggX6_closeGap_X6_spot
theorem dX6_closeGap_0 : decode cX6_closeGap 0 = .ok (.iconst 0, 1) := by decide +kernel
theorem dX6_closeGap_1 : decode cX6_closeGap 1 = .ok (.istore_n 3, 1) := by decide +kernel
theorem dX6_closeGap_2 : decode cX6_closeGap 2 = .ok (.iconst 0, 1) := by decide +kernel
theorem dX6_closeGap_3 : decode cX6_closeGap 3 = .ok (.istore 4, 2) := by decide +kernel
theorem dX6_closeGap_5 : decode cX6_closeGap 5 = .ok (.iload 4, 2) := by decide +kernel
theorem dX6_closeGap_7 : decode cX6_closeGap 7 = .ok (.aload_n 0, 1) := by decide +kernel
theorem dX6_closeGap_8 : decode cX6_closeGap 8 = .ok (.getfield 19, 3) := by decide +kernel
theorem dX6_closeGap_11 : decode cX6_closeGap 11 = .ok (.iload_n 1, 1) := by decide +kernel
theorem dX6_closeGap_12 : decode cX6_closeGap 12 = .ok (.iaload, 1) := by decide +kernel
theorem dX6_closeGap_13 : decode cX6_closeGap 13 = .ok (.if_icmp .ge 43, 3) := by decide +kernel
theorem dX6_closeGap_16 : decode cX6_closeGap 16 = .ok (.aload_n 0, 1) := by decide +kernel
theorem dX6_closeGap_17 : decode cX6_closeGap 17 = .ok (.getfield 15, 3) := by decide +kernel
theorem dX6_closeGap_20 : decode cX6_closeGap 20 = .ok (.iload_n 1, 1) := by decide +kernel
theorem dX6_closeGap_21 : decode cX6_closeGap 21 = .ok (.iload 4, 2) := by decide +kernel
theorem dX6_closeGap_23 : decode cX6_closeGap 23 = .ok (.invokestatic 57, 3) := by decide +kernel
theorem dX6_closeGap_26 : decode cX6_closeGap 26 = .ok (.iaload, 1) := by decide +kernel
theorem dX6_closeGap_27 : decode cX6_closeGap 27 = .ok (.istore 5, 2) := by decide +kernel
theorem dX6_closeGap_29 : decode cX6_closeGap 29 = .ok (.iload 5, 2) := by decide +kernel
theorem dX6_closeGap_31 : decode cX6_closeGap 31 = .ok (.iload_n 2, 1) := by decide +kernel
theorem dX6_closeGap_32 : decode cX6_closeGap 32 = .ok (.if_icmp .eq 18, 3) := by decide +kernel
theorem dX6_closeGap_35 : decode cX6_closeGap 35 = .ok (.aload_n 0, 1) := by decide +kernel
theorem dX6_closeGap_36 : decode cX6_closeGap 36 = .ok (.getfield 15, 3) := by decide +kernel
theorem dX6_closeGap_39 : decode cX6_closeGap 39 = .ok (.iload_n 1, 1) := by decide +kernel
theorem dX6_closeGap_40 : decode cX6_closeGap 40 = .ok (.iload_n 3, 1) := by decide +kernel
theorem dX6_closeGap_41 : decode cX6_closeGap 41 = .ok (.invokestatic 57, 3) := by decide +kernel
theorem dX6_closeGap_44 : decode cX6_closeGap 44 = .ok (.iload 5, 2) := by decide +kernel
theorem dX6_closeGap_46 : decode cX6_closeGap 46 = .ok (.iastore, 1) := by decide +kernel
theorem dX6_closeGap_47 : decode cX6_closeGap 47 = .ok (.iinc 3 1, 3) := by decide +kernel
theorem dX6_closeGap_50 : decode cX6_closeGap 50 = .ok (.iinc 4 1, 3) := by decide +kernel
theorem dX6_closeGap_53 : decode cX6_closeGap 53 = .ok (.goto (-48), 3) := by decide +kernel
theorem dX6_closeGap_56 : decode cX6_closeGap 56 = .ok (.aload_n 0, 1) := by decide +kernel
theorem dX6_closeGap_57 : decode cX6_closeGap 57 = .ok (.getfield 19, 3) := by decide +kernel
theorem dX6_closeGap_60 : decode cX6_closeGap 60 = .ok (.iload_n 1, 1) := by decide +kernel
theorem dX6_closeGap_61 : decode cX6_closeGap 61 = .ok (.iload_n 3, 1) := by decide +kernel
theorem dX6_closeGap_62 : decode cX6_closeGap 62 = .ok (.iastore, 1) := by decide +kernel
theorem dX6_closeGap_63 : decode cX6_closeGap 63 = .ok (.return_, 1) := by decide +kernel
set_option maxRecDepth 20000 in
theorem ggX6_leave_X8_only : GoodIn wsX6_leave wsX8_only := goodIn_r _ [6] (by decide +kernel) (by decide +kernel)
set_option maxRecDepth 20000 in
theorem gX6_leave_X8_only_n61 : GoodIn wsX6_leave (wsX8_only) := ggX6_leave_X8_only
theorem dX6_leave_0 : decode cX6_leave 0 = .ok (.aload_n 0, 1) := by decide +kernel
theorem dX6_leave_1 : decode cX6_leave 1 = .ok (.getfield 29, 3) := by decide +kernel
theorem dX6_leave_4 : decode cX6_leave 4 = .ok (.iload_n 1, 1) := by decide +kernel
theorem dX6_leave_5 : decode cX6_leave 5 = .ok (.iconst (-1), 1) := by decide +kernel
theorem dX6_leave_6 : decode cX6_leave 6 = .ok (.iastore, 1) := by decide +kernel
theorem dX6_leave_7 : decode cX6_leave 7 = .ok (.aload_n 0, 1) := by decide +kernel
theorem dX6_leave_8 : decode cX6_leave 8 = .ok (.dup, 1) := by decide +kernel
theorem dX6_leave_9 : decode cX6_leave 9 = .ok (.getfield 46, 3) := by decide +kernel
theorem dX6_leave_12 : decode cX6_leave 12 = .ok (.iload_n 1, 1) := by decide +kernel
theorem dX6_leave_13 : decode cX6_leave 13 = .ok (.invokestatic 61, 3) := by decide +kernel
theorem dX6_leave_16 : decode cX6_leave 16 = .ok (.ldc2_w 73, 3) := by decide +kernel
theorem dX6_leave_19 : decode cX6_leave 19 = .ok (.lxor, 1) := by decide +kernel
theorem dX6_leave_20 : decode cX6_leave 20 = .ok (.land, 1) := by decide +kernel
theorem dX6_leave_21 : decode cX6_leave 21 = .ok (.putfield 46, 3) := by decide +kernel
theorem dX6_leave_24 : decode cX6_leave 24 = .ok (.return_, 1) := by decide +kernel
set_option maxRecDepth 20000 in
theorem ggX6_fileAt_X6_spot : GoodIn wsX6_fileAt wsX6_spot := goodIn_r _ [6] (by decide +kernel) (by decide +kernel)
set_option maxRecDepth 20000 in
theorem gX6_fileAt_X6_spot : GoodIn wsX6_fileAt (va_wsS RX6 57 yX6_spot wsX6_spot) := goodIn_app (goodIn_of _ (by decide +kernel)) ggX6_fileAt_X6_spot
theorem dX6_fileAt_0 : decode cX6_fileAt 0 = .ok (.iload_n 2, 1) := by decide +kernel
theorem dX6_fileAt_1 : decode cX6_fileAt 1 = .ok (.aload_n 0, 1) := by decide +kernel
theorem dX6_fileAt_2 : decode cX6_fileAt 2 = .ok (.getfield 19, 3) := by decide +kernel
theorem dX6_fileAt_5 : decode cX6_fileAt 5 = .ok (.iload_n 1, 1) := by decide +kernel
theorem dX6_fileAt_6 : decode cX6_fileAt 6 = .ok (.iaload, 1) := by decide +kernel
theorem dX6_fileAt_7 : decode cX6_fileAt 7 = .ok (.if_icmp .ge 16, 3) := by decide +kernel
theorem dX6_fileAt_10 : decode cX6_fileAt 10 = .ok (.aload_n 0, 1) := by decide +kernel
theorem dX6_fileAt_11 : decode cX6_fileAt 11 = .ok (.getfield 15, 3) := by decide +kernel
theorem dX6_fileAt_14 : decode cX6_fileAt 14 = .ok (.iload_n 1, 1) := by decide +kernel
theorem dX6_fileAt_15 : decode cX6_fileAt 15 = .ok (.iload_n 2, 1) := by decide +kernel
theorem dX6_fileAt_16 : decode cX6_fileAt 16 = .ok (.invokestatic 57, 3) := by decide +kernel
theorem dX6_fileAt_19 : decode cX6_fileAt 19 = .ok (.iaload, 1) := by decide +kernel
theorem dX6_fileAt_20 : decode cX6_fileAt 20 = .ok (.goto 4, 3) := by decide +kernel
theorem dX6_fileAt_23 : decode cX6_fileAt 23 = .ok (.iconst (-1), 1) := by decide +kernel
theorem dX6_fileAt_24 : decode cX6_fileAt 24 = .ok (.ireturn, 1) := by decide +kernel
set_option maxRecDepth 20000 in
theorem ggX6_cover_X6_spot : GoodIn wsX6_cover wsX6_spot := goodIn_r _ [8] (by decide +kernel) (by decide +kernel)
set_option maxRecDepth 20000 in
theorem gX6_cover_X6_spot : GoodIn wsX6_cover (va_wsS RX6 57 yX6_spot wsX6_spot) := goodIn_app (goodIn_of _ (by decide +kernel)) ggX6_cover_X6_spot
set_option maxRecDepth 20000 in
theorem ggX6_cover_X1_settledValue : GoodIn wsX6_cover wsX1_settledValue := goodIn_r _ [13, 14, 23, 24, 25, 26, 27, 28] (by decide +kernel) (by decide +kernel)
set_option maxRecDepth 20000 in
theorem gX6_cover_X1_settledValue : GoodIn wsX6_cover (wsV RX6 75 RX1 yX1_settledValue wsX1_settledValue) := goodIn_app (goodIn_of _ (by decide +kernel)) ggX6_cover_X1_settledValue
theorem dX6_cover_0 : decode cX6_cover 0 = .ok (.aload_n 0, 1) := by decide +kernel
theorem dX6_cover_1 : decode cX6_cover 1 = .ok (.getfield 22, 3) := by decide +kernel
theorem dX6_cover_4 : decode cX6_cover 4 = .ok (.iload_n 1, 1) := by decide +kernel
theorem dX6_cover_5 : decode cX6_cover 5 = .ok (.iaload, 1) := by decide +kernel
theorem dX6_cover_6 : decode cX6_cover 6 = .ok (.iconst (-1), 1) := by decide +kernel
theorem dX6_cover_7 : decode cX6_cover 7 = .ok (.if_icmp .eq 10, 3) := by decide +kernel
theorem dX6_cover_10 : decode cX6_cover 10 = .ok (.aload_n 0, 1) := by decide +kernel
theorem dX6_cover_11 : decode cX6_cover 11 = .ok (.getfield 22, 3) := by decide +kernel
theorem dX6_cover_14 : decode cX6_cover 14 = .ok (.iload_n 1, 1) := by decide +kernel
theorem dX6_cover_15 : decode cX6_cover 15 = .ok (.iaload, 1) := by decide +kernel
theorem dX6_cover_16 : decode cX6_cover 16 = .ok (.ireturn, 1) := by decide +kernel
theorem dX6_cover_17 : decode cX6_cover 17 = .ok (.aload_n 0, 1) := by decide +kernel
theorem dX6_cover_18 : decode cX6_cover 18 = .ok (.getfield 15, 3) := by decide +kernel
theorem dX6_cover_21 : decode cX6_cover 21 = .ok (.iload_n 1, 1) := by decide +kernel
theorem dX6_cover_22 : decode cX6_cover 22 = .ok (.iconst 0, 1) := by decide +kernel
theorem dX6_cover_23 : decode cX6_cover 23 = .ok (.invokestatic 57, 3) := by decide +kernel
theorem dX6_cover_26 : decode cX6_cover 26 = .ok (.iaload, 1) := by decide +kernel
theorem dX6_cover_27 : decode cX6_cover 27 = .ok (.istore_n 2, 1) := by decide +kernel
theorem dX6_cover_28 : decode cX6_cover 28 = .ok (.iconst 1, 1) := by decide +kernel
theorem dX6_cover_29 : decode cX6_cover 29 = .ok (.istore_n 3, 1) := by decide +kernel
theorem dX6_cover_30 : decode cX6_cover 30 = .ok (.iload_n 3, 1) := by decide +kernel
theorem dX6_cover_31 : decode cX6_cover 31 = .ok (.aload_n 0, 1) := by decide +kernel
theorem dX6_cover_32 : decode cX6_cover 32 = .ok (.getfield 19, 3) := by decide +kernel
theorem dX6_cover_35 : decode cX6_cover 35 = .ok (.iload_n 1, 1) := by decide +kernel
theorem dX6_cover_36 : decode cX6_cover 36 = .ok (.iaload, 1) := by decide +kernel
theorem dX6_cover_37 : decode cX6_cover 37 = .ok (.if_icmp .ge 46, 3) := by decide +kernel
theorem dX6_cover_40 : decode cX6_cover 40 = .ok (.aload_n 0, 1) := by decide +kernel
theorem dX6_cover_41 : decode cX6_cover 41 = .ok (.getfield 15, 3) := by decide +kernel
theorem dX6_cover_44 : decode cX6_cover 44 = .ok (.iload_n 1, 1) := by decide +kernel
theorem dX6_cover_45 : decode cX6_cover 45 = .ok (.iload_n 3, 1) := by decide +kernel
theorem dX6_cover_46 : decode cX6_cover 46 = .ok (.invokestatic 57, 3) := by decide +kernel
theorem dX6_cover_49 : decode cX6_cover 49 = .ok (.iaload, 1) := by decide +kernel
theorem dX6_cover_50 : decode cX6_cover 50 = .ok (.istore 4, 2) := by decide +kernel
theorem dX6_cover_52 : decode cX6_cover 52 = .ok (.aload_n 0, 1) := by decide +kernel
theorem dX6_cover_53 : decode cX6_cover 53 = .ok (.getfield 9, 3) := by decide +kernel
theorem dX6_cover_56 : decode cX6_cover 56 = .ok (.iload 4, 2) := by decide +kernel
theorem dX6_cover_58 : decode cX6_cover 58 = .ok (.iconst 1, 1) := by decide +kernel
theorem dX6_cover_59 : decode cX6_cover 59 = .ok (.invokevirtual 75, 3) := by decide +kernel
theorem dX6_cover_62 : decode cX6_cover 62 = .ok (.aload_n 0, 1) := by decide +kernel
theorem dX6_cover_63 : decode cX6_cover 63 = .ok (.getfield 9, 3) := by decide +kernel
theorem dX6_cover_66 : decode cX6_cover 66 = .ok (.iload_n 2, 1) := by decide +kernel
theorem dX6_cover_67 : decode cX6_cover 67 = .ok (.iconst 1, 1) := by decide +kernel
theorem dX6_cover_68 : decode cX6_cover 68 = .ok (.invokevirtual 75, 3) := by decide +kernel
theorem dX6_cover_71 : decode cX6_cover 71 = .ok (.if_icmp .le 6, 3) := by decide +kernel
theorem dX6_cover_74 : decode cX6_cover 74 = .ok (.iload 4, 2) := by decide +kernel
theorem dX6_cover_76 : decode cX6_cover 76 = .ok (.istore_n 2, 1) := by decide +kernel
theorem dX6_cover_77 : decode cX6_cover 77 = .ok (.iinc 3 1, 3) := by decide +kernel
theorem dX6_cover_80 : decode cX6_cover 80 = .ok (.goto (-50), 3) := by decide +kernel
theorem dX6_cover_83 : decode cX6_cover 83 = .ok (.iload_n 2, 1) := by decide +kernel
theorem dX6_cover_84 : decode cX6_cover 84 = .ok (.ireturn, 1) := by decide +kernel
set_option maxRecDepth 20000 in
theorem ggX6_findCovers_X6_has : GoodIn wsX6_findCovers wsX6_has := goodIn_r _ [6, 7, 8, 9, 10, 29, 30, 31, 32, 33, 34, 35, 36] (by decide +kernel) (by decide +kernel)
set_option maxRecDepth 20000 in
theorem gX6_findCovers_X6_has : GoodIn wsX6_findCovers (wsV RX6 42 RX6 yX6_has wsX6_has) := goodIn_app (goodIn_of _ (by decide +kernel)) ggX6_findCovers_X6_has
set_option maxRecDepth 20000 in
theorem ggX6_findCovers_X6_cover : GoodIn wsX6_findCovers wsX6_cover := goodIn_r _ [14, 15, 16, 7, 17, 18, 19, 5, 20, 21, 22, 23, 24, 25, 26, 29, 30, 31, 32, 33, 34, 35, 36, 37, 38, 39, 40, 41, 42] (by decide +kernel) (by decide +kernel)
set_option maxRecDepth 20000 in
theorem gX6_findCovers_X6_cover : GoodIn wsX6_findCovers (wsV RX6 80 RX6 yX6_cover wsX6_cover) := goodIn_app (goodIn_of _ (by decide +kernel)) ggX6_findCovers_X6_cover
set_option maxRecDepth 20000 in
theorem ggX6_findCovers_X8_only : GoodIn wsX6_findCovers wsX8_only := goodIn_r _ [28] (by decide +kernel) (by decide +kernel)
set_option maxRecDepth 20000 in
theorem gX6_findCovers_X8_only_n61 : GoodIn wsX6_findCovers (wsX8_only) := ggX6_findCovers_X8_only
theorem dX6_findCovers_0 : decode cX6_findCovers 0 = .ok (.aload_n 0, 1) := by decide +kernel
theorem dX6_findCovers_1 : decode cX6_findCovers 1 = .ok (.lconst 0, 1) := by decide +kernel
theorem dX6_findCovers_2 : decode cX6_findCovers 2 = .ok (.putfield 50, 3) := by decide +kernel
theorem dX6_findCovers_5 : decode cX6_findCovers 5 = .ok (.iconst 0, 1) := by decide +kernel
theorem dX6_findCovers_6 : decode cX6_findCovers 6 = .ok (.istore_n 1, 1) := by decide +kernel
theorem dX6_findCovers_7 : decode cX6_findCovers 7 = .ok (.iload_n 1, 1) := by decide +kernel
theorem dX6_findCovers_8 : decode cX6_findCovers 8 = .ok (.bipush 10, 2) := by decide +kernel
theorem dX6_findCovers_10 : decode cX6_findCovers 10 = .ok (.if_icmp .ge 34, 3) := by decide +kernel
theorem dX6_findCovers_13 : decode cX6_findCovers 13 = .ok (.aload_n 0, 1) := by decide +kernel
theorem dX6_findCovers_14 : decode cX6_findCovers 14 = .ok (.iload_n 1, 1) := by decide +kernel
theorem dX6_findCovers_15 : decode cX6_findCovers 15 = .ok (.invokevirtual 42, 3) := by decide +kernel
theorem dX6_findCovers_18 : decode cX6_findCovers 18 = .ok (.ifCond .eq 20, 3) := by decide +kernel
theorem dX6_findCovers_21 : decode cX6_findCovers 21 = .ok (.aload_n 0, 1) := by decide +kernel
theorem dX6_findCovers_22 : decode cX6_findCovers 22 = .ok (.dup, 1) := by decide +kernel
theorem dX6_findCovers_23 : decode cX6_findCovers 23 = .ok (.getfield 50, 3) := by decide +kernel
theorem dX6_findCovers_26 : decode cX6_findCovers 26 = .ok (.aload_n 0, 1) := by decide +kernel
theorem dX6_findCovers_27 : decode cX6_findCovers 27 = .ok (.iload_n 1, 1) := by decide +kernel
theorem dX6_findCovers_28 : decode cX6_findCovers 28 = .ok (.invokevirtual 80, 3) := by decide +kernel
theorem dX6_findCovers_31 : decode cX6_findCovers 31 = .ok (.invokestatic 61, 3) := by decide +kernel
theorem dX6_findCovers_34 : decode cX6_findCovers 34 = .ok (.lor, 1) := by decide +kernel
theorem dX6_findCovers_35 : decode cX6_findCovers 35 = .ok (.putfield 50, 3) := by decide +kernel
theorem dX6_findCovers_38 : decode cX6_findCovers 38 = .ok (.iinc 1 1, 3) := by decide +kernel
theorem dX6_findCovers_41 : decode cX6_findCovers 41 = .ok (.goto (-34), 3) := by decide +kernel
theorem dX6_findCovers_44 : decode cX6_findCovers 44 = .ok (.return_, 1) := by decide +kernel
set_option maxRecDepth 20000 in
theorem ggX6_withoutHidden_X6_spot : GoodIn wsX6_withoutHidden wsX6_spot := goodIn_r _ [7] (by decide +kernel) (by decide +kernel)
set_option maxRecDepth 20000 in
theorem gX6_withoutHidden_X6_spot : GoodIn wsX6_withoutHidden (va_wsS RX6 57 yX6_spot wsX6_spot) := goodIn_app (goodIn_of _ (by decide +kernel)) ggX6_withoutHidden_X6_spot
set_option maxRecDepth 20000 in
theorem ggX6_withoutHidden_X8_holds : GoodIn wsX6_withoutHidden wsX8_holds := goodIn_r _ [10] (by decide +kernel) (by decide +kernel)
set_option maxRecDepth 20000 in
theorem gX6_withoutHidden_X8_holds_n84 : GoodIn wsX6_withoutHidden (wsX8_holds) := ggX6_withoutHidden_X8_holds
set_option maxRecDepth 20000 in
theorem ggX6_withoutHidden_X8_only : GoodIn wsX6_withoutHidden wsX8_only := goodIn_r _ [12] (by decide +kernel) (by decide +kernel)
set_option maxRecDepth 20000 in
theorem gX6_withoutHidden_X8_only_n61 : GoodIn wsX6_withoutHidden (wsX8_only) := ggX6_withoutHidden_X8_only
set_option maxRecDepth 20000 in
theorem ggX6_withoutHidden_X6_cover : GoodIn wsX6_withoutHidden wsX6_cover := goodIn_r _ [16, 17, 2, 1, 18, 4, 5, 6, 7, 19, 20, 21, 22, 23, 24, 25, 26, 27, 28, 29, 30, 31, 32, 33, 34, 35, 36, 37, 38] (by decide +kernel) (by decide +kernel)
set_option maxRecDepth 20000 in
theorem gX6_withoutHidden_X6_cover : GoodIn wsX6_withoutHidden (wsV RX6 80 RX6 yX6_cover wsX6_cover) := goodIn_app (goodIn_of _ (by decide +kernel)) ggX6_withoutHidden_X6_cover
theorem dX6_withoutHidden_0 : decode cX6_withoutHidden 0 = .ok (.lload_n 2, 1) := by decide +kernel
theorem dX6_withoutHidden_1 : decode cX6_withoutHidden 1 = .ok (.lstore 4, 2) := by decide +kernel
theorem dX6_withoutHidden_3 : decode cX6_withoutHidden 3 = .ok (.iconst (-1), 1) := by decide +kernel
theorem dX6_withoutHidden_4 : decode cX6_withoutHidden 4 = .ok (.istore 6, 2) := by decide +kernel
theorem dX6_withoutHidden_6 : decode cX6_withoutHidden 6 = .ok (.iconst 0, 1) := by decide +kernel
theorem dX6_withoutHidden_7 : decode cX6_withoutHidden 7 = .ok (.istore 7, 2) := by decide +kernel
theorem dX6_withoutHidden_9 : decode cX6_withoutHidden 9 = .ok (.iload 7, 2) := by decide +kernel
theorem dX6_withoutHidden_11 : decode cX6_withoutHidden 11 = .ok (.aload_n 0, 1) := by decide +kernel
theorem dX6_withoutHidden_12 : decode cX6_withoutHidden 12 = .ok (.getfield 19, 3) := by decide +kernel
theorem dX6_withoutHidden_15 : decode cX6_withoutHidden 15 = .ok (.iload_n 1, 1) := by decide +kernel
theorem dX6_withoutHidden_16 : decode cX6_withoutHidden 16 = .ok (.iaload, 1) := by decide +kernel
theorem dX6_withoutHidden_17 : decode cX6_withoutHidden 17 = .ok (.if_icmp .ge 55, 3) := by decide +kernel
theorem dX6_withoutHidden_20 : decode cX6_withoutHidden 20 = .ok (.aload_n 0, 1) := by decide +kernel
theorem dX6_withoutHidden_21 : decode cX6_withoutHidden 21 = .ok (.getfield 15, 3) := by decide +kernel
theorem dX6_withoutHidden_24 : decode cX6_withoutHidden 24 = .ok (.iload_n 1, 1) := by decide +kernel
theorem dX6_withoutHidden_25 : decode cX6_withoutHidden 25 = .ok (.iload 7, 2) := by decide +kernel
theorem dX6_withoutHidden_27 : decode cX6_withoutHidden 27 = .ok (.invokestatic 57, 3) := by decide +kernel
theorem dX6_withoutHidden_30 : decode cX6_withoutHidden 30 = .ok (.iaload, 1) := by decide +kernel
theorem dX6_withoutHidden_31 : decode cX6_withoutHidden 31 = .ok (.istore 8, 2) := by decide +kernel
theorem dX6_withoutHidden_33 : decode cX6_withoutHidden 33 = .ok (.iload 6, 2) := by decide +kernel
theorem dX6_withoutHidden_35 : decode cX6_withoutHidden 35 = .ok (.iconst (-1), 1) := by decide +kernel
theorem dX6_withoutHidden_36 : decode cX6_withoutHidden 36 = .ok (.if_icmp .ne 16, 3) := by decide +kernel
theorem dX6_withoutHidden_39 : decode cX6_withoutHidden 39 = .ok (.lload_n 2, 1) := by decide +kernel
theorem dX6_withoutHidden_40 : decode cX6_withoutHidden 40 = .ok (.iload 8, 2) := by decide +kernel
theorem dX6_withoutHidden_42 : decode cX6_withoutHidden 42 = .ok (.invokestatic 84, 3) := by decide +kernel
theorem dX6_withoutHidden_45 : decode cX6_withoutHidden 45 = .ok (.ifCond .eq 7, 3) := by decide +kernel
theorem dX6_withoutHidden_48 : decode cX6_withoutHidden 48 = .ok (.iload 8, 2) := by decide +kernel
theorem dX6_withoutHidden_50 : decode cX6_withoutHidden 50 = .ok (.istore 6, 2) := by decide +kernel
theorem dX6_withoutHidden_52 : decode cX6_withoutHidden 52 = .ok (.lload 4, 2) := by decide +kernel
theorem dX6_withoutHidden_54 : decode cX6_withoutHidden 54 = .ok (.iload 8, 2) := by decide +kernel
theorem dX6_withoutHidden_56 : decode cX6_withoutHidden 56 = .ok (.invokestatic 61, 3) := by decide +kernel
theorem dX6_withoutHidden_59 : decode cX6_withoutHidden 59 = .ok (.ldc2_w 73, 3) := by decide +kernel
theorem dX6_withoutHidden_62 : decode cX6_withoutHidden 62 = .ok (.lxor, 1) := by decide +kernel
theorem dX6_withoutHidden_63 : decode cX6_withoutHidden 63 = .ok (.land, 1) := by decide +kernel
theorem dX6_withoutHidden_64 : decode cX6_withoutHidden 64 = .ok (.lstore 4, 2) := by decide +kernel
theorem dX6_withoutHidden_66 : decode cX6_withoutHidden 66 = .ok (.iinc 7 1, 3) := by decide +kernel
theorem dX6_withoutHidden_69 : decode cX6_withoutHidden 69 = .ok (.goto (-60), 3) := by decide +kernel
theorem dX6_withoutHidden_72 : decode cX6_withoutHidden 72 = .ok (.iload 6, 2) := by decide +kernel
theorem dX6_withoutHidden_74 : decode cX6_withoutHidden 74 = .ok (.iconst (-1), 1) := by decide +kernel
theorem dX6_withoutHidden_75 : decode cX6_withoutHidden 75 = .ok (.if_icmp .ne 5, 3) := by decide +kernel
theorem dX6_withoutHidden_78 : decode cX6_withoutHidden 78 = .ok (.lload_n 2, 1) := by decide +kernel
theorem dX6_withoutHidden_79 : decode cX6_withoutHidden 79 = .ok (.lreturn, 1) := by decide +kernel
theorem dX6_withoutHidden_80 : decode cX6_withoutHidden 80 = .ok (.aload_n 0, 1) := by decide +kernel
theorem dX6_withoutHidden_81 : decode cX6_withoutHidden 81 = .ok (.iload_n 1, 1) := by decide +kernel
theorem dX6_withoutHidden_82 : decode cX6_withoutHidden 82 = .ok (.invokevirtual 80, 3) := by decide +kernel
theorem dX6_withoutHidden_85 : decode cX6_withoutHidden 85 = .ok (.istore 7, 2) := by decide +kernel
theorem dX6_withoutHidden_87 : decode cX6_withoutHidden 87 = .ok (.lload 4, 2) := by decide +kernel
theorem dX6_withoutHidden_89 : decode cX6_withoutHidden 89 = .ok (.lload_n 2, 1) := by decide +kernel
theorem dX6_withoutHidden_90 : decode cX6_withoutHidden 90 = .ok (.iload 7, 2) := by decide +kernel
theorem dX6_withoutHidden_92 : decode cX6_withoutHidden 92 = .ok (.invokestatic 84, 3) := by decide +kernel
theorem dX6_withoutHidden_95 : decode cX6_withoutHidden 95 = .ok (.ifCond .eq 8, 3) := by decide +kernel
theorem dX6_withoutHidden_98 : decode cX6_withoutHidden 98 = .ok (.iload 7, 2) := by decide +kernel
theorem dX6_withoutHidden_100 : decode cX6_withoutHidden 100 = .ok (.goto 5, 3) := by decide +kernel
theorem dX6_withoutHidden_103 : decode cX6_withoutHidden 103 = .ok (.iload 6, 2) := by decide +kernel
theorem dX6_withoutHidden_105 : decode cX6_withoutHidden 105 = .ok (.invokestatic 61, 3) := by decide +kernel
theorem dX6_withoutHidden_108 : decode cX6_withoutHidden 108 = .ok (.lor, 1) := by decide +kernel
theorem dX6_withoutHidden_109 : decode cX6_withoutHidden 109 = .ok (.lreturn, 1) := by decide +kernel
theorem dX6_spot_0 : decode cX6_spot 0 = .ok (.iload_n 0, 1) := by decide +kernel
theorem dX6_spot_1 : decode cX6_spot 1 = .ok (.bipush 8, 2) := by decide +kernel
theorem dX6_spot_3 : decode cX6_spot 3 = .ok (.imul, 1) := by decide +kernel
theorem dX6_spot_4 : decode cX6_spot 4 = .ok (.iload_n 1, 1) := by decide +kernel
theorem dX6_spot_5 : decode cX6_spot 5 = .ok (.iadd, 1) := by decide +kernel
theorem dX6_spot_6 : decode cX6_spot 6 = .ok (.ireturn, 1) := by decide +kernel
theorem dX7_init_0 : decode cX7_init 0 = .ok (.aload_n 0, 1) := by decide +kernel
theorem dX7_init_1 : decode cX7_init 1 = .ok (.invokespecial 3, 3) := by decide +kernel
theorem dX7_init_4 : decode cX7_init 4 = .ok (.aload_n 0, 1) := by decide +kernel
theorem dX7_init_5 : decode cX7_init 5 = .ok (.aload_n 1, 1) := by decide +kernel
theorem dX7_init_6 : decode cX7_init 6 = .ok (.putfield 9, 3) := by decide +kernel
theorem dX7_init_9 : decode cX7_init 9 = .ok (.aload_n 0, 1) := by decide +kernel
theorem dX7_init_10 : decode cX7_init 10 = .ok (.aload_n 2, 1) := by decide +kernel
theorem dX7_init_11 : decode cX7_init 11 = .ok (.putfield 15, 3) := by decide +kernel
theorem dX7_init_14 : decode cX7_init 14 = .ok (.return_, 1) := by decide +kernel
set_option maxRecDepth 20000 in
theorem ggX7_shown_X0_members : GoodIn wsX7_shown wsX0_members := goodIn_r _ [6, 7, 49, 50, 51, 52, 53, 54, 55] (by decide +kernel) (by decide +kernel)
set_option maxRecDepth 20000 in
theorem gX7_shown_X0_members : GoodIn wsX7_shown (wsV RX7 19 RX0 yX0_members wsX0_members) := goodIn_app (goodIn_of _ (by decide +kernel)) ggX7_shown_X0_members
set_option maxRecDepth 20000 in
theorem ggX7_shown_X6_has : GoodIn wsX7_shown wsX6_has := goodIn_r _ [12, 13, 14, 15, 16, 56, 57, 58, 59, 60, 61, 62, 63] (by decide +kernel) (by decide +kernel)
set_option maxRecDepth 20000 in
theorem gX7_shown_X6_has : GoodIn wsX7_shown (wsV RX7 25 RX6 yX6_has wsX6_has) := goodIn_app (goodIn_of _ (by decide +kernel)) ggX7_shown_X6_has
set_option maxRecDepth 20000 in
theorem ggX7_shown_X6_isCollapsed : GoodIn wsX7_shown wsX6_isCollapsed := goodIn_r _ [20, 21, 56, 57, 58, 59, 60, 61, 62, 63] (by decide +kernel) (by decide +kernel)
set_option maxRecDepth 20000 in
theorem gX7_shown_X6_isCollapsed : GoodIn wsX7_shown (wsV RX7 31 RX6 yX6_isCollapsed wsX6_isCollapsed) := goodIn_app (goodIn_of _ (by decide +kernel)) ggX7_shown_X6_isCollapsed
set_option maxRecDepth 20000 in
theorem ggX7_shown_X6_withoutHidden : GoodIn wsX7_shown wsX6_withoutHidden := goodIn_r _ [25, 13, 26, 27, 28, 29, 11, 30, 31, 15, 32, 33, 34, 35, 36, 37, 38, 39, 40, 41, 42, 43, 44, 45, 46, 56, 57, 58, 59, 60, 61, 62, 63, 64, 65, 66, 67, 68, 69] (by decide +kernel) (by decide +kernel)
set_option maxRecDepth 20000 in
theorem gX7_shown_X6_withoutHidden : GoodIn wsX7_shown (wsV RX7 34 RX6 yX6_withoutHidden wsX6_withoutHidden) := goodIn_app (goodIn_of _ (by decide +kernel)) ggX7_shown_X6_withoutHidden
theorem dX7_shown_0 : decode cX7_shown 0 = .ok (.aload_n 1, 1) := by decide +kernel
theorem dX7_shown_1 : decode cX7_shown 1 = .ok (.invokevirtual 19, 3) := by decide +kernel
theorem dX7_shown_4 : decode cX7_shown 4 = .ok (.lstore_n 2, 1) := by decide +kernel
theorem dX7_shown_5 : decode cX7_shown 5 = .ok (.iconst 0, 1) := by decide +kernel
theorem dX7_shown_6 : decode cX7_shown 6 = .ok (.istore 4, 2) := by decide +kernel
theorem dX7_shown_8 : decode cX7_shown 8 = .ok (.iload 4, 2) := by decide +kernel
theorem dX7_shown_10 : decode cX7_shown 10 = .ok (.bipush 10, 2) := by decide +kernel
theorem dX7_shown_12 : decode cX7_shown 12 = .ok (.if_icmp .ge 44, 3) := by decide +kernel
theorem dX7_shown_15 : decode cX7_shown 15 = .ok (.aload_n 0, 1) := by decide +kernel
theorem dX7_shown_16 : decode cX7_shown 16 = .ok (.getfield 15, 3) := by decide +kernel
theorem dX7_shown_19 : decode cX7_shown 19 = .ok (.iload 4, 2) := by decide +kernel
theorem dX7_shown_21 : decode cX7_shown 21 = .ok (.invokevirtual 25, 3) := by decide +kernel
theorem dX7_shown_24 : decode cX7_shown 24 = .ok (.ifCond .eq 26, 3) := by decide +kernel
theorem dX7_shown_27 : decode cX7_shown 27 = .ok (.aload_n 0, 1) := by decide +kernel
theorem dX7_shown_28 : decode cX7_shown 28 = .ok (.getfield 15, 3) := by decide +kernel
theorem dX7_shown_31 : decode cX7_shown 31 = .ok (.iload 4, 2) := by decide +kernel
theorem dX7_shown_33 : decode cX7_shown 33 = .ok (.invokevirtual 31, 3) := by decide +kernel
theorem dX7_shown_36 : decode cX7_shown 36 = .ok (.ifCond .eq 14, 3) := by decide +kernel
theorem dX7_shown_39 : decode cX7_shown 39 = .ok (.aload_n 0, 1) := by decide +kernel
theorem dX7_shown_40 : decode cX7_shown 40 = .ok (.getfield 15, 3) := by decide +kernel
theorem dX7_shown_43 : decode cX7_shown 43 = .ok (.iload 4, 2) := by decide +kernel
theorem dX7_shown_45 : decode cX7_shown 45 = .ok (.lload_n 2, 1) := by decide +kernel
theorem dX7_shown_46 : decode cX7_shown 46 = .ok (.invokevirtual 34, 3) := by decide +kernel
theorem dX7_shown_49 : decode cX7_shown 49 = .ok (.lstore_n 2, 1) := by decide +kernel
theorem dX7_shown_50 : decode cX7_shown 50 = .ok (.iinc 4 1, 3) := by decide +kernel
theorem dX7_shown_53 : decode cX7_shown 53 = .ok (.goto (-45), 3) := by decide +kernel
theorem dX7_shown_56 : decode cX7_shown 56 = .ok (.lload_n 2, 1) := by decide +kernel
theorem dX7_shown_57 : decode cX7_shown 57 = .ok (.lreturn, 1) := by decide +kernel
set_option maxRecDepth 20000 in
theorem ggX7_fileAt_X7_shown : GoodIn wsX7_fileAt wsX7_shown := goodIn_r _ [5, 6, 7, 8, 9, 10, 11, 12, 13, 14, 15, 16, 17, 18, 19, 20, 21, 22, 23, 24, 25, 26, 27, 28, 29, 30, 31, 32, 33, 34, 35, 36, 37, 38, 39, 40, 41, 42, 43, 44, 45, 46, 47, 48, 49, 50, 51, 72, 73, 74, 75, 76, 77, 78, 79, 80, 81, 82, 83, 84, 85, 86, 87, 88, 89, 90, 91, 92, 93, 94] (by decide +kernel) (by decide +kernel)
set_option maxRecDepth 20000 in
theorem gX7_fileAt_X7_shown : GoodIn wsX7_fileAt (wsV RX7 38 RX7 yX7_shown wsX7_shown) := goodIn_app (goodIn_of _ (by decide +kernel)) ggX7_fileAt_X7_shown
set_option maxRecDepth 20000 in
theorem ggX7_fileAt_X8_holds : GoodIn wsX7_fileAt wsX8_holds := goodIn_r _ [37] (by decide +kernel) (by decide +kernel)
set_option maxRecDepth 20000 in
theorem gX7_fileAt_X8_holds_n42 : GoodIn wsX7_fileAt (wsX8_holds) := ggX7_fileAt_X8_holds
set_option maxRecDepth 20000 in
theorem ggX7_fileAt_X7_placeOf : GoodIn wsX7_fileAt wsX7_placeOf := goodIn_r _ [55, 36, 20, 37, 56, 57, 58, 4, 59, 60, 61, 62, 63, 10, 64, 65, 66, 47, 48, 49, 50, 51, 67, 68, 69, 70, 71, 72, 73, 74, 75, 76, 77, 78, 79, 80, 89, 90, 91, 92, 93, 94] (by decide +kernel) (by decide +kernel)
set_option maxRecDepth 20000 in
theorem gX7_fileAt_X7_placeOf : GoodIn wsX7_fileAt (wsV RX7 46 RX7 yX7_placeOf wsX7_placeOf) := goodIn_app (goodIn_of _ (by decide +kernel)) ggX7_fileAt_X7_placeOf
theorem dX7_fileAt_0 : decode cX7_fileAt 0 = .ok (.aload_n 0, 1) := by decide +kernel
theorem dX7_fileAt_1 : decode cX7_fileAt 1 = .ok (.aload_n 1, 1) := by decide +kernel
theorem dX7_fileAt_2 : decode cX7_fileAt 2 = .ok (.invokevirtual 38, 3) := by decide +kernel
theorem dX7_fileAt_5 : decode cX7_fileAt 5 = .ok (.lstore_n 3, 1) := by decide +kernel
theorem dX7_fileAt_6 : decode cX7_fileAt 6 = .ok (.iconst 0, 1) := by decide +kernel
theorem dX7_fileAt_7 : decode cX7_fileAt 7 = .ok (.istore 5, 2) := by decide +kernel
theorem dX7_fileAt_9 : decode cX7_fileAt 9 = .ok (.iload 5, 2) := by decide +kernel
theorem dX7_fileAt_11 : decode cX7_fileAt 11 = .ok (.bipush 40, 2) := by decide +kernel
theorem dX7_fileAt_13 : decode cX7_fileAt 13 = .ok (.if_icmp .ge 33, 3) := by decide +kernel
theorem dX7_fileAt_16 : decode cX7_fileAt 16 = .ok (.lload_n 3, 1) := by decide +kernel
theorem dX7_fileAt_17 : decode cX7_fileAt 17 = .ok (.iload 5, 2) := by decide +kernel
theorem dX7_fileAt_19 : decode cX7_fileAt 19 = .ok (.invokestatic 42, 3) := by decide +kernel
theorem dX7_fileAt_22 : decode cX7_fileAt 22 = .ok (.ifCond .eq 18, 3) := by decide +kernel
theorem dX7_fileAt_25 : decode cX7_fileAt 25 = .ok (.aload_n 0, 1) := by decide +kernel
theorem dX7_fileAt_26 : decode cX7_fileAt 26 = .ok (.aload_n 1, 1) := by decide +kernel
theorem dX7_fileAt_27 : decode cX7_fileAt 27 = .ok (.lload_n 3, 1) := by decide +kernel
theorem dX7_fileAt_28 : decode cX7_fileAt 28 = .ok (.iload 5, 2) := by decide +kernel
theorem dX7_fileAt_30 : decode cX7_fileAt 30 = .ok (.invokevirtual 46, 3) := by decide +kernel
theorem dX7_fileAt_33 : decode cX7_fileAt 33 = .ok (.iload_n 2, 1) := by decide +kernel
theorem dX7_fileAt_34 : decode cX7_fileAt 34 = .ok (.if_icmp .ne 6, 3) := by decide +kernel
theorem dX7_fileAt_37 : decode cX7_fileAt 37 = .ok (.iload 5, 2) := by decide +kernel
theorem dX7_fileAt_39 : decode cX7_fileAt 39 = .ok (.ireturn, 1) := by decide +kernel
theorem dX7_fileAt_40 : decode cX7_fileAt 40 = .ok (.iinc 5 1, 3) := by decide +kernel
theorem dX7_fileAt_43 : decode cX7_fileAt 43 = .ok (.goto (-34), 3) := by decide +kernel
theorem dX7_fileAt_46 : decode cX7_fileAt 46 = .ok (.iconst (-1), 1) := by decide +kernel
theorem dX7_fileAt_47 : decode cX7_fileAt 47 = .ok (.ireturn, 1) := by decide +kernel
set_option maxRecDepth 20000 in
theorem ggX7_placeOf_X8_holds : GoodIn wsX7_placeOf wsX8_holds := goodIn_r _ [3] (by decide +kernel) (by decide +kernel)
set_option maxRecDepth 20000 in
theorem gX7_placeOf_X8_holds_n42 : GoodIn wsX7_placeOf (wsX8_holds) := ggX7_placeOf_X8_holds
set_option maxRecDepth 20000 in
theorem ggX7_placeOf_X7_comesBefore : GoodIn wsX7_placeOf wsX7_comesBefore := goodIn_r _ [8, 9, 10, 11, 12, 13, 14, 15, 16, 17, 18, 19, 20, 21, 22, 23, 24, 25, 26, 27, 28, 29, 30, 31, 32, 33, 34, 35, 36, 37, 38, 39, 40, 41] (by decide +kernel) (by decide +kernel)
set_option maxRecDepth 20000 in
theorem gX7_placeOf_X7_comesBefore : GoodIn wsX7_placeOf (wsV RX7 50 RX7 yX7_comesBefore wsX7_comesBefore) := goodIn_app (goodIn_of _ (by decide +kernel)) ggX7_placeOf_X7_comesBefore
theorem dX7_placeOf_0 : decode cX7_placeOf 0 = .ok (.iconst 0, 1) := by decide +kernel
theorem dX7_placeOf_1 : decode cX7_placeOf 1 = .ok (.istore 5, 2) := by decide +kernel
theorem dX7_placeOf_3 : decode cX7_placeOf 3 = .ok (.iconst 0, 1) := by decide +kernel
theorem dX7_placeOf_4 : decode cX7_placeOf 4 = .ok (.istore 6, 2) := by decide +kernel
theorem dX7_placeOf_6 : decode cX7_placeOf 6 = .ok (.iload 6, 2) := by decide +kernel
theorem dX7_placeOf_8 : decode cX7_placeOf 8 = .ok (.bipush 40, 2) := by decide +kernel
theorem dX7_placeOf_10 : decode cX7_placeOf 10 = .ok (.if_icmp .ge 33, 3) := by decide +kernel
theorem dX7_placeOf_13 : decode cX7_placeOf 13 = .ok (.lload_n 2, 1) := by decide +kernel
theorem dX7_placeOf_14 : decode cX7_placeOf 14 = .ok (.iload 6, 2) := by decide +kernel
theorem dX7_placeOf_16 : decode cX7_placeOf 16 = .ok (.invokestatic 42, 3) := by decide +kernel
theorem dX7_placeOf_19 : decode cX7_placeOf 19 = .ok (.ifCond .eq 18, 3) := by decide +kernel
theorem dX7_placeOf_22 : decode cX7_placeOf 22 = .ok (.aload_n 0, 1) := by decide +kernel
theorem dX7_placeOf_23 : decode cX7_placeOf 23 = .ok (.aload_n 1, 1) := by decide +kernel
theorem dX7_placeOf_24 : decode cX7_placeOf 24 = .ok (.iload 6, 2) := by decide +kernel
theorem dX7_placeOf_26 : decode cX7_placeOf 26 = .ok (.iload 4, 2) := by decide +kernel
theorem dX7_placeOf_28 : decode cX7_placeOf 28 = .ok (.invokevirtual 50, 3) := by decide +kernel
theorem dX7_placeOf_31 : decode cX7_placeOf 31 = .ok (.ifCond .eq 6, 3) := by decide +kernel
theorem dX7_placeOf_34 : decode cX7_placeOf 34 = .ok (.iinc 5 1, 3) := by decide +kernel
theorem dX7_placeOf_37 : decode cX7_placeOf 37 = .ok (.iinc 6 1, 3) := by decide +kernel
theorem dX7_placeOf_40 : decode cX7_placeOf 40 = .ok (.goto (-34), 3) := by decide +kernel
theorem dX7_placeOf_43 : decode cX7_placeOf 43 = .ok (.iload 5, 2) := by decide +kernel
theorem dX7_placeOf_45 : decode cX7_placeOf 45 = .ok (.ireturn, 1) := by decide +kernel
set_option maxRecDepth 20000 in
theorem ggX7_comesBefore_X0_sortField : GoodIn wsX7_comesBefore wsX0_sortField := goodIn_r _ [6, 7, 21, 22, 23, 24, 25, 26, 27] (by decide +kernel) (by decide +kernel)
set_option maxRecDepth 20000 in
theorem gX7_comesBefore_X0_sortField : GoodIn wsX7_comesBefore (wsV RX7 54 RX0 yX0_sortField wsX0_sortField) := goodIn_app (goodIn_of _ (by decide +kernel)) ggX7_comesBefore_X0_sortField
set_option maxRecDepth 20000 in
theorem ggX7_comesBefore_X1_settledValue : GoodIn wsX7_comesBefore wsX1_settledValue := goodIn_r _ [12, 13, 28, 29, 30, 31, 32, 33] (by decide +kernel) (by decide +kernel)
set_option maxRecDepth 20000 in
theorem gX7_comesBefore_X1_settledValue : GoodIn wsX7_comesBefore (wsV RX7 58 RX1 yX1_settledValue wsX1_settledValue) := goodIn_app (goodIn_of _ (by decide +kernel)) ggX7_comesBefore_X1_settledValue
set_option maxRecDepth 20000 in
theorem ggX7_comesBefore_X0_isDescending : GoodIn wsX7_comesBefore wsX0_isDescending := goodIn_r _ [17, 18, 21, 22, 23, 24, 25, 26, 27] (by decide +kernel) (by decide +kernel)
set_option maxRecDepth 20000 in
theorem gX7_comesBefore_X0_isDescending : GoodIn wsX7_comesBefore (wsV RX7 64 RX0 yX0_isDescending wsX0_isDescending) := goodIn_app (goodIn_of _ (by decide +kernel)) ggX7_comesBefore_X0_isDescending
theorem dX7_comesBefore_0 : decode cX7_comesBefore 0 = .ok (.aload_n 0, 1) := by decide +kernel
theorem dX7_comesBefore_1 : decode cX7_comesBefore 1 = .ok (.getfield 9, 3) := by decide +kernel
theorem dX7_comesBefore_4 : decode cX7_comesBefore 4 = .ok (.iload_n 2, 1) := by decide +kernel
theorem dX7_comesBefore_5 : decode cX7_comesBefore 5 = .ok (.aload_n 1, 1) := by decide +kernel
theorem dX7_comesBefore_6 : decode cX7_comesBefore 6 = .ok (.invokevirtual 54, 3) := by decide +kernel
theorem dX7_comesBefore_9 : decode cX7_comesBefore 9 = .ok (.invokevirtual 58, 3) := by decide +kernel
theorem dX7_comesBefore_12 : decode cX7_comesBefore 12 = .ok (.istore 4, 2) := by decide +kernel
theorem dX7_comesBefore_14 : decode cX7_comesBefore 14 = .ok (.aload_n 0, 1) := by decide +kernel
theorem dX7_comesBefore_15 : decode cX7_comesBefore 15 = .ok (.getfield 9, 3) := by decide +kernel
theorem dX7_comesBefore_18 : decode cX7_comesBefore 18 = .ok (.iload_n 3, 1) := by decide +kernel
theorem dX7_comesBefore_19 : decode cX7_comesBefore 19 = .ok (.aload_n 1, 1) := by decide +kernel
theorem dX7_comesBefore_20 : decode cX7_comesBefore 20 = .ok (.invokevirtual 54, 3) := by decide +kernel
theorem dX7_comesBefore_23 : decode cX7_comesBefore 23 = .ok (.invokevirtual 58, 3) := by decide +kernel
theorem dX7_comesBefore_26 : decode cX7_comesBefore 26 = .ok (.istore 5, 2) := by decide +kernel
theorem dX7_comesBefore_28 : decode cX7_comesBefore 28 = .ok (.iload 4, 2) := by decide +kernel
theorem dX7_comesBefore_30 : decode cX7_comesBefore 30 = .ok (.iload 5, 2) := by decide +kernel
theorem dX7_comesBefore_32 : decode cX7_comesBefore 32 = .ok (.if_icmp .ne 14, 3) := by decide +kernel
theorem dX7_comesBefore_35 : decode cX7_comesBefore 35 = .ok (.iload_n 2, 1) := by decide +kernel
theorem dX7_comesBefore_36 : decode cX7_comesBefore 36 = .ok (.iload_n 3, 1) := by decide +kernel
theorem dX7_comesBefore_37 : decode cX7_comesBefore 37 = .ok (.if_icmp .ge 7, 3) := by decide +kernel
theorem dX7_comesBefore_40 : decode cX7_comesBefore 40 = .ok (.iconst 1, 1) := by decide +kernel
theorem dX7_comesBefore_41 : decode cX7_comesBefore 41 = .ok (.goto 4, 3) := by decide +kernel
theorem dX7_comesBefore_44 : decode cX7_comesBefore 44 = .ok (.iconst 0, 1) := by decide +kernel
theorem dX7_comesBefore_45 : decode cX7_comesBefore 45 = .ok (.ireturn, 1) := by decide +kernel
theorem dX7_comesBefore_46 : decode cX7_comesBefore 46 = .ok (.iload 4, 2) := by decide +kernel
theorem dX7_comesBefore_48 : decode cX7_comesBefore 48 = .ok (.iconst (-1), 1) := by decide +kernel
theorem dX7_comesBefore_49 : decode cX7_comesBefore 49 = .ok (.if_icmp .eq 9, 3) := by decide +kernel
theorem dX7_comesBefore_52 : decode cX7_comesBefore 52 = .ok (.iload 5, 2) := by decide +kernel
theorem dX7_comesBefore_54 : decode cX7_comesBefore 54 = .ok (.iconst (-1), 1) := by decide +kernel
theorem dX7_comesBefore_55 : decode cX7_comesBefore 55 = .ok (.if_icmp .ne 15, 3) := by decide +kernel
theorem dX7_comesBefore_58 : decode cX7_comesBefore 58 = .ok (.iload 5, 2) := by decide +kernel
theorem dX7_comesBefore_60 : decode cX7_comesBefore 60 = .ok (.iconst (-1), 1) := by decide +kernel
theorem dX7_comesBefore_61 : decode cX7_comesBefore 61 = .ok (.if_icmp .ne 7, 3) := by decide +kernel
theorem dX7_comesBefore_64 : decode cX7_comesBefore 64 = .ok (.iconst 1, 1) := by decide +kernel
theorem dX7_comesBefore_65 : decode cX7_comesBefore 65 = .ok (.goto 4, 3) := by decide +kernel
theorem dX7_comesBefore_68 : decode cX7_comesBefore 68 = .ok (.iconst 0, 1) := by decide +kernel
theorem dX7_comesBefore_69 : decode cX7_comesBefore 69 = .ok (.ireturn, 1) := by decide +kernel
theorem dX7_comesBefore_70 : decode cX7_comesBefore 70 = .ok (.aload_n 1, 1) := by decide +kernel
theorem dX7_comesBefore_71 : decode cX7_comesBefore 71 = .ok (.invokevirtual 64, 3) := by decide +kernel
theorem dX7_comesBefore_74 : decode cX7_comesBefore 74 = .ok (.ifCond .eq 18, 3) := by decide +kernel
theorem dX7_comesBefore_77 : decode cX7_comesBefore 77 = .ok (.iload 4, 2) := by decide +kernel
theorem dX7_comesBefore_79 : decode cX7_comesBefore 79 = .ok (.iload 5, 2) := by decide +kernel
theorem dX7_comesBefore_81 : decode cX7_comesBefore 81 = .ok (.if_icmp .le 7, 3) := by decide +kernel
theorem dX7_comesBefore_84 : decode cX7_comesBefore 84 = .ok (.iconst 1, 1) := by decide +kernel
theorem dX7_comesBefore_85 : decode cX7_comesBefore 85 = .ok (.goto 19, 3) := by decide +kernel
theorem dX7_comesBefore_88 : decode cX7_comesBefore 88 = .ok (.iconst 0, 1) := by decide +kernel
theorem dX7_comesBefore_89 : decode cX7_comesBefore 89 = .ok (.goto 15, 3) := by decide +kernel
theorem dX7_comesBefore_92 : decode cX7_comesBefore 92 = .ok (.iload 4, 2) := by decide +kernel
theorem dX7_comesBefore_94 : decode cX7_comesBefore 94 = .ok (.iload 5, 2) := by decide +kernel
theorem dX7_comesBefore_96 : decode cX7_comesBefore 96 = .ok (.if_icmp .ge 7, 3) := by decide +kernel
theorem dX7_comesBefore_99 : decode cX7_comesBefore 99 = .ok (.iconst 1, 1) := by decide +kernel
theorem dX7_comesBefore_100 : decode cX7_comesBefore 100 = .ok (.goto 4, 3) := by decide +kernel
theorem dX7_comesBefore_103 : decode cX7_comesBefore 103 = .ok (.iconst 0, 1) := by decide +kernel
theorem dX7_comesBefore_104 : decode cX7_comesBefore 104 = .ok (.ireturn, 1) := by decide +kernel
set_option maxRecDepth 20000 in
theorem ggX8_init_X1_init : GoodIn wsX8_init wsX1_init := goodIn_r _ [38, 39, 2, 3, 40, 41, 42, 43, 44, 45, 104, 105, 106, 107, 108, 109] (by decide +kernel) (by decide +kernel)
set_option maxRecDepth 20000 in
theorem gX8_init_X1_init : GoodIn wsX8_init (wsX1_init) := ggX8_init_X1_init
set_option maxRecDepth 20000 in
theorem ggX8_init_X2_init : GoodIn wsX8_init wsX2_init := goodIn_r _ [48, 49, 2, 3, 50, 118, 119, 120] (by decide +kernel) (by decide +kernel)
set_option maxRecDepth 20000 in
theorem gX8_init_X2_init : GoodIn wsX8_init (wsX2_init) := ggX8_init_X2_init
set_option maxRecDepth 20000 in
theorem ggX8_init_X6_init : GoodIn wsX8_init wsX6_init := goodIn_r _ [53, 54, 2, 3, 55, 40, 56, 57, 58, 59, 60, 61, 62, 63, 64, 65, 121, 122, 123, 124, 125, 126, 127, 128] (by decide +kernel) (by decide +kernel)
set_option maxRecDepth 20000 in
theorem gX8_init_X6_init : GoodIn wsX8_init (wsX6_init) := ggX8_init_X6_init
set_option maxRecDepth 20000 in
theorem ggX8_init_X5_init : GoodIn wsX8_init wsX5_init := goodIn_r _ [68, 69, 2, 3, 70, 71, 129, 130] (by decide +kernel) (by decide +kernel)
set_option maxRecDepth 20000 in
theorem gX8_init_X5_init : GoodIn wsX8_init (wsX5_init) := ggX8_init_X5_init
set_option maxRecDepth 20000 in
theorem ggX8_init_X0_init : GoodIn wsX8_init wsX0_init := goodIn_r _ [74, 75, 2, 3, 76, 17, 18, 77, 78, 67, 68, 69, 70, 71, 129, 130, 131, 132, 133, 134, 135, 136, 137] (by decide +kernel) (by decide +kernel)
set_option maxRecDepth 20000 in
theorem gX8_init_X0_init : GoodIn wsX8_init (wsX0_init) := ggX8_init_X0_init
set_option maxRecDepth 20000 in
theorem ggX8_init_X4_init : GoodIn wsX8_init wsX4_init := goodIn_r _ [81, 82, 2, 3, 83, 84, 85, 86, 87, 88, 89, 59, 90, 138, 139, 140, 141, 142, 143, 144, 145] (by decide +kernel) (by decide +kernel)
set_option maxRecDepth 20000 in
theorem gX8_init_X4_init : GoodIn wsX8_init (wsX4_init) := ggX8_init_X4_init
set_option maxRecDepth 20000 in
theorem ggX8_init_X7_init : GoodIn wsX8_init wsX7_init := goodIn_r _ [93, 94, 2, 3, 95, 96, 146, 147] (by decide +kernel) (by decide +kernel)
set_option maxRecDepth 20000 in
theorem gX8_init_X7_init : GoodIn wsX8_init (wsX7_init) := ggX8_init_X7_init
set_option maxRecDepth 20000 in
theorem ggX8_init_X3_init : GoodIn wsX8_init wsX3_init := goodIn_r _ [99, 100, 2, 3, 40, 101, 102, 59, 103, 148, 149, 150, 151, 152] (by decide +kernel) (by decide +kernel)
set_option maxRecDepth 20000 in
theorem gX8_init_X3_init : GoodIn wsX8_init (wsX3_init) := ggX8_init_X3_init
theorem dX8_init_0 : decode cX8_init 0 = .ok (.aload_n 0, 1) := by decide +kernel
theorem dX8_init_1 : decode cX8_init 1 = .ok (.invokespecial 1, 3) := by decide +kernel
theorem dX8_init_4 : decode cX8_init 4 = .ok (.aload_n 0, 1) := by decide +kernel
theorem dX8_init_5 : decode cX8_init 5 = .ok (.new 7, 3) := by decide +kernel
theorem dX8_init_8 : decode cX8_init 8 = .ok (.dup, 1) := by decide +kernel
theorem dX8_init_9 : decode cX8_init 9 = .ok (.invokespecial 9, 3) := by decide +kernel
theorem dX8_init_12 : decode cX8_init 12 = .ok (.putfield 10, 3) := by decide +kernel
theorem dX8_init_15 : decode cX8_init 15 = .ok (.aload_n 0, 1) := by decide +kernel
theorem dX8_init_16 : decode cX8_init 16 = .ok (.new 16, 3) := by decide +kernel
theorem dX8_init_19 : decode cX8_init 19 = .ok (.dup, 1) := by decide +kernel
theorem dX8_init_20 : decode cX8_init 20 = .ok (.aload_n 0, 1) := by decide +kernel
theorem dX8_init_21 : decode cX8_init 21 = .ok (.getfield 10, 3) := by decide +kernel
theorem dX8_init_24 : decode cX8_init 24 = .ok (.invokespecial 18, 3) := by decide +kernel
theorem dX8_init_27 : decode cX8_init 27 = .ok (.putfield 21, 3) := by decide +kernel
theorem dX8_init_30 : decode cX8_init 30 = .ok (.aload_n 0, 1) := by decide +kernel
theorem dX8_init_31 : decode cX8_init 31 = .ok (.new 25, 3) := by decide +kernel
theorem dX8_init_34 : decode cX8_init 34 = .ok (.dup, 1) := by decide +kernel
theorem dX8_init_35 : decode cX8_init 35 = .ok (.aload_n 0, 1) := by decide +kernel
theorem dX8_init_36 : decode cX8_init 36 = .ok (.getfield 10, 3) := by decide +kernel
theorem dX8_init_39 : decode cX8_init 39 = .ok (.invokespecial 27, 3) := by decide +kernel
theorem dX8_init_42 : decode cX8_init 42 = .ok (.putfield 28, 3) := by decide +kernel
theorem dX8_init_45 : decode cX8_init 45 = .ok (.aload_n 0, 1) := by decide +kernel
theorem dX8_init_46 : decode cX8_init 46 = .ok (.new 32, 3) := by decide +kernel
theorem dX8_init_49 : decode cX8_init 49 = .ok (.dup, 1) := by decide +kernel
theorem dX8_init_50 : decode cX8_init 50 = .ok (.invokespecial 34, 3) := by decide +kernel
theorem dX8_init_53 : decode cX8_init 53 = .ok (.putfield 35, 3) := by decide +kernel
theorem dX8_init_56 : decode cX8_init 56 = .ok (.aload_n 0, 1) := by decide +kernel
theorem dX8_init_57 : decode cX8_init 57 = .ok (.bipush 8, 2) := by decide +kernel
theorem dX8_init_59 : decode cX8_init 59 = .ok (.anewarray 39, 3) := by decide +kernel
theorem dX8_init_62 : decode cX8_init 62 = .ok (.putfield 41, 3) := by decide +kernel
theorem dX8_init_65 : decode cX8_init 65 = .ok (.iconst 0, 1) := by decide +kernel
theorem dX8_init_66 : decode cX8_init 66 = .ok (.istore_n 1, 1) := by decide +kernel
theorem dX8_init_67 : decode cX8_init 67 = .ok (.iload_n 1, 1) := by decide +kernel
theorem dX8_init_68 : decode cX8_init 68 = .ok (.bipush 8, 2) := by decide +kernel
theorem dX8_init_70 : decode cX8_init 70 = .ok (.if_icmp .ge 22, 3) := by decide +kernel
theorem dX8_init_73 : decode cX8_init 73 = .ok (.aload_n 0, 1) := by decide +kernel
theorem dX8_init_74 : decode cX8_init 74 = .ok (.getfield 41, 3) := by decide +kernel
theorem dX8_init_77 : decode cX8_init 77 = .ok (.iload_n 1, 1) := by decide +kernel
theorem dX8_init_78 : decode cX8_init 78 = .ok (.new 39, 3) := by decide +kernel
theorem dX8_init_81 : decode cX8_init 81 = .ok (.dup, 1) := by decide +kernel
theorem dX8_init_82 : decode cX8_init 82 = .ok (.invokespecial 45, 3) := by decide +kernel
theorem dX8_init_85 : decode cX8_init 85 = .ok (.aastore, 1) := by decide +kernel
theorem dX8_init_86 : decode cX8_init 86 = .ok (.iinc 1 1, 3) := by decide +kernel
theorem dX8_init_89 : decode cX8_init 89 = .ok (.goto (-22), 3) := by decide +kernel
theorem dX8_init_92 : decode cX8_init 92 = .ok (.aload_n 0, 1) := by decide +kernel
theorem dX8_init_93 : decode cX8_init 93 = .ok (.new 46, 3) := by decide +kernel
theorem dX8_init_96 : decode cX8_init 96 = .ok (.dup, 1) := by decide +kernel
theorem dX8_init_97 : decode cX8_init 97 = .ok (.aload_n 0, 1) := by decide +kernel
theorem dX8_init_98 : decode cX8_init 98 = .ok (.getfield 10, 3) := by decide +kernel
theorem dX8_init_101 : decode cX8_init 101 = .ok (.aload_n 0, 1) := by decide +kernel
theorem dX8_init_102 : decode cX8_init 102 = .ok (.getfield 21, 3) := by decide +kernel
theorem dX8_init_105 : decode cX8_init 105 = .ok (.aload_n 0, 1) := by decide +kernel
theorem dX8_init_106 : decode cX8_init 106 = .ok (.getfield 28, 3) := by decide +kernel
theorem dX8_init_109 : decode cX8_init 109 = .ok (.aload_n 0, 1) := by decide +kernel
theorem dX8_init_110 : decode cX8_init 110 = .ok (.getfield 41, 3) := by decide +kernel
theorem dX8_init_113 : decode cX8_init 113 = .ok (.invokespecial 48, 3) := by decide +kernel
theorem dX8_init_116 : decode cX8_init 116 = .ok (.putfield 51, 3) := by decide +kernel
theorem dX8_init_119 : decode cX8_init 119 = .ok (.aload_n 0, 1) := by decide +kernel
theorem dX8_init_120 : decode cX8_init 120 = .ok (.new 55, 3) := by decide +kernel
theorem dX8_init_123 : decode cX8_init 123 = .ok (.dup, 1) := by decide +kernel
theorem dX8_init_124 : decode cX8_init 124 = .ok (.aload_n 0, 1) := by decide +kernel
theorem dX8_init_125 : decode cX8_init 125 = .ok (.getfield 10, 3) := by decide +kernel
theorem dX8_init_128 : decode cX8_init 128 = .ok (.aload_n 0, 1) := by decide +kernel
theorem dX8_init_129 : decode cX8_init 129 = .ok (.getfield 28, 3) := by decide +kernel
theorem dX8_init_132 : decode cX8_init 132 = .ok (.invokespecial 57, 3) := by decide +kernel
theorem dX8_init_135 : decode cX8_init 135 = .ok (.putfield 60, 3) := by decide +kernel
theorem dX8_init_138 : decode cX8_init 138 = .ok (.aload_n 0, 1) := by decide +kernel
theorem dX8_init_139 : decode cX8_init 139 = .ok (.new 64, 3) := by decide +kernel
theorem dX8_init_142 : decode cX8_init 142 = .ok (.dup, 1) := by decide +kernel
theorem dX8_init_143 : decode cX8_init 143 = .ok (.invokespecial 66, 3) := by decide +kernel
theorem dX8_init_146 : decode cX8_init 146 = .ok (.putfield 67, 3) := by decide +kernel
theorem dX8_init_149 : decode cX8_init 149 = .ok (.return_, 1) := by decide +kernel
set_option maxRecDepth 20000 in
theorem ggX8_add_X8_isWithin : GoodIn wsX8_add wsX8_isWithin := goodIn_r _ [6] (by decide +kernel) (by decide +kernel)
set_option maxRecDepth 20000 in
theorem gX8_add_X8_isWithin : GoodIn wsX8_add (va_wsS RX8 71 yX8_isWithin wsX8_isWithin) := goodIn_app (goodIn_of _ (by decide +kernel)) ggX8_add_X8_isWithin
set_option maxRecDepth 20000 in
theorem ggX8_add_X1_freeNumber : GoodIn wsX8_add wsX1_freeNumber := goodIn_r _ [11, 12, 13, 5, 14, 268, 269, 270, 271, 272, 273] (by decide +kernel) (by decide +kernel)
set_option maxRecDepth 20000 in
theorem gX8_add_X1_freeNumber : GoodIn wsX8_add (wsV RX8 76 RX1 yX1_freeNumber wsX1_freeNumber) := goodIn_app (goodIn_of _ (by decide +kernel)) ggX8_add_X1_freeNumber
set_option maxRecDepth 20000 in
theorem ggX8_add_X1_enter : GoodIn wsX8_add wsX1_enter := goodIn_r _ [18, 12, 19, 20, 21, 22, 5, 23, 24, 25, 10, 26, 27, 28, 29, 30, 31, 32, 33, 268, 269, 270, 271, 272, 273] (by decide +kernel) (by decide +kernel)
set_option maxRecDepth 20000 in
theorem gX8_add_X1_enter : GoodIn wsX8_add (wsV RX8 80 RX1 yX1_enter wsX1_enter) := goodIn_app (goodIn_of _ (by decide +kernel)) ggX8_add_X1_enter
set_option maxRecDepth 20000 in
theorem ggX8_add_X8_settle : GoodIn wsX8_add wsX8_settle := goodIn_r _ [37, 2, 38, 39, 40, 41, 42, 43, 44, 45, 10, 46, 12, 13, 5, 14, 47, 48, 49, 50, 51, 52, 53, 54, 55, 56, 57, 58, 59, 60, 61, 62, 63, 64, 21, 24, 25, 26, 65, 66, 67, 68, 69, 70, 71, 72, 73, 74, 75, 76, 77, 78, 79, 80, 81, 19, 22, 23, 82, 83, 84, 85, 86, 87, 88, 89, 90, 91, 92, 93, 94, 95, 96, 97, 98, 99, 100, 101, 102, 103, 104, 105, 106, 107, 108, 109, 110, 111, 112, 113, 114, 115, 4, 6, 116, 117, 118, 119, 120, 121, 122, 123, 124, 125, 126, 127, 128, 129, 130, 3, 131, 132, 133, 134, 135, 136, 137, 138, 139, 140, 141, 142, 143, 144, 145, 146, 147, 148, 149, 150, 151, 152, 153, 154, 155, 156, 157, 158, 159, 160, 161, 162, 163, 164, 165, 166, 167, 168, 169, 170, 171, 172, 173, 174, 175, 176, 177, 178, 179, 180, 181, 182, 183, 184, 185, 186, 187, 188, 189, 190, 191, 192, 193, 194, 195, 196, 197, 198, 199, 200, 201, 202, 203, 204, 205, 206, 207, 208, 209, 210, 211, 212, 213, 214, 215, 216, 217, 218, 219, 220, 221, 222, 223, 224, 225, 226, 227, 228, 229, 230, 231, 232, 233, 234, 235, 236, 237, 238, 239, 240, 241, 242, 243, 244, 245, 246, 247, 248, 249, 250, 251, 252, 253, 254, 255, 256, 257, 258, 259, 260, 261, 262, 263, 264, 265, 266, 267, 268, 269, 270, 271, 272, 273, 274, 275, 276, 277, 278, 279, 280, 281, 282, 283, 284, 285, 286, 287, 288, 289, 290, 291, 292, 293, 294, 295, 296, 297, 298, 299, 300, 301, 302, 303, 304, 305, 306] (by decide +kernel) (by decide +kernel)
set_option maxRecDepth 20000 in
theorem gX8_add_X8_settle : GoodIn wsX8_add (wsV RX8 84 RX8 yX8_settle wsX8_settle) := goodIn_app (goodIn_of _ (by decide +kernel)) ggX8_add_X8_settle
theorem dX8_add_0 : decode cX8_add 0 = .ok (.iload_n 1, 1) := by decide +kernel
theorem dX8_add_1 : decode cX8_add 1 = .ok (.iconst 0, 1) := by decide +kernel
theorem dX8_add_2 : decode cX8_add 2 = .ok (.sipush 9999, 3) := by decide +kernel
theorem dX8_add_5 : decode cX8_add 5 = .ok (.invokestatic 71, 3) := by decide +kernel
theorem dX8_add_8 : decode cX8_add 8 = .ok (.ifCond .eq 13, 3) := by decide +kernel
theorem dX8_add_11 : decode cX8_add 11 = .ok (.iload_n 2, 1) := by decide +kernel
theorem dX8_add_12 : decode cX8_add 12 = .ok (.iconst 1, 1) := by decide +kernel
theorem dX8_add_13 : decode cX8_add 13 = .ok (.ldc 75, 2) := by decide +kernel
theorem dX8_add_15 : decode cX8_add 15 = .ok (.invokestatic 71, 3) := by decide +kernel
theorem dX8_add_18 : decode cX8_add 18 = .ok (.ifCond .ne 5, 3) := by decide +kernel
theorem dX8_add_21 : decode cX8_add 21 = .ok (.iconst (-1), 1) := by decide +kernel
theorem dX8_add_22 : decode cX8_add 22 = .ok (.ireturn, 1) := by decide +kernel
theorem dX8_add_23 : decode cX8_add 23 = .ok (.aload_n 0, 1) := by decide +kernel
theorem dX8_add_24 : decode cX8_add 24 = .ok (.getfield 10, 3) := by decide +kernel
theorem dX8_add_27 : decode cX8_add 27 = .ok (.invokevirtual 76, 3) := by decide +kernel
theorem dX8_add_30 : decode cX8_add 30 = .ok (.istore_n 3, 1) := by decide +kernel
theorem dX8_add_31 : decode cX8_add 31 = .ok (.iload_n 3, 1) := by decide +kernel
theorem dX8_add_32 : decode cX8_add 32 = .ok (.iconst (-1), 1) := by decide +kernel
theorem dX8_add_33 : decode cX8_add 33 = .ok (.if_icmp .ne 6, 3) := by decide +kernel
theorem dX8_add_36 : decode cX8_add 36 = .ok (.bipush (-3), 2) := by decide +kernel
theorem dX8_add_38 : decode cX8_add 38 = .ok (.ireturn, 1) := by decide +kernel
theorem dX8_add_39 : decode cX8_add 39 = .ok (.aload_n 0, 1) := by decide +kernel
theorem dX8_add_40 : decode cX8_add 40 = .ok (.getfield 10, 3) := by decide +kernel
theorem dX8_add_43 : decode cX8_add 43 = .ok (.iload_n 3, 1) := by decide +kernel
theorem dX8_add_44 : decode cX8_add 44 = .ok (.iload_n 1, 1) := by decide +kernel
theorem dX8_add_45 : decode cX8_add 45 = .ok (.iload_n 2, 1) := by decide +kernel
theorem dX8_add_46 : decode cX8_add 46 = .ok (.invokevirtual 80, 3) := by decide +kernel
theorem dX8_add_49 : decode cX8_add 49 = .ok (.aload_n 0, 1) := by decide +kernel
theorem dX8_add_50 : decode cX8_add 50 = .ok (.invokevirtual 84, 3) := by decide +kernel
theorem dX8_add_53 : decode cX8_add 53 = .ok (.iload_n 3, 1) := by decide +kernel
theorem dX8_add_54 : decode cX8_add 54 = .ok (.ireturn, 1) := by decide +kernel
set_option maxRecDepth 20000 in
theorem ggX8_remove_X1_has : GoodIn wsX8_remove wsX1_has := goodIn_r _ [6, 7, 8, 9, 10, 11, 12, 283, 284, 285, 286, 287, 288] (by decide +kernel) (by decide +kernel)
set_option maxRecDepth 20000 in
theorem gX8_remove_X1_has : GoodIn wsX8_remove (wsV RX8 87 RX1 yX1_has wsX1_has) := goodIn_app (goodIn_of _ (by decide +kernel)) ggX8_remove_X1_has
set_option maxRecDepth 20000 in
theorem ggX8_remove_X8_discard : GoodIn wsX8_remove wsX8_discard := goodIn_r _ [16, 17, 1, 18, 19, 20, 21, 22, 23, 24, 25, 26, 27, 28, 29, 30, 31, 32, 33, 34, 35, 36, 37, 38, 39, 40, 9, 41, 42, 43, 44, 5, 45, 7, 46, 275, 276, 277, 278, 279, 280, 281, 282, 289, 290, 291, 292, 293, 294, 295, 296, 283, 284, 285, 286, 287, 288] (by decide +kernel) (by decide +kernel)
set_option maxRecDepth 20000 in
theorem gX8_remove_X8_discard : GoodIn wsX8_remove (wsV RX8 91 RX8 yX8_discard wsX8_discard) := goodIn_app (goodIn_of _ (by decide +kernel)) ggX8_remove_X8_discard
set_option maxRecDepth 20000 in
theorem ggX8_remove_X8_settle : GoodIn wsX8_remove wsX8_settle := goodIn_r _ [50, 1, 51, 17, 52, 53, 54, 55, 56, 57, 5, 58, 7, 11, 9, 12, 59, 60, 61, 62, 63, 64, 65, 66, 67, 68, 69, 70, 71, 72, 73, 74, 75, 76, 77, 78, 79, 80, 81, 82, 83, 84, 85, 86, 87, 88, 89, 90, 91, 92, 93, 94, 95, 96, 97, 98, 40, 41, 99, 100, 101, 102, 103, 104, 105, 106, 107, 108, 109, 110, 111, 112, 113, 114, 115, 116, 117, 118, 119, 120, 121, 122, 123, 124, 21, 125, 126, 127, 128, 129, 130, 25, 8, 10, 131, 132, 133, 134, 24, 26, 135, 31, 32, 33, 136, 137, 138, 139, 140, 141, 142, 143, 144, 145, 146, 147, 148, 149, 150, 151, 152, 153, 154, 155, 156, 157, 158, 159, 160, 161, 162, 163, 164, 165, 166, 167, 168, 169, 170, 171, 172, 173, 174, 175, 176, 177, 178, 179, 180, 181, 182, 183, 184, 185, 186, 187, 188, 189, 190, 191, 192, 193, 194, 195, 196, 197, 198, 199, 200, 201, 202, 203, 204, 205, 206, 207, 208, 209, 210, 211, 38, 212, 213, 214, 215, 216, 217, 218, 219, 220, 221, 222, 223, 224, 225, 226, 227, 228, 229, 230, 231, 232, 233, 234, 235, 236, 237, 238, 239, 240, 241, 242, 243, 244, 245, 246, 247, 248, 249, 250, 251, 252, 253, 254, 255, 256, 257, 258, 259, 260, 261, 262, 263, 264, 265, 266, 267, 268, 269, 275, 276, 277, 278, 279, 280, 281, 282, 283, 284, 285, 286, 287, 288, 297, 298, 299, 289, 290, 291, 292, 293, 294, 295, 296, 300, 301, 302, 303, 304, 305, 306, 307, 308, 309, 310, 311, 312, 313, 314, 315, 316, 317, 318, 319, 320, 321] (by decide +kernel) (by decide +kernel)
set_option maxRecDepth 20000 in
theorem gX8_remove_X8_settle : GoodIn wsX8_remove (wsV RX8 84 RX8 yX8_settle wsX8_settle) := goodIn_app (goodIn_of _ (by decide +kernel)) ggX8_remove_X8_settle
set_option maxRecDepth 20000 in
theorem ggX8_remove_X1_howMany : GoodIn wsX8_remove wsX1_howMany := goodIn_r _ [273, 7, 274, 116, 117, 118, 119, 120, 121, 283, 284, 285, 286, 287, 288] (by decide +kernel) (by decide +kernel)
set_option maxRecDepth 20000 in
theorem gX8_remove_X1_howMany : GoodIn wsX8_remove (wsV RX8 95 RX1 yX1_howMany wsX1_howMany) := goodIn_app (goodIn_of _ (by decide +kernel)) ggX8_remove_X1_howMany
theorem dX8_remove_0 : decode cX8_remove 0 = .ok (.aload_n 0, 1) := by decide +kernel
theorem dX8_remove_1 : decode cX8_remove 1 = .ok (.getfield 10, 3) := by decide +kernel
theorem dX8_remove_4 : decode cX8_remove 4 = .ok (.iload_n 1, 1) := by decide +kernel
theorem dX8_remove_5 : decode cX8_remove 5 = .ok (.invokevirtual 87, 3) := by decide +kernel
theorem dX8_remove_8 : decode cX8_remove 8 = .ok (.ifCond .ne 5, 3) := by decide +kernel
theorem dX8_remove_11 : decode cX8_remove 11 = .ok (.iconst (-1), 1) := by decide +kernel
theorem dX8_remove_12 : decode cX8_remove 12 = .ok (.ireturn, 1) := by decide +kernel
theorem dX8_remove_13 : decode cX8_remove 13 = .ok (.aload_n 0, 1) := by decide +kernel
theorem dX8_remove_14 : decode cX8_remove 14 = .ok (.iload_n 1, 1) := by decide +kernel
theorem dX8_remove_15 : decode cX8_remove 15 = .ok (.invokevirtual 91, 3) := by decide +kernel
theorem dX8_remove_18 : decode cX8_remove 18 = .ok (.aload_n 0, 1) := by decide +kernel
theorem dX8_remove_19 : decode cX8_remove 19 = .ok (.invokevirtual 84, 3) := by decide +kernel
theorem dX8_remove_22 : decode cX8_remove 22 = .ok (.aload_n 0, 1) := by decide +kernel
theorem dX8_remove_23 : decode cX8_remove 23 = .ok (.getfield 10, 3) := by decide +kernel
theorem dX8_remove_26 : decode cX8_remove 26 = .ok (.invokevirtual 95, 3) := by decide +kernel
theorem dX8_remove_29 : decode cX8_remove 29 = .ok (.ireturn, 1) := by decide +kernel
set_option maxRecDepth 20000 in
theorem ggX8_fileCount_X1_howMany : GoodIn wsX8_fileCount wsX1_howMany := goodIn_r _ [6, 7, 8, 9, 10, 11, 12, 13, 14, 23, 24, 25, 26, 27, 28] (by decide +kernel) (by decide +kernel)
set_option maxRecDepth 20000 in
theorem gX8_fileCount_X1_howMany : GoodIn wsX8_fileCount (wsV RX8 95 RX1 yX1_howMany wsX1_howMany) := goodIn_app (goodIn_of _ (by decide +kernel)) ggX8_fileCount_X1_howMany
theorem dX8_fileCount_0 : decode cX8_fileCount 0 = .ok (.aload_n 0, 1) := by decide +kernel
theorem dX8_fileCount_1 : decode cX8_fileCount 1 = .ok (.getfield 10, 3) := by decide +kernel
theorem dX8_fileCount_4 : decode cX8_fileCount 4 = .ok (.invokevirtual 95, 3) := by decide +kernel
theorem dX8_fileCount_7 : decode cX8_fileCount 7 = .ok (.ireturn, 1) := by decide +kernel
set_option maxRecDepth 20000 in
theorem ggX8_setDigest_X1_has : GoodIn wsX8_setDigest wsX1_has := goodIn_r _ [6, 7, 8, 9, 10, 11, 12, 263, 264, 265, 266, 267, 268] (by decide +kernel) (by decide +kernel)
set_option maxRecDepth 20000 in
theorem gX8_setDigest_X1_has : GoodIn wsX8_setDigest (wsV RX8 87 RX1 yX1_has wsX1_has) := goodIn_app (goodIn_of _ (by decide +kernel)) ggX8_setDigest_X1_has
set_option maxRecDepth 20000 in
theorem ggX8_setDigest_X8_isWithin : GoodIn wsX8_setDigest wsX8_isWithin := goodIn_r _ [10] (by decide +kernel) (by decide +kernel)
set_option maxRecDepth 20000 in
theorem gX8_setDigest_X8_isWithin : GoodIn wsX8_setDigest (va_wsS RX8 71 yX8_isWithin wsX8_isWithin) := goodIn_app (goodIn_of _ (by decide +kernel)) ggX8_setDigest_X8_isWithin
set_option maxRecDepth 20000 in
theorem ggX8_setDigest_X1_digest : GoodIn wsX8_setDigest wsX1_digest := goodIn_r _ [17, 18, 263, 264, 265, 266, 267, 268] (by decide +kernel) (by decide +kernel)
set_option maxRecDepth 20000 in
theorem gX8_setDigest_X1_digest : GoodIn wsX8_setDigest (wsV RX8 98 RX1 yX1_digest wsX1_digest) := goodIn_app (goodIn_of _ (by decide +kernel)) ggX8_setDigest_X1_digest
set_option maxRecDepth 20000 in
theorem ggX8_setDigest_X1_changeDigest : GoodIn wsX8_setDigest wsX1_changeDigest := goodIn_r _ [22, 18, 263, 264, 265, 266, 267, 268] (by decide +kernel) (by decide +kernel)
set_option maxRecDepth 20000 in
theorem gX8_setDigest_X1_changeDigest : GoodIn wsX8_setDigest (wsV RX8 102 RX1 yX1_changeDigest wsX1_changeDigest) := goodIn_app (goodIn_of _ (by decide +kernel)) ggX8_setDigest_X1_changeDigest
set_option maxRecDepth 20000 in
theorem ggX8_setDigest_X8_settle : GoodIn wsX8_setDigest wsX8_settle := goodIn_r _ [26, 1, 27, 28, 29, 30, 31, 32, 33, 34, 5, 35, 7, 11, 9, 12, 36, 37, 38, 39, 40, 41, 42, 43, 44, 45, 46, 47, 48, 49, 50, 51, 52, 53, 54, 55, 56, 57, 58, 59, 60, 61, 62, 63, 64, 65, 66, 67, 68, 69, 70, 71, 72, 73, 74, 18, 75, 76, 77, 78, 79, 80, 81, 82, 83, 84, 85, 86, 87, 88, 89, 90, 91, 92, 93, 94, 95, 96, 97, 98, 99, 100, 101, 102, 103, 104, 105, 106, 107, 108, 109, 110, 8, 10, 111, 112, 113, 114, 115, 116, 117, 118, 119, 120, 121, 122, 123, 124, 125, 13, 126, 127, 128, 129, 130, 131, 132, 133, 134, 135, 136, 137, 138, 139, 140, 141, 142, 143, 144, 145, 146, 147, 148, 149, 150, 151, 152, 153, 154, 155, 156, 157, 158, 159, 160, 161, 162, 163, 164, 165, 166, 167, 168, 169, 170, 171, 172, 173, 174, 175, 176, 177, 178, 179, 180, 181, 182, 183, 184, 185, 186, 187, 188, 189, 190, 191, 192, 193, 194, 195, 196, 197, 198, 199, 200, 201, 202, 203, 204, 205, 206, 207, 208, 209, 210, 211, 212, 213, 214, 215, 216, 217, 218, 219, 220, 221, 222, 223, 224, 225, 226, 227, 228, 229, 230, 231, 232, 233, 234, 235, 236, 237, 238, 239, 240, 241, 242, 243, 244, 245, 246, 247, 248, 249, 250, 251, 252, 253, 254, 255, 256, 257, 258, 259, 260, 261, 262, 263, 264, 265, 266, 267, 268, 269, 270, 271, 272, 273, 274, 275, 276, 277, 278, 279, 280, 281, 282, 283, 284, 285, 286, 287, 288, 289, 290, 291, 292, 293, 294, 295, 296, 297, 298, 299, 300, 301] (by decide +kernel) (by decide +kernel)
set_option maxRecDepth 20000 in
theorem gX8_setDigest_X8_settle : GoodIn wsX8_setDigest (wsV RX8 84 RX8 yX8_settle wsX8_settle) := goodIn_app (goodIn_of _ (by decide +kernel)) ggX8_setDigest_X8_settle
theorem dX8_setDigest_0 : decode cX8_setDigest 0 = .ok (.aload_n 0, 1) := by decide +kernel
theorem dX8_setDigest_1 : decode cX8_setDigest 1 = .ok (.getfield 10, 3) := by decide +kernel
theorem dX8_setDigest_4 : decode cX8_setDigest 4 = .ok (.iload_n 1, 1) := by decide +kernel
theorem dX8_setDigest_5 : decode cX8_setDigest 5 = .ok (.invokevirtual 87, 3) := by decide +kernel
theorem dX8_setDigest_8 : decode cX8_setDigest 8 = .ok (.ifCond .eq 14, 3) := by decide +kernel
theorem dX8_setDigest_11 : decode cX8_setDigest 11 = .ok (.iload_n 2, 1) := by decide +kernel
theorem dX8_setDigest_12 : decode cX8_setDigest 12 = .ok (.iconst 0, 1) := by decide +kernel
theorem dX8_setDigest_13 : decode cX8_setDigest 13 = .ok (.sipush 9999, 3) := by decide +kernel
theorem dX8_setDigest_16 : decode cX8_setDigest 16 = .ok (.invokestatic 71, 3) := by decide +kernel
theorem dX8_setDigest_19 : decode cX8_setDigest 19 = .ok (.ifCond .ne 5, 3) := by decide +kernel
theorem dX8_setDigest_22 : decode cX8_setDigest 22 = .ok (.iconst (-1), 1) := by decide +kernel
theorem dX8_setDigest_23 : decode cX8_setDigest 23 = .ok (.ireturn, 1) := by decide +kernel
theorem dX8_setDigest_24 : decode cX8_setDigest 24 = .ok (.aload_n 0, 1) := by decide +kernel
theorem dX8_setDigest_25 : decode cX8_setDigest 25 = .ok (.getfield 10, 3) := by decide +kernel
theorem dX8_setDigest_28 : decode cX8_setDigest 28 = .ok (.iload_n 1, 1) := by decide +kernel
theorem dX8_setDigest_29 : decode cX8_setDigest 29 = .ok (.invokevirtual 98, 3) := by decide +kernel
theorem dX8_setDigest_32 : decode cX8_setDigest 32 = .ok (.istore_n 3, 1) := by decide +kernel
theorem dX8_setDigest_33 : decode cX8_setDigest 33 = .ok (.aload_n 0, 1) := by decide +kernel
theorem dX8_setDigest_34 : decode cX8_setDigest 34 = .ok (.getfield 10, 3) := by decide +kernel
theorem dX8_setDigest_37 : decode cX8_setDigest 37 = .ok (.iload_n 1, 1) := by decide +kernel
theorem dX8_setDigest_38 : decode cX8_setDigest 38 = .ok (.iload_n 2, 1) := by decide +kernel
theorem dX8_setDigest_39 : decode cX8_setDigest 39 = .ok (.invokevirtual 102, 3) := by decide +kernel
theorem dX8_setDigest_42 : decode cX8_setDigest 42 = .ok (.aload_n 0, 1) := by decide +kernel
theorem dX8_setDigest_43 : decode cX8_setDigest 43 = .ok (.invokevirtual 84, 3) := by decide +kernel
theorem dX8_setDigest_46 : decode cX8_setDigest 46 = .ok (.iload_n 3, 1) := by decide +kernel
theorem dX8_setDigest_47 : decode cX8_setDigest 47 = .ok (.ireturn, 1) := by decide +kernel
set_option maxRecDepth 20000 in
theorem ggX8_setValue_X8_isSlot : GoodIn wsX8_setValue wsX8_isSlot := goodIn_r _ [8, 3, 9, 10, 11, 12, 13, 14, 15, 7, 16, 17, 18, 19, 20, 21, 22, 264, 265, 266, 267, 268, 269, 270, 271, 272, 273, 274, 275, 276, 277] (by decide +kernel) (by decide +kernel)
set_option maxRecDepth 20000 in
theorem gX8_setValue_X8_isSlot : GoodIn wsX8_setValue (wsV RX8 106 RX8 yX8_isSlot wsX8_isSlot) := goodIn_app (goodIn_of _ (by decide +kernel)) ggX8_setValue_X8_isSlot
set_option maxRecDepth 20000 in
theorem ggX8_setValue_X8_isWithin : GoodIn wsX8_setValue wsX8_isWithin := goodIn_r _ [16] (by decide +kernel) (by decide +kernel)
set_option maxRecDepth 20000 in
theorem gX8_setValue_X8_isWithin : GoodIn wsX8_setValue (va_wsS RX8 71 yX8_isWithin wsX8_isWithin) := goodIn_app (goodIn_of _ (by decide +kernel)) ggX8_setValue_X8_isWithin
set_option maxRecDepth 20000 in
theorem ggX8_setValue_X1_told : GoodIn wsX8_setValue wsX1_told := goodIn_r _ [26, 27, 28, 29, 12, 30, 272, 273, 274, 275, 276, 277] (by decide +kernel) (by decide +kernel)
set_option maxRecDepth 20000 in
theorem gX8_setValue_X1_told : GoodIn wsX8_setValue (wsV RX8 116 RX1 yX1_told wsX1_told) := goodIn_app (goodIn_of _ (by decide +kernel)) ggX8_setValue_X1_told
set_option maxRecDepth 20000 in
theorem ggX8_setValue_X1_tell : GoodIn wsX8_setValue wsX1_tell := goodIn_r _ [34, 27, 28, 29, 12, 30, 272, 273, 274, 275, 276, 277] (by decide +kernel) (by decide +kernel)
set_option maxRecDepth 20000 in
theorem gX8_setValue_X1_tell : GoodIn wsX8_setValue (wsV RX8 120 RX1 yX1_tell wsX1_tell) := goodIn_app (goodIn_of _ (by decide +kernel)) ggX8_setValue_X1_tell
set_option maxRecDepth 20000 in
theorem ggX8_setValue_X8_settle : GoodIn wsX8_setValue wsX8_settle := goodIn_r _ [38, 3, 39, 40, 41, 42, 43, 44, 45, 46, 12, 47, 14, 17, 7, 18, 48, 49, 50, 51, 52, 53, 54, 55, 56, 57, 58, 59, 60, 61, 62, 24, 25, 26, 27, 28, 29, 30, 63, 64, 65, 66, 67, 68, 69, 70, 71, 72, 73, 74, 75, 76, 77, 78, 79, 80, 81, 82, 83, 84, 85, 86, 87, 88, 89, 90, 91, 92, 93, 94, 95, 96, 97, 98, 99, 100, 101, 102, 103, 104, 105, 106, 107, 108, 109, 110, 111, 112, 113, 114, 115, 116, 15, 16, 117, 118, 119, 120, 121, 122, 123, 124, 125, 126, 127, 128, 129, 130, 131, 22, 132, 133, 134, 135, 136, 137, 138, 139, 140, 141, 142, 143, 144, 145, 146, 147, 148, 149, 150, 151, 152, 153, 154, 155, 156, 157, 158, 159, 160, 161, 162, 163, 164, 165, 166, 167, 168, 169, 170, 171, 172, 173, 174, 175, 176, 177, 178, 179, 180, 181, 182, 183, 184, 185, 186, 187, 188, 189, 190, 191, 192, 193, 194, 195, 196, 197, 198, 199, 200, 201, 202, 203, 204, 205, 206, 207, 208, 209, 210, 211, 212, 213, 214, 215, 216, 217, 218, 219, 220, 221, 222, 223, 224, 225, 226, 227, 228, 229, 230, 231, 232, 233, 234, 235, 236, 237, 238, 239, 240, 241, 242, 243, 244, 245, 246, 247, 248, 249, 250, 251, 252, 253, 254, 255, 256, 257, 258, 259, 260, 264, 265, 266, 267, 268, 269, 270, 271, 272, 273, 274, 275, 276, 277, 278, 279, 280, 281, 282, 283, 284, 285, 286, 287, 288, 289, 290, 291, 292, 293, 294, 295, 296, 297, 298, 299, 300, 301, 302, 303, 304, 305, 306, 307, 308, 309, 310] (by decide +kernel) (by decide +kernel)
set_option maxRecDepth 20000 in
theorem gX8_setValue_X8_settle : GoodIn wsX8_setValue (wsV RX8 84 RX8 yX8_settle wsX8_settle) := goodIn_app (goodIn_of _ (by decide +kernel)) ggX8_setValue_X8_settle
set_option maxRecDepth 20000 in
theorem ggX8_setValue_X8_orNotFound : GoodIn wsX8_setValue wsX8_orNotFound := goodIn_r _ [263] (by decide +kernel) (by decide +kernel)
set_option maxRecDepth 20000 in
theorem gX8_setValue_X8_orNotFound : GoodIn wsX8_setValue (va_wsS RX8 124 yX8_orNotFound wsX8_orNotFound) := goodIn_app (goodIn_of _ (by decide +kernel)) ggX8_setValue_X8_orNotFound
theorem dX8_setValue_0 : decode cX8_setValue 0 = .ok (.aload_n 0, 1) := by decide +kernel
theorem dX8_setValue_1 : decode cX8_setValue 1 = .ok (.iload_n 1, 1) := by decide +kernel
theorem dX8_setValue_2 : decode cX8_setValue 2 = .ok (.iload_n 2, 1) := by decide +kernel
theorem dX8_setValue_3 : decode cX8_setValue 3 = .ok (.iload_n 3, 1) := by decide +kernel
theorem dX8_setValue_4 : decode cX8_setValue 4 = .ok (.invokevirtual 106, 3) := by decide +kernel
theorem dX8_setValue_7 : decode cX8_setValue 7 = .ok (.ifCond .eq 21, 3) := by decide +kernel
theorem dX8_setValue_10 : decode cX8_setValue 10 = .ok (.iload 4, 2) := by decide +kernel
theorem dX8_setValue_12 : decode cX8_setValue 12 = .ok (.getstatic 109, 3) := by decide +kernel
theorem dX8_setValue_15 : decode cX8_setValue 15 = .ok (.iload_n 3, 1) := by decide +kernel
theorem dX8_setValue_16 : decode cX8_setValue 16 = .ok (.iaload, 1) := by decide +kernel
theorem dX8_setValue_17 : decode cX8_setValue 17 = .ok (.getstatic 113, 3) := by decide +kernel
theorem dX8_setValue_20 : decode cX8_setValue 20 = .ok (.iload_n 3, 1) := by decide +kernel
theorem dX8_setValue_21 : decode cX8_setValue 21 = .ok (.iaload, 1) := by decide +kernel
theorem dX8_setValue_22 : decode cX8_setValue 22 = .ok (.invokestatic 71, 3) := by decide +kernel
theorem dX8_setValue_25 : decode cX8_setValue 25 = .ok (.ifCond .ne 5, 3) := by decide +kernel
theorem dX8_setValue_28 : decode cX8_setValue 28 = .ok (.iconst (-1), 1) := by decide +kernel
theorem dX8_setValue_29 : decode cX8_setValue 29 = .ok (.ireturn, 1) := by decide +kernel
theorem dX8_setValue_30 : decode cX8_setValue 30 = .ok (.aload_n 0, 1) := by decide +kernel
theorem dX8_setValue_31 : decode cX8_setValue 31 = .ok (.getfield 10, 3) := by decide +kernel
theorem dX8_setValue_34 : decode cX8_setValue 34 = .ok (.iload_n 1, 1) := by decide +kernel
theorem dX8_setValue_35 : decode cX8_setValue 35 = .ok (.iload_n 2, 1) := by decide +kernel
theorem dX8_setValue_36 : decode cX8_setValue 36 = .ok (.iload_n 3, 1) := by decide +kernel
theorem dX8_setValue_37 : decode cX8_setValue 37 = .ok (.invokevirtual 116, 3) := by decide +kernel
theorem dX8_setValue_40 : decode cX8_setValue 40 = .ok (.istore 5, 2) := by decide +kernel
theorem dX8_setValue_42 : decode cX8_setValue 42 = .ok (.aload_n 0, 1) := by decide +kernel
theorem dX8_setValue_43 : decode cX8_setValue 43 = .ok (.getfield 10, 3) := by decide +kernel
theorem dX8_setValue_46 : decode cX8_setValue 46 = .ok (.iload_n 1, 1) := by decide +kernel
theorem dX8_setValue_47 : decode cX8_setValue 47 = .ok (.iload_n 2, 1) := by decide +kernel
theorem dX8_setValue_48 : decode cX8_setValue 48 = .ok (.iload_n 3, 1) := by decide +kernel
theorem dX8_setValue_49 : decode cX8_setValue 49 = .ok (.iload 4, 2) := by decide +kernel
theorem dX8_setValue_51 : decode cX8_setValue 51 = .ok (.invokevirtual 120, 3) := by decide +kernel
theorem dX8_setValue_54 : decode cX8_setValue 54 = .ok (.aload_n 0, 1) := by decide +kernel
theorem dX8_setValue_55 : decode cX8_setValue 55 = .ok (.invokevirtual 84, 3) := by decide +kernel
theorem dX8_setValue_58 : decode cX8_setValue 58 = .ok (.iload 5, 2) := by decide +kernel
theorem dX8_setValue_60 : decode cX8_setValue 60 = .ok (.invokestatic 124, 3) := by decide +kernel
theorem dX8_setValue_63 : decode cX8_setValue 63 = .ok (.ireturn, 1) := by decide +kernel
set_option maxRecDepth 20000 in
theorem ggX8_clearValue_X8_isSlot : GoodIn wsX8_clearValue wsX8_isSlot := goodIn_r _ [6, 1, 7, 8, 9, 10, 11, 12, 13, 5, 14, 15, 16, 17, 18, 19, 20, 259, 260, 261, 262, 263, 264, 265, 266, 267, 268, 269, 270, 271, 272] (by decide +kernel) (by decide +kernel)
set_option maxRecDepth 20000 in
theorem gX8_clearValue_X8_isSlot : GoodIn wsX8_clearValue (wsV RX8 106 RX8 yX8_isSlot wsX8_isSlot) := goodIn_app (goodIn_of _ (by decide +kernel)) ggX8_clearValue_X8_isSlot
set_option maxRecDepth 20000 in
theorem ggX8_clearValue_X1_told : GoodIn wsX8_clearValue wsX1_told := goodIn_r _ [24, 25, 26, 27, 10, 28, 267, 268, 269, 270, 271, 272] (by decide +kernel) (by decide +kernel)
set_option maxRecDepth 20000 in
theorem gX8_clearValue_X1_told : GoodIn wsX8_clearValue (wsV RX8 116 RX1 yX1_told wsX1_told) := goodIn_app (goodIn_of _ (by decide +kernel)) ggX8_clearValue_X1_told
set_option maxRecDepth 20000 in
theorem ggX8_clearValue_X1_tell : GoodIn wsX8_clearValue wsX1_tell := goodIn_r _ [32, 25, 26, 27, 10, 28, 267, 268, 269, 270, 271, 272] (by decide +kernel) (by decide +kernel)
set_option maxRecDepth 20000 in
theorem gX8_clearValue_X1_tell : GoodIn wsX8_clearValue (wsV RX8 120 RX1 yX1_tell wsX1_tell) := goodIn_app (goodIn_of _ (by decide +kernel)) ggX8_clearValue_X1_tell
set_option maxRecDepth 20000 in
theorem ggX8_clearValue_X8_settle : GoodIn wsX8_clearValue wsX8_settle := goodIn_r _ [36, 1, 37, 38, 39, 40, 41, 42, 43, 44, 10, 45, 12, 15, 5, 16, 46, 47, 48, 49, 50, 51, 52, 53, 54, 55, 56, 57, 58, 59, 60, 22, 23, 24, 25, 26, 27, 28, 61, 62, 63, 64, 65, 66, 67, 68, 69, 70, 71, 72, 73, 74, 75, 76, 77, 78, 79, 80, 81, 82, 83, 84, 85, 86, 87, 88, 89, 90, 91, 92, 93, 94, 95, 96, 97, 98, 99, 100, 101, 102, 103, 104, 105, 106, 107, 108, 109, 110, 111, 112, 113, 114, 13, 14, 115, 116, 117, 118, 119, 120, 121, 122, 123, 124, 125, 126, 127, 128, 129, 20, 130, 131, 132, 133, 134, 135, 136, 137, 138, 139, 140, 141, 142, 143, 144, 145, 146, 147, 148, 149, 150, 151, 152, 153, 154, 155, 156, 157, 158, 159, 160, 161, 162, 163, 164, 165, 166, 167, 168, 169, 170, 171, 172, 173, 174, 175, 176, 177, 178, 179, 180, 181, 182, 183, 184, 185, 186, 187, 188, 189, 190, 191, 192, 193, 194, 195, 196, 197, 198, 199, 200, 201, 202, 203, 204, 205, 206, 207, 208, 209, 210, 211, 212, 213, 214, 215, 216, 217, 218, 219, 220, 221, 222, 223, 224, 225, 226, 227, 228, 229, 230, 231, 232, 233, 234, 235, 236, 237, 238, 239, 240, 241, 242, 243, 244, 245, 246, 247, 248, 249, 250, 251, 252, 253, 254, 255, 256, 257, 258, 259, 260, 261, 262, 263, 264, 265, 266, 267, 268, 269, 270, 271, 272, 273, 274, 275, 276, 277, 278, 279, 280, 281, 282, 283, 284, 285, 286, 287, 288, 289, 290, 291, 292, 293, 294, 295, 296, 297, 298, 299, 300, 301, 302, 303, 304, 305] (by decide +kernel) (by decide +kernel)
set_option maxRecDepth 20000 in
theorem gX8_clearValue_X8_settle : GoodIn wsX8_clearValue (wsV RX8 84 RX8 yX8_settle wsX8_settle) := goodIn_app (goodIn_of _ (by decide +kernel)) ggX8_clearValue_X8_settle
theorem dX8_clearValue_0 : decode cX8_clearValue 0 = .ok (.aload_n 0, 1) := by decide +kernel
theorem dX8_clearValue_1 : decode cX8_clearValue 1 = .ok (.iload_n 1, 1) := by decide +kernel
theorem dX8_clearValue_2 : decode cX8_clearValue 2 = .ok (.iload_n 2, 1) := by decide +kernel
theorem dX8_clearValue_3 : decode cX8_clearValue 3 = .ok (.iload_n 3, 1) := by decide +kernel
theorem dX8_clearValue_4 : decode cX8_clearValue 4 = .ok (.invokevirtual 106, 3) := by decide +kernel
theorem dX8_clearValue_7 : decode cX8_clearValue 7 = .ok (.ifCond .ne 5, 3) := by decide +kernel
theorem dX8_clearValue_10 : decode cX8_clearValue 10 = .ok (.iconst (-1), 1) := by decide +kernel
theorem dX8_clearValue_11 : decode cX8_clearValue 11 = .ok (.ireturn, 1) := by decide +kernel
theorem dX8_clearValue_12 : decode cX8_clearValue 12 = .ok (.aload_n 0, 1) := by decide +kernel
theorem dX8_clearValue_13 : decode cX8_clearValue 13 = .ok (.getfield 10, 3) := by decide +kernel
theorem dX8_clearValue_16 : decode cX8_clearValue 16 = .ok (.iload_n 1, 1) := by decide +kernel
theorem dX8_clearValue_17 : decode cX8_clearValue 17 = .ok (.iload_n 2, 1) := by decide +kernel
theorem dX8_clearValue_18 : decode cX8_clearValue 18 = .ok (.iload_n 3, 1) := by decide +kernel
theorem dX8_clearValue_19 : decode cX8_clearValue 19 = .ok (.invokevirtual 116, 3) := by decide +kernel
theorem dX8_clearValue_22 : decode cX8_clearValue 22 = .ok (.istore 4, 2) := by decide +kernel
theorem dX8_clearValue_24 : decode cX8_clearValue 24 = .ok (.iload 4, 2) := by decide +kernel
theorem dX8_clearValue_26 : decode cX8_clearValue 26 = .ok (.iconst (-1), 1) := by decide +kernel
theorem dX8_clearValue_27 : decode cX8_clearValue 27 = .ok (.if_icmp .ne 6, 3) := by decide +kernel
theorem dX8_clearValue_30 : decode cX8_clearValue 30 = .ok (.bipush (-4), 2) := by decide +kernel
theorem dX8_clearValue_32 : decode cX8_clearValue 32 = .ok (.ireturn, 1) := by decide +kernel
theorem dX8_clearValue_33 : decode cX8_clearValue 33 = .ok (.aload_n 0, 1) := by decide +kernel
theorem dX8_clearValue_34 : decode cX8_clearValue 34 = .ok (.getfield 10, 3) := by decide +kernel
theorem dX8_clearValue_37 : decode cX8_clearValue 37 = .ok (.iload_n 1, 1) := by decide +kernel
theorem dX8_clearValue_38 : decode cX8_clearValue 38 = .ok (.iload_n 2, 1) := by decide +kernel
theorem dX8_clearValue_39 : decode cX8_clearValue 39 = .ok (.iload_n 3, 1) := by decide +kernel
theorem dX8_clearValue_40 : decode cX8_clearValue 40 = .ok (.iconst (-1), 1) := by decide +kernel
theorem dX8_clearValue_41 : decode cX8_clearValue 41 = .ok (.invokevirtual 120, 3) := by decide +kernel
theorem dX8_clearValue_44 : decode cX8_clearValue 44 = .ok (.aload_n 0, 1) := by decide +kernel
theorem dX8_clearValue_45 : decode cX8_clearValue 45 = .ok (.invokevirtual 84, 3) := by decide +kernel
theorem dX8_clearValue_48 : decode cX8_clearValue 48 = .ok (.iload 4, 2) := by decide +kernel
theorem dX8_clearValue_50 : decode cX8_clearValue 50 = .ok (.ireturn, 1) := by decide +kernel
set_option maxRecDepth 20000 in
theorem ggX8_value_X1_has : GoodIn wsX8_value wsX1_has := goodIn_r _ [6, 7, 8, 9, 10, 11, 12, 40, 41, 42, 43, 44, 45] (by decide +kernel) (by decide +kernel)
set_option maxRecDepth 20000 in
theorem gX8_value_X1_has : GoodIn wsX8_value (wsV RX8 87 RX1 yX1_has wsX1_has) := goodIn_app (goodIn_of _ (by decide +kernel)) ggX8_value_X1_has
set_option maxRecDepth 20000 in
theorem ggX8_value_X8_isWithin : GoodIn wsX8_value wsX8_isWithin := goodIn_r _ [10] (by decide +kernel) (by decide +kernel)
set_option maxRecDepth 20000 in
theorem gX8_value_X8_isWithin : GoodIn wsX8_value (va_wsS RX8 71 yX8_isWithin wsX8_isWithin) := goodIn_app (goodIn_of _ (by decide +kernel)) ggX8_value_X8_isWithin
set_option maxRecDepth 20000 in
theorem ggX8_value_X1_digest : GoodIn wsX8_value wsX1_digest := goodIn_r _ [17, 18, 40, 41, 42, 43, 44, 45] (by decide +kernel) (by decide +kernel)
set_option maxRecDepth 20000 in
theorem gX8_value_X1_digest : GoodIn wsX8_value (wsV RX8 98 RX1 yX1_digest wsX1_digest) := goodIn_app (goodIn_of _ (by decide +kernel)) ggX8_value_X1_digest
set_option maxRecDepth 20000 in
theorem ggX8_value_X1_bytes : GoodIn wsX8_value wsX1_bytes := goodIn_r _ [22, 23, 40, 41, 42, 43, 44, 45] (by decide +kernel) (by decide +kernel)
set_option maxRecDepth 20000 in
theorem gX8_value_X1_bytes : GoodIn wsX8_value (wsV RX8 127 RX1 yX1_bytes wsX1_bytes) := goodIn_app (goodIn_of _ (by decide +kernel)) ggX8_value_X1_bytes
set_option maxRecDepth 20000 in
theorem ggX8_value_X1_settledValue : GoodIn wsX8_value wsX1_settledValue := goodIn_r _ [27, 28, 40, 41, 42, 43, 44, 45] (by decide +kernel) (by decide +kernel)
set_option maxRecDepth 20000 in
theorem gX8_value_X1_settledValue : GoodIn wsX8_value (wsV RX8 130 RX1 yX1_settledValue wsX1_settledValue) := goodIn_app (goodIn_of _ (by decide +kernel)) ggX8_value_X1_settledValue
set_option maxRecDepth 20000 in
theorem ggX8_value_X8_orNotFound : GoodIn wsX8_value wsX8_orNotFound := goodIn_r _ [31] (by decide +kernel) (by decide +kernel)
set_option maxRecDepth 20000 in
theorem gX8_value_X8_orNotFound : GoodIn wsX8_value (va_wsS RX8 124 yX8_orNotFound wsX8_orNotFound) := goodIn_app (goodIn_of _ (by decide +kernel)) ggX8_value_X8_orNotFound
theorem dX8_value_0 : decode cX8_value 0 = .ok (.aload_n 0, 1) := by decide +kernel
theorem dX8_value_1 : decode cX8_value 1 = .ok (.getfield 10, 3) := by decide +kernel
theorem dX8_value_4 : decode cX8_value 4 = .ok (.iload_n 1, 1) := by decide +kernel
theorem dX8_value_5 : decode cX8_value 5 = .ok (.invokevirtual 87, 3) := by decide +kernel
theorem dX8_value_8 : decode cX8_value 8 = .ok (.ifCond .eq 13, 3) := by decide +kernel
theorem dX8_value_11 : decode cX8_value 11 = .ok (.iload_n 2, 1) := by decide +kernel
theorem dX8_value_12 : decode cX8_value 12 = .ok (.iconst 0, 1) := by decide +kernel
theorem dX8_value_13 : decode cX8_value 13 = .ok (.bipush 7, 2) := by decide +kernel
theorem dX8_value_15 : decode cX8_value 15 = .ok (.invokestatic 71, 3) := by decide +kernel
theorem dX8_value_18 : decode cX8_value 18 = .ok (.ifCond .ne 5, 3) := by decide +kernel
theorem dX8_value_21 : decode cX8_value 21 = .ok (.iconst (-1), 1) := by decide +kernel
theorem dX8_value_22 : decode cX8_value 22 = .ok (.ireturn, 1) := by decide +kernel
theorem dX8_value_23 : decode cX8_value 23 = .ok (.iload_n 2, 1) := by decide +kernel
theorem dX8_value_24 : decode cX8_value 24 = .ok (.lookupswitch 46 #[(6, 28), (7, 37)], 28) := by decide +kernel
theorem dX8_value_52 : decode cX8_value 52 = .ok (.aload_n 0, 1) := by decide +kernel
theorem dX8_value_53 : decode cX8_value 53 = .ok (.getfield 10, 3) := by decide +kernel
theorem dX8_value_56 : decode cX8_value 56 = .ok (.iload_n 1, 1) := by decide +kernel
theorem dX8_value_57 : decode cX8_value 57 = .ok (.invokevirtual 98, 3) := by decide +kernel
theorem dX8_value_60 : decode cX8_value 60 = .ok (.ireturn, 1) := by decide +kernel
theorem dX8_value_61 : decode cX8_value 61 = .ok (.aload_n 0, 1) := by decide +kernel
theorem dX8_value_62 : decode cX8_value 62 = .ok (.getfield 10, 3) := by decide +kernel
theorem dX8_value_65 : decode cX8_value 65 = .ok (.iload_n 1, 1) := by decide +kernel
theorem dX8_value_66 : decode cX8_value 66 = .ok (.invokevirtual 127, 3) := by decide +kernel
theorem dX8_value_69 : decode cX8_value 69 = .ok (.ireturn, 1) := by decide +kernel
theorem dX8_value_70 : decode cX8_value 70 = .ok (.aload_n 0, 1) := by decide +kernel
theorem dX8_value_71 : decode cX8_value 71 = .ok (.getfield 10, 3) := by decide +kernel
theorem dX8_value_74 : decode cX8_value 74 = .ok (.iload_n 1, 1) := by decide +kernel
theorem dX8_value_75 : decode cX8_value 75 = .ok (.iload_n 2, 1) := by decide +kernel
theorem dX8_value_76 : decode cX8_value 76 = .ok (.invokevirtual 130, 3) := by decide +kernel
theorem dX8_value_79 : decode cX8_value 79 = .ok (.invokestatic 124, 3) := by decide +kernel
theorem dX8_value_82 : decode cX8_value 82 = .ok (.ireturn, 1) := by decide +kernel
set_option maxRecDepth 20000 in
theorem ggX8_setOrder_X8_isSource : GoodIn wsX8_setOrder wsX8_isSource := goodIn_r _ [5, 6, 7, 4, 8] (by decide +kernel) (by decide +kernel)
set_option maxRecDepth 20000 in
theorem gX8_setOrder_X8_isSource : GoodIn wsX8_setOrder (va_wsS RX8 137 yX8_isSource wsX8_isSource) := goodIn_app (goodIn_of _ (by decide +kernel)) ggX8_setOrder_X8_isSource
set_option maxRecDepth 20000 in
theorem ggX8_setOrder_X1_orderCode : GoodIn wsX8_setOrder wsX1_orderCode := goodIn_r _ [13, 14, 262, 263, 264, 265, 266, 267] (by decide +kernel) (by decide +kernel)
set_option maxRecDepth 20000 in
theorem gX8_setOrder_X1_orderCode : GoodIn wsX8_setOrder (wsV RX8 140 RX1 yX1_orderCode wsX1_orderCode) := goodIn_app (goodIn_of _ (by decide +kernel)) ggX8_setOrder_X1_orderCode
set_option maxRecDepth 20000 in
theorem ggX8_setOrder_X1_reorder : GoodIn wsX8_setOrder wsX1_reorder := goodIn_r _ [18, 14, 262, 263, 264, 265, 266, 267] (by decide +kernel) (by decide +kernel)
set_option maxRecDepth 20000 in
theorem gX8_setOrder_X1_reorder : GoodIn wsX8_setOrder (wsV RX8 143 RX1 yX1_reorder wsX1_reorder) := goodIn_app (goodIn_of _ (by decide +kernel)) ggX8_setOrder_X1_reorder
set_option maxRecDepth 20000 in
theorem ggX8_setOrder_X8_settle : GoodIn wsX8_setOrder wsX8_settle := goodIn_r _ [22, 1, 23, 24, 25, 26, 27, 28, 29, 30, 12, 31, 32, 33, 4, 34, 35, 36, 37, 38, 39, 40, 41, 42, 43, 44, 45, 46, 47, 14, 48, 49, 50, 51, 52, 53, 54, 55, 56, 57, 58, 59, 60, 61, 62, 63, 64, 65, 66, 67, 68, 69, 70, 71, 72, 73, 74, 75, 76, 77, 78, 79, 80, 81, 82, 83, 84, 85, 86, 87, 88, 89, 90, 91, 92, 93, 94, 95, 96, 97, 98, 99, 100, 101, 102, 103, 104, 105, 106, 107, 108, 109, 7, 8, 110, 111, 112, 113, 114, 115, 116, 117, 118, 119, 120, 121, 122, 123, 124, 6, 125, 126, 127, 128, 129, 130, 131, 132, 133, 134, 135, 136, 137, 138, 139, 140, 141, 142, 143, 144, 145, 146, 147, 148, 149, 150, 151, 152, 153, 154, 155, 156, 157, 158, 159, 160, 161, 162, 163, 164, 165, 166, 167, 168, 169, 170, 171, 172, 173, 174, 175, 176, 177, 178, 179, 180, 181, 182, 183, 184, 185, 186, 187, 188, 189, 190, 191, 192, 193, 194, 195, 196, 197, 198, 199, 200, 201, 202, 203, 204, 205, 206, 207, 208, 209, 210, 211, 212, 213, 214, 215, 216, 217, 218, 219, 220, 221, 222, 223, 224, 225, 226, 227, 228, 229, 230, 231, 232, 233, 234, 235, 236, 237, 238, 239, 240, 241, 242, 243, 244, 245, 246, 247, 248, 249, 250, 251, 252, 253, 254, 255, 256, 257, 258, 259, 260, 261, 262, 263, 264, 265, 266, 267, 268, 269, 270, 271, 272, 273, 274, 275, 276, 277, 278, 279, 280, 281, 282, 283, 284, 285, 286, 287, 288, 289, 290, 291, 292, 293, 294, 295, 296, 297, 298, 299, 300] (by decide +kernel) (by decide +kernel)
set_option maxRecDepth 20000 in
theorem gX8_setOrder_X8_settle : GoodIn wsX8_setOrder (wsV RX8 84 RX8 yX8_settle wsX8_settle) := goodIn_app (goodIn_of _ (by decide +kernel)) ggX8_setOrder_X8_settle
theorem dX8_setOrder_0 : decode cX8_setOrder 0 = .ok (.iload_n 1, 1) := by decide +kernel
theorem dX8_setOrder_1 : decode cX8_setOrder 1 = .ok (.invokestatic 137, 3) := by decide +kernel
theorem dX8_setOrder_4 : decode cX8_setOrder 4 = .ok (.ifCond .eq 32, 3) := by decide +kernel
theorem dX8_setOrder_7 : decode cX8_setOrder 7 = .ok (.iload_n 2, 1) := by decide +kernel
theorem dX8_setOrder_8 : decode cX8_setOrder 8 = .ok (.invokestatic 137, 3) := by decide +kernel
theorem dX8_setOrder_11 : decode cX8_setOrder 11 = .ok (.ifCond .eq 25, 3) := by decide +kernel
theorem dX8_setOrder_14 : decode cX8_setOrder 14 = .ok (.iload_n 3, 1) := by decide +kernel
theorem dX8_setOrder_15 : decode cX8_setOrder 15 = .ok (.invokestatic 137, 3) := by decide +kernel
theorem dX8_setOrder_18 : decode cX8_setOrder 18 = .ok (.ifCond .eq 18, 3) := by decide +kernel
theorem dX8_setOrder_21 : decode cX8_setOrder 21 = .ok (.iload_n 1, 1) := by decide +kernel
theorem dX8_setOrder_22 : decode cX8_setOrder 22 = .ok (.iload_n 2, 1) := by decide +kernel
theorem dX8_setOrder_23 : decode cX8_setOrder 23 = .ok (.if_icmp .eq 13, 3) := by decide +kernel
theorem dX8_setOrder_26 : decode cX8_setOrder 26 = .ok (.iload_n 1, 1) := by decide +kernel
theorem dX8_setOrder_27 : decode cX8_setOrder 27 = .ok (.iload_n 3, 1) := by decide +kernel
theorem dX8_setOrder_28 : decode cX8_setOrder 28 = .ok (.if_icmp .eq 8, 3) := by decide +kernel
theorem dX8_setOrder_31 : decode cX8_setOrder 31 = .ok (.iload_n 2, 1) := by decide +kernel
theorem dX8_setOrder_32 : decode cX8_setOrder 32 = .ok (.iload_n 3, 1) := by decide +kernel
theorem dX8_setOrder_33 : decode cX8_setOrder 33 = .ok (.if_icmp .ne 5, 3) := by decide +kernel
theorem dX8_setOrder_36 : decode cX8_setOrder 36 = .ok (.iconst (-1), 1) := by decide +kernel
theorem dX8_setOrder_37 : decode cX8_setOrder 37 = .ok (.ireturn, 1) := by decide +kernel
theorem dX8_setOrder_38 : decode cX8_setOrder 38 = .ok (.aload_n 0, 1) := by decide +kernel
theorem dX8_setOrder_39 : decode cX8_setOrder 39 = .ok (.getfield 10, 3) := by decide +kernel
theorem dX8_setOrder_42 : decode cX8_setOrder 42 = .ok (.invokevirtual 140, 3) := by decide +kernel
theorem dX8_setOrder_45 : decode cX8_setOrder 45 = .ok (.istore 4, 2) := by decide +kernel
theorem dX8_setOrder_47 : decode cX8_setOrder 47 = .ok (.aload_n 0, 1) := by decide +kernel
theorem dX8_setOrder_48 : decode cX8_setOrder 48 = .ok (.getfield 10, 3) := by decide +kernel
theorem dX8_setOrder_51 : decode cX8_setOrder 51 = .ok (.iload_n 1, 1) := by decide +kernel
theorem dX8_setOrder_52 : decode cX8_setOrder 52 = .ok (.iload_n 2, 1) := by decide +kernel
theorem dX8_setOrder_53 : decode cX8_setOrder 53 = .ok (.iload_n 3, 1) := by decide +kernel
theorem dX8_setOrder_54 : decode cX8_setOrder 54 = .ok (.invokevirtual 143, 3) := by decide +kernel
theorem dX8_setOrder_57 : decode cX8_setOrder 57 = .ok (.aload_n 0, 1) := by decide +kernel
theorem dX8_setOrder_58 : decode cX8_setOrder 58 = .ok (.invokevirtual 84, 3) := by decide +kernel
theorem dX8_setOrder_61 : decode cX8_setOrder 61 = .ok (.iload 4, 2) := by decide +kernel
theorem dX8_setOrder_63 : decode cX8_setOrder 63 = .ok (.ireturn, 1) := by decide +kernel
set_option maxRecDepth 20000 in
theorem ggX8_keeperOf_X1_has : GoodIn wsX8_keeperOf wsX1_has := goodIn_r _ [7, 8, 9, 10, 11, 12, 13, 52, 53, 54, 55, 56, 57] (by decide +kernel) (by decide +kernel)
set_option maxRecDepth 20000 in
theorem gX8_keeperOf_X1_has : GoodIn wsX8_keeperOf (wsV RX8 87 RX1 yX1_has wsX1_has) := goodIn_app (goodIn_of _ (by decide +kernel)) ggX8_keeperOf_X1_has
set_option maxRecDepth 20000 in
theorem ggX8_keeperOf_X2_keeper : GoodIn wsX8_keeperOf wsX2_keeper := goodIn_r _ [18, 19, 20, 21, 22, 6, 23, 8, 24, 12, 10, 13, 25, 26, 27, 28, 29, 17, 30, 31, 32, 33, 34, 35, 36, 37, 38, 39, 40, 41, 42, 43, 58, 59, 60, 52, 53, 54, 55, 56, 57] (by decide +kernel) (by decide +kernel)
set_option maxRecDepth 20000 in
theorem gX8_keeperOf_X2_keeper : GoodIn wsX8_keeperOf (wsV RX8 146 RX2 yX2_keeper wsX2_keeper) := goodIn_app (goodIn_of _ (by decide +kernel)) ggX8_keeperOf_X2_keeper
theorem dX8_keeperOf_0 : decode cX8_keeperOf 0 = .ok (.aload_n 0, 1) := by decide +kernel
theorem dX8_keeperOf_1 : decode cX8_keeperOf 1 = .ok (.getfield 10, 3) := by decide +kernel
theorem dX8_keeperOf_4 : decode cX8_keeperOf 4 = .ok (.iload_n 1, 1) := by decide +kernel
theorem dX8_keeperOf_5 : decode cX8_keeperOf 5 = .ok (.invokevirtual 87, 3) := by decide +kernel
theorem dX8_keeperOf_8 : decode cX8_keeperOf 8 = .ok (.ifCond .ne 5, 3) := by decide +kernel
theorem dX8_keeperOf_11 : decode cX8_keeperOf 11 = .ok (.iconst (-1), 1) := by decide +kernel
theorem dX8_keeperOf_12 : decode cX8_keeperOf 12 = .ok (.ireturn, 1) := by decide +kernel
theorem dX8_keeperOf_13 : decode cX8_keeperOf 13 = .ok (.aload_n 0, 1) := by decide +kernel
theorem dX8_keeperOf_14 : decode cX8_keeperOf 14 = .ok (.getfield 21, 3) := by decide +kernel
theorem dX8_keeperOf_17 : decode cX8_keeperOf 17 = .ok (.iload_n 1, 1) := by decide +kernel
theorem dX8_keeperOf_18 : decode cX8_keeperOf 18 = .ok (.invokevirtual 146, 3) := by decide +kernel
theorem dX8_keeperOf_21 : decode cX8_keeperOf 21 = .ok (.ireturn, 1) := by decide +kernel
set_option maxRecDepth 20000 in
theorem ggX8_groupSize_X1_has : GoodIn wsX8_groupSize wsX1_has := goodIn_r _ [6, 7, 8, 9, 10, 11, 12, 35, 36, 37, 38, 39, 40] (by decide +kernel) (by decide +kernel)
set_option maxRecDepth 20000 in
theorem gX8_groupSize_X1_has : GoodIn wsX8_groupSize (wsV RX8 87 RX1 yX1_has wsX1_has) := goodIn_app (goodIn_of _ (by decide +kernel)) ggX8_groupSize_X1_has
set_option maxRecDepth 20000 in
theorem ggX8_groupSize_X1_alike : GoodIn wsX8_groupSize wsX1_alike := goodIn_r _ [16, 7, 17, 11, 9, 12, 18, 19, 35, 36, 37, 38, 39, 40] (by decide +kernel) (by decide +kernel)
set_option maxRecDepth 20000 in
theorem gX8_groupSize_X1_alike : GoodIn wsX8_groupSize (wsV RX8 149 RX1 yX1_alike wsX1_alike) := goodIn_app (goodIn_of _ (by decide +kernel)) ggX8_groupSize_X1_alike
set_option maxRecDepth 20000 in
theorem ggX8_groupSize_J13_bitCount_95d88 : GoodIn wsX8_groupSize wsJ13_bitCount_95d88 := goodIn_r _ [23, 24, 25, 26] (by decide +kernel) (by decide +kernel)
set_option maxRecDepth 20000 in
theorem gX8_groupSize_J13_bitCount_95d88 : GoodIn wsX8_groupSize (va_wsS RX8 153 yJ13_bitCount_95d88 wsJ13_bitCount_95d88) := goodIn_app (goodIn_of _ (by decide +kernel)) ggX8_groupSize_J13_bitCount_95d88
theorem dX8_groupSize_0 : decode cX8_groupSize 0 = .ok (.aload_n 0, 1) := by decide +kernel
theorem dX8_groupSize_1 : decode cX8_groupSize 1 = .ok (.getfield 10, 3) := by decide +kernel
theorem dX8_groupSize_4 : decode cX8_groupSize 4 = .ok (.iload_n 1, 1) := by decide +kernel
theorem dX8_groupSize_5 : decode cX8_groupSize 5 = .ok (.invokevirtual 87, 3) := by decide +kernel
theorem dX8_groupSize_8 : decode cX8_groupSize 8 = .ok (.ifCond .ne 5, 3) := by decide +kernel
theorem dX8_groupSize_11 : decode cX8_groupSize 11 = .ok (.iconst (-1), 1) := by decide +kernel
theorem dX8_groupSize_12 : decode cX8_groupSize 12 = .ok (.ireturn, 1) := by decide +kernel
theorem dX8_groupSize_13 : decode cX8_groupSize 13 = .ok (.aload_n 0, 1) := by decide +kernel
theorem dX8_groupSize_14 : decode cX8_groupSize 14 = .ok (.getfield 10, 3) := by decide +kernel
theorem dX8_groupSize_17 : decode cX8_groupSize 17 = .ok (.iload_n 1, 1) := by decide +kernel
theorem dX8_groupSize_18 : decode cX8_groupSize 18 = .ok (.invokevirtual 149, 3) := by decide +kernel
theorem dX8_groupSize_21 : decode cX8_groupSize 21 = .ok (.invokestatic 153, 3) := by decide +kernel
theorem dX8_groupSize_24 : decode cX8_groupSize 24 = .ok (.ireturn, 1) := by decide +kernel
set_option maxRecDepth 20000 in
theorem ggX8_wasted_X1_all : GoodIn wsX8_wasted wsX1_all := goodIn_r _ [8, 9, 32, 33, 34, 35, 36, 37] (by decide +kernel) (by decide +kernel)
set_option maxRecDepth 20000 in
theorem gX8_wasted_X1_all : GoodIn wsX8_wasted (wsV RX8 159 RX1 yX1_all wsX1_all) := goodIn_app (goodIn_of _ (by decide +kernel)) ggX8_wasted_X1_all
set_option maxRecDepth 20000 in
theorem ggX8_wasted_X2_keepers : GoodIn wsX8_wasted wsX2_keepers := goodIn_r _ [14, 15, 38, 39, 40] (by decide +kernel) (by decide +kernel)
set_option maxRecDepth 20000 in
theorem gX8_wasted_X2_keepers : GoodIn wsX8_wasted (wsV RX8 163 RX2 yX2_keepers wsX2_keepers) := goodIn_app (goodIn_of _ (by decide +kernel)) ggX8_wasted_X2_keepers
set_option maxRecDepth 20000 in
theorem ggX8_wasted_X1_sumOfSizes : GoodIn wsX8_wasted wsX1_sumOfSizes := goodIn_r _ [19, 20, 21, 22, 23, 32, 33, 34, 35, 36, 37] (by decide +kernel) (by decide +kernel)
set_option maxRecDepth 20000 in
theorem gX8_wasted_X1_sumOfSizes : GoodIn wsX8_wasted (wsV RX8 168 RX1 yX1_sumOfSizes wsX1_sumOfSizes) := goodIn_app (goodIn_of _ (by decide +kernel)) ggX8_wasted_X1_sumOfSizes
theorem dX8_wasted_0 : decode cX8_wasted 0 = .ok (.aload_n 0, 1) := by decide +kernel
theorem dX8_wasted_1 : decode cX8_wasted 1 = .ok (.getfield 10, 3) := by decide +kernel
theorem dX8_wasted_4 : decode cX8_wasted 4 = .ok (.aload_n 0, 1) := by decide +kernel
theorem dX8_wasted_5 : decode cX8_wasted 5 = .ok (.getfield 10, 3) := by decide +kernel
theorem dX8_wasted_8 : decode cX8_wasted 8 = .ok (.invokevirtual 159, 3) := by decide +kernel
theorem dX8_wasted_11 : decode cX8_wasted 11 = .ok (.aload_n 0, 1) := by decide +kernel
theorem dX8_wasted_12 : decode cX8_wasted 12 = .ok (.getfield 21, 3) := by decide +kernel
theorem dX8_wasted_15 : decode cX8_wasted 15 = .ok (.invokevirtual 163, 3) := by decide +kernel
theorem dX8_wasted_18 : decode cX8_wasted 18 = .ok (.ldc2_w 166, 3) := by decide +kernel
theorem dX8_wasted_21 : decode cX8_wasted 21 = .ok (.lxor, 1) := by decide +kernel
theorem dX8_wasted_22 : decode cX8_wasted 22 = .ok (.land, 1) := by decide +kernel
theorem dX8_wasted_23 : decode cX8_wasted 23 = .ok (.invokevirtual 168, 3) := by decide +kernel
theorem dX8_wasted_26 : decode cX8_wasted 26 = .ok (.ireturn, 1) := by decide +kernel
set_option maxRecDepth 20000 in
theorem ggX8_merge_X1_has : GoodIn wsX8_merge wsX1_has := goodIn_r _ [8, 9, 10, 11, 12, 13, 14, 302, 303, 304, 305, 306, 307] (by decide +kernel) (by decide +kernel)
set_option maxRecDepth 20000 in
theorem gX8_merge_X1_has : GoodIn wsX8_merge (wsV RX8 87 RX1 yX1_has wsX1_has) := goodIn_app (goodIn_of _ (by decide +kernel)) ggX8_merge_X1_has
set_option maxRecDepth 20000 in
theorem ggX8_merge_X2_keeper : GoodIn wsX8_merge wsX2_keeper := goodIn_r _ [19, 20, 21, 22, 23, 7, 24, 9, 25, 13, 11, 14, 26, 27, 28, 29, 30, 18, 31, 32, 33, 34, 35, 36, 37, 38, 39, 40, 41, 42, 43, 44, 308, 309, 310, 302, 303, 304, 305, 306, 307] (by decide +kernel) (by decide +kernel)
set_option maxRecDepth 20000 in
theorem gX8_merge_X2_keeper : GoodIn wsX8_merge (wsV RX8 146 RX2 yX2_keeper wsX2_keeper) := goodIn_app (goodIn_of _ (by decide +kernel)) ggX8_merge_X2_keeper
set_option maxRecDepth 20000 in
theorem ggX8_merge_X1_alike : GoodIn wsX8_merge wsX1_alike := goodIn_r _ [24, 9, 25, 13, 11, 14, 26, 27, 302, 303, 304, 305, 306, 307] (by decide +kernel) (by decide +kernel)
set_option maxRecDepth 20000 in
theorem gX8_merge_X1_alike : GoodIn wsX8_merge (wsV RX8 149 RX1 yX1_alike wsX1_alike) := goodIn_app (goodIn_of _ (by decide +kernel)) ggX8_merge_X1_alike
set_option maxRecDepth 20000 in
theorem ggX8_merge_X8_only : GoodIn wsX8_merge wsX8_only := goodIn_r _ [27] (by decide +kernel) (by decide +kernel)
set_option maxRecDepth 20000 in
theorem gX8_merge_X8_only : GoodIn wsX8_merge (va_wsS RX8 171 yX8_only wsX8_only) := goodIn_app (goodIn_of _ (by decide +kernel)) ggX8_merge_X8_only
set_option maxRecDepth 20000 in
theorem ggX8_merge_X1_absorb : GoodIn wsX8_merge wsX1_absorb := goodIn_r _ [50, 13, 11, 14, 51, 52, 53, 7, 54, 55, 56, 57, 58, 59, 60, 61, 62, 63, 64, 65, 66, 67, 68, 69, 302, 303, 304, 305, 306, 307] (by decide +kernel) (by decide +kernel)
set_option maxRecDepth 20000 in
theorem gX8_merge_X1_absorb : GoodIn wsX8_merge (wsV RX8 174 RX1 yX1_absorb wsX1_absorb) := goodIn_app (goodIn_of _ (by decide +kernel)) ggX8_merge_X1_absorb
set_option maxRecDepth 20000 in
theorem ggX8_merge_X8_holds : GoodIn wsX8_merge wsX8_holds := goodIn_r _ [14] (by decide +kernel) (by decide +kernel)
set_option maxRecDepth 20000 in
theorem gX8_merge_X8_holds : GoodIn wsX8_merge (va_wsS RX8 178 yX8_holds wsX8_holds) := goodIn_app (goodIn_of _ (by decide +kernel)) ggX8_merge_X8_holds
set_option maxRecDepth 20000 in
theorem ggX8_merge_X8_discard : GoodIn wsX8_merge wsX8_discard := goodIn_r _ [74, 75, 1, 76, 77, 78, 79, 80, 81, 82, 83, 84, 85, 86, 87, 88, 89, 90, 91, 92, 93, 94, 95, 96, 97, 26, 11, 27, 98, 99, 100, 7, 101, 9, 102, 294, 295, 296, 297, 298, 299, 300, 301, 311, 312, 313, 314, 315, 316, 317, 318, 302, 303, 304, 305, 306, 307] (by decide +kernel) (by decide +kernel)
set_option maxRecDepth 20000 in
theorem gX8_merge_X8_discard : GoodIn wsX8_merge (wsV RX8 91 RX8 yX8_discard wsX8_discard) := goodIn_app (goodIn_of _ (by decide +kernel)) ggX8_merge_X8_discard
set_option maxRecDepth 20000 in
theorem ggX8_merge_X8_settle : GoodIn wsX8_merge wsX8_settle := goodIn_r _ [106, 1, 2, 75, 107, 108, 109, 110, 111, 112, 7, 113, 9, 13, 11, 14, 114, 115, 116, 117, 40, 118, 119, 120, 121, 122, 123, 124, 125, 126, 55, 56, 57, 58, 59, 60, 61, 62, 127, 128, 129, 18, 130, 131, 132, 20, 133, 134, 135, 136, 137, 21, 22, 23, 24, 25, 26, 27, 28, 29, 30, 31, 32, 33, 34, 35, 36, 37, 38, 39, 41, 42, 43, 44, 138, 139, 140, 141, 142, 143, 144, 145, 146, 147, 79, 148, 149, 150, 151, 152, 153, 83, 10, 12, 154, 155, 156, 157, 82, 84, 158, 89, 90, 91, 159, 160, 161, 162, 163, 164, 165, 166, 167, 168, 169, 170, 171, 172, 173, 174, 175, 176, 177, 178, 179, 180, 181, 182, 183, 184, 185, 186, 187, 188, 189, 190, 191, 192, 193, 194, 195, 196, 197, 198, 199, 200, 201, 202, 203, 204, 205, 206, 207, 208, 209, 210, 211, 212, 213, 214, 215, 216, 217, 218, 219, 220, 221, 222, 223, 224, 225, 226, 227, 228, 229, 230, 231, 232, 233, 234, 96, 235, 236, 237, 238, 239, 240, 241, 242, 243, 244, 245, 246, 247, 248, 249, 250, 251, 252, 253, 254, 255, 256, 257, 258, 259, 260, 261, 262, 263, 264, 265, 266, 267, 268, 269, 270, 271, 272, 273, 274, 275, 276, 277, 278, 279, 280, 281, 282, 283, 284, 285, 286, 287, 288, 289, 290, 291, 292, 294, 295, 296, 297, 298, 299, 300, 301, 302, 303, 304, 305, 306, 307, 308, 309, 310, 311, 312, 313, 314, 315, 316, 317, 318, 319, 320, 321, 322, 323, 324, 325, 326, 327, 328, 329, 330, 331, 332, 333, 334, 335, 336, 337, 338, 339, 340] (by decide +kernel) (by decide +kernel)
set_option maxRecDepth 20000 in
theorem gX8_merge_X8_settle : GoodIn wsX8_merge (wsV RX8 84 RX8 yX8_settle wsX8_settle) := goodIn_app (goodIn_of _ (by decide +kernel)) ggX8_merge_X8_settle
set_option maxRecDepth 20000 in
theorem ggX8_merge_J13_bitCount_95d88 : GoodIn wsX8_merge wsJ13_bitCount_95d88 := goodIn_r _ [141, 142, 143, 144] (by decide +kernel) (by decide +kernel)
set_option maxRecDepth 20000 in
theorem gX8_merge_J13_bitCount_95d88 : GoodIn wsX8_merge (va_wsS RX8 153 yJ13_bitCount_95d88 wsJ13_bitCount_95d88) := goodIn_app (goodIn_of _ (by decide +kernel)) ggX8_merge_J13_bitCount_95d88
theorem dX8_merge_0 : decode cX8_merge 0 = .ok (.aload_n 0, 1) := by decide +kernel
theorem dX8_merge_1 : decode cX8_merge 1 = .ok (.getfield 10, 3) := by decide +kernel
theorem dX8_merge_4 : decode cX8_merge 4 = .ok (.iload_n 1, 1) := by decide +kernel
theorem dX8_merge_5 : decode cX8_merge 5 = .ok (.invokevirtual 87, 3) := by decide +kernel
theorem dX8_merge_8 : decode cX8_merge 8 = .ok (.ifCond .ne 5, 3) := by decide +kernel
theorem dX8_merge_11 : decode cX8_merge 11 = .ok (.iconst (-1), 1) := by decide +kernel
theorem dX8_merge_12 : decode cX8_merge 12 = .ok (.ireturn, 1) := by decide +kernel
theorem dX8_merge_13 : decode cX8_merge 13 = .ok (.aload_n 0, 1) := by decide +kernel
theorem dX8_merge_14 : decode cX8_merge 14 = .ok (.getfield 21, 3) := by decide +kernel
theorem dX8_merge_17 : decode cX8_merge 17 = .ok (.iload_n 1, 1) := by decide +kernel
theorem dX8_merge_18 : decode cX8_merge 18 = .ok (.invokevirtual 146, 3) := by decide +kernel
theorem dX8_merge_21 : decode cX8_merge 21 = .ok (.istore_n 2, 1) := by decide +kernel
theorem dX8_merge_22 : decode cX8_merge 22 = .ok (.aload_n 0, 1) := by decide +kernel
theorem dX8_merge_23 : decode cX8_merge 23 = .ok (.getfield 10, 3) := by decide +kernel
theorem dX8_merge_26 : decode cX8_merge 26 = .ok (.iload_n 1, 1) := by decide +kernel
theorem dX8_merge_27 : decode cX8_merge 27 = .ok (.invokevirtual 149, 3) := by decide +kernel
theorem dX8_merge_30 : decode cX8_merge 30 = .ok (.iload_n 2, 1) := by decide +kernel
theorem dX8_merge_31 : decode cX8_merge 31 = .ok (.invokestatic 171, 3) := by decide +kernel
theorem dX8_merge_34 : decode cX8_merge 34 = .ok (.ldc2_w 166, 3) := by decide +kernel
theorem dX8_merge_37 : decode cX8_merge 37 = .ok (.lxor, 1) := by decide +kernel
theorem dX8_merge_38 : decode cX8_merge 38 = .ok (.land, 1) := by decide +kernel
theorem dX8_merge_39 : decode cX8_merge 39 = .ok (.lstore_n 3, 1) := by decide +kernel
theorem dX8_merge_40 : decode cX8_merge 40 = .ok (.lload_n 3, 1) := by decide +kernel
theorem dX8_merge_41 : decode cX8_merge 41 = .ok (.lconst 0, 1) := by decide +kernel
theorem dX8_merge_42 : decode cX8_merge 42 = .ok (.lcmp, 1) := by decide +kernel
theorem dX8_merge_43 : decode cX8_merge 43 = .ok (.ifCond .ne 6, 3) := by decide +kernel
theorem dX8_merge_46 : decode cX8_merge 46 = .ok (.bipush (-2), 2) := by decide +kernel
theorem dX8_merge_48 : decode cX8_merge 48 = .ok (.ireturn, 1) := by decide +kernel
theorem dX8_merge_49 : decode cX8_merge 49 = .ok (.aload_n 0, 1) := by decide +kernel
theorem dX8_merge_50 : decode cX8_merge 50 = .ok (.getfield 10, 3) := by decide +kernel
theorem dX8_merge_53 : decode cX8_merge 53 = .ok (.iload_n 2, 1) := by decide +kernel
theorem dX8_merge_54 : decode cX8_merge 54 = .ok (.lload_n 3, 1) := by decide +kernel
theorem dX8_merge_55 : decode cX8_merge 55 = .ok (.invokevirtual 174, 3) := by decide +kernel
theorem dX8_merge_58 : decode cX8_merge 58 = .ok (.iconst 0, 1) := by decide +kernel
theorem dX8_merge_59 : decode cX8_merge 59 = .ok (.istore 5, 2) := by decide +kernel
theorem dX8_merge_61 : decode cX8_merge 61 = .ok (.iload 5, 2) := by decide +kernel
theorem dX8_merge_63 : decode cX8_merge 63 = .ok (.bipush 40, 2) := by decide +kernel
theorem dX8_merge_65 : decode cX8_merge 65 = .ok (.if_icmp .ge 24, 3) := by decide +kernel
theorem dX8_merge_68 : decode cX8_merge 68 = .ok (.lload_n 3, 1) := by decide +kernel
theorem dX8_merge_69 : decode cX8_merge 69 = .ok (.iload 5, 2) := by decide +kernel
theorem dX8_merge_71 : decode cX8_merge 71 = .ok (.invokestatic 178, 3) := by decide +kernel
theorem dX8_merge_74 : decode cX8_merge 74 = .ok (.ifCond .eq 9, 3) := by decide +kernel
theorem dX8_merge_77 : decode cX8_merge 77 = .ok (.aload_n 0, 1) := by decide +kernel
theorem dX8_merge_78 : decode cX8_merge 78 = .ok (.iload 5, 2) := by decide +kernel
theorem dX8_merge_80 : decode cX8_merge 80 = .ok (.invokevirtual 91, 3) := by decide +kernel
theorem dX8_merge_83 : decode cX8_merge 83 = .ok (.iinc 5 1, 3) := by decide +kernel
theorem dX8_merge_86 : decode cX8_merge 86 = .ok (.goto (-25), 3) := by decide +kernel
theorem dX8_merge_89 : decode cX8_merge 89 = .ok (.aload_n 0, 1) := by decide +kernel
theorem dX8_merge_90 : decode cX8_merge 90 = .ok (.invokevirtual 84, 3) := by decide +kernel
theorem dX8_merge_93 : decode cX8_merge 93 = .ok (.lload_n 3, 1) := by decide +kernel
theorem dX8_merge_94 : decode cX8_merge 94 = .ok (.invokestatic 153, 3) := by decide +kernel
theorem dX8_merge_97 : decode cX8_merge 97 = .ok (.ireturn, 1) := by decide +kernel
set_option maxRecDepth 20000 in
theorem ggX8_stack_X1_has : GoodIn wsX8_stack wsX1_has := goodIn_r _ [7, 8, 9, 10, 11, 12, 13, 273, 274, 275, 276, 277, 278] (by decide +kernel) (by decide +kernel)
set_option maxRecDepth 20000 in
theorem gX8_stack_X1_has : GoodIn wsX8_stack (wsV RX8 87 RX1 yX1_has wsX1_has) := goodIn_app (goodIn_of _ (by decide +kernel)) ggX8_stack_X1_has
set_option maxRecDepth 20000 in
theorem ggX8_stack_X6_home : GoodIn wsX8_stack wsX6_home := goodIn_r _ [18, 19, 279, 280, 281, 282, 283, 284, 285, 286] (by decide +kernel) (by decide +kernel)
set_option maxRecDepth 20000 in
theorem gX8_stack_X6_home : GoodIn wsX8_stack (wsV RX8 182 RX6 yX6_home wsX6_home) := goodIn_app (goodIn_of _ (by decide +kernel)) ggX8_stack_X6_home
set_option maxRecDepth 20000 in
theorem ggX8_stack_X6_freeNumber : GoodIn wsX8_stack wsX6_freeNumber := goodIn_r _ [23, 24, 25, 26, 17, 27, 28, 9, 10, 11, 279, 280, 281, 282, 283, 284, 285, 286] (by decide +kernel) (by decide +kernel)
set_option maxRecDepth 20000 in
theorem gX8_stack_X6_freeNumber : GoodIn wsX8_stack (wsV RX8 185 RX6 yX6_freeNumber wsX6_freeNumber) := goodIn_app (goodIn_of _ (by decide +kernel)) ggX8_stack_X6_freeNumber
set_option maxRecDepth 20000 in
theorem ggX8_stack_X6_begin : GoodIn wsX8_stack wsX6_begin := goodIn_r _ [32, 33, 34, 35, 36, 37, 17, 38, 28, 39, 19, 40, 41, 42, 43, 44, 10, 45, 279, 280, 281, 282, 283, 284, 285, 286] (by decide +kernel) (by decide +kernel)
set_option maxRecDepth 20000 in
theorem gX8_stack_X6_begin : GoodIn wsX8_stack (wsV RX8 186 RX6 yX6_begin wsX6_begin) := goodIn_app (goodIn_of _ (by decide +kernel)) ggX8_stack_X6_begin
set_option maxRecDepth 20000 in
theorem ggX8_stack_X8_settle : GoodIn wsX8_stack wsX8_settle := goodIn_r _ [49, 1, 50, 2, 51, 52, 53, 54, 55, 56, 6, 57, 8, 12, 10, 13, 58, 59, 60, 61, 62, 63, 64, 65, 66, 67, 68, 69, 70, 71, 72, 73, 74, 75, 76, 77, 78, 79, 80, 81, 82, 83, 84, 85, 86, 87, 88, 89, 90, 91, 92, 93, 94, 95, 96, 97, 44, 45, 98, 99, 100, 101, 102, 103, 104, 105, 106, 107, 108, 109, 110, 111, 112, 113, 114, 115, 116, 117, 118, 119, 120, 121, 122, 123, 17, 124, 125, 24, 25, 26, 27, 28, 9, 11, 126, 127, 128, 129, 33, 39, 130, 41, 42, 43, 131, 132, 133, 134, 135, 136, 137, 138, 139, 140, 141, 142, 143, 144, 145, 146, 147, 148, 149, 150, 151, 152, 153, 154, 155, 156, 157, 158, 159, 160, 161, 162, 163, 164, 165, 166, 167, 168, 169, 170, 171, 172, 173, 174, 175, 176, 177, 178, 179, 180, 181, 182, 183, 184, 185, 186, 187, 188, 189, 190, 191, 192, 193, 194, 195, 196, 197, 198, 199, 200, 201, 202, 203, 204, 205, 206, 40, 207, 208, 209, 210, 211, 212, 213, 214, 215, 216, 217, 218, 219, 220, 221, 222, 223, 224, 225, 226, 227, 228, 229, 230, 231, 232, 233, 234, 235, 236, 237, 238, 239, 240, 241, 242, 243, 244, 245, 246, 247, 248, 249, 250, 251, 252, 253, 254, 255, 256, 257, 258, 259, 260, 261, 262, 263, 264, 265, 266, 267, 268, 269, 270, 271, 272, 273, 274, 275, 276, 277, 278, 287, 288, 289, 279, 280, 281, 282, 283, 284, 285, 286, 290, 291, 292, 293, 294, 295, 296, 297, 298, 299, 300, 301, 302, 303, 304, 305, 306, 307, 308, 309, 310, 311] (by decide +kernel) (by decide +kernel)
set_option maxRecDepth 20000 in
theorem gX8_stack_X8_settle : GoodIn wsX8_stack (wsV RX8 84 RX8 yX8_settle wsX8_settle) := goodIn_app (goodIn_of _ (by decide +kernel)) ggX8_stack_X8_settle
theorem dX8_stack_0 : decode cX8_stack 0 = .ok (.aload_n 0, 1) := by decide +kernel
theorem dX8_stack_1 : decode cX8_stack 1 = .ok (.getfield 10, 3) := by decide +kernel
theorem dX8_stack_4 : decode cX8_stack 4 = .ok (.iload_n 1, 1) := by decide +kernel
theorem dX8_stack_5 : decode cX8_stack 5 = .ok (.invokevirtual 87, 3) := by decide +kernel
theorem dX8_stack_8 : decode cX8_stack 8 = .ok (.ifCond .eq 19, 3) := by decide +kernel
theorem dX8_stack_11 : decode cX8_stack 11 = .ok (.aload_n 0, 1) := by decide +kernel
theorem dX8_stack_12 : decode cX8_stack 12 = .ok (.getfield 10, 3) := by decide +kernel
theorem dX8_stack_15 : decode cX8_stack 15 = .ok (.iload_n 2, 1) := by decide +kernel
theorem dX8_stack_16 : decode cX8_stack 16 = .ok (.invokevirtual 87, 3) := by decide +kernel
theorem dX8_stack_19 : decode cX8_stack 19 = .ok (.ifCond .eq 8, 3) := by decide +kernel
theorem dX8_stack_22 : decode cX8_stack 22 = .ok (.iload_n 1, 1) := by decide +kernel
theorem dX8_stack_23 : decode cX8_stack 23 = .ok (.iload_n 2, 1) := by decide +kernel
theorem dX8_stack_24 : decode cX8_stack 24 = .ok (.if_icmp .ne 5, 3) := by decide +kernel
theorem dX8_stack_27 : decode cX8_stack 27 = .ok (.iconst (-1), 1) := by decide +kernel
theorem dX8_stack_28 : decode cX8_stack 28 = .ok (.ireturn, 1) := by decide +kernel
theorem dX8_stack_29 : decode cX8_stack 29 = .ok (.aload_n 0, 1) := by decide +kernel
theorem dX8_stack_30 : decode cX8_stack 30 = .ok (.getfield 28, 3) := by decide +kernel
theorem dX8_stack_33 : decode cX8_stack 33 = .ok (.iload_n 1, 1) := by decide +kernel
theorem dX8_stack_34 : decode cX8_stack 34 = .ok (.invokevirtual 182, 3) := by decide +kernel
theorem dX8_stack_37 : decode cX8_stack 37 = .ok (.iconst (-1), 1) := by decide +kernel
theorem dX8_stack_38 : decode cX8_stack 38 = .ok (.if_icmp .ne 15, 3) := by decide +kernel
theorem dX8_stack_41 : decode cX8_stack 41 = .ok (.aload_n 0, 1) := by decide +kernel
theorem dX8_stack_42 : decode cX8_stack 42 = .ok (.getfield 28, 3) := by decide +kernel
theorem dX8_stack_45 : decode cX8_stack 45 = .ok (.iload_n 2, 1) := by decide +kernel
theorem dX8_stack_46 : decode cX8_stack 46 = .ok (.invokevirtual 182, 3) := by decide +kernel
theorem dX8_stack_49 : decode cX8_stack 49 = .ok (.iconst (-1), 1) := by decide +kernel
theorem dX8_stack_50 : decode cX8_stack 50 = .ok (.if_icmp .eq 6, 3) := by decide +kernel
theorem dX8_stack_53 : decode cX8_stack 53 = .ok (.bipush (-2), 2) := by decide +kernel
theorem dX8_stack_55 : decode cX8_stack 55 = .ok (.ireturn, 1) := by decide +kernel
theorem dX8_stack_56 : decode cX8_stack 56 = .ok (.aload_n 0, 1) := by decide +kernel
theorem dX8_stack_57 : decode cX8_stack 57 = .ok (.getfield 28, 3) := by decide +kernel
theorem dX8_stack_60 : decode cX8_stack 60 = .ok (.invokevirtual 185, 3) := by decide +kernel
theorem dX8_stack_63 : decode cX8_stack 63 = .ok (.istore_n 3, 1) := by decide +kernel
theorem dX8_stack_64 : decode cX8_stack 64 = .ok (.iload_n 3, 1) := by decide +kernel
theorem dX8_stack_65 : decode cX8_stack 65 = .ok (.iconst (-1), 1) := by decide +kernel
theorem dX8_stack_66 : decode cX8_stack 66 = .ok (.if_icmp .ne 6, 3) := by decide +kernel
theorem dX8_stack_69 : decode cX8_stack 69 = .ok (.bipush (-3), 2) := by decide +kernel
theorem dX8_stack_71 : decode cX8_stack 71 = .ok (.ireturn, 1) := by decide +kernel
theorem dX8_stack_72 : decode cX8_stack 72 = .ok (.aload_n 0, 1) := by decide +kernel
theorem dX8_stack_73 : decode cX8_stack 73 = .ok (.getfield 28, 3) := by decide +kernel
theorem dX8_stack_76 : decode cX8_stack 76 = .ok (.iload_n 3, 1) := by decide +kernel
theorem dX8_stack_77 : decode cX8_stack 77 = .ok (.iload_n 1, 1) := by decide +kernel
theorem dX8_stack_78 : decode cX8_stack 78 = .ok (.iload_n 2, 1) := by decide +kernel
theorem dX8_stack_79 : decode cX8_stack 79 = .ok (.invokevirtual 186, 3) := by decide +kernel
theorem dX8_stack_82 : decode cX8_stack 82 = .ok (.aload_n 0, 1) := by decide +kernel
theorem dX8_stack_83 : decode cX8_stack 83 = .ok (.invokevirtual 84, 3) := by decide +kernel
theorem dX8_stack_86 : decode cX8_stack 86 = .ok (.iload_n 3, 1) := by decide +kernel
theorem dX8_stack_87 : decode cX8_stack 87 = .ok (.ireturn, 1) := by decide +kernel
set_option maxRecDepth 20000 in
theorem ggX8_putInto_X6_has : GoodIn wsX8_putInto wsX6_has := goodIn_r _ [7, 8, 9, 10, 11, 269, 270, 271, 272, 273, 274, 275, 276] (by decide +kernel) (by decide +kernel)
set_option maxRecDepth 20000 in
theorem gX8_putInto_X6_has : GoodIn wsX8_putInto (wsV RX8 189 RX6 yX6_has wsX6_has) := goodIn_app (goodIn_of _ (by decide +kernel)) ggX8_putInto_X6_has
set_option maxRecDepth 20000 in
theorem ggX8_putInto_X1_has : GoodIn wsX8_putInto wsX1_has := goodIn_r _ [16, 17, 9, 10, 11, 18, 19, 277, 278, 279, 280, 281, 282] (by decide +kernel) (by decide +kernel)
set_option maxRecDepth 20000 in
theorem gX8_putInto_X1_has : GoodIn wsX8_putInto (wsV RX8 87 RX1 yX1_has wsX1_has) := goodIn_app (goodIn_of _ (by decide +kernel)) ggX8_putInto_X1_has
set_option maxRecDepth 20000 in
theorem ggX8_putInto_X6_height : GoodIn wsX8_putInto wsX6_height := goodIn_r _ [23, 8, 269, 270, 271, 272, 273, 274, 275, 276] (by decide +kernel) (by decide +kernel)
set_option maxRecDepth 20000 in
theorem gX8_putInto_X6_height : GoodIn wsX8_putInto (wsV RX8 190 RX6 yX6_height wsX6_height) := goodIn_app (goodIn_of _ (by decide +kernel)) ggX8_putInto_X6_height
set_option maxRecDepth 20000 in
theorem ggX8_putInto_X8_isWithin : GoodIn wsX8_putInto wsX8_isWithin := goodIn_r _ [11] (by decide +kernel) (by decide +kernel)
set_option maxRecDepth 20000 in
theorem gX8_putInto_X8_isWithin : GoodIn wsX8_putInto (va_wsS RX8 71 yX8_isWithin wsX8_isWithin) := goodIn_app (goodIn_of _ (by decide +kernel)) ggX8_putInto_X8_isWithin
set_option maxRecDepth 20000 in
theorem ggX8_putInto_X6_home : GoodIn wsX8_putInto wsX6_home := goodIn_r _ [28, 29, 269, 270, 271, 272, 273, 274, 275, 276] (by decide +kernel) (by decide +kernel)
set_option maxRecDepth 20000 in
theorem gX8_putInto_X6_home : GoodIn wsX8_putInto (wsV RX8 182 RX6 yX6_home wsX6_home) := goodIn_app (goodIn_of _ (by decide +kernel)) ggX8_putInto_X6_home
set_option maxRecDepth 20000 in
theorem ggX8_putInto_X6_insert : GoodIn wsX8_putInto wsX6_insert := goodIn_r _ [33, 8, 34, 29, 35, 36, 37, 6, 38, 39, 10, 40, 269, 270, 271, 272, 273, 274, 275, 276] (by decide +kernel) (by decide +kernel)
set_option maxRecDepth 20000 in
theorem gX8_putInto_X6_insert : GoodIn wsX8_putInto (wsV RX8 193 RX6 yX6_insert wsX6_insert) := goodIn_app (goodIn_of _ (by decide +kernel)) ggX8_putInto_X6_insert
set_option maxRecDepth 20000 in
theorem ggX8_putInto_X8_settle : GoodIn wsX8_putInto wsX8_settle := goodIn_r _ [44, 2, 45, 1, 46, 47, 48, 49, 50, 51, 15, 52, 17, 18, 10, 19, 53, 54, 55, 56, 57, 58, 59, 60, 61, 62, 63, 64, 65, 66, 67, 68, 69, 70, 71, 72, 73, 74, 75, 76, 77, 78, 79, 80, 81, 82, 83, 84, 85, 86, 87, 88, 89, 90, 91, 92, 39, 40, 93, 94, 95, 96, 97, 98, 99, 100, 101, 102, 103, 104, 105, 106, 107, 108, 109, 110, 111, 112, 113, 114, 115, 116, 117, 118, 6, 119, 120, 121, 4, 5, 7, 8, 9, 11, 122, 123, 124, 125, 126, 34, 127, 36, 37, 38, 128, 129, 130, 131, 132, 24, 133, 134, 135, 136, 137, 138, 139, 140, 141, 142, 143, 144, 145, 146, 147, 148, 149, 150, 151, 152, 153, 154, 155, 156, 157, 158, 159, 160, 161, 162, 163, 164, 165, 166, 167, 168, 169, 170, 171, 172, 173, 174, 175, 176, 177, 178, 179, 180, 181, 182, 183, 184, 185, 186, 187, 188, 189, 190, 191, 192, 193, 194, 195, 196, 197, 198, 199, 200, 201, 202, 35, 203, 204, 205, 206, 207, 208, 209, 210, 211, 212, 213, 214, 215, 216, 217, 218, 219, 220, 221, 222, 223, 224, 225, 226, 227, 228, 229, 230, 231, 232, 233, 234, 235, 236, 237, 238, 239, 240, 241, 242, 243, 244, 245, 246, 247, 248, 249, 250, 251, 252, 253, 254, 255, 256, 257, 258, 259, 260, 261, 262, 263, 264, 265, 266, 267, 268, 277, 278, 279, 280, 281, 282, 283, 284, 285, 269, 270, 271, 272, 273, 274, 275, 276, 286, 287, 288, 289, 290, 291, 292, 293, 294, 295, 296, 297, 298, 299, 300, 301, 302, 303, 304, 305, 306, 307] (by decide +kernel) (by decide +kernel)
set_option maxRecDepth 20000 in
theorem gX8_putInto_X8_settle : GoodIn wsX8_putInto (wsV RX8 84 RX8 yX8_settle wsX8_settle) := goodIn_app (goodIn_of _ (by decide +kernel)) ggX8_putInto_X8_settle
theorem dX8_putInto_0 : decode cX8_putInto 0 = .ok (.aload_n 0, 1) := by decide +kernel
theorem dX8_putInto_1 : decode cX8_putInto 1 = .ok (.getfield 28, 3) := by decide +kernel
theorem dX8_putInto_4 : decode cX8_putInto 4 = .ok (.iload_n 1, 1) := by decide +kernel
theorem dX8_putInto_5 : decode cX8_putInto 5 = .ok (.invokevirtual 189, 3) := by decide +kernel
theorem dX8_putInto_8 : decode cX8_putInto 8 = .ok (.ifCond .eq 30, 3) := by decide +kernel
theorem dX8_putInto_11 : decode cX8_putInto 11 = .ok (.aload_n 0, 1) := by decide +kernel
theorem dX8_putInto_12 : decode cX8_putInto 12 = .ok (.getfield 10, 3) := by decide +kernel
theorem dX8_putInto_15 : decode cX8_putInto 15 = .ok (.iload_n 2, 1) := by decide +kernel
theorem dX8_putInto_16 : decode cX8_putInto 16 = .ok (.invokevirtual 87, 3) := by decide +kernel
theorem dX8_putInto_19 : decode cX8_putInto 19 = .ok (.ifCond .eq 19, 3) := by decide +kernel
theorem dX8_putInto_22 : decode cX8_putInto 22 = .ok (.iload_n 3, 1) := by decide +kernel
theorem dX8_putInto_23 : decode cX8_putInto 23 = .ok (.iconst 0, 1) := by decide +kernel
theorem dX8_putInto_24 : decode cX8_putInto 24 = .ok (.aload_n 0, 1) := by decide +kernel
theorem dX8_putInto_25 : decode cX8_putInto 25 = .ok (.getfield 28, 3) := by decide +kernel
theorem dX8_putInto_28 : decode cX8_putInto 28 = .ok (.iload_n 1, 1) := by decide +kernel
theorem dX8_putInto_29 : decode cX8_putInto 29 = .ok (.invokevirtual 190, 3) := by decide +kernel
theorem dX8_putInto_32 : decode cX8_putInto 32 = .ok (.invokestatic 71, 3) := by decide +kernel
theorem dX8_putInto_35 : decode cX8_putInto 35 = .ok (.ifCond .ne 5, 3) := by decide +kernel
theorem dX8_putInto_38 : decode cX8_putInto 38 = .ok (.iconst (-1), 1) := by decide +kernel
theorem dX8_putInto_39 : decode cX8_putInto 39 = .ok (.ireturn, 1) := by decide +kernel
theorem dX8_putInto_40 : decode cX8_putInto 40 = .ok (.aload_n 0, 1) := by decide +kernel
theorem dX8_putInto_41 : decode cX8_putInto 41 = .ok (.getfield 28, 3) := by decide +kernel
theorem dX8_putInto_44 : decode cX8_putInto 44 = .ok (.iload_n 2, 1) := by decide +kernel
theorem dX8_putInto_45 : decode cX8_putInto 45 = .ok (.invokevirtual 182, 3) := by decide +kernel
theorem dX8_putInto_48 : decode cX8_putInto 48 = .ok (.iconst (-1), 1) := by decide +kernel
theorem dX8_putInto_49 : decode cX8_putInto 49 = .ok (.if_icmp .eq 6, 3) := by decide +kernel
theorem dX8_putInto_52 : decode cX8_putInto 52 = .ok (.bipush (-2), 2) := by decide +kernel
theorem dX8_putInto_54 : decode cX8_putInto 54 = .ok (.ireturn, 1) := by decide +kernel
theorem dX8_putInto_55 : decode cX8_putInto 55 = .ok (.aload_n 0, 1) := by decide +kernel
theorem dX8_putInto_56 : decode cX8_putInto 56 = .ok (.getfield 28, 3) := by decide +kernel
theorem dX8_putInto_59 : decode cX8_putInto 59 = .ok (.iload_n 1, 1) := by decide +kernel
theorem dX8_putInto_60 : decode cX8_putInto 60 = .ok (.invokevirtual 190, 3) := by decide +kernel
theorem dX8_putInto_63 : decode cX8_putInto 63 = .ok (.bipush 8, 2) := by decide +kernel
theorem dX8_putInto_65 : decode cX8_putInto 65 = .ok (.if_icmp .ne 6, 3) := by decide +kernel
theorem dX8_putInto_68 : decode cX8_putInto 68 = .ok (.bipush (-3), 2) := by decide +kernel
theorem dX8_putInto_70 : decode cX8_putInto 70 = .ok (.ireturn, 1) := by decide +kernel
theorem dX8_putInto_71 : decode cX8_putInto 71 = .ok (.aload_n 0, 1) := by decide +kernel
theorem dX8_putInto_72 : decode cX8_putInto 72 = .ok (.getfield 28, 3) := by decide +kernel
theorem dX8_putInto_75 : decode cX8_putInto 75 = .ok (.iload_n 1, 1) := by decide +kernel
theorem dX8_putInto_76 : decode cX8_putInto 76 = .ok (.iload_n 2, 1) := by decide +kernel
theorem dX8_putInto_77 : decode cX8_putInto 77 = .ok (.iload_n 3, 1) := by decide +kernel
theorem dX8_putInto_78 : decode cX8_putInto 78 = .ok (.invokevirtual 193, 3) := by decide +kernel
theorem dX8_putInto_81 : decode cX8_putInto 81 = .ok (.aload_n 0, 1) := by decide +kernel
theorem dX8_putInto_82 : decode cX8_putInto 82 = .ok (.invokevirtual 84, 3) := by decide +kernel
theorem dX8_putInto_85 : decode cX8_putInto 85 = .ok (.aload_n 0, 1) := by decide +kernel
theorem dX8_putInto_86 : decode cX8_putInto 86 = .ok (.getfield 28, 3) := by decide +kernel
theorem dX8_putInto_89 : decode cX8_putInto 89 = .ok (.iload_n 1, 1) := by decide +kernel
theorem dX8_putInto_90 : decode cX8_putInto 90 = .ok (.invokevirtual 190, 3) := by decide +kernel
theorem dX8_putInto_93 : decode cX8_putInto 93 = .ok (.ireturn, 1) := by decide +kernel
set_option maxRecDepth 20000 in
theorem ggX8_takeOut_X1_has : GoodIn wsX8_takeOut wsX1_has := goodIn_r _ [7, 8, 9, 10, 11, 12, 13, 277, 278, 279, 280, 281, 282] (by decide +kernel) (by decide +kernel)
set_option maxRecDepth 20000 in
theorem gX8_takeOut_X1_has : GoodIn wsX8_takeOut (wsV RX8 87 RX1 yX1_has wsX1_has) := goodIn_app (goodIn_of _ (by decide +kernel)) ggX8_takeOut_X1_has
set_option maxRecDepth 20000 in
theorem ggX8_takeOut_X6_home : GoodIn wsX8_takeOut wsX6_home := goodIn_r _ [18, 19, 283, 284, 285, 286, 287, 288, 289, 290] (by decide +kernel) (by decide +kernel)
set_option maxRecDepth 20000 in
theorem gX8_takeOut_X6_home : GoodIn wsX8_takeOut (wsV RX8 182 RX6 yX6_home wsX6_home) := goodIn_app (goodIn_of _ (by decide +kernel)) ggX8_takeOut_X6_home
set_option maxRecDepth 20000 in
theorem ggX8_takeOut_X6_release : GoodIn wsX8_takeOut wsX6_release := goodIn_r _ [23, 19, 24, 25, 26, 27, 28, 29, 17, 30, 31, 32, 33, 34, 35, 36, 37, 38, 39, 40, 10, 41, 283, 284, 285, 286, 287, 288, 289, 290] (by decide +kernel) (by decide +kernel)
set_option maxRecDepth 20000 in
theorem gX8_takeOut_X6_release : GoodIn wsX8_takeOut (wsV RX8 196 RX6 yX6_release wsX6_release) := goodIn_app (goodIn_of _ (by decide +kernel)) ggX8_takeOut_X6_release
set_option maxRecDepth 20000 in
theorem ggX8_takeOut_X8_settle : GoodIn wsX8_takeOut wsX8_settle := goodIn_r _ [45, 1, 46, 2, 47, 48, 49, 50, 51, 52, 6, 53, 8, 12, 10, 13, 54, 55, 56, 57, 58, 59, 60, 61, 62, 63, 64, 65, 66, 67, 68, 69, 70, 71, 72, 73, 74, 75, 76, 77, 78, 79, 80, 81, 82, 83, 84, 85, 86, 87, 88, 89, 90, 91, 92, 93, 40, 41, 94, 95, 96, 97, 98, 99, 100, 101, 102, 103, 104, 105, 106, 107, 108, 109, 110, 111, 112, 113, 114, 115, 116, 117, 118, 119, 17, 120, 121, 122, 123, 124, 125, 25, 9, 11, 126, 127, 128, 129, 24, 26, 130, 31, 32, 33, 131, 132, 133, 134, 135, 136, 137, 138, 139, 140, 141, 142, 143, 144, 145, 146, 147, 148, 149, 150, 151, 152, 153, 154, 155, 156, 157, 158, 159, 160, 161, 162, 163, 164, 165, 166, 167, 168, 169, 170, 171, 172, 173, 174, 175, 176, 177, 178, 179, 180, 181, 182, 183, 184, 185, 186, 187, 188, 189, 190, 191, 192, 193, 194, 195, 196, 197, 198, 199, 200, 201, 202, 203, 204, 205, 206, 38, 207, 208, 209, 210, 211, 212, 213, 214, 215, 216, 217, 218, 219, 220, 221, 222, 223, 224, 225, 226, 227, 228, 229, 230, 231, 232, 233, 234, 235, 236, 237, 238, 239, 240, 241, 242, 243, 244, 245, 246, 247, 248, 249, 250, 251, 252, 253, 254, 255, 256, 257, 258, 259, 260, 261, 262, 263, 264, 269, 270, 271, 272, 273, 274, 275, 276, 277, 278, 279, 280, 281, 282, 291, 292, 293, 283, 284, 285, 286, 287, 288, 289, 290, 294, 295, 296, 297, 298, 299, 300, 301, 302, 303, 304, 305, 306, 307, 308, 309, 310, 311, 312, 313, 314, 315] (by decide +kernel) (by decide +kernel)
set_option maxRecDepth 20000 in
theorem gX8_takeOut_X8_settle : GoodIn wsX8_takeOut (wsV RX8 84 RX8 yX8_settle wsX8_settle) := goodIn_app (goodIn_of _ (by decide +kernel)) ggX8_takeOut_X8_settle
set_option maxRecDepth 20000 in
theorem ggX8_takeOut_X6_height : GoodIn wsX8_takeOut wsX6_height := goodIn_r _ [268, 25, 283, 284, 285, 286, 287, 288, 289, 290] (by decide +kernel) (by decide +kernel)
set_option maxRecDepth 20000 in
theorem gX8_takeOut_X6_height : GoodIn wsX8_takeOut (wsV RX8 190 RX6 yX6_height wsX6_height) := goodIn_app (goodIn_of _ (by decide +kernel)) ggX8_takeOut_X6_height
theorem dX8_takeOut_0 : decode cX8_takeOut 0 = .ok (.aload_n 0, 1) := by decide +kernel
theorem dX8_takeOut_1 : decode cX8_takeOut 1 = .ok (.getfield 10, 3) := by decide +kernel
theorem dX8_takeOut_4 : decode cX8_takeOut 4 = .ok (.iload_n 1, 1) := by decide +kernel
theorem dX8_takeOut_5 : decode cX8_takeOut 5 = .ok (.invokevirtual 87, 3) := by decide +kernel
theorem dX8_takeOut_8 : decode cX8_takeOut 8 = .ok (.ifCond .ne 5, 3) := by decide +kernel
theorem dX8_takeOut_11 : decode cX8_takeOut 11 = .ok (.iconst (-1), 1) := by decide +kernel
theorem dX8_takeOut_12 : decode cX8_takeOut 12 = .ok (.ireturn, 1) := by decide +kernel
theorem dX8_takeOut_13 : decode cX8_takeOut 13 = .ok (.aload_n 0, 1) := by decide +kernel
theorem dX8_takeOut_14 : decode cX8_takeOut 14 = .ok (.getfield 28, 3) := by decide +kernel
theorem dX8_takeOut_17 : decode cX8_takeOut 17 = .ok (.iload_n 1, 1) := by decide +kernel
theorem dX8_takeOut_18 : decode cX8_takeOut 18 = .ok (.invokevirtual 182, 3) := by decide +kernel
theorem dX8_takeOut_21 : decode cX8_takeOut 21 = .ok (.istore_n 2, 1) := by decide +kernel
theorem dX8_takeOut_22 : decode cX8_takeOut 22 = .ok (.iload_n 2, 1) := by decide +kernel
theorem dX8_takeOut_23 : decode cX8_takeOut 23 = .ok (.iconst (-1), 1) := by decide +kernel
theorem dX8_takeOut_24 : decode cX8_takeOut 24 = .ok (.if_icmp .ne 6, 3) := by decide +kernel
theorem dX8_takeOut_27 : decode cX8_takeOut 27 = .ok (.bipush (-2), 2) := by decide +kernel
theorem dX8_takeOut_29 : decode cX8_takeOut 29 = .ok (.ireturn, 1) := by decide +kernel
theorem dX8_takeOut_30 : decode cX8_takeOut 30 = .ok (.aload_n 0, 1) := by decide +kernel
theorem dX8_takeOut_31 : decode cX8_takeOut 31 = .ok (.getfield 28, 3) := by decide +kernel
theorem dX8_takeOut_34 : decode cX8_takeOut 34 = .ok (.iload_n 1, 1) := by decide +kernel
theorem dX8_takeOut_35 : decode cX8_takeOut 35 = .ok (.invokevirtual 196, 3) := by decide +kernel
theorem dX8_takeOut_38 : decode cX8_takeOut 38 = .ok (.aload_n 0, 1) := by decide +kernel
theorem dX8_takeOut_39 : decode cX8_takeOut 39 = .ok (.invokevirtual 84, 3) := by decide +kernel
theorem dX8_takeOut_42 : decode cX8_takeOut 42 = .ok (.aload_n 0, 1) := by decide +kernel
theorem dX8_takeOut_43 : decode cX8_takeOut 43 = .ok (.getfield 28, 3) := by decide +kernel
theorem dX8_takeOut_46 : decode cX8_takeOut 46 = .ok (.iload_n 2, 1) := by decide +kernel
theorem dX8_takeOut_47 : decode cX8_takeOut 47 = .ok (.invokevirtual 190, 3) := by decide +kernel
theorem dX8_takeOut_50 : decode cX8_takeOut 50 = .ok (.ireturn, 1) := by decide +kernel
set_option maxRecDepth 20000 in
theorem ggX8_chooseCover_X6_has : GoodIn wsX8_chooseCover wsX6_has := goodIn_r _ [7, 8, 9, 10, 11, 266, 267, 268, 269, 270, 271, 272, 273] (by decide +kernel) (by decide +kernel)
set_option maxRecDepth 20000 in
theorem gX8_chooseCover_X6_has : GoodIn wsX8_chooseCover (wsV RX8 189 RX6 yX6_has wsX6_has) := goodIn_app (goodIn_of _ (by decide +kernel)) ggX8_chooseCover_X6_has
set_option maxRecDepth 20000 in
theorem ggX8_chooseCover_X1_has : GoodIn wsX8_chooseCover wsX1_has := goodIn_r _ [16, 17, 9, 10, 11, 18, 19, 274, 275, 276, 277, 278, 279] (by decide +kernel) (by decide +kernel)
set_option maxRecDepth 20000 in
theorem gX8_chooseCover_X1_has : GoodIn wsX8_chooseCover (wsV RX8 87 RX1 yX1_has wsX1_has) := goodIn_app (goodIn_of _ (by decide +kernel)) ggX8_chooseCover_X1_has
set_option maxRecDepth 20000 in
theorem ggX8_chooseCover_X6_home : GoodIn wsX8_chooseCover wsX6_home := goodIn_r _ [23, 24, 266, 267, 268, 269, 270, 271, 272, 273] (by decide +kernel) (by decide +kernel)
set_option maxRecDepth 20000 in
theorem gX8_chooseCover_X6_home : GoodIn wsX8_chooseCover (wsV RX8 182 RX6 yX6_home wsX6_home) := goodIn_app (goodIn_of _ (by decide +kernel)) ggX8_chooseCover_X6_home
set_option maxRecDepth 20000 in
theorem ggX8_chooseCover_X6_choose : GoodIn wsX8_chooseCover wsX6_choose := goodIn_r _ [28, 29, 266, 267, 268, 269, 270, 271, 272, 273] (by decide +kernel) (by decide +kernel)
set_option maxRecDepth 20000 in
theorem gX8_chooseCover_X6_choose : GoodIn wsX8_chooseCover (wsV RX8 199 RX6 yX6_choose wsX6_choose) := goodIn_app (goodIn_of _ (by decide +kernel)) ggX8_chooseCover_X6_choose
set_option maxRecDepth 20000 in
theorem ggX8_chooseCover_X8_settle : GoodIn wsX8_chooseCover wsX8_settle := goodIn_r _ [33, 2, 34, 1, 35, 36, 37, 38, 39, 40, 15, 41, 17, 18, 10, 19, 42, 43, 44, 45, 46, 47, 48, 49, 50, 51, 52, 53, 54, 55, 56, 57, 58, 59, 60, 61, 62, 63, 64, 65, 66, 67, 68, 69, 70, 71, 72, 73, 74, 75, 76, 77, 78, 79, 80, 81, 82, 83, 84, 85, 86, 87, 88, 89, 90, 91, 92, 93, 94, 95, 96, 97, 98, 99, 100, 101, 102, 103, 104, 105, 106, 107, 108, 109, 6, 110, 111, 112, 4, 5, 7, 8, 9, 11, 113, 114, 115, 116, 29, 117, 118, 119, 120, 121, 122, 123, 124, 125, 126, 127, 128, 129, 130, 131, 132, 133, 134, 135, 136, 137, 138, 139, 140, 141, 142, 143, 144, 145, 146, 147, 148, 149, 150, 151, 152, 153, 154, 155, 156, 157, 158, 159, 160, 161, 162, 163, 164, 165, 166, 167, 168, 169, 170, 171, 172, 173, 174, 175, 176, 177, 178, 179, 180, 181, 182, 183, 184, 185, 186, 187, 188, 189, 190, 191, 192, 193, 194, 195, 196, 197, 198, 199, 200, 201, 202, 203, 204, 205, 206, 207, 208, 209, 210, 211, 212, 213, 214, 215, 216, 217, 218, 219, 220, 221, 222, 223, 224, 225, 226, 227, 228, 229, 230, 231, 232, 233, 234, 235, 236, 237, 238, 239, 240, 241, 242, 243, 244, 245, 246, 247, 248, 249, 250, 251, 252, 253, 254, 255, 256, 258, 259, 260, 261, 262, 263, 264, 265, 274, 275, 276, 277, 278, 279, 280, 281, 282, 266, 267, 268, 269, 270, 271, 272, 273, 283, 284, 285, 286, 287, 288, 289, 290, 291, 292, 293, 294, 295, 296, 297, 298, 299, 300, 301, 302, 303, 304] (by decide +kernel) (by decide +kernel)
set_option maxRecDepth 20000 in
theorem gX8_chooseCover_X8_settle : GoodIn wsX8_chooseCover (wsV RX8 84 RX8 yX8_settle wsX8_settle) := goodIn_app (goodIn_of _ (by decide +kernel)) ggX8_chooseCover_X8_settle
set_option maxRecDepth 20000 in
theorem ggX8_chooseCover_X6_cover : GoodIn wsX8_chooseCover wsX6_cover := goodIn_r _ [116, 29, 117, 8, 118, 119, 120, 6, 121, 122, 93, 94, 15, 95, 46, 266, 267, 268, 269, 270, 271, 272, 273, 274, 275, 276, 277, 278, 279] (by decide +kernel) (by decide +kernel)
set_option maxRecDepth 20000 in
theorem gX8_chooseCover_X6_cover : GoodIn wsX8_chooseCover (wsV RX8 202 RX6 yX6_cover wsX6_cover) := goodIn_app (goodIn_of _ (by decide +kernel)) ggX8_chooseCover_X6_cover
theorem dX8_chooseCover_0 : decode cX8_chooseCover 0 = .ok (.aload_n 0, 1) := by decide +kernel
theorem dX8_chooseCover_1 : decode cX8_chooseCover 1 = .ok (.getfield 28, 3) := by decide +kernel
theorem dX8_chooseCover_4 : decode cX8_chooseCover 4 = .ok (.iload_n 1, 1) := by decide +kernel
theorem dX8_chooseCover_5 : decode cX8_chooseCover 5 = .ok (.invokevirtual 189, 3) := by decide +kernel
theorem dX8_chooseCover_8 : decode cX8_chooseCover 8 = .ok (.ifCond .eq 19, 3) := by decide +kernel
theorem dX8_chooseCover_11 : decode cX8_chooseCover 11 = .ok (.iload_n 2, 1) := by decide +kernel
theorem dX8_chooseCover_12 : decode cX8_chooseCover 12 = .ok (.iconst (-1), 1) := by decide +kernel
theorem dX8_chooseCover_13 : decode cX8_chooseCover 13 = .ok (.if_icmp .eq 16, 3) := by decide +kernel
theorem dX8_chooseCover_16 : decode cX8_chooseCover 16 = .ok (.aload_n 0, 1) := by decide +kernel
theorem dX8_chooseCover_17 : decode cX8_chooseCover 17 = .ok (.getfield 10, 3) := by decide +kernel
theorem dX8_chooseCover_20 : decode cX8_chooseCover 20 = .ok (.iload_n 2, 1) := by decide +kernel
theorem dX8_chooseCover_21 : decode cX8_chooseCover 21 = .ok (.invokevirtual 87, 3) := by decide +kernel
theorem dX8_chooseCover_24 : decode cX8_chooseCover 24 = .ok (.ifCond .ne 5, 3) := by decide +kernel
theorem dX8_chooseCover_27 : decode cX8_chooseCover 27 = .ok (.iconst (-1), 1) := by decide +kernel
theorem dX8_chooseCover_28 : decode cX8_chooseCover 28 = .ok (.ireturn, 1) := by decide +kernel
theorem dX8_chooseCover_29 : decode cX8_chooseCover 29 = .ok (.iload_n 2, 1) := by decide +kernel
theorem dX8_chooseCover_30 : decode cX8_chooseCover 30 = .ok (.iconst (-1), 1) := by decide +kernel
theorem dX8_chooseCover_31 : decode cX8_chooseCover 31 = .ok (.if_icmp .eq 18, 3) := by decide +kernel
theorem dX8_chooseCover_34 : decode cX8_chooseCover 34 = .ok (.aload_n 0, 1) := by decide +kernel
theorem dX8_chooseCover_35 : decode cX8_chooseCover 35 = .ok (.getfield 28, 3) := by decide +kernel
theorem dX8_chooseCover_38 : decode cX8_chooseCover 38 = .ok (.iload_n 2, 1) := by decide +kernel
theorem dX8_chooseCover_39 : decode cX8_chooseCover 39 = .ok (.invokevirtual 182, 3) := by decide +kernel
