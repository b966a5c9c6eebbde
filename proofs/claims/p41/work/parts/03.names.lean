theorem inJ13 : ∀ w ∈ wsJ130, w ∈ lw_tbl := by decide +kernel
theorem inJ9 : ∀ w ∈ wsJ90, w ∈ lw_tbl := by decide +kernel
theorem inJ10 : ∀ w ∈ wsJ100, w ∈ lw_tbl := by decide +kernel
theorem inJ7 : ∀ w ∈ wsJ70, w ∈ lw_tbl := by decide +kernel
set_option maxRecDepth 20000 in
theorem ggX0_init_X5_init : GoodIn wsX0_init wsX5_init := goodIn_r _ [10, 11, 2, 3, 12, 13, 14, 15] (by decide +kernel) (by decide +kernel)
set_option maxRecDepth 20000 in
theorem gX0_init_X5_init : GoodIn wsX0_init (wsX5_init) := ggX0_init_X5_init
theorem dX0_init_0 : decode cX0_init 0 = .ok (.aload_n 0, 1) := by decide +kernel
theorem dX0_init_1 : decode cX0_init 1 = .ok (.invokespecial 3, 3) := by decide +kernel
theorem dX0_init_4 : decode cX0_init 4 = .ok (.aload_n 0, 1) := by decide +kernel
theorem dX0_init_5 : decode cX0_init 5 = .ok (.new 9, 3) := by decide +kernel
theorem dX0_init_8 : decode cX0_init 8 = .ok (.dup, 1) := by decide +kernel
theorem dX0_init_9 : decode cX0_init 9 = .ok (.invokespecial 11, 3) := by decide +kernel
theorem dX0_init_12 : decode cX0_init 12 = .ok (.putfield 12, 3) := by decide +kernel
theorem dX0_init_15 : decode cX0_init 15 = .ok (.return_, 1) := by decide +kernel
theorem dX0_exists_0 : decode cX0_exists 0 = .ok (.aload_n 0, 1) := by decide +kernel
theorem dX0_exists_1 : decode cX0_exists 1 = .ok (.getfield 18, 3) := by decide +kernel
theorem dX0_exists_4 : decode cX0_exists 4 = .ok (.ireturn, 1) := by decide +kernel
theorem dX0_rule_0 : decode cX0_rule 0 = .ok (.aload_n 0, 1) := by decide +kernel
theorem dX0_rule_1 : decode cX0_rule 1 = .ok (.getfield 12, 3) := by decide +kernel
theorem dX0_rule_4 : decode cX0_rule 4 = .ok (.areturn, 1) := by decide +kernel
theorem dX0_members_0 : decode cX0_members 0 = .ok (.aload_n 0, 1) := by decide +kernel
theorem dX0_members_1 : decode cX0_members 1 = .ok (.getfield 22, 3) := by decide +kernel
theorem dX0_members_4 : decode cX0_members 4 = .ok (.lreturn, 1) := by decide +kernel
theorem dX0_joined_0 : decode cX0_joined 0 = .ok (.aload_n 0, 1) := by decide +kernel
theorem dX0_joined_1 : decode cX0_joined 1 = .ok (.getfield 26, 3) := by decide +kernel
theorem dX0_joined_4 : decode cX0_joined 4 = .ok (.ireturn, 1) := by decide +kernel
theorem dX0_left_0 : decode cX0_left 0 = .ok (.aload_n 0, 1) := by decide +kernel
theorem dX0_left_1 : decode cX0_left 1 = .ok (.getfield 30, 3) := by decide +kernel
theorem dX0_left_4 : decode cX0_left 4 = .ok (.ireturn, 1) := by decide +kernel
theorem dX0_sortField_0 : decode cX0_sortField 0 = .ok (.aload_n 0, 1) := by decide +kernel
theorem dX0_sortField_1 : decode cX0_sortField 1 = .ok (.getfield 33, 3) := by decide +kernel
theorem dX0_sortField_4 : decode cX0_sortField 4 = .ok (.ireturn, 1) := by decide +kernel
theorem dX0_isDescending_0 : decode cX0_isDescending 0 = .ok (.aload_n 0, 1) := by decide +kernel
theorem dX0_isDescending_1 : decode cX0_isDescending 1 = .ok (.getfield 36, 3) := by decide +kernel
theorem dX0_isDescending_4 : decode cX0_isDescending 4 = .ok (.ireturn, 1) := by decide +kernel
set_option maxRecDepth 20000 in
theorem ggX0_begin_X0_sort : GoodIn wsX0_begin wsX0_sort := goodIn_r _ [9, 10, 11, 28, 29, 30, 31, 32, 33, 34] (by decide +kernel) (by decide +kernel)
set_option maxRecDepth 20000 in
theorem gX0_begin_X0_sort : GoodIn wsX0_begin (wsV RX0 43 RX0 yX0_sort wsX0_sort) := goodIn_app (goodIn_of _ (by decide +kernel)) ggX0_begin_X0_sort
set_option maxRecDepth 20000 in
theorem ggX0_begin_X0_follow : GoodIn wsX0_begin wsX0_follow := goodIn_r _ [15, 16, 17, 18, 19, 20, 21, 22, 23, 24, 25, 26, 27, 28, 29, 30, 31, 32, 33, 34, 35, 36] (by decide +kernel) (by decide +kernel)
set_option maxRecDepth 20000 in
theorem gX0_begin_X0_follow : GoodIn wsX0_begin (wsV RX0 47 RX0 yX0_follow wsX0_follow) := goodIn_app (goodIn_of _ (by decide +kernel)) ggX0_begin_X0_follow
theorem dX0_begin_0 : decode cX0_begin 0 = .ok (.aload_n 0, 1) := by decide +kernel
theorem dX0_begin_1 : decode cX0_begin 1 = .ok (.iconst 1, 1) := by decide +kernel
theorem dX0_begin_2 : decode cX0_begin 2 = .ok (.putfield 18, 3) := by decide +kernel
theorem dX0_begin_5 : decode cX0_begin 5 = .ok (.aload_n 0, 1) := by decide +kernel
theorem dX0_begin_6 : decode cX0_begin 6 = .ok (.lconst 0, 1) := by decide +kernel
theorem dX0_begin_7 : decode cX0_begin 7 = .ok (.putfield 22, 3) := by decide +kernel
theorem dX0_begin_10 : decode cX0_begin 10 = .ok (.aload_n 0, 1) := by decide +kernel
theorem dX0_begin_11 : decode cX0_begin 11 = .ok (.iconst 0, 1) := by decide +kernel
theorem dX0_begin_12 : decode cX0_begin 12 = .ok (.putfield 26, 3) := by decide +kernel
theorem dX0_begin_15 : decode cX0_begin 15 = .ok (.aload_n 0, 1) := by decide +kernel
theorem dX0_begin_16 : decode cX0_begin 16 = .ok (.iconst 0, 1) := by decide +kernel
theorem dX0_begin_17 : decode cX0_begin 17 = .ok (.putfield 30, 3) := by decide +kernel
theorem dX0_begin_20 : decode cX0_begin 20 = .ok (.aload_n 0, 1) := by decide +kernel
theorem dX0_begin_21 : decode cX0_begin 21 = .ok (.iconst 1, 1) := by decide +kernel
theorem dX0_begin_22 : decode cX0_begin 22 = .ok (.iconst 1, 1) := by decide +kernel
theorem dX0_begin_23 : decode cX0_begin 23 = .ok (.invokevirtual 43, 3) := by decide +kernel
theorem dX0_begin_26 : decode cX0_begin 26 = .ok (.aload_n 0, 1) := by decide +kernel
theorem dX0_begin_27 : decode cX0_begin 27 = .ok (.aload_n 1, 1) := by decide +kernel
theorem dX0_begin_28 : decode cX0_begin 28 = .ok (.invokevirtual 47, 3) := by decide +kernel
theorem dX0_begin_31 : decode cX0_begin 31 = .ok (.return_, 1) := by decide +kernel
set_option maxRecDepth 20000 in
theorem ggX0_follow_X5_copy : GoodIn wsX0_follow wsX5_copy := goodIn_r _ [6, 7, 8, 9, 10, 11, 12, 20, 21] (by decide +kernel) (by decide +kernel)
set_option maxRecDepth 20000 in
theorem gX0_follow_X5_copy : GoodIn wsX0_follow (wsV RX0 51 RX5 yX5_copy wsX5_copy) := goodIn_app (goodIn_of _ (by decide +kernel)) ggX0_follow_X5_copy
theorem dX0_follow_0 : decode cX0_follow 0 = .ok (.aload_n 0, 1) := by decide +kernel
theorem dX0_follow_1 : decode cX0_follow 1 = .ok (.getfield 12, 3) := by decide +kernel
theorem dX0_follow_4 : decode cX0_follow 4 = .ok (.aload_n 1, 1) := by decide +kernel
theorem dX0_follow_5 : decode cX0_follow 5 = .ok (.invokevirtual 51, 3) := by decide +kernel
theorem dX0_follow_8 : decode cX0_follow 8 = .ok (.return_, 1) := by decide +kernel
theorem dX0_sort_0 : decode cX0_sort 0 = .ok (.aload_n 0, 1) := by decide +kernel
theorem dX0_sort_1 : decode cX0_sort 1 = .ok (.iload_n 1, 1) := by decide +kernel
theorem dX0_sort_2 : decode cX0_sort 2 = .ok (.putfield 33, 3) := by decide +kernel
theorem dX0_sort_5 : decode cX0_sort 5 = .ok (.aload_n 0, 1) := by decide +kernel
theorem dX0_sort_6 : decode cX0_sort 6 = .ok (.iload_n 2, 1) := by decide +kernel
theorem dX0_sort_7 : decode cX0_sort 7 = .ok (.putfield 36, 3) := by decide +kernel
theorem dX0_sort_10 : decode cX0_sort 10 = .ok (.return_, 1) := by decide +kernel
set_option maxRecDepth 20000 in
theorem ggX0_become_X8_holds : GoodIn wsX0_become wsX8_holds := goodIn_r _ [6] (by decide +kernel) (by decide +kernel)
set_option maxRecDepth 20000 in
theorem gX0_become_X8_holds_n54 : GoodIn wsX0_become (wsX8_holds) := ggX0_become_X8_holds
set_option maxRecDepth 20000 in
theorem ggX0_become_X3_note : GoodIn wsX0_become wsX3_note := goodIn_r _ [11, 12, 13, 14, 15, 16, 17, 18, 19, 20, 28, 29, 30, 31, 32] (by decide +kernel) (by decide +kernel)
set_option maxRecDepth 20000 in
theorem gX0_become_X3_note : GoodIn wsX0_become (wsV RX0 58 RX3 yX3_note wsX3_note) := goodIn_app (goodIn_of _ (by decide +kernel)) ggX0_become_X3_note
theorem dX0_become_0 : decode cX0_become 0 = .ok (.aload_n 0, 1) := by decide +kernel
theorem dX0_become_1 : decode cX0_become 1 = .ok (.getfield 22, 3) := by decide +kernel
theorem dX0_become_4 : decode cX0_become 4 = .ok (.lload_n 1, 1) := by decide +kernel
theorem dX0_become_5 : decode cX0_become 5 = .ok (.lxor, 1) := by decide +kernel
theorem dX0_become_6 : decode cX0_become 6 = .ok (.lstore 5, 2) := by decide +kernel
theorem dX0_become_8 : decode cX0_become 8 = .ok (.iconst 0, 1) := by decide +kernel
theorem dX0_become_9 : decode cX0_become 9 = .ok (.istore 7, 2) := by decide +kernel
theorem dX0_become_11 : decode cX0_become 11 = .ok (.iload 7, 2) := by decide +kernel
theorem dX0_become_13 : decode cX0_become 13 = .ok (.bipush 40, 2) := by decide +kernel
theorem dX0_become_15 : decode cX0_become 15 = .ok (.if_icmp .ge 75, 3) := by decide +kernel
theorem dX0_become_18 : decode cX0_become 18 = .ok (.lload 5, 2) := by decide +kernel
theorem dX0_become_20 : decode cX0_become 20 = .ok (.iload 7, 2) := by decide +kernel
theorem dX0_become_22 : decode cX0_become 22 = .ok (.invokestatic 54, 3) := by decide +kernel
theorem dX0_become_25 : decode cX0_become 25 = .ok (.ifCond .eq 59, 3) := by decide +kernel
theorem dX0_become_28 : decode cX0_become 28 = .ok (.lload_n 1, 1) := by decide +kernel
theorem dX0_become_29 : decode cX0_become 29 = .ok (.iload 7, 2) := by decide +kernel
theorem dX0_become_31 : decode cX0_become 31 = .ok (.invokestatic 54, 3) := by decide +kernel
theorem dX0_become_34 : decode cX0_become 34 = .ok (.istore 8, 2) := by decide +kernel
theorem dX0_become_36 : decode cX0_become 36 = .ok (.aload 4, 2) := by decide +kernel
theorem dX0_become_38 : decode cX0_become 38 = .ok (.iload_n 3, 1) := by decide +kernel
theorem dX0_become_39 : decode cX0_become 39 = .ok (.iload 7, 2) := by decide +kernel
theorem dX0_become_41 : decode cX0_become 41 = .ok (.iload 8, 2) := by decide +kernel
theorem dX0_become_43 : decode cX0_become 43 = .ok (.invokevirtual 58, 3) := by decide +kernel
theorem dX0_become_46 : decode cX0_become 46 = .ok (.aload_n 0, 1) := by decide +kernel
theorem dX0_become_47 : decode cX0_become 47 = .ok (.dup, 1) := by decide +kernel
theorem dX0_become_48 : decode cX0_become 48 = .ok (.getfield 26, 3) := by decide +kernel
theorem dX0_become_51 : decode cX0_become 51 = .ok (.iload 8, 2) := by decide +kernel
theorem dX0_become_53 : decode cX0_become 53 = .ok (.ifCond .eq 7, 3) := by decide +kernel
theorem dX0_become_56 : decode cX0_become 56 = .ok (.iconst 1, 1) := by decide +kernel
theorem dX0_become_57 : decode cX0_become 57 = .ok (.goto 4, 3) := by decide +kernel
theorem dX0_become_60 : decode cX0_become 60 = .ok (.iconst 0, 1) := by decide +kernel
theorem dX0_become_61 : decode cX0_become 61 = .ok (.iadd, 1) := by decide +kernel
theorem dX0_become_62 : decode cX0_become 62 = .ok (.putfield 26, 3) := by decide +kernel
theorem dX0_become_65 : decode cX0_become 65 = .ok (.aload_n 0, 1) := by decide +kernel
theorem dX0_become_66 : decode cX0_become 66 = .ok (.dup, 1) := by decide +kernel
theorem dX0_become_67 : decode cX0_become 67 = .ok (.getfield 30, 3) := by decide +kernel
theorem dX0_become_70 : decode cX0_become 70 = .ok (.iload 8, 2) := by decide +kernel
theorem dX0_become_72 : decode cX0_become 72 = .ok (.ifCond .eq 7, 3) := by decide +kernel
theorem dX0_become_75 : decode cX0_become 75 = .ok (.iconst 0, 1) := by decide +kernel
theorem dX0_become_76 : decode cX0_become 76 = .ok (.goto 4, 3) := by decide +kernel
theorem dX0_become_79 : decode cX0_become 79 = .ok (.iconst 1, 1) := by decide +kernel
theorem dX0_become_80 : decode cX0_become 80 = .ok (.iadd, 1) := by decide +kernel
theorem dX0_become_81 : decode cX0_become 81 = .ok (.putfield 30, 3) := by decide +kernel
theorem dX0_become_84 : decode cX0_become 84 = .ok (.iinc 7 1, 3) := by decide +kernel
theorem dX0_become_87 : decode cX0_become 87 = .ok (.goto (-76), 3) := by decide +kernel
theorem dX0_become_90 : decode cX0_become 90 = .ok (.aload_n 0, 1) := by decide +kernel
theorem dX0_become_91 : decode cX0_become 91 = .ok (.lload_n 1, 1) := by decide +kernel
theorem dX0_become_92 : decode cX0_become 92 = .ok (.putfield 22, 3) := by decide +kernel
theorem dX0_become_95 : decode cX0_become 95 = .ok (.return_, 1) := by decide +kernel
theorem dX1_init_0 : decode cX1_init 0 = .ok (.aload_n 0, 1) := by decide +kernel
theorem dX1_init_1 : decode cX1_init 1 = .ok (.invokespecial 3, 3) := by decide +kernel
theorem dX1_init_4 : decode cX1_init 4 = .ok (.aload_n 0, 1) := by decide +kernel
theorem dX1_init_5 : decode cX1_init 5 = .ok (.bipush 40, 2) := by decide +kernel
theorem dX1_init_7 : decode cX1_init 7 = .ok (.newarray .int, 2) := by decide +kernel
theorem dX1_init_9 : decode cX1_init 9 = .ok (.putfield 9, 3) := by decide +kernel
theorem dX1_init_12 : decode cX1_init 12 = .ok (.aload_n 0, 1) := by decide +kernel
theorem dX1_init_13 : decode cX1_init 13 = .ok (.bipush 40, 2) := by decide +kernel
theorem dX1_init_15 : decode cX1_init 15 = .ok (.newarray .int, 2) := by decide +kernel
theorem dX1_init_17 : decode cX1_init 17 = .ok (.putfield 15, 3) := by decide +kernel
theorem dX1_init_20 : decode cX1_init 20 = .ok (.aload_n 0, 1) := by decide +kernel
theorem dX1_init_21 : decode cX1_init 21 = .ok (.sipush 720, 3) := by decide +kernel
theorem dX1_init_24 : decode cX1_init 24 = .ok (.newarray .int, 2) := by decide +kernel
theorem dX1_init_26 : decode cX1_init 26 = .ok (.putfield 18, 3) := by decide +kernel
theorem dX1_init_29 : decode cX1_init 29 = .ok (.aload_n 0, 1) := by decide +kernel
theorem dX1_init_30 : decode cX1_init 30 = .ok (.sipush 240, 3) := by decide +kernel
theorem dX1_init_33 : decode cX1_init 33 = .ok (.newarray .int, 2) := by decide +kernel
theorem dX1_init_35 : decode cX1_init 35 = .ok (.putfield 21, 3) := by decide +kernel
theorem dX1_init_38 : decode cX1_init 38 = .ok (.aload_n 0, 1) := by decide +kernel
theorem dX1_init_39 : decode cX1_init 39 = .ok (.iconst 3, 1) := by decide +kernel
theorem dX1_init_40 : decode cX1_init 40 = .ok (.newarray .int, 2) := by decide +kernel
theorem dX1_init_42 : decode cX1_init 42 = .ok (.putfield 24, 3) := by decide +kernel
theorem dX1_init_45 : decode cX1_init 45 = .ok (.iconst 0, 1) := by decide +kernel
theorem dX1_init_46 : decode cX1_init 46 = .ok (.istore_n 1, 1) := by decide +kernel
theorem dX1_init_47 : decode cX1_init 47 = .ok (.iload_n 1, 1) := by decide +kernel
theorem dX1_init_48 : decode cX1_init 48 = .ok (.iconst 3, 1) := by decide +kernel
theorem dX1_init_49 : decode cX1_init 49 = .ok (.if_icmp .ge 16, 3) := by decide +kernel
theorem dX1_init_52 : decode cX1_init 52 = .ok (.aload_n 0, 1) := by decide +kernel
theorem dX1_init_53 : decode cX1_init 53 = .ok (.getfield 24, 3) := by decide +kernel
theorem dX1_init_56 : decode cX1_init 56 = .ok (.iload_n 1, 1) := by decide +kernel
theorem dX1_init_57 : decode cX1_init 57 = .ok (.iload_n 1, 1) := by decide +kernel
theorem dX1_init_58 : decode cX1_init 58 = .ok (.iastore, 1) := by decide +kernel
theorem dX1_init_59 : decode cX1_init 59 = .ok (.iinc 1 1, 3) := by decide +kernel
theorem dX1_init_62 : decode cX1_init 62 = .ok (.goto (-15), 3) := by decide +kernel
theorem dX1_init_65 : decode cX1_init 65 = .ok (.return_, 1) := by decide +kernel
set_option maxRecDepth 20000 in
theorem ggX1_has_X8_isWithin : GoodIn wsX1_has wsX8_isWithin := goodIn_r _ [4] (by decide +kernel) (by decide +kernel)
set_option maxRecDepth 20000 in
theorem gX1_has_X8_isWithin_n27 : GoodIn wsX1_has (wsX8_isWithin) := ggX1_has_X8_isWithin
set_option maxRecDepth 20000 in
theorem ggX1_has_X8_holds : GoodIn wsX1_has wsX8_holds := goodIn_r _ [6] (by decide +kernel) (by decide +kernel)
set_option maxRecDepth 20000 in
theorem gX1_has_X8_holds_n35 : GoodIn wsX1_has (wsX8_holds) := ggX1_has_X8_holds
theorem dX1_has_0 : decode cX1_has 0 = .ok (.iload_n 1, 1) := by decide +kernel
theorem dX1_has_1 : decode cX1_has 1 = .ok (.iconst 0, 1) := by decide +kernel
theorem dX1_has_2 : decode cX1_has 2 = .ok (.bipush 39, 2) := by decide +kernel
theorem dX1_has_4 : decode cX1_has 4 = .ok (.invokestatic 27, 3) := by decide +kernel
theorem dX1_has_7 : decode cX1_has 7 = .ok (.ifCond .eq 18, 3) := by decide +kernel
theorem dX1_has_10 : decode cX1_has 10 = .ok (.aload_n 0, 1) := by decide +kernel
theorem dX1_has_11 : decode cX1_has 11 = .ok (.getfield 31, 3) := by decide +kernel
theorem dX1_has_14 : decode cX1_has 14 = .ok (.iload_n 1, 1) := by decide +kernel
theorem dX1_has_15 : decode cX1_has 15 = .ok (.invokestatic 35, 3) := by decide +kernel
theorem dX1_has_18 : decode cX1_has 18 = .ok (.ifCond .eq 7, 3) := by decide +kernel
theorem dX1_has_21 : decode cX1_has 21 = .ok (.iconst 1, 1) := by decide +kernel
theorem dX1_has_22 : decode cX1_has 22 = .ok (.goto 4, 3) := by decide +kernel
theorem dX1_has_25 : decode cX1_has 25 = .ok (.iconst 0, 1) := by decide +kernel
theorem dX1_has_26 : decode cX1_has 26 = .ok (.ireturn, 1) := by decide +kernel
theorem dX1_all_0 : decode cX1_all 0 = .ok (.aload_n 0, 1) := by decide +kernel
theorem dX1_all_1 : decode cX1_all 1 = .ok (.getfield 31, 3) := by decide +kernel
theorem dX1_all_4 : decode cX1_all 4 = .ok (.lreturn, 1) := by decide +kernel
set_option maxRecDepth 20000 in
theorem ggX1_howMany_J13_bitCount_95d88 : GoodIn wsX1_howMany wsJ13_bitCount_95d88 := goodIn_r _ [5, 6, 7, 8] (by decide +kernel) (by decide +kernel)
set_option maxRecDepth 20000 in
theorem gX1_howMany_J13_bitCount_95d88 : GoodIn wsX1_howMany (va_wsS RX1 39 yJ13_bitCount_95d88 wsJ13_bitCount_95d88) := goodIn_app (goodIn_of _ (by decide +kernel)) ggX1_howMany_J13_bitCount_95d88
theorem dX1_howMany_0 : decode cX1_howMany 0 = .ok (.aload_n 0, 1) := by decide +kernel
theorem dX1_howMany_1 : decode cX1_howMany 1 = .ok (.getfield 31, 3) := by decide +kernel
theorem dX1_howMany_4 : decode cX1_howMany 4 = .ok (.invokestatic 39, 3) := by decide +kernel
theorem dX1_howMany_7 : decode cX1_howMany 7 = .ok (.ireturn, 1) := by decide +kernel
set_option maxRecDepth 20000 in
theorem ggX1_freeNumber_X8_holds : GoodIn wsX1_freeNumber wsX8_holds := goodIn_r _ [4] (by decide +kernel) (by decide +kernel)
set_option maxRecDepth 20000 in
theorem gX1_freeNumber_X8_holds_n35 : GoodIn wsX1_freeNumber (wsX8_holds) := ggX1_freeNumber_X8_holds
theorem dX1_freeNumber_0 : decode cX1_freeNumber 0 = .ok (.iconst 0, 1) := by decide +kernel
theorem dX1_freeNumber_1 : decode cX1_freeNumber 1 = .ok (.istore_n 1, 1) := by decide +kernel
theorem dX1_freeNumber_2 : decode cX1_freeNumber 2 = .ok (.iload_n 1, 1) := by decide +kernel
theorem dX1_freeNumber_3 : decode cX1_freeNumber 3 = .ok (.bipush 40, 2) := by decide +kernel
theorem dX1_freeNumber_5 : decode cX1_freeNumber 5 = .ok (.if_icmp .ge 22, 3) := by decide +kernel
theorem dX1_freeNumber_8 : decode cX1_freeNumber 8 = .ok (.aload_n 0, 1) := by decide +kernel
theorem dX1_freeNumber_9 : decode cX1_freeNumber 9 = .ok (.getfield 31, 3) := by decide +kernel
theorem dX1_freeNumber_12 : decode cX1_freeNumber 12 = .ok (.iload_n 1, 1) := by decide +kernel
theorem dX1_freeNumber_13 : decode cX1_freeNumber 13 = .ok (.invokestatic 35, 3) := by decide +kernel
theorem dX1_freeNumber_16 : decode cX1_freeNumber 16 = .ok (.ifCond .ne 5, 3) := by decide +kernel
theorem dX1_freeNumber_19 : decode cX1_freeNumber 19 = .ok (.iload_n 1, 1) := by decide +kernel
theorem dX1_freeNumber_20 : decode cX1_freeNumber 20 = .ok (.ireturn, 1) := by decide +kernel
theorem dX1_freeNumber_21 : decode cX1_freeNumber 21 = .ok (.iinc 1 1, 3) := by decide +kernel
theorem dX1_freeNumber_24 : decode cX1_freeNumber 24 = .ok (.goto (-22), 3) := by decide +kernel
theorem dX1_freeNumber_27 : decode cX1_freeNumber 27 = .ok (.iconst (-1), 1) := by decide +kernel
theorem dX1_freeNumber_28 : decode cX1_freeNumber 28 = .ok (.ireturn, 1) := by decide +kernel
set_option maxRecDepth 20000 in
theorem ggX1_enter_X8_only : GoodIn wsX1_enter wsX8_only := goodIn_r _ [7] (by decide +kernel) (by decide +kernel)
set_option maxRecDepth 20000 in
theorem gX1_enter_X8_only_n45 : GoodIn wsX1_enter (wsX8_only) := ggX1_enter_X8_only
set_option maxRecDepth 20000 in
theorem ggX1_enter_X1_slot : GoodIn wsX1_enter wsX1_slot := goodIn_r _ [11] (by decide +kernel) (by decide +kernel)
set_option maxRecDepth 20000 in
theorem gX1_enter_X1_slot : GoodIn wsX1_enter (va_wsS RX1 49 yX1_slot wsX1_slot) := goodIn_app (goodIn_of _ (by decide +kernel)) ggX1_enter_X1_slot
set_option maxRecDepth 20000 in
theorem ggX1_enter_J7_fill_fda19 : GoodIn wsX1_enter wsJ7_fill_fda19 := goodIn_r _ [15, 16, 17, 14, 18] (by decide +kernel) (by decide +kernel)
set_option maxRecDepth 20000 in
theorem gX1_enter_J7_fill_fda19 : GoodIn wsX1_enter (va_wsS RX1 53 yJ7_fill_fda19 wsJ7_fill_fda19) := goodIn_app (goodIn_of _ (by decide +kernel)) ggX1_enter_J7_fill_fda19
theorem dX1_enter_0 : decode cX1_enter 0 = .ok (.aload_n 0, 1) := by decide +kernel
theorem dX1_enter_1 : decode cX1_enter 1 = .ok (.dup, 1) := by decide +kernel
theorem dX1_enter_2 : decode cX1_enter 2 = .ok (.getfield 31, 3) := by decide +kernel
theorem dX1_enter_5 : decode cX1_enter 5 = .ok (.iload_n 1, 1) := by decide +kernel
theorem dX1_enter_6 : decode cX1_enter 6 = .ok (.invokestatic 45, 3) := by decide +kernel
theorem dX1_enter_9 : decode cX1_enter 9 = .ok (.lor, 1) := by decide +kernel
theorem dX1_enter_10 : decode cX1_enter 10 = .ok (.putfield 31, 3) := by decide +kernel
theorem dX1_enter_13 : decode cX1_enter 13 = .ok (.aload_n 0, 1) := by decide +kernel
theorem dX1_enter_14 : decode cX1_enter 14 = .ok (.getfield 9, 3) := by decide +kernel
theorem dX1_enter_17 : decode cX1_enter 17 = .ok (.iload_n 1, 1) := by decide +kernel
theorem dX1_enter_18 : decode cX1_enter 18 = .ok (.iload_n 2, 1) := by decide +kernel
theorem dX1_enter_19 : decode cX1_enter 19 = .ok (.iastore, 1) := by decide +kernel
theorem dX1_enter_20 : decode cX1_enter 20 = .ok (.aload_n 0, 1) := by decide +kernel
theorem dX1_enter_21 : decode cX1_enter 21 = .ok (.getfield 15, 3) := by decide +kernel
theorem dX1_enter_24 : decode cX1_enter 24 = .ok (.iload_n 1, 1) := by decide +kernel
theorem dX1_enter_25 : decode cX1_enter 25 = .ok (.iload_n 3, 1) := by decide +kernel
theorem dX1_enter_26 : decode cX1_enter 26 = .ok (.iastore, 1) := by decide +kernel
theorem dX1_enter_27 : decode cX1_enter 27 = .ok (.aload_n 0, 1) := by decide +kernel
theorem dX1_enter_28 : decode cX1_enter 28 = .ok (.getfield 18, 3) := by decide +kernel
theorem dX1_enter_31 : decode cX1_enter 31 = .ok (.iload_n 1, 1) := by decide +kernel
theorem dX1_enter_32 : decode cX1_enter 32 = .ok (.iconst 0, 1) := by decide +kernel
theorem dX1_enter_33 : decode cX1_enter 33 = .ok (.iconst 0, 1) := by decide +kernel
theorem dX1_enter_34 : decode cX1_enter 34 = .ok (.invokestatic 49, 3) := by decide +kernel
theorem dX1_enter_37 : decode cX1_enter 37 = .ok (.iload_n 1, 1) := by decide +kernel
theorem dX1_enter_38 : decode cX1_enter 38 = .ok (.iconst 1, 1) := by decide +kernel
theorem dX1_enter_39 : decode cX1_enter 39 = .ok (.iadd, 1) := by decide +kernel
theorem dX1_enter_40 : decode cX1_enter 40 = .ok (.iconst 0, 1) := by decide +kernel
theorem dX1_enter_41 : decode cX1_enter 41 = .ok (.iconst 0, 1) := by decide +kernel
theorem dX1_enter_42 : decode cX1_enter 42 = .ok (.invokestatic 49, 3) := by decide +kernel
theorem dX1_enter_45 : decode cX1_enter 45 = .ok (.iconst (-1), 1) := by decide +kernel
theorem dX1_enter_46 : decode cX1_enter 46 = .ok (.invokestatic 53, 3) := by decide +kernel
theorem dX1_enter_49 : decode cX1_enter 49 = .ok (.return_, 1) := by decide +kernel
set_option maxRecDepth 20000 in
theorem ggX1_drop_X8_only : GoodIn wsX1_drop wsX8_only := goodIn_r _ [5] (by decide +kernel) (by decide +kernel)
set_option maxRecDepth 20000 in
theorem gX1_drop_X8_only_n45 : GoodIn wsX1_drop (wsX8_only) := ggX1_drop_X8_only
theorem dX1_drop_0 : decode cX1_drop 0 = .ok (.aload_n 0, 1) := by decide +kernel
theorem dX1_drop_1 : decode cX1_drop 1 = .ok (.dup, 1) := by decide +kernel
theorem dX1_drop_2 : decode cX1_drop 2 = .ok (.getfield 31, 3) := by decide +kernel
theorem dX1_drop_5 : decode cX1_drop 5 = .ok (.iload_n 1, 1) := by decide +kernel
theorem dX1_drop_6 : decode cX1_drop 6 = .ok (.invokestatic 45, 3) := by decide +kernel
theorem dX1_drop_9 : decode cX1_drop 9 = .ok (.ldc2_w 59, 3) := by decide +kernel
theorem dX1_drop_12 : decode cX1_drop 12 = .ok (.lxor, 1) := by decide +kernel
theorem dX1_drop_13 : decode cX1_drop 13 = .ok (.land, 1) := by decide +kernel
theorem dX1_drop_14 : decode cX1_drop 14 = .ok (.putfield 31, 3) := by decide +kernel
theorem dX1_drop_17 : decode cX1_drop 17 = .ok (.return_, 1) := by decide +kernel
theorem dX1_digest_0 : decode cX1_digest 0 = .ok (.aload_n 0, 1) := by decide +kernel
theorem dX1_digest_1 : decode cX1_digest 1 = .ok (.getfield 9, 3) := by decide +kernel
theorem dX1_digest_4 : decode cX1_digest 4 = .ok (.iload_n 1, 1) := by decide +kernel
theorem dX1_digest_5 : decode cX1_digest 5 = .ok (.iaload, 1) := by decide +kernel
theorem dX1_digest_6 : decode cX1_digest 6 = .ok (.ireturn, 1) := by decide +kernel
theorem dX1_changeDigest_0 : decode cX1_changeDigest 0 = .ok (.aload_n 0, 1) := by decide +kernel
theorem dX1_changeDigest_1 : decode cX1_changeDigest 1 = .ok (.getfield 9, 3) := by decide +kernel
theorem dX1_changeDigest_4 : decode cX1_changeDigest 4 = .ok (.iload_n 1, 1) := by decide +kernel
theorem dX1_changeDigest_5 : decode cX1_changeDigest 5 = .ok (.iload_n 2, 1) := by decide +kernel
theorem dX1_changeDigest_6 : decode cX1_changeDigest 6 = .ok (.iastore, 1) := by decide +kernel
theorem dX1_changeDigest_7 : decode cX1_changeDigest 7 = .ok (.return_, 1) := by decide +kernel
theorem dX1_bytes_0 : decode cX1_bytes 0 = .ok (.aload_n 0, 1) := by decide +kernel
theorem dX1_bytes_1 : decode cX1_bytes 1 = .ok (.getfield 15, 3) := by decide +kernel
theorem dX1_bytes_4 : decode cX1_bytes 4 = .ok (.iload_n 1, 1) := by decide +kernel
theorem dX1_bytes_5 : decode cX1_bytes 5 = .ok (.iaload, 1) := by decide +kernel
theorem dX1_bytes_6 : decode cX1_bytes 6 = .ok (.ireturn, 1) := by decide +kernel
set_option maxRecDepth 20000 in
theorem ggX1_told_X1_slot : GoodIn wsX1_told wsX1_slot := goodIn_r _ [5] (by decide +kernel) (by decide +kernel)
set_option maxRecDepth 20000 in
theorem gX1_told_X1_slot : GoodIn wsX1_told (va_wsS RX1 49 yX1_slot wsX1_slot) := goodIn_app (goodIn_of _ (by decide +kernel)) ggX1_told_X1_slot
theorem dX1_told_0 : decode cX1_told 0 = .ok (.aload_n 0, 1) := by decide +kernel
theorem dX1_told_1 : decode cX1_told 1 = .ok (.getfield 18, 3) := by decide +kernel
theorem dX1_told_4 : decode cX1_told 4 = .ok (.iload_n 1, 1) := by decide +kernel
theorem dX1_told_5 : decode cX1_told 5 = .ok (.iload_n 2, 1) := by decide +kernel
theorem dX1_told_6 : decode cX1_told 6 = .ok (.iload_n 3, 1) := by decide +kernel
theorem dX1_told_7 : decode cX1_told 7 = .ok (.invokestatic 49, 3) := by decide +kernel
theorem dX1_told_10 : decode cX1_told 10 = .ok (.iaload, 1) := by decide +kernel
theorem dX1_told_11 : decode cX1_told 11 = .ok (.ireturn, 1) := by decide +kernel
set_option maxRecDepth 20000 in
theorem ggX1_tell_X1_slot : GoodIn wsX1_tell wsX1_slot := goodIn_r _ [5] (by decide +kernel) (by decide +kernel)
set_option maxRecDepth 20000 in
theorem gX1_tell_X1_slot : GoodIn wsX1_tell (va_wsS RX1 49 yX1_slot wsX1_slot) := goodIn_app (goodIn_of _ (by decide +kernel)) ggX1_tell_X1_slot
theorem dX1_tell_0 : decode cX1_tell 0 = .ok (.aload_n 0, 1) := by decide +kernel
theorem dX1_tell_1 : decode cX1_tell 1 = .ok (.getfield 18, 3) := by decide +kernel
theorem dX1_tell_4 : decode cX1_tell 4 = .ok (.iload_n 1, 1) := by decide +kernel
theorem dX1_tell_5 : decode cX1_tell 5 = .ok (.iload_n 2, 1) := by decide +kernel
theorem dX1_tell_6 : decode cX1_tell 6 = .ok (.iload_n 3, 1) := by decide +kernel
theorem dX1_tell_7 : decode cX1_tell 7 = .ok (.invokestatic 49, 3) := by decide +kernel
theorem dX1_tell_10 : decode cX1_tell 10 = .ok (.iload 4, 2) := by decide +kernel
theorem dX1_tell_12 : decode cX1_tell 12 = .ok (.iastore, 1) := by decide +kernel
theorem dX1_tell_13 : decode cX1_tell 13 = .ok (.return_, 1) := by decide +kernel
set_option maxRecDepth 20000 in
theorem ggX1_firstTeller_X1_told : GoodIn wsX1_firstTeller wsX1_told := goodIn_r _ [6, 7, 8, 9, 5, 10, 11, 12, 13, 14, 15, 16] (by decide +kernel) (by decide +kernel)
set_option maxRecDepth 20000 in
theorem gX1_firstTeller_X1_told : GoodIn wsX1_firstTeller (wsV RX1 61 RX1 yX1_told wsX1_told) := goodIn_app (goodIn_of _ (by decide +kernel)) ggX1_firstTeller_X1_told
theorem dX1_firstTeller_0 : decode cX1_firstTeller 0 = .ok (.iconst 0, 1) := by decide +kernel
theorem dX1_firstTeller_1 : decode cX1_firstTeller 1 = .ok (.istore_n 3, 1) := by decide +kernel
theorem dX1_firstTeller_2 : decode cX1_firstTeller 2 = .ok (.iload_n 3, 1) := by decide +kernel
theorem dX1_firstTeller_3 : decode cX1_firstTeller 3 = .ok (.iconst 3, 1) := by decide +kernel
theorem dX1_firstTeller_4 : decode cX1_firstTeller 4 = .ok (.if_icmp .ge 32, 3) := by decide +kernel
theorem dX1_firstTeller_7 : decode cX1_firstTeller 7 = .ok (.aload_n 0, 1) := by decide +kernel
theorem dX1_firstTeller_8 : decode cX1_firstTeller 8 = .ok (.iload_n 1, 1) := by decide +kernel
theorem dX1_firstTeller_9 : decode cX1_firstTeller 9 = .ok (.aload_n 0, 1) := by decide +kernel
theorem dX1_firstTeller_10 : decode cX1_firstTeller 10 = .ok (.getfield 24, 3) := by decide +kernel
theorem dX1_firstTeller_13 : decode cX1_firstTeller 13 = .ok (.iload_n 3, 1) := by decide +kernel
theorem dX1_firstTeller_14 : decode cX1_firstTeller 14 = .ok (.iaload, 1) := by decide +kernel
theorem dX1_firstTeller_15 : decode cX1_firstTeller 15 = .ok (.iload_n 2, 1) := by decide +kernel
theorem dX1_firstTeller_16 : decode cX1_firstTeller 16 = .ok (.invokevirtual 61, 3) := by decide +kernel
theorem dX1_firstTeller_19 : decode cX1_firstTeller 19 = .ok (.iconst (-1), 1) := by decide +kernel
theorem dX1_firstTeller_20 : decode cX1_firstTeller 20 = .ok (.if_icmp .eq 10, 3) := by decide +kernel
theorem dX1_firstTeller_23 : decode cX1_firstTeller 23 = .ok (.aload_n 0, 1) := by decide +kernel
theorem dX1_firstTeller_24 : decode cX1_firstTeller 24 = .ok (.getfield 24, 3) := by decide +kernel
theorem dX1_firstTeller_27 : decode cX1_firstTeller 27 = .ok (.iload_n 3, 1) := by decide +kernel
theorem dX1_firstTeller_28 : decode cX1_firstTeller 28 = .ok (.iaload, 1) := by decide +kernel
theorem dX1_firstTeller_29 : decode cX1_firstTeller 29 = .ok (.ireturn, 1) := by decide +kernel
theorem dX1_firstTeller_30 : decode cX1_firstTeller 30 = .ok (.iinc 3 1, 3) := by decide +kernel
theorem dX1_firstTeller_33 : decode cX1_firstTeller 33 = .ok (.goto (-31), 3) := by decide +kernel
theorem dX1_firstTeller_36 : decode cX1_firstTeller 36 = .ok (.iconst (-1), 1) := by decide +kernel
theorem dX1_firstTeller_37 : decode cX1_firstTeller 37 = .ok (.ireturn, 1) := by decide +kernel
theorem dX1_settledValue_0 : decode cX1_settledValue 0 = .ok (.aload_n 0, 1) := by decide +kernel
theorem dX1_settledValue_1 : decode cX1_settledValue 1 = .ok (.getfield 21, 3) := by decide +kernel
theorem dX1_settledValue_4 : decode cX1_settledValue 4 = .ok (.iload_n 1, 1) := by decide +kernel
theorem dX1_settledValue_5 : decode cX1_settledValue 5 = .ok (.bipush 6, 2) := by decide +kernel
theorem dX1_settledValue_7 : decode cX1_settledValue 7 = .ok (.imul, 1) := by decide +kernel
theorem dX1_settledValue_8 : decode cX1_settledValue 8 = .ok (.iload_n 2, 1) := by decide +kernel
theorem dX1_settledValue_9 : decode cX1_settledValue 9 = .ok (.iadd, 1) := by decide +kernel
theorem dX1_settledValue_10 : decode cX1_settledValue 10 = .ok (.iaload, 1) := by decide +kernel
theorem dX1_settledValue_11 : decode cX1_settledValue 11 = .ok (.ireturn, 1) := by decide +kernel
set_option maxRecDepth 20000 in
theorem ggX1_settleValues_X8_holds : GoodIn wsX1_settleValues wsX8_holds := goodIn_r _ [4] (by decide +kernel) (by decide +kernel)
set_option maxRecDepth 20000 in
theorem gX1_settleValues_X8_holds_n35 : GoodIn wsX1_settleValues (wsX8_holds) := ggX1_settleValues_X8_holds
set_option maxRecDepth 20000 in
theorem ggX1_settleValues_X1_settleFile : GoodIn wsX1_settleValues wsX1_settleFile := goodIn_r _ [9, 10, 11, 12, 13, 14, 15, 16, 17, 8, 18, 19, 20, 21, 22, 23, 24, 25, 26, 27, 28, 29, 30, 31, 32, 33] (by decide +kernel) (by decide +kernel)
set_option maxRecDepth 20000 in
theorem gX1_settleValues_X1_settleFile : GoodIn wsX1_settleValues (wsV RX1 64 RX1 yX1_settleFile wsX1_settleFile) := goodIn_app (goodIn_of _ (by decide +kernel)) ggX1_settleValues_X1_settleFile
theorem dX1_settleValues_0 : decode cX1_settleValues 0 = .ok (.iconst 0, 1) := by decide +kernel
theorem dX1_settleValues_1 : decode cX1_settleValues 1 = .ok (.istore_n 1, 1) := by decide +kernel
theorem dX1_settleValues_2 : decode cX1_settleValues 2 = .ok (.iload_n 1, 1) := by decide +kernel
theorem dX1_settleValues_3 : decode cX1_settleValues 3 = .ok (.bipush 40, 2) := by decide +kernel
theorem dX1_settleValues_5 : decode cX1_settleValues 5 = .ok (.if_icmp .ge 25, 3) := by decide +kernel
theorem dX1_settleValues_8 : decode cX1_settleValues 8 = .ok (.aload_n 0, 1) := by decide +kernel
theorem dX1_settleValues_9 : decode cX1_settleValues 9 = .ok (.getfield 31, 3) := by decide +kernel
theorem dX1_settleValues_12 : decode cX1_settleValues 12 = .ok (.iload_n 1, 1) := by decide +kernel
theorem dX1_settleValues_13 : decode cX1_settleValues 13 = .ok (.invokestatic 35, 3) := by decide +kernel
theorem dX1_settleValues_16 : decode cX1_settleValues 16 = .ok (.ifCond .eq 8, 3) := by decide +kernel
theorem dX1_settleValues_19 : decode cX1_settleValues 19 = .ok (.aload_n 0, 1) := by decide +kernel
theorem dX1_settleValues_20 : decode cX1_settleValues 20 = .ok (.iload_n 1, 1) := by decide +kernel
theorem dX1_settleValues_21 : decode cX1_settleValues 21 = .ok (.invokevirtual 64, 3) := by decide +kernel
theorem dX1_settleValues_24 : decode cX1_settleValues 24 = .ok (.iinc 1 1, 3) := by decide +kernel
theorem dX1_settleValues_27 : decode cX1_settleValues 27 = .ok (.goto (-25), 3) := by decide +kernel
theorem dX1_settleValues_30 : decode cX1_settleValues 30 = .ok (.return_, 1) := by decide +kernel
set_option maxRecDepth 20000 in
theorem ggX1_settleFile_X1_firstTeller : GoodIn wsX1_settleFile wsX1_firstTeller := goodIn_r _ [10, 11, 12, 13, 14, 9, 15, 16, 17, 18, 19, 20, 21, 22, 23, 24, 25] (by decide +kernel) (by decide +kernel)
set_option maxRecDepth 20000 in
theorem gX1_settleFile_X1_firstTeller : GoodIn wsX1_settleFile (wsV RX1 68 RX1 yX1_firstTeller wsX1_firstTeller) := goodIn_app (goodIn_of _ (by decide +kernel)) ggX1_settleFile_X1_firstTeller
set_option maxRecDepth 20000 in
theorem ggX1_settleFile_X1_told : GoodIn wsX1_settleFile wsX1_told := goodIn_r _ [15, 16, 17, 18, 9, 19, 20, 21, 22, 23, 24, 25] (by decide +kernel) (by decide +kernel)
set_option maxRecDepth 20000 in
theorem gX1_settleFile_X1_told : GoodIn wsX1_settleFile (wsV RX1 61 RX1 yX1_told wsX1_told) := goodIn_app (goodIn_of _ (by decide +kernel)) ggX1_settleFile_X1_told
theorem dX1_settleFile_0 : decode cX1_settleFile 0 = .ok (.iconst 0, 1) := by decide +kernel
theorem dX1_settleFile_1 : decode cX1_settleFile 1 = .ok (.istore_n 2, 1) := by decide +kernel
theorem dX1_settleFile_2 : decode cX1_settleFile 2 = .ok (.iload_n 2, 1) := by decide +kernel
theorem dX1_settleFile_3 : decode cX1_settleFile 3 = .ok (.iconst 4, 1) := by decide +kernel
theorem dX1_settleFile_4 : decode cX1_settleFile 4 = .ok (.if_icmp .gt 43, 3) := by decide +kernel
theorem dX1_settleFile_7 : decode cX1_settleFile 7 = .ok (.aload_n 0, 1) := by decide +kernel
theorem dX1_settleFile_8 : decode cX1_settleFile 8 = .ok (.iload_n 1, 1) := by decide +kernel
theorem dX1_settleFile_9 : decode cX1_settleFile 9 = .ok (.iload_n 2, 1) := by decide +kernel
theorem dX1_settleFile_10 : decode cX1_settleFile 10 = .ok (.invokevirtual 68, 3) := by decide +kernel
theorem dX1_settleFile_13 : decode cX1_settleFile 13 = .ok (.istore_n 3, 1) := by decide +kernel
theorem dX1_settleFile_14 : decode cX1_settleFile 14 = .ok (.aload_n 0, 1) := by decide +kernel
theorem dX1_settleFile_15 : decode cX1_settleFile 15 = .ok (.getfield 21, 3) := by decide +kernel
theorem dX1_settleFile_18 : decode cX1_settleFile 18 = .ok (.iload_n 1, 1) := by decide +kernel
theorem dX1_settleFile_19 : decode cX1_settleFile 19 = .ok (.bipush 6, 2) := by decide +kernel
theorem dX1_settleFile_21 : decode cX1_settleFile 21 = .ok (.imul, 1) := by decide +kernel
theorem dX1_settleFile_22 : decode cX1_settleFile 22 = .ok (.iload_n 2, 1) := by decide +kernel
theorem dX1_settleFile_23 : decode cX1_settleFile 23 = .ok (.iadd, 1) := by decide +kernel
theorem dX1_settleFile_24 : decode cX1_settleFile 24 = .ok (.iload_n 3, 1) := by decide +kernel
theorem dX1_settleFile_25 : decode cX1_settleFile 25 = .ok (.iconst (-1), 1) := by decide +kernel
theorem dX1_settleFile_26 : decode cX1_settleFile 26 = .ok (.if_icmp .ne 7, 3) := by decide +kernel
theorem dX1_settleFile_29 : decode cX1_settleFile 29 = .ok (.iconst (-1), 1) := by decide +kernel
theorem dX1_settleFile_30 : decode cX1_settleFile 30 = .ok (.goto 10, 3) := by decide +kernel
theorem dX1_settleFile_33 : decode cX1_settleFile 33 = .ok (.aload_n 0, 1) := by decide +kernel
theorem dX1_settleFile_34 : decode cX1_settleFile 34 = .ok (.iload_n 1, 1) := by decide +kernel
theorem dX1_settleFile_35 : decode cX1_settleFile 35 = .ok (.iload_n 3, 1) := by decide +kernel
theorem dX1_settleFile_36 : decode cX1_settleFile 36 = .ok (.iload_n 2, 1) := by decide +kernel
theorem dX1_settleFile_37 : decode cX1_settleFile 37 = .ok (.invokevirtual 61, 3) := by decide +kernel
theorem dX1_settleFile_40 : decode cX1_settleFile 40 = .ok (.iastore, 1) := by decide +kernel
theorem dX1_settleFile_41 : decode cX1_settleFile 41 = .ok (.iinc 2 1, 3) := by decide +kernel
theorem dX1_settleFile_44 : decode cX1_settleFile 44 = .ok (.goto (-42), 3) := by decide +kernel
theorem dX1_settleFile_47 : decode cX1_settleFile 47 = .ok (.iconst 0, 1) := by decide +kernel
theorem dX1_settleFile_48 : decode cX1_settleFile 48 = .ok (.istore_n 2, 1) := by decide +kernel
theorem dX1_settleFile_49 : decode cX1_settleFile 49 = .ok (.iconst 0, 1) := by decide +kernel
theorem dX1_settleFile_50 : decode cX1_settleFile 50 = .ok (.istore_n 3, 1) := by decide +kernel
theorem dX1_settleFile_51 : decode cX1_settleFile 51 = .ok (.iload_n 3, 1) := by decide +kernel
theorem dX1_settleFile_52 : decode cX1_settleFile 52 = .ok (.iconst 3, 1) := by decide +kernel
theorem dX1_settleFile_53 : decode cX1_settleFile 53 = .ok (.if_icmp .ge 23, 3) := by decide +kernel
theorem dX1_settleFile_56 : decode cX1_settleFile 56 = .ok (.iload_n 2, 1) := by decide +kernel
theorem dX1_settleFile_57 : decode cX1_settleFile 57 = .ok (.aload_n 0, 1) := by decide +kernel
theorem dX1_settleFile_58 : decode cX1_settleFile 58 = .ok (.iload_n 1, 1) := by decide +kernel
theorem dX1_settleFile_59 : decode cX1_settleFile 59 = .ok (.iload_n 3, 1) := by decide +kernel
theorem dX1_settleFile_60 : decode cX1_settleFile 60 = .ok (.iconst 5, 1) := by decide +kernel
theorem dX1_settleFile_61 : decode cX1_settleFile 61 = .ok (.invokevirtual 61, 3) := by decide +kernel
theorem dX1_settleFile_64 : decode cX1_settleFile 64 = .ok (.iconst 0, 1) := by decide +kernel
theorem dX1_settleFile_65 : decode cX1_settleFile 65 = .ok (.invokestatic 72, 3) := by decide +kernel
theorem dX1_settleFile_68 : decode cX1_settleFile 68 = .ok (.ior, 1) := by decide +kernel
theorem dX1_settleFile_69 : decode cX1_settleFile 69 = .ok (.istore_n 2, 1) := by decide +kernel
theorem dX1_settleFile_70 : decode cX1_settleFile 70 = .ok (.iinc 3 1, 3) := by decide +kernel
theorem dX1_settleFile_73 : decode cX1_settleFile 73 = .ok (.goto (-22), 3) := by decide +kernel
theorem dX1_settleFile_76 : decode cX1_settleFile 76 = .ok (.aload_n 0, 1) := by decide +kernel
theorem dX1_settleFile_77 : decode cX1_settleFile 77 = .ok (.getfield 21, 3) := by decide +kernel
theorem dX1_settleFile_80 : decode cX1_settleFile 80 = .ok (.iload_n 1, 1) := by decide +kernel
theorem dX1_settleFile_81 : decode cX1_settleFile 81 = .ok (.bipush 6, 2) := by decide +kernel
theorem dX1_settleFile_83 : decode cX1_settleFile 83 = .ok (.imul, 1) := by decide +kernel
theorem dX1_settleFile_84 : decode cX1_settleFile 84 = .ok (.iconst 5, 1) := by decide +kernel
theorem dX1_settleFile_85 : decode cX1_settleFile 85 = .ok (.iadd, 1) := by decide +kernel
theorem dX1_settleFile_86 : decode cX1_settleFile 86 = .ok (.iload_n 2, 1) := by decide +kernel
theorem dX1_settleFile_87 : decode cX1_settleFile 87 = .ok (.iastore, 1) := by decide +kernel
theorem dX1_settleFile_88 : decode cX1_settleFile 88 = .ok (.return_, 1) := by decide +kernel
theorem dX1_orderCode_0 : decode cX1_orderCode 0 = .ok (.bipush 100, 2) := by decide +kernel
theorem dX1_orderCode_2 : decode cX1_orderCode 2 = .ok (.aload_n 0, 1) := by decide +kernel
theorem dX1_orderCode_3 : decode cX1_orderCode 3 = .ok (.getfield 24, 3) := by decide +kernel
theorem dX1_orderCode_6 : decode cX1_orderCode 6 = .ok (.iconst 0, 1) := by decide +kernel
theorem dX1_orderCode_7 : decode cX1_orderCode 7 = .ok (.iaload, 1) := by decide +kernel
theorem dX1_orderCode_8 : decode cX1_orderCode 8 = .ok (.imul, 1) := by decide +kernel
theorem dX1_orderCode_9 : decode cX1_orderCode 9 = .ok (.bipush 10, 2) := by decide +kernel
theorem dX1_orderCode_11 : decode cX1_orderCode 11 = .ok (.aload_n 0, 1) := by decide +kernel
theorem dX1_orderCode_12 : decode cX1_orderCode 12 = .ok (.getfield 24, 3) := by decide +kernel
theorem dX1_orderCode_15 : decode cX1_orderCode 15 = .ok (.iconst 1, 1) := by decide +kernel
theorem dX1_orderCode_16 : decode cX1_orderCode 16 = .ok (.iaload, 1) := by decide +kernel
theorem dX1_orderCode_17 : decode cX1_orderCode 17 = .ok (.imul, 1) := by decide +kernel
theorem dX1_orderCode_18 : decode cX1_orderCode 18 = .ok (.iadd, 1) := by decide +kernel
theorem dX1_orderCode_19 : decode cX1_orderCode 19 = .ok (.aload_n 0, 1) := by decide +kernel
theorem dX1_orderCode_20 : decode cX1_orderCode 20 = .ok (.getfield 24, 3) := by decide +kernel
theorem dX1_orderCode_23 : decode cX1_orderCode 23 = .ok (.iconst 2, 1) := by decide +kernel
theorem dX1_orderCode_24 : decode cX1_orderCode 24 = .ok (.iaload, 1) := by decide +kernel
theorem dX1_orderCode_25 : decode cX1_orderCode 25 = .ok (.iadd, 1) := by decide +kernel
theorem dX1_orderCode_26 : decode cX1_orderCode 26 = .ok (.ireturn, 1) := by decide +kernel
theorem dX1_reorder_0 : decode cX1_reorder 0 = .ok (.aload_n 0, 1) := by decide +kernel
theorem dX1_reorder_1 : decode cX1_reorder 1 = .ok (.getfield 24, 3) := by decide +kernel
theorem dX1_reorder_4 : decode cX1_reorder 4 = .ok (.iconst 0, 1) := by decide +kernel
theorem dX1_reorder_5 : decode cX1_reorder 5 = .ok (.iload_n 1, 1) := by decide +kernel
theorem dX1_reorder_6 : decode cX1_reorder 6 = .ok (.iastore, 1) := by decide +kernel
theorem dX1_reorder_7 : decode cX1_reorder 7 = .ok (.aload_n 0, 1) := by decide +kernel
theorem dX1_reorder_8 : decode cX1_reorder 8 = .ok (.getfield 24, 3) := by decide +kernel
theorem dX1_reorder_11 : decode cX1_reorder 11 = .ok (.iconst 1, 1) := by decide +kernel
theorem dX1_reorder_12 : decode cX1_reorder 12 = .ok (.iload_n 2, 1) := by decide +kernel
theorem dX1_reorder_13 : decode cX1_reorder 13 = .ok (.iastore, 1) := by decide +kernel
theorem dX1_reorder_14 : decode cX1_reorder 14 = .ok (.aload_n 0, 1) := by decide +kernel
theorem dX1_reorder_15 : decode cX1_reorder 15 = .ok (.getfield 24, 3) := by decide +kernel
theorem dX1_reorder_18 : decode cX1_reorder 18 = .ok (.iconst 2, 1) := by decide +kernel
theorem dX1_reorder_19 : decode cX1_reorder 19 = .ok (.iload_n 3, 1) := by decide +kernel
theorem dX1_reorder_20 : decode cX1_reorder 20 = .ok (.iastore, 1) := by decide +kernel
theorem dX1_reorder_21 : decode cX1_reorder 21 = .ok (.return_, 1) := by decide +kernel
set_option maxRecDepth 20000 in
theorem ggX1_alike_X8_holds : GoodIn wsX1_alike wsX8_holds := goodIn_r _ [5] (by decide +kernel) (by decide +kernel)
set_option maxRecDepth 20000 in
theorem gX1_alike_X8_holds_n35 : GoodIn wsX1_alike (wsX8_holds) := ggX1_alike_X8_holds
set_option maxRecDepth 20000 in
theorem ggX1_alike_X8_only : GoodIn wsX1_alike wsX8_only := goodIn_r _ [7] (by decide +kernel) (by decide +kernel)
set_option maxRecDepth 20000 in
theorem gX1_alike_X8_only_n45 : GoodIn wsX1_alike (wsX8_only) := ggX1_alike_X8_only
theorem dX1_alike_0 : decode cX1_alike 0 = .ok (.lconst 0, 1) := by decide +kernel
theorem dX1_alike_1 : decode cX1_alike 1 = .ok (.lstore_n 2, 1) := by decide +kernel
theorem dX1_alike_2 : decode cX1_alike 2 = .ok (.iconst 0, 1) := by decide +kernel
theorem dX1_alike_3 : decode cX1_alike 3 = .ok (.istore 4, 2) := by decide +kernel
theorem dX1_alike_5 : decode cX1_alike 5 = .ok (.iload 4, 2) := by decide +kernel
theorem dX1_alike_7 : decode cX1_alike 7 = .ok (.bipush 40, 2) := by decide +kernel
theorem dX1_alike_9 : decode cX1_alike 9 = .ok (.if_icmp .ge 45, 3) := by decide +kernel
theorem dX1_alike_12 : decode cX1_alike 12 = .ok (.aload_n 0, 1) := by decide +kernel
theorem dX1_alike_13 : decode cX1_alike 13 = .ok (.getfield 31, 3) := by decide +kernel
theorem dX1_alike_16 : decode cX1_alike 16 = .ok (.iload 4, 2) := by decide +kernel
theorem dX1_alike_18 : decode cX1_alike 18 = .ok (.invokestatic 35, 3) := by decide +kernel
theorem dX1_alike_21 : decode cX1_alike 21 = .ok (.ifCond .eq 27, 3) := by decide +kernel
theorem dX1_alike_24 : decode cX1_alike 24 = .ok (.aload_n 0, 1) := by decide +kernel
theorem dX1_alike_25 : decode cX1_alike 25 = .ok (.getfield 9, 3) := by decide +kernel
theorem dX1_alike_28 : decode cX1_alike 28 = .ok (.iload 4, 2) := by decide +kernel
theorem dX1_alike_30 : decode cX1_alike 30 = .ok (.iaload, 1) := by decide +kernel
theorem dX1_alike_31 : decode cX1_alike 31 = .ok (.aload_n 0, 1) := by decide +kernel
theorem dX1_alike_32 : decode cX1_alike 32 = .ok (.getfield 9, 3) := by decide +kernel
theorem dX1_alike_35 : decode cX1_alike 35 = .ok (.iload_n 1, 1) := by decide +kernel
theorem dX1_alike_36 : decode cX1_alike 36 = .ok (.iaload, 1) := by decide +kernel
theorem dX1_alike_37 : decode cX1_alike 37 = .ok (.if_icmp .ne 11, 3) := by decide +kernel
theorem dX1_alike_40 : decode cX1_alike 40 = .ok (.lload_n 2, 1) := by decide +kernel
theorem dX1_alike_41 : decode cX1_alike 41 = .ok (.iload 4, 2) := by decide +kernel
theorem dX1_alike_43 : decode cX1_alike 43 = .ok (.invokestatic 45, 3) := by decide +kernel
theorem dX1_alike_46 : decode cX1_alike 46 = .ok (.lor, 1) := by decide +kernel
theorem dX1_alike_47 : decode cX1_alike 47 = .ok (.lstore_n 2, 1) := by decide +kernel
theorem dX1_alike_48 : decode cX1_alike 48 = .ok (.iinc 4 1, 3) := by decide +kernel
theorem dX1_alike_51 : decode cX1_alike 51 = .ok (.goto (-46), 3) := by decide +kernel
theorem dX1_alike_54 : decode cX1_alike 54 = .ok (.lload_n 2, 1) := by decide +kernel
theorem dX1_alike_55 : decode cX1_alike 55 = .ok (.lreturn, 1) := by decide +kernel
set_option maxRecDepth 20000 in
theorem ggX1_sumOfSizes_X8_holds : GoodIn wsX1_sumOfSizes wsX8_holds := goodIn_r _ [4] (by decide +kernel) (by decide +kernel)
set_option maxRecDepth 20000 in
theorem gX1_sumOfSizes_X8_holds_n35 : GoodIn wsX1_sumOfSizes (wsX8_holds) := ggX1_sumOfSizes_X8_holds
theorem dX1_sumOfSizes_0 : decode cX1_sumOfSizes 0 = .ok (.iconst 0, 1) := by decide +kernel
theorem dX1_sumOfSizes_1 : decode cX1_sumOfSizes 1 = .ok (.istore_n 3, 1) := by decide +kernel
theorem dX1_sumOfSizes_2 : decode cX1_sumOfSizes 2 = .ok (.iconst 0, 1) := by decide +kernel
theorem dX1_sumOfSizes_3 : decode cX1_sumOfSizes 3 = .ok (.istore 4, 2) := by decide +kernel
theorem dX1_sumOfSizes_5 : decode cX1_sumOfSizes 5 = .ok (.iload 4, 2) := by decide +kernel
theorem dX1_sumOfSizes_7 : decode cX1_sumOfSizes 7 = .ok (.bipush 40, 2) := by decide +kernel
theorem dX1_sumOfSizes_9 : decode cX1_sumOfSizes 9 = .ok (.if_icmp .ge 28, 3) := by decide +kernel
theorem dX1_sumOfSizes_12 : decode cX1_sumOfSizes 12 = .ok (.lload_n 1, 1) := by decide +kernel
theorem dX1_sumOfSizes_13 : decode cX1_sumOfSizes 13 = .ok (.iload 4, 2) := by decide +kernel
theorem dX1_sumOfSizes_15 : decode cX1_sumOfSizes 15 = .ok (.invokestatic 35, 3) := by decide +kernel
theorem dX1_sumOfSizes_18 : decode cX1_sumOfSizes 18 = .ok (.ifCond .eq 13, 3) := by decide +kernel
theorem dX1_sumOfSizes_21 : decode cX1_sumOfSizes 21 = .ok (.iload_n 3, 1) := by decide +kernel
theorem dX1_sumOfSizes_22 : decode cX1_sumOfSizes 22 = .ok (.aload_n 0, 1) := by decide +kernel
theorem dX1_sumOfSizes_23 : decode cX1_sumOfSizes 23 = .ok (.getfield 15, 3) := by decide +kernel
theorem dX1_sumOfSizes_26 : decode cX1_sumOfSizes 26 = .ok (.iload 4, 2) := by decide +kernel
theorem dX1_sumOfSizes_28 : decode cX1_sumOfSizes 28 = .ok (.iaload, 1) := by decide +kernel
theorem dX1_sumOfSizes_29 : decode cX1_sumOfSizes 29 = .ok (.iadd, 1) := by decide +kernel
theorem dX1_sumOfSizes_30 : decode cX1_sumOfSizes 30 = .ok (.istore_n 3, 1) := by decide +kernel
theorem dX1_sumOfSizes_31 : decode cX1_sumOfSizes 31 = .ok (.iinc 4 1, 3) := by decide +kernel
theorem dX1_sumOfSizes_34 : decode cX1_sumOfSizes 34 = .ok (.goto (-29), 3) := by decide +kernel
theorem dX1_sumOfSizes_37 : decode cX1_sumOfSizes 37 = .ok (.iload_n 3, 1) := by decide +kernel
theorem dX1_sumOfSizes_38 : decode cX1_sumOfSizes 38 = .ok (.ireturn, 1) := by decide +kernel
set_option maxRecDepth 20000 in
theorem ggX1_absorb_X8_holds : GoodIn wsX1_absorb wsX8_holds := goodIn_r _ [3] (by decide +kernel) (by decide +kernel)
set_option maxRecDepth 20000 in
theorem gX1_absorb_X8_holds_n35 : GoodIn wsX1_absorb (wsX8_holds) := ggX1_absorb_X8_holds
set_option maxRecDepth 20000 in
theorem ggX1_absorb_X1_absorbOne : GoodIn wsX1_absorb wsX1_absorbOne := goodIn_r _ [8, 9, 10, 11, 7, 12, 13, 14, 15, 16, 17, 18, 19, 20, 21, 22, 23, 24, 25, 26, 27, 28, 29] (by decide +kernel) (by decide +kernel)
set_option maxRecDepth 20000 in
theorem gX1_absorb_X1_absorbOne : GoodIn wsX1_absorb (wsV RX1 77 RX1 yX1_absorbOne wsX1_absorbOne) := goodIn_app (goodIn_of _ (by decide +kernel)) ggX1_absorb_X1_absorbOne
theorem dX1_absorb_0 : decode cX1_absorb 0 = .ok (.iconst 0, 1) := by decide +kernel
theorem dX1_absorb_1 : decode cX1_absorb 1 = .ok (.istore 4, 2) := by decide +kernel
theorem dX1_absorb_3 : decode cX1_absorb 3 = .ok (.iload 4, 2) := by decide +kernel
theorem dX1_absorb_5 : decode cX1_absorb 5 = .ok (.bipush 40, 2) := by decide +kernel
theorem dX1_absorb_7 : decode cX1_absorb 7 = .ok (.if_icmp .ge 25, 3) := by decide +kernel
theorem dX1_absorb_10 : decode cX1_absorb 10 = .ok (.lload_n 2, 1) := by decide +kernel
theorem dX1_absorb_11 : decode cX1_absorb 11 = .ok (.iload 4, 2) := by decide +kernel
theorem dX1_absorb_13 : decode cX1_absorb 13 = .ok (.invokestatic 35, 3) := by decide +kernel
theorem dX1_absorb_16 : decode cX1_absorb 16 = .ok (.ifCond .eq 10, 3) := by decide +kernel
theorem dX1_absorb_19 : decode cX1_absorb 19 = .ok (.aload_n 0, 1) := by decide +kernel
theorem dX1_absorb_20 : decode cX1_absorb 20 = .ok (.iload_n 1, 1) := by decide +kernel
theorem dX1_absorb_21 : decode cX1_absorb 21 = .ok (.iload 4, 2) := by decide +kernel
theorem dX1_absorb_23 : decode cX1_absorb 23 = .ok (.invokevirtual 77, 3) := by decide +kernel
theorem dX1_absorb_26 : decode cX1_absorb 26 = .ok (.iinc 4 1, 3) := by decide +kernel
theorem dX1_absorb_29 : decode cX1_absorb 29 = .ok (.goto (-26), 3) := by decide +kernel
theorem dX1_absorb_32 : decode cX1_absorb 32 = .ok (.return_, 1) := by decide +kernel
set_option maxRecDepth 20000 in
theorem ggX1_absorbOne_X1_told : GoodIn wsX1_absorbOne wsX1_told := goodIn_r _ [5, 6, 7, 8, 4, 9, 17, 18, 19, 20, 21, 22] (by decide +kernel) (by decide +kernel)
set_option maxRecDepth 20000 in
theorem gX1_absorbOne_X1_told : GoodIn wsX1_absorbOne (wsV RX1 61 RX1 yX1_told wsX1_told) := goodIn_app (goodIn_of _ (by decide +kernel)) ggX1_absorbOne_X1_told
set_option maxRecDepth 20000 in
theorem ggX1_absorbOne_X1_tell : GoodIn wsX1_absorbOne wsX1_tell := goodIn_r _ [13, 6, 7, 8, 4, 9, 17, 18, 19, 20, 21, 22] (by decide +kernel) (by decide +kernel)
set_option maxRecDepth 20000 in
theorem gX1_absorbOne_X1_tell : GoodIn wsX1_absorbOne (wsV RX1 81 RX1 yX1_tell wsX1_tell) := goodIn_app (goodIn_of _ (by decide +kernel)) ggX1_absorbOne_X1_tell
set_option maxRecDepth 20000 in
theorem ggX1_absorbOne_X1_union : GoodIn wsX1_absorbOne wsX1_union := goodIn_r _ [16] (by decide +kernel) (by decide +kernel)
set_option maxRecDepth 20000 in
theorem gX1_absorbOne_X1_union : GoodIn wsX1_absorbOne (va_wsS RX1 85 yX1_union wsX1_union) := goodIn_app (goodIn_of _ (by decide +kernel)) ggX1_absorbOne_X1_union
theorem dX1_absorbOne_0 : decode cX1_absorbOne 0 = .ok (.iconst 0, 1) := by decide +kernel
theorem dX1_absorbOne_1 : decode cX1_absorbOne 1 = .ok (.istore_n 3, 1) := by decide +kernel
theorem dX1_absorbOne_2 : decode cX1_absorbOne 2 = .ok (.iload_n 3, 1) := by decide +kernel
theorem dX1_absorbOne_3 : decode cX1_absorbOne 3 = .ok (.iconst 3, 1) := by decide +kernel
theorem dX1_absorbOne_4 : decode cX1_absorbOne 4 = .ok (.if_icmp .ge 76, 3) := by decide +kernel
theorem dX1_absorbOne_7 : decode cX1_absorbOne 7 = .ok (.iconst 0, 1) := by decide +kernel
theorem dX1_absorbOne_8 : decode cX1_absorbOne 8 = .ok (.istore 4, 2) := by decide +kernel
theorem dX1_absorbOne_10 : decode cX1_absorbOne 10 = .ok (.iload 4, 2) := by decide +kernel
theorem dX1_absorbOne_12 : decode cX1_absorbOne 12 = .ok (.iconst 4, 1) := by decide +kernel
theorem dX1_absorbOne_13 : decode cX1_absorbOne 13 = .ok (.if_icmp .gt 37, 3) := by decide +kernel
theorem dX1_absorbOne_16 : decode cX1_absorbOne 16 = .ok (.aload_n 0, 1) := by decide +kernel
theorem dX1_absorbOne_17 : decode cX1_absorbOne 17 = .ok (.iload_n 1, 1) := by decide +kernel
theorem dX1_absorbOne_18 : decode cX1_absorbOne 18 = .ok (.iload_n 3, 1) := by decide +kernel
theorem dX1_absorbOne_19 : decode cX1_absorbOne 19 = .ok (.iload 4, 2) := by decide +kernel
theorem dX1_absorbOne_21 : decode cX1_absorbOne 21 = .ok (.invokevirtual 61, 3) := by decide +kernel
theorem dX1_absorbOne_24 : decode cX1_absorbOne 24 = .ok (.iconst (-1), 1) := by decide +kernel
theorem dX1_absorbOne_25 : decode cX1_absorbOne 25 = .ok (.if_icmp .ne 19, 3) := by decide +kernel
theorem dX1_absorbOne_28 : decode cX1_absorbOne 28 = .ok (.aload_n 0, 1) := by decide +kernel
theorem dX1_absorbOne_29 : decode cX1_absorbOne 29 = .ok (.iload_n 1, 1) := by decide +kernel
theorem dX1_absorbOne_30 : decode cX1_absorbOne 30 = .ok (.iload_n 3, 1) := by decide +kernel
theorem dX1_absorbOne_31 : decode cX1_absorbOne 31 = .ok (.iload 4, 2) := by decide +kernel
theorem dX1_absorbOne_33 : decode cX1_absorbOne 33 = .ok (.aload_n 0, 1) := by decide +kernel
theorem dX1_absorbOne_34 : decode cX1_absorbOne 34 = .ok (.iload_n 2, 1) := by decide +kernel
theorem dX1_absorbOne_35 : decode cX1_absorbOne 35 = .ok (.iload_n 3, 1) := by decide +kernel
theorem dX1_absorbOne_36 : decode cX1_absorbOne 36 = .ok (.iload 4, 2) := by decide +kernel
theorem dX1_absorbOne_38 : decode cX1_absorbOne 38 = .ok (.invokevirtual 61, 3) := by decide +kernel
theorem dX1_absorbOne_41 : decode cX1_absorbOne 41 = .ok (.invokevirtual 81, 3) := by decide +kernel
theorem dX1_absorbOne_44 : decode cX1_absorbOne 44 = .ok (.iinc 4 1, 3) := by decide +kernel
theorem dX1_absorbOne_47 : decode cX1_absorbOne 47 = .ok (.goto (-37), 3) := by decide +kernel
theorem dX1_absorbOne_50 : decode cX1_absorbOne 50 = .ok (.aload_n 0, 1) := by decide +kernel
theorem dX1_absorbOne_51 : decode cX1_absorbOne 51 = .ok (.iload_n 1, 1) := by decide +kernel
theorem dX1_absorbOne_52 : decode cX1_absorbOne 52 = .ok (.iload_n 3, 1) := by decide +kernel
theorem dX1_absorbOne_53 : decode cX1_absorbOne 53 = .ok (.iconst 5, 1) := by decide +kernel
theorem dX1_absorbOne_54 : decode cX1_absorbOne 54 = .ok (.aload_n 0, 1) := by decide +kernel
theorem dX1_absorbOne_55 : decode cX1_absorbOne 55 = .ok (.iload_n 1, 1) := by decide +kernel
theorem dX1_absorbOne_56 : decode cX1_absorbOne 56 = .ok (.iload_n 3, 1) := by decide +kernel
theorem dX1_absorbOne_57 : decode cX1_absorbOne 57 = .ok (.iconst 5, 1) := by decide +kernel
theorem dX1_absorbOne_58 : decode cX1_absorbOne 58 = .ok (.invokevirtual 61, 3) := by decide +kernel
theorem dX1_absorbOne_61 : decode cX1_absorbOne 61 = .ok (.aload_n 0, 1) := by decide +kernel
theorem dX1_absorbOne_62 : decode cX1_absorbOne 62 = .ok (.iload_n 2, 1) := by decide +kernel
theorem dX1_absorbOne_63 : decode cX1_absorbOne 63 = .ok (.iload_n 3, 1) := by decide +kernel
theorem dX1_absorbOne_64 : decode cX1_absorbOne 64 = .ok (.iconst 5, 1) := by decide +kernel
theorem dX1_absorbOne_65 : decode cX1_absorbOne 65 = .ok (.invokevirtual 61, 3) := by decide +kernel
theorem dX1_absorbOne_68 : decode cX1_absorbOne 68 = .ok (.invokestatic 85, 3) := by decide +kernel
theorem dX1_absorbOne_71 : decode cX1_absorbOne 71 = .ok (.invokevirtual 81, 3) := by decide +kernel
theorem dX1_absorbOne_74 : decode cX1_absorbOne 74 = .ok (.iinc 3 1, 3) := by decide +kernel
theorem dX1_absorbOne_77 : decode cX1_absorbOne 77 = .ok (.goto (-75), 3) := by decide +kernel
theorem dX1_absorbOne_80 : decode cX1_absorbOne 80 = .ok (.return_, 1) := by decide +kernel
theorem dX1_union_0 : decode cX1_union 0 = .ok (.iload_n 0, 1) := by decide +kernel
theorem dX1_union_1 : decode cX1_union 1 = .ok (.iconst (-1), 1) := by decide +kernel
theorem dX1_union_2 : decode cX1_union 2 = .ok (.if_icmp .ne 5, 3) := by decide +kernel
theorem dX1_union_5 : decode cX1_union 5 = .ok (.iload_n 1, 1) := by decide +kernel
theorem dX1_union_6 : decode cX1_union 6 = .ok (.ireturn, 1) := by decide +kernel
theorem dX1_union_7 : decode cX1_union 7 = .ok (.iload_n 1, 1) := by decide +kernel
theorem dX1_union_8 : decode cX1_union 8 = .ok (.iconst (-1), 1) := by decide +kernel
theorem dX1_union_9 : decode cX1_union 9 = .ok (.if_icmp .ne 7, 3) := by decide +kernel
theorem dX1_union_12 : decode cX1_union 12 = .ok (.iload_n 0, 1) := by decide +kernel
theorem dX1_union_13 : decode cX1_union 13 = .ok (.goto 6, 3) := by decide +kernel
theorem dX1_union_16 : decode cX1_union 16 = .ok (.iload_n 0, 1) := by decide +kernel
theorem dX1_union_17 : decode cX1_union 17 = .ok (.iload_n 1, 1) := by decide +kernel
theorem dX1_union_18 : decode cX1_union 18 = .ok (.ior, 1) := by decide +kernel
theorem dX1_union_19 : decode cX1_union 19 = .ok (.ireturn, 1) := by decide +kernel
theorem dX1_slot_0 : decode cX1_slot 0 = .ok (.iload_n 0, 1) := by decide +kernel
theorem dX1_slot_1 : decode cX1_slot 1 = .ok (.iconst 3, 1) := by decide +kernel
theorem dX1_slot_2 : decode cX1_slot 2 = .ok (.imul, 1) := by decide +kernel
theorem dX1_slot_3 : decode cX1_slot 3 = .ok (.iload_n 1, 1) := by decide +kernel
theorem dX1_slot_4 : decode cX1_slot 4 = .ok (.iadd, 1) := by decide +kernel
theorem dX1_slot_5 : decode cX1_slot 5 = .ok (.bipush 6, 2) := by decide +kernel
theorem dX1_slot_7 : decode cX1_slot 7 = .ok (.imul, 1) := by decide +kernel
theorem dX1_slot_8 : decode cX1_slot 8 = .ok (.iload_n 2, 1) := by decide +kernel
theorem dX1_slot_9 : decode cX1_slot 9 = .ok (.iadd, 1) := by decide +kernel
theorem dX1_slot_10 : decode cX1_slot 10 = .ok (.ireturn, 1) := by decide +kernel
theorem dX2_init_0 : decode cX2_init 0 = .ok (.aload_n 0, 1) := by decide +kernel
theorem dX2_init_1 : decode cX2_init 1 = .ok (.invokespecial 3, 3) := by decide +kernel
theorem dX2_init_4 : decode cX2_init 4 = .ok (.aload_n 0, 1) := by decide +kernel
theorem dX2_init_5 : decode cX2_init 5 = .ok (.aload_n 1, 1) := by decide +kernel
theorem dX2_init_6 : decode cX2_init 6 = .ok (.putfield 9, 3) := by decide +kernel
theorem dX2_init_9 : decode cX2_init 9 = .ok (.return_, 1) := by decide +kernel
theorem dX2_keepers_0 : decode cX2_keepers 0 = .ok (.aload_n 0, 1) := by decide +kernel
theorem dX2_keepers_1 : decode cX2_keepers 1 = .ok (.getfield 15, 3) := by decide +kernel
theorem dX2_keepers_4 : decode cX2_keepers 4 = .ok (.lreturn, 1) := by decide +kernel
theorem dX2_duplicates_0 : decode cX2_duplicates 0 = .ok (.aload_n 0, 1) := by decide +kernel
theorem dX2_duplicates_1 : decode cX2_duplicates 1 = .ok (.getfield 19, 3) := by decide +kernel
theorem dX2_duplicates_4 : decode cX2_duplicates 4 = .ok (.lreturn, 1) := by decide +kernel
set_option maxRecDepth 20000 in
theorem ggX2_keeper_X1_alike : GoodIn wsX2_keeper wsX1_alike := goodIn_r _ [6, 7, 8, 9, 10, 11, 12, 13, 35, 36, 37, 38, 39, 40] (by decide +kernel) (by decide +kernel)
set_option maxRecDepth 20000 in
theorem gX2_keeper_X1_alike : GoodIn wsX2_keeper (wsV RX2 22 RX1 yX1_alike wsX1_alike) := goodIn_app (goodIn_of _ (by decide +kernel)) ggX2_keeper_X1_alike
set_option maxRecDepth 20000 in
theorem ggX2_keeper_X2_preferred : GoodIn wsX2_keeper wsX2_preferred := goodIn_r _ [18, 9, 10, 11, 19, 20, 21, 17, 22, 1, 23, 24, 25, 5, 26, 27, 28, 29, 30, 31, 32, 33, 34, 35, 36, 37, 38, 39, 40] (by decide +kernel) (by decide +kernel)
set_option maxRecDepth 20000 in
theorem gX2_keeper_X2_preferred : GoodIn wsX2_keeper (wsV RX2 28 RX2 yX2_preferred wsX2_preferred) := goodIn_app (goodIn_of _ (by decide +kernel)) ggX2_keeper_X2_preferred
theorem dX2_keeper_0 : decode cX2_keeper 0 = .ok (.aload_n 0, 1) := by decide +kernel
theorem dX2_keeper_1 : decode cX2_keeper 1 = .ok (.aload_n 0, 1) := by decide +kernel
theorem dX2_keeper_2 : decode cX2_keeper 2 = .ok (.getfield 9, 3) := by decide +kernel
theorem dX2_keeper_5 : decode cX2_keeper 5 = .ok (.iload_n 1, 1) := by decide +kernel
theorem dX2_keeper_6 : decode cX2_keeper 6 = .ok (.invokevirtual 22, 3) := by decide +kernel
theorem dX2_keeper_9 : decode cX2_keeper 9 = .ok (.invokevirtual 28, 3) := by decide +kernel
theorem dX2_keeper_12 : decode cX2_keeper 12 = .ok (.ireturn, 1) := by decide +kernel
set_option maxRecDepth 20000 in
theorem ggX2_regroup_X1_all : GoodIn wsX2_regroup wsX1_all := goodIn_r _ [9, 10, 49, 50, 51, 52, 53, 54] (by decide +kernel) (by decide +kernel)
set_option maxRecDepth 20000 in
theorem gX2_regroup_X1_all : GoodIn wsX2_regroup (wsV RX2 32 RX1 yX1_all wsX1_all) := goodIn_app (goodIn_of _ (by decide +kernel)) ggX2_regroup_X1_all
set_option maxRecDepth 20000 in
theorem ggX2_regroup_X8_holds : GoodIn wsX2_regroup wsX8_holds := goodIn_r _ [13] (by decide +kernel) (by decide +kernel)
set_option maxRecDepth 20000 in
theorem gX2_regroup_X8_holds_n36 : GoodIn wsX2_regroup (wsX8_holds) := ggX2_regroup_X8_holds
set_option maxRecDepth 20000 in
theorem ggX2_regroup_X1_alike : GoodIn wsX2_regroup wsX1_alike := goodIn_r _ [17, 10, 18, 11, 12, 13, 19, 20, 49, 50, 51, 52, 53, 54] (by decide +kernel) (by decide +kernel)
set_option maxRecDepth 20000 in
theorem gX2_regroup_X1_alike : GoodIn wsX2_regroup (wsV RX2 22 RX1 yX1_alike wsX1_alike) := goodIn_app (goodIn_of _ (by decide +kernel)) ggX2_regroup_X1_alike
set_option maxRecDepth 20000 in
theorem ggX2_regroup_X2_preferred : GoodIn wsX2_regroup wsX2_preferred := goodIn_r _ [25, 11, 12, 13, 26, 27, 28, 24, 29, 3, 30, 31, 32, 8, 33, 34, 35, 36, 37, 38, 46, 47, 48, 49, 50, 51, 52, 53, 54] (by decide +kernel) (by decide +kernel)
set_option maxRecDepth 20000 in
theorem gX2_regroup_X2_preferred : GoodIn wsX2_regroup (wsV RX2 28 RX2 yX2_preferred wsX2_preferred) := goodIn_app (goodIn_of _ (by decide +kernel)) ggX2_regroup_X2_preferred
set_option maxRecDepth 20000 in
theorem ggX2_regroup_X8_only : GoodIn wsX2_regroup wsX8_only := goodIn_r _ [20] (by decide +kernel) (by decide +kernel)
set_option maxRecDepth 20000 in
theorem gX2_regroup_X8_only_n40 : GoodIn wsX2_regroup (wsX8_only) := ggX2_regroup_X8_only
set_option maxRecDepth 20000 in
theorem ggX2_regroup_J13_bitCount_95d88 : GoodIn wsX2_regroup wsJ13_bitCount_95d88 := goodIn_r _ [42, 43, 44, 45] (by decide +kernel) (by decide +kernel)
set_option maxRecDepth 20000 in
theorem gX2_regroup_J13_bitCount_95d88 : GoodIn wsX2_regroup (va_wsS RX2 43 yJ13_bitCount_95d88 wsJ13_bitCount_95d88) := goodIn_app (goodIn_of _ (by decide +kernel)) ggX2_regroup_J13_bitCount_95d88
theorem dX2_regroup_0 : decode cX2_regroup 0 = .ok (.aload_n 0, 1) := by decide +kernel
theorem dX2_regroup_1 : decode cX2_regroup 1 = .ok (.lconst 0, 1) := by decide +kernel
theorem dX2_regroup_2 : decode cX2_regroup 2 = .ok (.putfield 15, 3) := by decide +kernel
theorem dX2_regroup_5 : decode cX2_regroup 5 = .ok (.aload_n 0, 1) := by decide +kernel
theorem dX2_regroup_6 : decode cX2_regroup 6 = .ok (.lconst 0, 1) := by decide +kernel
theorem dX2_regroup_7 : decode cX2_regroup 7 = .ok (.putfield 19, 3) := by decide +kernel
theorem dX2_regroup_10 : decode cX2_regroup 10 = .ok (.aload_n 0, 1) := by decide +kernel
theorem dX2_regroup_11 : decode cX2_regroup 11 = .ok (.getfield 9, 3) := by decide +kernel
theorem dX2_regroup_14 : decode cX2_regroup 14 = .ok (.invokevirtual 32, 3) := by decide +kernel
theorem dX2_regroup_17 : decode cX2_regroup 17 = .ok (.lstore_n 1, 1) := by decide +kernel
theorem dX2_regroup_18 : decode cX2_regroup 18 = .ok (.iconst 0, 1) := by decide +kernel
theorem dX2_regroup_19 : decode cX2_regroup 19 = .ok (.istore_n 3, 1) := by decide +kernel
theorem dX2_regroup_20 : decode cX2_regroup 20 = .ok (.iload_n 3, 1) := by decide +kernel
theorem dX2_regroup_21 : decode cX2_regroup 21 = .ok (.bipush 40, 2) := by decide +kernel
theorem dX2_regroup_23 : decode cX2_regroup 23 = .ok (.if_icmp .ge 74, 3) := by decide +kernel
theorem dX2_regroup_26 : decode cX2_regroup 26 = .ok (.lload_n 1, 1) := by decide +kernel
theorem dX2_regroup_27 : decode cX2_regroup 27 = .ok (.iload_n 3, 1) := by decide +kernel
theorem dX2_regroup_28 : decode cX2_regroup 28 = .ok (.invokestatic 36, 3) := by decide +kernel
theorem dX2_regroup_31 : decode cX2_regroup 31 = .ok (.ifCond .eq 60, 3) := by decide +kernel
theorem dX2_regroup_34 : decode cX2_regroup 34 = .ok (.aload_n 0, 1) := by decide +kernel
theorem dX2_regroup_35 : decode cX2_regroup 35 = .ok (.getfield 9, 3) := by decide +kernel
theorem dX2_regroup_38 : decode cX2_regroup 38 = .ok (.iload_n 3, 1) := by decide +kernel
theorem dX2_regroup_39 : decode cX2_regroup 39 = .ok (.invokevirtual 22, 3) := by decide +kernel
theorem dX2_regroup_42 : decode cX2_regroup 42 = .ok (.lstore 4, 2) := by decide +kernel
theorem dX2_regroup_44 : decode cX2_regroup 44 = .ok (.aload_n 0, 1) := by decide +kernel
theorem dX2_regroup_45 : decode cX2_regroup 45 = .ok (.dup, 1) := by decide +kernel
theorem dX2_regroup_46 : decode cX2_regroup 46 = .ok (.getfield 15, 3) := by decide +kernel
theorem dX2_regroup_49 : decode cX2_regroup 49 = .ok (.aload_n 0, 1) := by decide +kernel
theorem dX2_regroup_50 : decode cX2_regroup 50 = .ok (.lload 4, 2) := by decide +kernel
theorem dX2_regroup_52 : decode cX2_regroup 52 = .ok (.invokevirtual 28, 3) := by decide +kernel
theorem dX2_regroup_55 : decode cX2_regroup 55 = .ok (.invokestatic 40, 3) := by decide +kernel
theorem dX2_regroup_58 : decode cX2_regroup 58 = .ok (.lor, 1) := by decide +kernel
theorem dX2_regroup_59 : decode cX2_regroup 59 = .ok (.putfield 15, 3) := by decide +kernel
theorem dX2_regroup_62 : decode cX2_regroup 62 = .ok (.lload 4, 2) := by decide +kernel
theorem dX2_regroup_64 : decode cX2_regroup 64 = .ok (.invokestatic 43, 3) := by decide +kernel
theorem dX2_regroup_67 : decode cX2_regroup 67 = .ok (.iconst 1, 1) := by decide +kernel
theorem dX2_regroup_68 : decode cX2_regroup 68 = .ok (.if_icmp .le 14, 3) := by decide +kernel
theorem dX2_regroup_71 : decode cX2_regroup 71 = .ok (.aload_n 0, 1) := by decide +kernel
theorem dX2_regroup_72 : decode cX2_regroup 72 = .ok (.dup, 1) := by decide +kernel
theorem dX2_regroup_73 : decode cX2_regroup 73 = .ok (.getfield 19, 3) := by decide +kernel
theorem dX2_regroup_76 : decode cX2_regroup 76 = .ok (.lload 4, 2) := by decide +kernel
theorem dX2_regroup_78 : decode cX2_regroup 78 = .ok (.lor, 1) := by decide +kernel
theorem dX2_regroup_79 : decode cX2_regroup 79 = .ok (.putfield 19, 3) := by decide +kernel
theorem dX2_regroup_82 : decode cX2_regroup 82 = .ok (.lload_n 1, 1) := by decide +kernel
theorem dX2_regroup_83 : decode cX2_regroup 83 = .ok (.lload 4, 2) := by decide +kernel
theorem dX2_regroup_85 : decode cX2_regroup 85 = .ok (.ldc2_w 48, 3) := by decide +kernel
theorem dX2_regroup_88 : decode cX2_regroup 88 = .ok (.lxor, 1) := by decide +kernel
theorem dX2_regroup_89 : decode cX2_regroup 89 = .ok (.land, 1) := by decide +kernel
theorem dX2_regroup_90 : decode cX2_regroup 90 = .ok (.lstore_n 1, 1) := by decide +kernel
theorem dX2_regroup_91 : decode cX2_regroup 91 = .ok (.iinc 3 1, 3) := by decide +kernel
theorem dX2_regroup_94 : decode cX2_regroup 94 = .ok (.goto (-74), 3) := by decide +kernel
theorem dX2_regroup_97 : decode cX2_regroup 97 = .ok (.return_, 1) := by decide +kernel
set_option maxRecDepth 20000 in
theorem ggX2_preferred_X8_holds : GoodIn wsX2_preferred wsX8_holds := goodIn_r _ [3] (by decide +kernel) (by decide +kernel)
set_option maxRecDepth 20000 in
theorem gX2_preferred_X8_holds_n36 : GoodIn wsX2_preferred (wsX8_holds) := ggX2_preferred_X8_holds
set_option maxRecDepth 20000 in
theorem ggX2_preferred_X2_beats : GoodIn wsX2_preferred wsX2_beats := goodIn_r _ [8, 9, 10, 11, 12, 13, 14, 15, 16, 17, 18, 7, 19, 20, 21, 22, 23, 24, 25, 26, 27, 28] (by decide +kernel) (by decide +kernel)
set_option maxRecDepth 20000 in
theorem gX2_preferred_X2_beats : GoodIn wsX2_preferred (wsV RX2 50 RX2 yX2_beats wsX2_beats) := goodIn_app (goodIn_of _ (by decide +kernel)) ggX2_preferred_X2_beats
theorem dX2_preferred_0 : decode cX2_preferred 0 = .ok (.iconst (-1), 1) := by decide +kernel
theorem dX2_preferred_1 : decode cX2_preferred 1 = .ok (.istore_n 3, 1) := by decide +kernel
theorem dX2_preferred_2 : decode cX2_preferred 2 = .ok (.iconst 0, 1) := by decide +kernel
theorem dX2_preferred_3 : decode cX2_preferred 3 = .ok (.istore 4, 2) := by decide +kernel
theorem dX2_preferred_5 : decode cX2_preferred 5 = .ok (.iload 4, 2) := by decide +kernel
theorem dX2_preferred_7 : decode cX2_preferred 7 = .ok (.bipush 40, 2) := by decide +kernel
theorem dX2_preferred_9 : decode cX2_preferred 9 = .ok (.if_icmp .ge 36, 3) := by decide +kernel
theorem dX2_preferred_12 : decode cX2_preferred 12 = .ok (.lload_n 1, 1) := by decide +kernel
theorem dX2_preferred_13 : decode cX2_preferred 13 = .ok (.iload 4, 2) := by decide +kernel
theorem dX2_preferred_15 : decode cX2_preferred 15 = .ok (.invokestatic 36, 3) := by decide +kernel
theorem dX2_preferred_18 : decode cX2_preferred 18 = .ok (.ifCond .eq 21, 3) := by decide +kernel
theorem dX2_preferred_21 : decode cX2_preferred 21 = .ok (.iload_n 3, 1) := by decide +kernel
theorem dX2_preferred_22 : decode cX2_preferred 22 = .ok (.iconst (-1), 1) := by decide +kernel
theorem dX2_preferred_23 : decode cX2_preferred 23 = .ok (.if_icmp .eq 13, 3) := by decide +kernel
theorem dX2_preferred_26 : decode cX2_preferred 26 = .ok (.aload_n 0, 1) := by decide +kernel
theorem dX2_preferred_27 : decode cX2_preferred 27 = .ok (.iload 4, 2) := by decide +kernel
theorem dX2_preferred_29 : decode cX2_preferred 29 = .ok (.iload_n 3, 1) := by decide +kernel
theorem dX2_preferred_30 : decode cX2_preferred 30 = .ok (.invokevirtual 50, 3) := by decide +kernel
theorem dX2_preferred_33 : decode cX2_preferred 33 = .ok (.ifCond .eq 6, 3) := by decide +kernel
theorem dX2_preferred_36 : decode cX2_preferred 36 = .ok (.iload 4, 2) := by decide +kernel
theorem dX2_preferred_38 : decode cX2_preferred 38 = .ok (.istore_n 3, 1) := by decide +kernel
theorem dX2_preferred_39 : decode cX2_preferred 39 = .ok (.iinc 4 1, 3) := by decide +kernel
theorem dX2_preferred_42 : decode cX2_preferred 42 = .ok (.goto (-37), 3) := by decide +kernel
theorem dX2_preferred_45 : decode cX2_preferred 45 = .ok (.iload_n 3, 1) := by decide +kernel
theorem dX2_preferred_46 : decode cX2_preferred 46 = .ok (.ireturn, 1) := by decide +kernel
set_option maxRecDepth 20000 in
theorem ggX2_beats_X1_settledValue : GoodIn wsX2_beats wsX1_settledValue := goodIn_r _ [6, 7, 16, 17, 18, 19, 20, 21] (by decide +kernel) (by decide +kernel)
set_option maxRecDepth 20000 in
theorem gX2_beats_X1_settledValue : GoodIn wsX2_beats (wsV RX2 54 RX1 yX1_settledValue wsX1_settledValue) := goodIn_app (goodIn_of _ (by decide +kernel)) ggX2_beats_X1_settledValue
set_option maxRecDepth 20000 in
theorem ggX2_beats_X2_yearOf : GoodIn wsX2_beats wsX2_yearOf := goodIn_r _ [12, 1, 2, 3, 4, 5, 6, 7, 13, 14, 15, 16, 17, 18, 19, 20, 21] (by decide +kernel) (by decide +kernel)
set_option maxRecDepth 20000 in
theorem gX2_beats_X2_yearOf : GoodIn wsX2_beats (wsV RX2 58 RX2 yX2_yearOf wsX2_yearOf) := goodIn_app (goodIn_of _ (by decide +kernel)) ggX2_beats_X2_yearOf
theorem dX2_beats_0 : decode cX2_beats 0 = .ok (.aload_n 0, 1) := by decide +kernel
theorem dX2_beats_1 : decode cX2_beats 1 = .ok (.getfield 9, 3) := by decide +kernel
theorem dX2_beats_4 : decode cX2_beats 4 = .ok (.iload_n 1, 1) := by decide +kernel
theorem dX2_beats_5 : decode cX2_beats 5 = .ok (.iconst 1, 1) := by decide +kernel
theorem dX2_beats_6 : decode cX2_beats 6 = .ok (.invokevirtual 54, 3) := by decide +kernel
theorem dX2_beats_9 : decode cX2_beats 9 = .ok (.istore_n 3, 1) := by decide +kernel
theorem dX2_beats_10 : decode cX2_beats 10 = .ok (.aload_n 0, 1) := by decide +kernel
theorem dX2_beats_11 : decode cX2_beats 11 = .ok (.getfield 9, 3) := by decide +kernel
theorem dX2_beats_14 : decode cX2_beats 14 = .ok (.iload_n 2, 1) := by decide +kernel
theorem dX2_beats_15 : decode cX2_beats 15 = .ok (.iconst 1, 1) := by decide +kernel
theorem dX2_beats_16 : decode cX2_beats 16 = .ok (.invokevirtual 54, 3) := by decide +kernel
theorem dX2_beats_19 : decode cX2_beats 19 = .ok (.istore 4, 2) := by decide +kernel
theorem dX2_beats_21 : decode cX2_beats 21 = .ok (.iload_n 3, 1) := by decide +kernel
theorem dX2_beats_22 : decode cX2_beats 22 = .ok (.iload 4, 2) := by decide +kernel
theorem dX2_beats_24 : decode cX2_beats 24 = .ok (.if_icmp .eq 15, 3) := by decide +kernel
theorem dX2_beats_27 : decode cX2_beats 27 = .ok (.iload_n 3, 1) := by decide +kernel
theorem dX2_beats_28 : decode cX2_beats 28 = .ok (.iload 4, 2) := by decide +kernel
theorem dX2_beats_30 : decode cX2_beats 30 = .ok (.if_icmp .le 7, 3) := by decide +kernel
theorem dX2_beats_33 : decode cX2_beats 33 = .ok (.iconst 1, 1) := by decide +kernel
theorem dX2_beats_34 : decode cX2_beats 34 = .ok (.goto 4, 3) := by decide +kernel
theorem dX2_beats_37 : decode cX2_beats 37 = .ok (.iconst 0, 1) := by decide +kernel
theorem dX2_beats_38 : decode cX2_beats 38 = .ok (.ireturn, 1) := by decide +kernel
theorem dX2_beats_39 : decode cX2_beats 39 = .ok (.aload_n 0, 1) := by decide +kernel
theorem dX2_beats_40 : decode cX2_beats 40 = .ok (.iload_n 1, 1) := by decide +kernel
theorem dX2_beats_41 : decode cX2_beats 41 = .ok (.invokevirtual 58, 3) := by decide +kernel
theorem dX2_beats_44 : decode cX2_beats 44 = .ok (.aload_n 0, 1) := by decide +kernel
theorem dX2_beats_45 : decode cX2_beats 45 = .ok (.iload_n 2, 1) := by decide +kernel
theorem dX2_beats_46 : decode cX2_beats 46 = .ok (.invokevirtual 58, 3) := by decide +kernel
theorem dX2_beats_49 : decode cX2_beats 49 = .ok (.if_icmp .ge 7, 3) := by decide +kernel
theorem dX2_beats_52 : decode cX2_beats 52 = .ok (.iconst 1, 1) := by decide +kernel
theorem dX2_beats_53 : decode cX2_beats 53 = .ok (.goto 4, 3) := by decide +kernel
theorem dX2_beats_56 : decode cX2_beats 56 = .ok (.iconst 0, 1) := by decide +kernel
theorem dX2_beats_57 : decode cX2_beats 57 = .ok (.ireturn, 1) := by decide +kernel
set_option maxRecDepth 20000 in
theorem ggX2_yearOf_X1_settledValue : GoodIn wsX2_yearOf wsX1_settledValue := goodIn_r _ [6, 7, 11, 12, 13, 14, 15, 16] (by decide +kernel) (by decide +kernel)
set_option maxRecDepth 20000 in
theorem gX2_yearOf_X1_settledValue : GoodIn wsX2_yearOf (wsV RX2 54 RX1 yX1_settledValue wsX1_settledValue) := goodIn_app (goodIn_of _ (by decide +kernel)) ggX2_yearOf_X1_settledValue
theorem dX2_yearOf_0 : decode cX2_yearOf 0 = .ok (.aload_n 0, 1) := by decide +kernel
theorem dX2_yearOf_1 : decode cX2_yearOf 1 = .ok (.getfield 9, 3) := by decide +kernel
theorem dX2_yearOf_4 : decode cX2_yearOf 4 = .ok (.iload_n 1, 1) := by decide +kernel
theorem dX2_yearOf_5 : decode cX2_yearOf 5 = .ok (.iconst 2, 1) := by decide +kernel
theorem dX2_yearOf_6 : decode cX2_yearOf 6 = .ok (.invokevirtual 54, 3) := by decide +kernel
theorem dX2_yearOf_9 : decode cX2_yearOf 9 = .ok (.istore_n 2, 1) := by decide +kernel
theorem dX2_yearOf_10 : decode cX2_yearOf 10 = .ok (.iload_n 2, 1) := by decide +kernel
theorem dX2_yearOf_11 : decode cX2_yearOf 11 = .ok (.iconst (-1), 1) := by decide +kernel
theorem dX2_yearOf_12 : decode cX2_yearOf 12 = .ok (.if_icmp .ne 9, 3) := by decide +kernel
theorem dX2_yearOf_15 : decode cX2_yearOf 15 = .ok (.sipush 9999, 3) := by decide +kernel
theorem dX2_yearOf_18 : decode cX2_yearOf 18 = .ok (.goto 4, 3) := by decide +kernel
theorem dX2_yearOf_21 : decode cX2_yearOf 21 = .ok (.iload_n 2, 1) := by decide +kernel
theorem dX2_yearOf_22 : decode cX2_yearOf 22 = .ok (.ireturn, 1) := by decide +kernel
theorem dX3_init_0 : decode cX3_init 0 = .ok (.aload_n 0, 1) := by decide +kernel
theorem dX3_init_1 : decode cX3_init 1 = .ok (.invokespecial 3, 3) := by decide +kernel
theorem dX3_init_4 : decode cX3_init 4 = .ok (.aload_n 0, 1) := by decide +kernel
theorem dX3_init_5 : decode cX3_init 5 = .ok (.bipush 24, 2) := by decide +kernel
theorem dX3_init_7 : decode cX3_init 7 = .ok (.newarray .int, 2) := by decide +kernel
theorem dX3_init_9 : decode cX3_init 9 = .ok (.putfield 9, 3) := by decide +kernel
theorem dX3_init_12 : decode cX3_init 12 = .ok (.aload_n 0, 1) := by decide +kernel
theorem dX3_init_13 : decode cX3_init 13 = .ok (.bipush 24, 2) := by decide +kernel
theorem dX3_init_15 : decode cX3_init 15 = .ok (.newarray .int, 2) := by decide +kernel
theorem dX3_init_17 : decode cX3_init 17 = .ok (.putfield 15, 3) := by decide +kernel
theorem dX3_init_20 : decode cX3_init 20 = .ok (.aload_n 0, 1) := by decide +kernel
theorem dX3_init_21 : decode cX3_init 21 = .ok (.bipush 24, 2) := by decide +kernel
theorem dX3_init_23 : decode cX3_init 23 = .ok (.newarray .boolean, 2) := by decide +kernel
theorem dX3_init_25 : decode cX3_init 25 = .ok (.putfield 18, 3) := by decide +kernel
theorem dX3_init_28 : decode cX3_init 28 = .ok (.return_, 1) := by decide +kernel
theorem dX3_length_0 : decode cX3_length 0 = .ok (.aload_n 0, 1) := by decide +kernel
theorem dX3_length_1 : decode cX3_length 1 = .ok (.getfield 22, 3) := by decide +kernel
theorem dX3_length_4 : decode cX3_length 4 = .ok (.ireturn, 1) := by decide +kernel
theorem dX3_note_0 : decode cX3_note 0 = .ok (.aload_n 0, 1) := by decide +kernel
theorem dX3_note_1 : decode cX3_note 1 = .ok (.aload_n 0, 1) := by decide +kernel
theorem dX3_note_2 : decode cX3_note 2 = .ok (.getfield 26, 3) := by decide +kernel
theorem dX3_note_5 : decode cX3_note 5 = .ok (.iconst 1, 1) := by decide +kernel
theorem dX3_note_6 : decode cX3_note 6 = .ok (.iadd, 1) := by decide +kernel
theorem dX3_note_7 : decode cX3_note 7 = .ok (.bipush 24, 2) := by decide +kernel
theorem dX3_note_9 : decode cX3_note 9 = .ok (.irem, 1) := by decide +kernel
theorem dX3_note_10 : decode cX3_note 10 = .ok (.putfield 26, 3) := by decide +kernel
theorem dX3_note_13 : decode cX3_note 13 = .ok (.aload_n 0, 1) := by decide +kernel
theorem dX3_note_14 : decode cX3_note 14 = .ok (.getfield 9, 3) := by decide +kernel
theorem dX3_note_17 : decode cX3_note 17 = .ok (.aload_n 0, 1) := by decide +kernel
theorem dX3_note_18 : decode cX3_note 18 = .ok (.getfield 26, 3) := by decide +kernel
theorem dX3_note_21 : decode cX3_note 21 = .ok (.iload_n 1, 1) := by decide +kernel
theorem dX3_note_22 : decode cX3_note 22 = .ok (.iastore, 1) := by decide +kernel
theorem dX3_note_23 : decode cX3_note 23 = .ok (.aload_n 0, 1) := by decide +kernel
theorem dX3_note_24 : decode cX3_note 24 = .ok (.getfield 15, 3) := by decide +kernel
theorem dX3_note_27 : decode cX3_note 27 = .ok (.aload_n 0, 1) := by decide +kernel
theorem dX3_note_28 : decode cX3_note 28 = .ok (.getfield 26, 3) := by decide +kernel
theorem dX3_note_31 : decode cX3_note 31 = .ok (.iload_n 2, 1) := by decide +kernel
theorem dX3_note_32 : decode cX3_note 32 = .ok (.iastore, 1) := by decide +kernel
theorem dX3_note_33 : decode cX3_note 33 = .ok (.aload_n 0, 1) := by decide +kernel
theorem dX3_note_34 : decode cX3_note 34 = .ok (.getfield 18, 3) := by decide +kernel
theorem dX3_note_37 : decode cX3_note 37 = .ok (.aload_n 0, 1) := by decide +kernel
theorem dX3_note_38 : decode cX3_note 38 = .ok (.getfield 26, 3) := by decide +kernel
theorem dX3_note_41 : decode cX3_note 41 = .ok (.iload_n 3, 1) := by decide +kernel
theorem dX3_note_42 : decode cX3_note 42 = .ok (.bastore, 1) := by decide +kernel
theorem dX3_note_43 : decode cX3_note 43 = .ok (.aload_n 0, 1) := by decide +kernel
theorem dX3_note_44 : decode cX3_note 44 = .ok (.aload_n 0, 1) := by decide +kernel
theorem dX3_note_45 : decode cX3_note 45 = .ok (.getfield 22, 3) := by decide +kernel
theorem dX3_note_48 : decode cX3_note 48 = .ok (.iconst 1, 1) := by decide +kernel
theorem dX3_note_49 : decode cX3_note 49 = .ok (.iadd, 1) := by decide +kernel
theorem dX3_note_50 : decode cX3_note 50 = .ok (.bipush 24, 2) := by decide +kernel
theorem dX3_note_52 : decode cX3_note 52 = .ok (.invokestatic 29, 3) := by decide +kernel
theorem dX3_note_55 : decode cX3_note 55 = .ok (.putfield 22, 3) := by decide +kernel
theorem dX3_note_58 : decode cX3_note 58 = .ok (.return_, 1) := by decide +kernel
theorem dX4_init_0 : decode cX4_init 0 = .ok (.aload_n 0, 1) := by decide +kernel
theorem dX4_init_1 : decode cX4_init 1 = .ok (.invokespecial 3, 3) := by decide +kernel
theorem dX4_init_4 : decode cX4_init 4 = .ok (.aload_n 0, 1) := by decide +kernel
theorem dX4_init_5 : decode cX4_init 5 = .ok (.aload_n 1, 1) := by decide +kernel
theorem dX4_init_6 : decode cX4_init 6 = .ok (.putfield 9, 3) := by decide +kernel
theorem dX4_init_9 : decode cX4_init 9 = .ok (.aload_n 0, 1) := by decide +kernel
theorem dX4_init_10 : decode cX4_init 10 = .ok (.aload_n 2, 1) := by decide +kernel
theorem dX4_init_11 : decode cX4_init 11 = .ok (.putfield 15, 3) := by decide +kernel
theorem dX4_init_14 : decode cX4_init 14 = .ok (.aload_n 0, 1) := by decide +kernel
theorem dX4_init_15 : decode cX4_init 15 = .ok (.aload_n 3, 1) := by decide +kernel
theorem dX4_init_16 : decode cX4_init 16 = .ok (.putfield 19, 3) := by decide +kernel
theorem dX4_init_19 : decode cX4_init 19 = .ok (.aload_n 0, 1) := by decide +kernel
theorem dX4_init_20 : decode cX4_init 20 = .ok (.aload 4, 2) := by decide +kernel
theorem dX4_init_22 : decode cX4_init 22 = .ok (.putfield 23, 3) := by decide +kernel
theorem dX4_init_25 : decode cX4_init 25 = .ok (.aload_n 0, 1) := by decide +kernel
theorem dX4_init_26 : decode cX4_init 26 = .ok (.bipush 11, 2) := by decide +kernel
theorem dX4_init_28 : decode cX4_init 28 = .ok (.newarray .long, 2) := by decide +kernel
theorem dX4_init_30 : decode cX4_init 30 = .ok (.putfield 27, 3) := by decide +kernel
theorem dX4_init_33 : decode cX4_init 33 = .ok (.aload_n 0, 1) := by decide +kernel
theorem dX4_init_34 : decode cX4_init 34 = .ok (.bipush 11, 2) := by decide +kernel
theorem dX4_init_36 : decode cX4_init 36 = .ok (.newarray .long, 2) := by decide +kernel
theorem dX4_init_38 : decode cX4_init 38 = .ok (.putfield 31, 3) := by decide +kernel
theorem dX4_init_41 : decode cX4_init 41 = .ok (.aload_n 0, 1) := by decide +kernel
theorem dX4_init_42 : decode cX4_init 42 = .ok (.bipush 11, 2) := by decide +kernel
theorem dX4_init_44 : decode cX4_init 44 = .ok (.newarray .boolean, 2) := by decide +kernel
theorem dX4_init_46 : decode cX4_init 46 = .ok (.putfield 34, 3) := by decide +kernel
theorem dX4_init_49 : decode cX4_init 49 = .ok (.return_, 1) := by decide +kernel
set_option maxRecDepth 20000 in
theorem ggX4_filesFor_X4_beginLevel : GoodIn wsX4_filesFor wsX4_beginLevel := goodIn_r _ [8, 2, 1, 3, 9, 10, 11, 12, 13, 14, 15, 16, 118, 119, 120, 121, 122, 123, 124, 125, 126, 127, 128, 129, 130, 131] (by decide +kernel) (by decide +kernel)
set_option maxRecDepth 20000 in
theorem gX4_filesFor_X4_beginLevel : GoodIn wsX4_filesFor (wsV RX4 42 RX4 yX4_beginLevel wsX4_beginLevel) := goodIn_app (goodIn_of _ (by decide +kernel)) ggX4_filesFor_X4_beginLevel
set_option maxRecDepth 20000 in
theorem ggX4_filesFor_X5_length : GoodIn wsX4_filesFor wsX5_length := goodIn_r _ [21, 22, 132, 133] (by decide +kernel) (by decide +kernel)
set_option maxRecDepth 20000 in
theorem gX4_filesFor_X5_length : GoodIn wsX4_filesFor (wsV RX4 45 RX5 yX5_length wsX5_length) := goodIn_app (goodIn_of _ (by decide +kernel)) ggX4_filesFor_X5_length
set_option maxRecDepth 20000 in
theorem ggX4_filesFor_X5_at : GoodIn wsX4_filesFor wsX5_at := goodIn_r _ [26, 22, 27, 132, 133] (by decide +kernel) (by decide +kernel)
set_option maxRecDepth 20000 in
theorem gX4_filesFor_X5_at : GoodIn wsX4_filesFor (wsV RX4 51 RX5 yX5_at wsX5_at) := goodIn_app (goodIn_of _ (by decide +kernel)) ggX4_filesFor_X5_at
set_option maxRecDepth 20000 in
theorem ggX4_filesFor_X4_condition : GoodIn wsX4_filesFor wsX4_condition := goodIn_r _ [31, 32, 33, 23, 24, 25, 20, 26, 22, 27, 34, 35, 36, 37, 38, 39, 40, 41, 42, 43, 44, 7, 45, 9, 11, 12, 13, 14, 15, 16, 46, 47, 48, 49, 50, 51, 52, 53, 54, 55, 56, 57, 58, 59, 60, 61, 62, 63, 64, 65, 66, 67, 68, 69, 70, 71, 72, 73, 74, 75, 76, 77, 78, 79, 80, 81, 82, 83, 84, 85, 86, 87, 88, 89, 90, 91, 92, 93, 94, 95, 96, 97, 98, 99, 100, 118, 119, 120, 121, 122, 123, 124, 125, 132, 133, 126, 127, 128, 129, 130, 131, 134, 135, 136, 137, 138, 139, 140, 141, 142, 143, 144, 145, 146, 147, 148, 149, 150, 151] (by decide +kernel) (by decide +kernel)
set_option maxRecDepth 20000 in
theorem gX4_filesFor_X4_condition : GoodIn wsX4_filesFor (wsV RX4 55 RX4 yX4_condition wsX4_condition) := goodIn_app (goodIn_of _ (by decide +kernel)) ggX4_filesFor_X4_condition
set_option maxRecDepth 20000 in
theorem ggX4_filesFor_X4_take : GoodIn wsX4_filesFor wsX4_take := goodIn_r _ [104, 3, 1, 10, 105, 118, 119, 120, 121, 122, 123, 124, 125] (by decide +kernel) (by decide +kernel)
set_option maxRecDepth 20000 in
theorem gX4_filesFor_X4_take : GoodIn wsX4_filesFor (wsV RX4 59 RX4 yX4_take wsX4_take) := goodIn_app (goodIn_of _ (by decide +kernel)) ggX4_filesFor_X4_take
set_option maxRecDepth 20000 in
theorem ggX4_filesFor_X4_operate : GoodIn wsX4_filesFor wsX4_operate := goodIn_r _ [109, 10, 1, 2, 3, 9, 11, 12, 13, 14, 15, 16, 110, 111, 112, 7, 113, 4, 5, 6, 8, 114, 115, 116, 117, 101, 102, 103, 104, 105, 118, 119, 120, 121, 122, 123, 124, 125, 126, 127, 128, 129, 130, 131] (by decide +kernel) (by decide +kernel)
set_option maxRecDepth 20000 in
theorem gX4_filesFor_X4_operate : GoodIn wsX4_filesFor (wsV RX4 63 RX4 yX4_operate wsX4_operate) := goodIn_app (goodIn_of _ (by decide +kernel)) ggX4_filesFor_X4_operate
theorem dX4_filesFor_0 : decode cX4_filesFor 0 = .ok (.aload_n 0, 1) := by decide +kernel
theorem dX4_filesFor_1 : decode cX4_filesFor 1 = .ok (.iconst 0, 1) := by decide +kernel
theorem dX4_filesFor_2 : decode cX4_filesFor 2 = .ok (.putfield 38, 3) := by decide +kernel
theorem dX4_filesFor_5 : decode cX4_filesFor 5 = .ok (.aload_n 0, 1) := by decide +kernel
theorem dX4_filesFor_6 : decode cX4_filesFor 6 = .ok (.invokevirtual 42, 3) := by decide +kernel
theorem dX4_filesFor_9 : decode cX4_filesFor 9 = .ok (.iconst 0, 1) := by decide +kernel
theorem dX4_filesFor_10 : decode cX4_filesFor 10 = .ok (.istore_n 2, 1) := by decide +kernel
theorem dX4_filesFor_11 : decode cX4_filesFor 11 = .ok (.iload_n 2, 1) := by decide +kernel
theorem dX4_filesFor_12 : decode cX4_filesFor 12 = .ok (.aload_n 1, 1) := by decide +kernel
theorem dX4_filesFor_13 : decode cX4_filesFor 13 = .ok (.invokevirtual 45, 3) := by decide +kernel
theorem dX4_filesFor_16 : decode cX4_filesFor 16 = .ok (.if_icmp .ge 45, 3) := by decide +kernel
theorem dX4_filesFor_19 : decode cX4_filesFor 19 = .ok (.aload_n 1, 1) := by decide +kernel
theorem dX4_filesFor_20 : decode cX4_filesFor 20 = .ok (.iload_n 2, 1) := by decide +kernel
theorem dX4_filesFor_21 : decode cX4_filesFor 21 = .ok (.invokevirtual 51, 3) := by decide +kernel
theorem dX4_filesFor_24 : decode cX4_filesFor 24 = .ok (.istore_n 3, 1) := by decide +kernel
theorem dX4_filesFor_25 : decode cX4_filesFor 25 = .ok (.iload_n 3, 1) := by decide +kernel
theorem dX4_filesFor_26 : decode cX4_filesFor 26 = .ok (.bipush 97, 2) := by decide +kernel
theorem dX4_filesFor_28 : decode cX4_filesFor 28 = .ok (.if_icmp .lt 22, 3) := by decide +kernel
theorem dX4_filesFor_31 : decode cX4_filesFor 31 = .ok (.iload_n 3, 1) := by decide +kernel
theorem dX4_filesFor_32 : decode cX4_filesFor 32 = .ok (.bipush 122, 2) := by decide +kernel
theorem dX4_filesFor_34 : decode cX4_filesFor 34 = .ok (.if_icmp .gt 16, 3) := by decide +kernel
theorem dX4_filesFor_37 : decode cX4_filesFor 37 = .ok (.aload_n 0, 1) := by decide +kernel
theorem dX4_filesFor_38 : decode cX4_filesFor 38 = .ok (.aload_n 0, 1) := by decide +kernel
theorem dX4_filesFor_39 : decode cX4_filesFor 39 = .ok (.aload_n 1, 1) := by decide +kernel
theorem dX4_filesFor_40 : decode cX4_filesFor 40 = .ok (.iload_n 2, 1) := by decide +kernel
theorem dX4_filesFor_41 : decode cX4_filesFor 41 = .ok (.invokevirtual 55, 3) := by decide +kernel
theorem dX4_filesFor_44 : decode cX4_filesFor 44 = .ok (.invokevirtual 59, 3) := by decide +kernel
theorem dX4_filesFor_47 : decode cX4_filesFor 47 = .ok (.goto 8, 3) := by decide +kernel
theorem dX4_filesFor_50 : decode cX4_filesFor 50 = .ok (.aload_n 0, 1) := by decide +kernel
theorem dX4_filesFor_51 : decode cX4_filesFor 51 = .ok (.iload_n 3, 1) := by decide +kernel
theorem dX4_filesFor_52 : decode cX4_filesFor 52 = .ok (.invokevirtual 63, 3) := by decide +kernel
theorem dX4_filesFor_55 : decode cX4_filesFor 55 = .ok (.iinc 2 1, 3) := by decide +kernel
theorem dX4_filesFor_58 : decode cX4_filesFor 58 = .ok (.goto (-47), 3) := by decide +kernel
theorem dX4_filesFor_61 : decode cX4_filesFor 61 = .ok (.aload_n 0, 1) := by decide +kernel
theorem dX4_filesFor_62 : decode cX4_filesFor 62 = .ok (.getfield 27, 3) := by decide +kernel
theorem dX4_filesFor_65 : decode cX4_filesFor 65 = .ok (.iconst 0, 1) := by decide +kernel
theorem dX4_filesFor_66 : decode cX4_filesFor 66 = .ok (.laload, 1) := by decide +kernel
theorem dX4_filesFor_67 : decode cX4_filesFor 67 = .ok (.aload_n 0, 1) := by decide +kernel
theorem dX4_filesFor_68 : decode cX4_filesFor 68 = .ok (.getfield 31, 3) := by decide +kernel
theorem dX4_filesFor_71 : decode cX4_filesFor 71 = .ok (.iconst 0, 1) := by decide +kernel
theorem dX4_filesFor_72 : decode cX4_filesFor 72 = .ok (.laload, 1) := by decide +kernel
theorem dX4_filesFor_73 : decode cX4_filesFor 73 = .ok (.lor, 1) := by decide +kernel
theorem dX4_filesFor_74 : decode cX4_filesFor 74 = .ok (.lreturn, 1) := by decide +kernel
set_option maxRecDepth 20000 in
theorem ggX4_operate_X1_all : GoodIn wsX4_operate wsX1_all := goodIn_r _ [10, 11, 38, 39, 40, 41, 42, 43] (by decide +kernel) (by decide +kernel)
set_option maxRecDepth 20000 in
theorem gX4_operate_X1_all : GoodIn wsX4_operate (wsV RX4 67 RX1 yX1_all wsX1_all) := goodIn_app (goodIn_of _ (by decide +kernel)) ggX4_operate_X1_all
set_option maxRecDepth 20000 in
theorem ggX4_operate_X4_openLevel : GoodIn wsX4_operate wsX4_openLevel := goodIn_r _ [16, 2, 17, 18, 19, 15, 20, 3, 4, 5, 1, 6, 7, 8, 9, 10, 11, 30, 31, 32, 33, 34, 35, 36, 37, 38, 39, 40, 41, 42, 43] (by decide +kernel) (by decide +kernel)
set_option maxRecDepth 20000 in
theorem gX4_operate_X4_openLevel : GoodIn wsX4_operate (wsV RX4 73 RX4 yX4_openLevel wsX4_openLevel) := goodIn_app (goodIn_of _ (by decide +kernel)) ggX4_operate_X4_openLevel
set_option maxRecDepth 20000 in
theorem ggX4_operate_X4_closeLevel : GoodIn wsX4_operate wsX4_closeLevel := goodIn_r _ [24, 2, 3, 4, 25, 26, 27, 15, 28, 1, 29, 30, 31, 32, 33, 34, 35, 36, 37] (by decide +kernel) (by decide +kernel)
set_option maxRecDepth 20000 in
theorem gX4_operate_X4_closeLevel : GoodIn wsX4_operate (wsV RX4 76 RX4 yX4_closeLevel wsX4_closeLevel) := goodIn_app (goodIn_of _ (by decide +kernel)) ggX4_operate_X4_closeLevel
theorem dX4_operate_0 : decode cX4_operate 0 = .ok (.iload_n 1, 1) := by decide +kernel
theorem dX4_operate_1 : decode cX4_operate 1 = .ok (.lookupswitch 126 #[(33, 43), (40, 112), (41, 119), (124, 72)], 43) := by decide +kernel
theorem dX4_operate_44 : decode cX4_operate 44 = .ok (.aload_n 0, 1) := by decide +kernel
theorem dX4_operate_45 : decode cX4_operate 45 = .ok (.getfield 34, 3) := by decide +kernel
theorem dX4_operate_48 : decode cX4_operate 48 = .ok (.aload_n 0, 1) := by decide +kernel
theorem dX4_operate_49 : decode cX4_operate 49 = .ok (.getfield 38, 3) := by decide +kernel
theorem dX4_operate_52 : decode cX4_operate 52 = .ok (.aload_n 0, 1) := by decide +kernel
theorem dX4_operate_53 : decode cX4_operate 53 = .ok (.getfield 34, 3) := by decide +kernel
theorem dX4_operate_56 : decode cX4_operate 56 = .ok (.aload_n 0, 1) := by decide +kernel
theorem dX4_operate_57 : decode cX4_operate 57 = .ok (.getfield 38, 3) := by decide +kernel
theorem dX4_operate_60 : decode cX4_operate 60 = .ok (.baload, 1) := by decide +kernel
theorem dX4_operate_61 : decode cX4_operate 61 = .ok (.ifCond .ne 7, 3) := by decide +kernel
theorem dX4_operate_64 : decode cX4_operate 64 = .ok (.iconst 1, 1) := by decide +kernel
theorem dX4_operate_65 : decode cX4_operate 65 = .ok (.goto 4, 3) := by decide +kernel
theorem dX4_operate_68 : decode cX4_operate 68 = .ok (.iconst 0, 1) := by decide +kernel
theorem dX4_operate_69 : decode cX4_operate 69 = .ok (.bastore, 1) := by decide +kernel
theorem dX4_operate_70 : decode cX4_operate 70 = .ok (.goto 57, 3) := by decide +kernel
theorem dX4_operate_73 : decode cX4_operate 73 = .ok (.aload_n 0, 1) := by decide +kernel
theorem dX4_operate_74 : decode cX4_operate 74 = .ok (.getfield 27, 3) := by decide +kernel
theorem dX4_operate_77 : decode cX4_operate 77 = .ok (.aload_n 0, 1) := by decide +kernel
theorem dX4_operate_78 : decode cX4_operate 78 = .ok (.getfield 38, 3) := by decide +kernel
theorem dX4_operate_81 : decode cX4_operate 81 = .ok (.dup2, 1) := by decide +kernel
theorem dX4_operate_82 : decode cX4_operate 82 = .ok (.laload, 1) := by decide +kernel
theorem dX4_operate_83 : decode cX4_operate 83 = .ok (.aload_n 0, 1) := by decide +kernel
theorem dX4_operate_84 : decode cX4_operate 84 = .ok (.getfield 31, 3) := by decide +kernel
theorem dX4_operate_87 : decode cX4_operate 87 = .ok (.aload_n 0, 1) := by decide +kernel
theorem dX4_operate_88 : decode cX4_operate 88 = .ok (.getfield 38, 3) := by decide +kernel
theorem dX4_operate_91 : decode cX4_operate 91 = .ok (.laload, 1) := by decide +kernel
theorem dX4_operate_92 : decode cX4_operate 92 = .ok (.lor, 1) := by decide +kernel
theorem dX4_operate_93 : decode cX4_operate 93 = .ok (.lastore, 1) := by decide +kernel
theorem dX4_operate_94 : decode cX4_operate 94 = .ok (.aload_n 0, 1) := by decide +kernel
theorem dX4_operate_95 : decode cX4_operate 95 = .ok (.getfield 31, 3) := by decide +kernel
theorem dX4_operate_98 : decode cX4_operate 98 = .ok (.aload_n 0, 1) := by decide +kernel
theorem dX4_operate_99 : decode cX4_operate 99 = .ok (.getfield 38, 3) := by decide +kernel
theorem dX4_operate_102 : decode cX4_operate 102 = .ok (.aload_n 0, 1) := by decide +kernel
theorem dX4_operate_103 : decode cX4_operate 103 = .ok (.getfield 9, 3) := by decide +kernel
theorem dX4_operate_106 : decode cX4_operate 106 = .ok (.invokevirtual 67, 3) := by decide +kernel
theorem dX4_operate_109 : decode cX4_operate 109 = .ok (.lastore, 1) := by decide +kernel
theorem dX4_operate_110 : decode cX4_operate 110 = .ok (.goto 17, 3) := by decide +kernel
theorem dX4_operate_113 : decode cX4_operate 113 = .ok (.aload_n 0, 1) := by decide +kernel
theorem dX4_operate_114 : decode cX4_operate 114 = .ok (.invokevirtual 73, 3) := by decide +kernel
theorem dX4_operate_117 : decode cX4_operate 117 = .ok (.goto 10, 3) := by decide +kernel
theorem dX4_operate_120 : decode cX4_operate 120 = .ok (.aload_n 0, 1) := by decide +kernel
theorem dX4_operate_121 : decode cX4_operate 121 = .ok (.invokevirtual 76, 3) := by decide +kernel
theorem dX4_operate_124 : decode cX4_operate 124 = .ok (.goto 3, 3) := by decide +kernel
theorem dX4_operate_127 : decode cX4_operate 127 = .ok (.return_, 1) := by decide +kernel
set_option maxRecDepth 20000 in
theorem ggX4_openLevel_X4_beginLevel : GoodIn wsX4_openLevel wsX4_beginLevel := goodIn_r _ [6, 7, 1, 8, 9, 10, 11, 12, 13, 14, 15, 16, 17, 18, 19, 20, 21, 22, 23, 24, 25, 26, 27, 28, 29, 30] (by decide +kernel) (by decide +kernel)
set_option maxRecDepth 20000 in
theorem gX4_openLevel_X4_beginLevel : GoodIn wsX4_openLevel (wsV RX4 42 RX4 yX4_beginLevel wsX4_beginLevel) := goodIn_app (goodIn_of _ (by decide +kernel)) ggX4_openLevel_X4_beginLevel
theorem dX4_openLevel_0 : decode cX4_openLevel 0 = .ok (.aload_n 0, 1) := by decide +kernel
theorem dX4_openLevel_1 : decode cX4_openLevel 1 = .ok (.getfield 38, 3) := by decide +kernel
theorem dX4_openLevel_4 : decode cX4_openLevel 4 = .ok (.bipush 10, 2) := by decide +kernel
theorem dX4_openLevel_6 : decode cX4_openLevel 6 = .ok (.if_icmp .ge 17, 3) := by decide +kernel
theorem dX4_openLevel_9 : decode cX4_openLevel 9 = .ok (.aload_n 0, 1) := by decide +kernel
theorem dX4_openLevel_10 : decode cX4_openLevel 10 = .ok (.dup, 1) := by decide +kernel
theorem dX4_openLevel_11 : decode cX4_openLevel 11 = .ok (.getfield 38, 3) := by decide +kernel
theorem dX4_openLevel_14 : decode cX4_openLevel 14 = .ok (.iconst 1, 1) := by decide +kernel
theorem dX4_openLevel_15 : decode cX4_openLevel 15 = .ok (.iadd, 1) := by decide +kernel
theorem dX4_openLevel_16 : decode cX4_openLevel 16 = .ok (.putfield 38, 3) := by decide +kernel
theorem dX4_openLevel_19 : decode cX4_openLevel 19 = .ok (.aload_n 0, 1) := by decide +kernel
theorem dX4_openLevel_20 : decode cX4_openLevel 20 = .ok (.invokevirtual 42, 3) := by decide +kernel
theorem dX4_openLevel_23 : decode cX4_openLevel 23 = .ok (.return_, 1) := by decide +kernel
set_option maxRecDepth 20000 in
theorem ggX4_closeLevel_X4_take : GoodIn wsX4_closeLevel wsX4_take := goodIn_r _ [8, 3, 1, 9, 10, 11, 12, 13, 14, 15, 16, 17, 18] (by decide +kernel) (by decide +kernel)
set_option maxRecDepth 20000 in
theorem gX4_closeLevel_X4_take : GoodIn wsX4_closeLevel (wsV RX4 59 RX4 yX4_take wsX4_take) := goodIn_app (goodIn_of _ (by decide +kernel)) ggX4_closeLevel_X4_take
theorem dX4_closeLevel_0 : decode cX4_closeLevel 0 = .ok (.aload_n 0, 1) := by decide +kernel
theorem dX4_closeLevel_1 : decode cX4_closeLevel 1 = .ok (.getfield 38, 3) := by decide +kernel
theorem dX4_closeLevel_4 : decode cX4_closeLevel 4 = .ok (.ifCond .le 38, 3) := by decide +kernel
theorem dX4_closeLevel_7 : decode cX4_closeLevel 7 = .ok (.aload_n 0, 1) := by decide +kernel
theorem dX4_closeLevel_8 : decode cX4_closeLevel 8 = .ok (.getfield 27, 3) := by decide +kernel
theorem dX4_closeLevel_11 : decode cX4_closeLevel 11 = .ok (.aload_n 0, 1) := by decide +kernel
theorem dX4_closeLevel_12 : decode cX4_closeLevel 12 = .ok (.getfield 38, 3) := by decide +kernel
theorem dX4_closeLevel_15 : decode cX4_closeLevel 15 = .ok (.laload, 1) := by decide +kernel
theorem dX4_closeLevel_16 : decode cX4_closeLevel 16 = .ok (.aload_n 0, 1) := by decide +kernel
theorem dX4_closeLevel_17 : decode cX4_closeLevel 17 = .ok (.getfield 31, 3) := by decide +kernel
theorem dX4_closeLevel_20 : decode cX4_closeLevel 20 = .ok (.aload_n 0, 1) := by decide +kernel
theorem dX4_closeLevel_21 : decode cX4_closeLevel 21 = .ok (.getfield 38, 3) := by decide +kernel
theorem dX4_closeLevel_24 : decode cX4_closeLevel 24 = .ok (.laload, 1) := by decide +kernel
theorem dX4_closeLevel_25 : decode cX4_closeLevel 25 = .ok (.lor, 1) := by decide +kernel
theorem dX4_closeLevel_26 : decode cX4_closeLevel 26 = .ok (.lstore_n 1, 1) := by decide +kernel
theorem dX4_closeLevel_27 : decode cX4_closeLevel 27 = .ok (.aload_n 0, 1) := by decide +kernel
theorem dX4_closeLevel_28 : decode cX4_closeLevel 28 = .ok (.dup, 1) := by decide +kernel
theorem dX4_closeLevel_29 : decode cX4_closeLevel 29 = .ok (.getfield 38, 3) := by decide +kernel
theorem dX4_closeLevel_32 : decode cX4_closeLevel 32 = .ok (.iconst 1, 1) := by decide +kernel
theorem dX4_closeLevel_33 : decode cX4_closeLevel 33 = .ok (.isub, 1) := by decide +kernel
theorem dX4_closeLevel_34 : decode cX4_closeLevel 34 = .ok (.putfield 38, 3) := by decide +kernel
theorem dX4_closeLevel_37 : decode cX4_closeLevel 37 = .ok (.aload_n 0, 1) := by decide +kernel
theorem dX4_closeLevel_38 : decode cX4_closeLevel 38 = .ok (.lload_n 1, 1) := by decide +kernel
theorem dX4_closeLevel_39 : decode cX4_closeLevel 39 = .ok (.invokevirtual 59, 3) := by decide +kernel
theorem dX4_closeLevel_42 : decode cX4_closeLevel 42 = .ok (.return_, 1) := by decide +kernel
set_option maxRecDepth 20000 in
theorem ggX4_beginLevel_X1_all : GoodIn wsX4_beginLevel wsX1_all := goodIn_r _ [10, 11, 20, 21, 22, 23, 24, 25] (by decide +kernel) (by decide +kernel)
set_option maxRecDepth 20000 in
theorem gX4_beginLevel_X1_all : GoodIn wsX4_beginLevel (wsV RX4 67 RX1 yX1_all wsX1_all) := goodIn_app (goodIn_of _ (by decide +kernel)) ggX4_beginLevel_X1_all
theorem dX4_beginLevel_0 : decode cX4_beginLevel 0 = .ok (.aload_n 0, 1) := by decide +kernel
theorem dX4_beginLevel_1 : decode cX4_beginLevel 1 = .ok (.getfield 27, 3) := by decide +kernel
theorem dX4_beginLevel_4 : decode cX4_beginLevel 4 = .ok (.aload_n 0, 1) := by decide +kernel
theorem dX4_beginLevel_5 : decode cX4_beginLevel 5 = .ok (.getfield 38, 3) := by decide +kernel
theorem dX4_beginLevel_8 : decode cX4_beginLevel 8 = .ok (.lconst 0, 1) := by decide +kernel
theorem dX4_beginLevel_9 : decode cX4_beginLevel 9 = .ok (.lastore, 1) := by decide +kernel
theorem dX4_beginLevel_10 : decode cX4_beginLevel 10 = .ok (.aload_n 0, 1) := by decide +kernel
theorem dX4_beginLevel_11 : decode cX4_beginLevel 11 = .ok (.getfield 31, 3) := by decide +kernel
theorem dX4_beginLevel_14 : decode cX4_beginLevel 14 = .ok (.aload_n 0, 1) := by decide +kernel
theorem dX4_beginLevel_15 : decode cX4_beginLevel 15 = .ok (.getfield 38, 3) := by decide +kernel
theorem dX4_beginLevel_18 : decode cX4_beginLevel 18 = .ok (.aload_n 0, 1) := by decide +kernel
theorem dX4_beginLevel_19 : decode cX4_beginLevel 19 = .ok (.getfield 9, 3) := by decide +kernel
theorem dX4_beginLevel_22 : decode cX4_beginLevel 22 = .ok (.invokevirtual 67, 3) := by decide +kernel
theorem dX4_beginLevel_25 : decode cX4_beginLevel 25 = .ok (.lastore, 1) := by decide +kernel
theorem dX4_beginLevel_26 : decode cX4_beginLevel 26 = .ok (.aload_n 0, 1) := by decide +kernel
theorem dX4_beginLevel_27 : decode cX4_beginLevel 27 = .ok (.getfield 34, 3) := by decide +kernel
theorem dX4_beginLevel_30 : decode cX4_beginLevel 30 = .ok (.aload_n 0, 1) := by decide +kernel
theorem dX4_beginLevel_31 : decode cX4_beginLevel 31 = .ok (.getfield 38, 3) := by decide +kernel
theorem dX4_beginLevel_34 : decode cX4_beginLevel 34 = .ok (.iconst 0, 1) := by decide +kernel
theorem dX4_beginLevel_35 : decode cX4_beginLevel 35 = .ok (.bastore, 1) := by decide +kernel
theorem dX4_beginLevel_36 : decode cX4_beginLevel 36 = .ok (.return_, 1) := by decide +kernel
theorem dX4_take_0 : decode cX4_take 0 = .ok (.aload_n 0, 1) := by decide +kernel
theorem dX4_take_1 : decode cX4_take 1 = .ok (.getfield 31, 3) := by decide +kernel
theorem dX4_take_4 : decode cX4_take 4 = .ok (.aload_n 0, 1) := by decide +kernel
theorem dX4_take_5 : decode cX4_take 5 = .ok (.getfield 38, 3) := by decide +kernel
theorem dX4_take_8 : decode cX4_take 8 = .ok (.dup2, 1) := by decide +kernel
theorem dX4_take_9 : decode cX4_take 9 = .ok (.laload, 1) := by decide +kernel
theorem dX4_take_10 : decode cX4_take 10 = .ok (.aload_n 0, 1) := by decide +kernel
theorem dX4_take_11 : decode cX4_take 11 = .ok (.getfield 34, 3) := by decide +kernel
theorem dX4_take_14 : decode cX4_take 14 = .ok (.aload_n 0, 1) := by decide +kernel
theorem dX4_take_15 : decode cX4_take 15 = .ok (.getfield 38, 3) := by decide +kernel
theorem dX4_take_18 : decode cX4_take 18 = .ok (.baload, 1) := by decide +kernel
theorem dX4_take_19 : decode cX4_take 19 = .ok (.ifCond .eq 11, 3) := by decide +kernel
theorem dX4_take_22 : decode cX4_take 22 = .ok (.lload_n 1, 1) := by decide +kernel
theorem dX4_take_23 : decode cX4_take 23 = .ok (.ldc2_w 79, 3) := by decide +kernel
theorem dX4_take_26 : decode cX4_take 26 = .ok (.lxor, 1) := by decide +kernel
theorem dX4_take_27 : decode cX4_take 27 = .ok (.goto 4, 3) := by decide +kernel
theorem dX4_take_30 : decode cX4_take 30 = .ok (.lload_n 1, 1) := by decide +kernel
theorem dX4_take_31 : decode cX4_take 31 = .ok (.land, 1) := by decide +kernel
theorem dX4_take_32 : decode cX4_take 32 = .ok (.lastore, 1) := by decide +kernel
theorem dX4_take_33 : decode cX4_take 33 = .ok (.aload_n 0, 1) := by decide +kernel
theorem dX4_take_34 : decode cX4_take 34 = .ok (.getfield 34, 3) := by decide +kernel
theorem dX4_take_37 : decode cX4_take 37 = .ok (.aload_n 0, 1) := by decide +kernel
theorem dX4_take_38 : decode cX4_take 38 = .ok (.getfield 38, 3) := by decide +kernel
theorem dX4_take_41 : decode cX4_take 41 = .ok (.iconst 0, 1) := by decide +kernel
theorem dX4_take_42 : decode cX4_take 42 = .ok (.bastore, 1) := by decide +kernel
theorem dX4_take_43 : decode cX4_take 43 = .ok (.return_, 1) := by decide +kernel
set_option maxRecDepth 20000 in
theorem ggX4_condition_X5_at : GoodIn wsX4_condition wsX5_at := goodIn_r _ [7, 8, 9, 93, 94] (by decide +kernel) (by decide +kernel)
set_option maxRecDepth 20000 in
theorem gX4_condition_X5_at : GoodIn wsX4_condition (wsV RX4 51 RX5 yX5_at wsX5_at) := goodIn_app (goodIn_of _ (by decide +kernel)) ggX4_condition_X5_at
set_option maxRecDepth 20000 in
theorem ggX4_condition_X5_numberAt : GoodIn wsX4_condition wsX5_numberAt := goodIn_r _ [13, 14, 4, 5, 6, 7, 8, 9, 15, 16, 17, 93, 94] (by decide +kernel) (by decide +kernel)
set_option maxRecDepth 20000 in
theorem gX4_condition_X5_numberAt : GoodIn wsX4_condition (wsV RX4 81 RX5 yX5_numberAt wsX5_numberAt) := goodIn_app (goodIn_of _ (by decide +kernel)) ggX4_condition_X5_numberAt
set_option maxRecDepth 20000 in
theorem ggX4_condition_X4_tagged : GoodIn wsX4_condition wsX4_tagged := goodIn_r _ [22, 23, 24, 25, 26, 27, 28, 29, 30, 31, 32, 33, 34, 35, 36, 37, 38, 39, 85, 86, 87, 88, 89, 90, 91, 92, 95, 96, 97, 98, 99, 100] (by decide +kernel) (by decide +kernel)
set_option maxRecDepth 20000 in
theorem gX4_condition_X4_tagged : GoodIn wsX4_condition (wsV RX4 85 RX4 yX4_tagged wsX4_tagged) := goodIn_app (goodIn_of _ (by decide +kernel)) ggX4_condition_X4_tagged
set_option maxRecDepth 20000 in
theorem ggX4_condition_X4_membersOf : GoodIn wsX4_condition wsX4_membersOf := goodIn_r _ [43, 44, 45, 31, 46, 47, 48, 49, 50, 51, 52, 85, 86, 87, 88, 89, 90, 91, 92, 101, 102, 103, 104, 105, 106, 107] (by decide +kernel) (by decide +kernel)
set_option maxRecDepth 20000 in
theorem gX4_condition_X4_membersOf : GoodIn wsX4_condition (wsV RX4 89 RX4 yX4_membersOf wsX4_membersOf) := goodIn_app (goodIn_of _ (by decide +kernel)) ggX4_condition_X4_membersOf
set_option maxRecDepth 20000 in
theorem ggX4_condition_X6_stacked : GoodIn wsX4_condition wsX6_stacked := goodIn_r _ [57, 58, 108, 109, 110, 111, 112, 113, 114, 115] (by decide +kernel) (by decide +kernel)
set_option maxRecDepth 20000 in
theorem gX4_condition_X6_stacked : GoodIn wsX4_condition (wsV RX4 92 RX6 yX6_stacked wsX6_stacked) := goodIn_app (goodIn_of _ (by decide +kernel)) ggX4_condition_X6_stacked
set_option maxRecDepth 20000 in
theorem ggX4_condition_X6_covers : GoodIn wsX4_condition wsX6_covers := goodIn_r _ [62, 63, 108, 109, 110, 111, 112, 113, 114, 115] (by decide +kernel) (by decide +kernel)
set_option maxRecDepth 20000 in
theorem gX4_condition_X6_covers : GoodIn wsX4_condition (wsV RX4 97 RX6 yX6_covers wsX6_covers) := goodIn_app (goodIn_of _ (by decide +kernel)) ggX4_condition_X6_covers
set_option maxRecDepth 20000 in
theorem ggX4_condition_X2_duplicates : GoodIn wsX4_condition wsX2_duplicates := goodIn_r _ [68, 69, 116, 117, 118] (by decide +kernel) (by decide +kernel)
set_option maxRecDepth 20000 in
theorem gX4_condition_X2_duplicates : GoodIn wsX4_condition (wsV RX4 100 RX2 yX2_duplicates wsX2_duplicates) := goodIn_app (goodIn_of _ (by decide +kernel)) ggX4_condition_X2_duplicates
set_option maxRecDepth 20000 in
theorem ggX4_condition_X2_keepers : GoodIn wsX4_condition wsX2_keepers := goodIn_r _ [73, 74, 116, 117, 118] (by decide +kernel) (by decide +kernel)
set_option maxRecDepth 20000 in
theorem gX4_condition_X2_keepers : GoodIn wsX4_condition (wsV RX4 105 RX2 yX2_keepers wsX2_keepers) := goodIn_app (goodIn_of _ (by decide +kernel)) ggX4_condition_X2_keepers
set_option maxRecDepth 20000 in
theorem ggX4_condition_X4_comparing : GoodIn wsX4_condition wsX4_comparing := goodIn_r _ [78, 23, 3, 4, 5, 6, 7, 8, 9, 79, 80, 81, 10, 11, 12, 13, 14, 15, 16, 17, 33, 34, 35, 27, 36, 37, 24, 25, 26, 28, 29, 30, 31, 32, 82, 83, 21, 84, 38, 39, 85, 86, 87, 88, 89, 90, 91, 92, 93, 94, 95, 96, 97, 98, 99, 100] (by decide +kernel) (by decide +kernel)
set_option maxRecDepth 20000 in
theorem gX4_condition_X4_comparing : GoodIn wsX4_condition (wsV RX4 108 RX4 yX4_comparing wsX4_comparing) := goodIn_app (goodIn_of _ (by decide +kernel)) ggX4_condition_X4_comparing
theorem dX4_condition_0 : decode cX4_condition 0 = .ok (.aload_n 1, 1) := by decide +kernel
theorem dX4_condition_1 : decode cX4_condition 1 = .ok (.iload_n 2, 1) := by decide +kernel
theorem dX4_condition_2 : decode cX4_condition 2 = .ok (.invokevirtual 51, 3) := by decide +kernel
theorem dX4_condition_5 : decode cX4_condition 5 = .ok (.lookupswitch 115 #[(97, 71), (98, 107), (115, 83), (116, 59), (117, 99), (118, 91)], 59) := by decide +kernel
theorem dX4_condition_64 : decode cX4_condition 64 = .ok (.aload_n 0, 1) := by decide +kernel
theorem dX4_condition_65 : decode cX4_condition 65 = .ok (.aload_n 1, 1) := by decide +kernel
theorem dX4_condition_66 : decode cX4_condition 66 = .ok (.iload_n 2, 1) := by decide +kernel
theorem dX4_condition_67 : decode cX4_condition 67 = .ok (.iconst 1, 1) := by decide +kernel
theorem dX4_condition_68 : decode cX4_condition 68 = .ok (.iadd, 1) := by decide +kernel
theorem dX4_condition_69 : decode cX4_condition 69 = .ok (.invokevirtual 81, 3) := by decide +kernel
theorem dX4_condition_72 : decode cX4_condition 72 = .ok (.invokevirtual 85, 3) := by decide +kernel
theorem dX4_condition_75 : decode cX4_condition 75 = .ok (.lreturn, 1) := by decide +kernel
theorem dX4_condition_76 : decode cX4_condition 76 = .ok (.aload_n 0, 1) := by decide +kernel
theorem dX4_condition_77 : decode cX4_condition 77 = .ok (.aload_n 1, 1) := by decide +kernel
theorem dX4_condition_78 : decode cX4_condition 78 = .ok (.iload_n 2, 1) := by decide +kernel
theorem dX4_condition_79 : decode cX4_condition 79 = .ok (.iconst 1, 1) := by decide +kernel
theorem dX4_condition_80 : decode cX4_condition 80 = .ok (.iadd, 1) := by decide +kernel
theorem dX4_condition_81 : decode cX4_condition 81 = .ok (.invokevirtual 81, 3) := by decide +kernel
theorem dX4_condition_84 : decode cX4_condition 84 = .ok (.invokevirtual 89, 3) := by decide +kernel
theorem dX4_condition_87 : decode cX4_condition 87 = .ok (.lreturn, 1) := by decide +kernel
theorem dX4_condition_88 : decode cX4_condition 88 = .ok (.aload_n 0, 1) := by decide +kernel
theorem dX4_condition_89 : decode cX4_condition 89 = .ok (.getfield 19, 3) := by decide +kernel
theorem dX4_condition_92 : decode cX4_condition 92 = .ok (.invokevirtual 92, 3) := by decide +kernel
theorem dX4_condition_95 : decode cX4_condition 95 = .ok (.lreturn, 1) := by decide +kernel
theorem dX4_condition_96 : decode cX4_condition 96 = .ok (.aload_n 0, 1) := by decide +kernel
theorem dX4_condition_97 : decode cX4_condition 97 = .ok (.getfield 19, 3) := by decide +kernel
theorem dX4_condition_100 : decode cX4_condition 100 = .ok (.invokevirtual 97, 3) := by decide +kernel
theorem dX4_condition_103 : decode cX4_condition 103 = .ok (.lreturn, 1) := by decide +kernel
theorem dX4_condition_104 : decode cX4_condition 104 = .ok (.aload_n 0, 1) := by decide +kernel
theorem dX4_condition_105 : decode cX4_condition 105 = .ok (.getfield 15, 3) := by decide +kernel
theorem dX4_condition_108 : decode cX4_condition 108 = .ok (.invokevirtual 100, 3) := by decide +kernel
theorem dX4_condition_111 : decode cX4_condition 111 = .ok (.lreturn, 1) := by decide +kernel
theorem dX4_condition_112 : decode cX4_condition 112 = .ok (.aload_n 0, 1) := by decide +kernel
theorem dX4_condition_113 : decode cX4_condition 113 = .ok (.getfield 15, 3) := by decide +kernel
theorem dX4_condition_116 : decode cX4_condition 116 = .ok (.invokevirtual 105, 3) := by decide +kernel
theorem dX4_condition_119 : decode cX4_condition 119 = .ok (.lreturn, 1) := by decide +kernel
theorem dX4_condition_120 : decode cX4_condition 120 = .ok (.aload_n 0, 1) := by decide +kernel
theorem dX4_condition_121 : decode cX4_condition 121 = .ok (.aload_n 1, 1) := by decide +kernel
theorem dX4_condition_122 : decode cX4_condition 122 = .ok (.iload_n 2, 1) := by decide +kernel
theorem dX4_condition_123 : decode cX4_condition 123 = .ok (.invokevirtual 108, 3) := by decide +kernel
theorem dX4_condition_126 : decode cX4_condition 126 = .ok (.lreturn, 1) := by decide +kernel
set_option maxRecDepth 20000 in
theorem ggX4_tagged_X1_all : GoodIn wsX4_tagged wsX1_all := goodIn_r _ [6, 7, 26, 27, 28, 29, 30, 31] (by decide +kernel) (by decide +kernel)
set_option maxRecDepth 20000 in
theorem gX4_tagged_X1_all : GoodIn wsX4_tagged (wsV RX4 67 RX1 yX1_all wsX1_all) := goodIn_app (goodIn_of _ (by decide +kernel)) ggX4_tagged_X1_all
set_option maxRecDepth 20000 in
theorem ggX4_tagged_X8_holds : GoodIn wsX4_tagged wsX8_holds := goodIn_r _ [10] (by decide +kernel) (by decide +kernel)
set_option maxRecDepth 20000 in
theorem gX4_tagged_X8_holds_n111 : GoodIn wsX4_tagged (wsX8_holds) := ggX4_tagged_X8_holds
set_option maxRecDepth 20000 in
theorem ggX4_tagged_X1_settledValue : GoodIn wsX4_tagged wsX1_settledValue := goodIn_r _ [14, 15, 26, 27, 28, 29, 30, 31] (by decide +kernel) (by decide +kernel)
set_option maxRecDepth 20000 in
theorem gX4_tagged_X1_settledValue : GoodIn wsX4_tagged (wsV RX4 115 RX1 yX1_settledValue wsX1_settledValue) := goodIn_app (goodIn_of _ (by decide +kernel)) ggX4_tagged_X1_settledValue
set_option maxRecDepth 20000 in
theorem ggX4_tagged_X8_only : GoodIn wsX4_tagged wsX8_only := goodIn_r _ [17] (by decide +kernel) (by decide +kernel)
set_option maxRecDepth 20000 in
theorem gX4_tagged_X8_only_n119 : GoodIn wsX4_tagged (wsX8_only) := ggX4_tagged_X8_only
theorem dX4_tagged_0 : decode cX4_tagged 0 = .ok (.lconst 0, 1) := by decide +kernel
theorem dX4_tagged_1 : decode cX4_tagged 1 = .ok (.lstore_n 2, 1) := by decide +kernel
theorem dX4_tagged_2 : decode cX4_tagged 2 = .ok (.iconst 0, 1) := by decide +kernel
theorem dX4_tagged_3 : decode cX4_tagged 3 = .ok (.istore 4, 2) := by decide +kernel
theorem dX4_tagged_5 : decode cX4_tagged 5 = .ok (.iload 4, 2) := by decide +kernel
theorem dX4_tagged_7 : decode cX4_tagged 7 = .ok (.bipush 40, 2) := by decide +kernel
theorem dX4_tagged_9 : decode cX4_tagged 9 = .ok (.if_icmp .ge 50, 3) := by decide +kernel
theorem dX4_tagged_12 : decode cX4_tagged 12 = .ok (.aload_n 0, 1) := by decide +kernel
theorem dX4_tagged_13 : decode cX4_tagged 13 = .ok (.getfield 9, 3) := by decide +kernel
theorem dX4_tagged_16 : decode cX4_tagged 16 = .ok (.invokevirtual 67, 3) := by decide +kernel
theorem dX4_tagged_19 : decode cX4_tagged 19 = .ok (.iload 4, 2) := by decide +kernel
theorem dX4_tagged_21 : decode cX4_tagged 21 = .ok (.invokestatic 111, 3) := by decide +kernel
theorem dX4_tagged_24 : decode cX4_tagged 24 = .ok (.ifCond .eq 29, 3) := by decide +kernel
theorem dX4_tagged_27 : decode cX4_tagged 27 = .ok (.aload_n 0, 1) := by decide +kernel
theorem dX4_tagged_28 : decode cX4_tagged 28 = .ok (.getfield 9, 3) := by decide +kernel
theorem dX4_tagged_31 : decode cX4_tagged 31 = .ok (.iload 4, 2) := by decide +kernel
theorem dX4_tagged_33 : decode cX4_tagged 33 = .ok (.iconst 5, 1) := by decide +kernel
theorem dX4_tagged_34 : decode cX4_tagged 34 = .ok (.invokevirtual 115, 3) := by decide +kernel
theorem dX4_tagged_37 : decode cX4_tagged 37 = .ok (.iload_n 1, 1) := by decide +kernel
theorem dX4_tagged_38 : decode cX4_tagged 38 = .ok (.iushr, 1) := by decide +kernel
theorem dX4_tagged_39 : decode cX4_tagged 39 = .ok (.iconst 1, 1) := by decide +kernel
theorem dX4_tagged_40 : decode cX4_tagged 40 = .ok (.iand, 1) := by decide +kernel
theorem dX4_tagged_41 : decode cX4_tagged 41 = .ok (.iconst 1, 1) := by decide +kernel
theorem dX4_tagged_42 : decode cX4_tagged 42 = .ok (.if_icmp .ne 11, 3) := by decide +kernel
theorem dX4_tagged_45 : decode cX4_tagged 45 = .ok (.lload_n 2, 1) := by decide +kernel
theorem dX4_tagged_46 : decode cX4_tagged 46 = .ok (.iload 4, 2) := by decide +kernel
theorem dX4_tagged_48 : decode cX4_tagged 48 = .ok (.invokestatic 119, 3) := by decide +kernel
theorem dX4_tagged_51 : decode cX4_tagged 51 = .ok (.lor, 1) := by decide +kernel
theorem dX4_tagged_52 : decode cX4_tagged 52 = .ok (.lstore_n 2, 1) := by decide +kernel
theorem dX4_tagged_53 : decode cX4_tagged 53 = .ok (.iinc 4 1, 3) := by decide +kernel
theorem dX4_tagged_56 : decode cX4_tagged 56 = .ok (.goto (-51), 3) := by decide +kernel
theorem dX4_tagged_59 : decode cX4_tagged 59 = .ok (.lload_n 2, 1) := by decide +kernel
theorem dX4_tagged_60 : decode cX4_tagged 60 = .ok (.lreturn, 1) := by decide +kernel
set_option maxRecDepth 20000 in
theorem ggX4_membersOf_X8_isWithin : GoodIn wsX4_membersOf wsX8_isWithin := goodIn_r _ [4] (by decide +kernel) (by decide +kernel)
set_option maxRecDepth 20000 in
theorem gX4_membersOf_X8_isWithin_n122 : GoodIn wsX4_membersOf (wsX8_isWithin) := ggX4_membersOf_X8_isWithin
set_option maxRecDepth 20000 in
theorem ggX4_membersOf_X0_members : GoodIn wsX4_membersOf wsX0_members := goodIn_r _ [9, 10, 19, 20, 21, 22, 23, 24, 25] (by decide +kernel) (by decide +kernel)
set_option maxRecDepth 20000 in
theorem gX4_membersOf_X0_members : GoodIn wsX4_membersOf (wsV RX4 126 RX0 yX0_members wsX0_members) := goodIn_app (goodIn_of _ (by decide +kernel)) ggX4_membersOf_X0_members
theorem dX4_membersOf_0 : decode cX4_membersOf 0 = .ok (.iload_n 1, 1) := by decide +kernel
theorem dX4_membersOf_1 : decode cX4_membersOf 1 = .ok (.iconst 0, 1) := by decide +kernel
theorem dX4_membersOf_2 : decode cX4_membersOf 2 = .ok (.bipush 7, 2) := by decide +kernel
theorem dX4_membersOf_4 : decode cX4_membersOf 4 = .ok (.invokestatic 122, 3) := by decide +kernel
theorem dX4_membersOf_7 : decode cX4_membersOf 7 = .ok (.ifCond .eq 15, 3) := by decide +kernel
theorem dX4_membersOf_10 : decode cX4_membersOf 10 = .ok (.aload_n 0, 1) := by decide +kernel
theorem dX4_membersOf_11 : decode cX4_membersOf 11 = .ok (.getfield 23, 3) := by decide +kernel
theorem dX4_membersOf_14 : decode cX4_membersOf 14 = .ok (.iload_n 1, 1) := by decide +kernel
theorem dX4_membersOf_15 : decode cX4_membersOf 15 = .ok (.aaload, 1) := by decide +kernel
theorem dX4_membersOf_16 : decode cX4_membersOf 16 = .ok (.invokevirtual 126, 3) := by decide +kernel
theorem dX4_membersOf_19 : decode cX4_membersOf 19 = .ok (.goto 4, 3) := by decide +kernel
theorem dX4_membersOf_22 : decode cX4_membersOf 22 = .ok (.lconst 0, 1) := by decide +kernel
theorem dX4_membersOf_23 : decode cX4_membersOf 23 = .ok (.lreturn, 1) := by decide +kernel
set_option maxRecDepth 20000 in
theorem ggX4_comparing_X5_at : GoodIn wsX4_comparing wsX5_at := goodIn_r _ [6, 7, 8, 48, 49] (by decide +kernel) (by decide +kernel)
set_option maxRecDepth 20000 in
theorem gX4_comparing_X5_at : GoodIn wsX4_comparing (wsV RX4 51 RX5 yX5_at wsX5_at) := goodIn_app (goodIn_of _ (by decide +kernel)) ggX4_comparing_X5_at
set_option maxRecDepth 20000 in
theorem ggX4_comparing_X5_fieldNamed : GoodIn wsX4_comparing wsX5_fieldNamed := goodIn_r _ [11] (by decide +kernel) (by decide +kernel)
set_option maxRecDepth 20000 in
theorem gX4_comparing_X5_fieldNamed : GoodIn wsX4_comparing (va_wsS RX4 131 yX5_fieldNamed wsX5_fieldNamed) := goodIn_app (goodIn_of _ (by decide +kernel)) ggX4_comparing_X5_fieldNamed
set_option maxRecDepth 20000 in
theorem ggX4_comparing_X5_numberAt : GoodIn wsX4_comparing wsX5_numberAt := goodIn_r _ [15, 16, 3, 4, 5, 6, 7, 8, 17, 18, 19, 48, 49] (by decide +kernel) (by decide +kernel)
set_option maxRecDepth 20000 in
theorem gX4_comparing_X5_numberAt : GoodIn wsX4_comparing (wsV RX4 81 RX5 yX5_numberAt wsX5_numberAt) := goodIn_app (goodIn_of _ (by decide +kernel)) ggX4_comparing_X5_numberAt
set_option maxRecDepth 20000 in
theorem ggX4_comparing_X1_settledValue : GoodIn wsX4_comparing wsX1_settledValue := goodIn_r _ [24, 25, 50, 51, 52, 53, 54, 55] (by decide +kernel) (by decide +kernel)
set_option maxRecDepth 20000 in
theorem gX4_comparing_X1_settledValue : GoodIn wsX4_comparing (wsV RX4 115 RX1 yX1_settledValue wsX1_settledValue) := goodIn_app (goodIn_of _ (by decide +kernel)) ggX4_comparing_X1_settledValue
set_option maxRecDepth 20000 in
theorem ggX4_comparing_X1_all : GoodIn wsX4_comparing wsX1_all := goodIn_r _ [29, 30, 50, 51, 52, 53, 54, 55] (by decide +kernel) (by decide +kernel)
set_option maxRecDepth 20000 in
theorem gX4_comparing_X1_all : GoodIn wsX4_comparing (wsV RX4 67 RX1 yX1_all wsX1_all) := goodIn_app (goodIn_of _ (by decide +kernel)) ggX4_comparing_X1_all
set_option maxRecDepth 20000 in
theorem ggX4_comparing_X8_holds : GoodIn wsX4_comparing wsX8_holds := goodIn_r _ [33] (by decide +kernel) (by decide +kernel)
set_option maxRecDepth 20000 in
theorem gX4_comparing_X8_holds_n111 : GoodIn wsX4_comparing (wsX8_holds) := ggX4_comparing_X8_holds
set_option maxRecDepth 20000 in
theorem ggX4_comparing_X4_agrees : GoodIn wsX4_comparing wsX4_agrees := goodIn_r _ [37] (by decide +kernel) (by decide +kernel)
set_option maxRecDepth 20000 in
theorem gX4_comparing_X4_agrees : GoodIn wsX4_comparing (va_wsS RX4 135 yX4_agrees wsX4_agrees) := goodIn_app (goodIn_of _ (by decide +kernel)) ggX4_comparing_X4_agrees
set_option maxRecDepth 20000 in
theorem ggX4_comparing_X8_only : GoodIn wsX4_comparing wsX8_only := goodIn_r _ [39] (by decide +kernel) (by decide +kernel)
set_option maxRecDepth 20000 in
theorem gX4_comparing_X8_only_n119 : GoodIn wsX4_comparing (wsX8_only) := ggX4_comparing_X8_only
theorem dX4_comparing_0 : decode cX4_comparing 0 = .ok (.aload_n 1, 1) := by decide +kernel
theorem dX4_comparing_1 : decode cX4_comparing 1 = .ok (.iload_n 2, 1) := by decide +kernel
theorem dX4_comparing_2 : decode cX4_comparing 2 = .ok (.invokevirtual 51, 3) := by decide +kernel
theorem dX4_comparing_5 : decode cX4_comparing 5 = .ok (.invokestatic 131, 3) := by decide +kernel
theorem dX4_comparing_8 : decode cX4_comparing 8 = .ok (.istore_n 3, 1) := by decide +kernel
theorem dX4_comparing_9 : decode cX4_comparing 9 = .ok (.iload_n 3, 1) := by decide +kernel
theorem dX4_comparing_10 : decode cX4_comparing 10 = .ok (.iconst (-1), 1) := by decide +kernel
theorem dX4_comparing_11 : decode cX4_comparing 11 = .ok (.if_icmp .ne 5, 3) := by decide +kernel
theorem dX4_comparing_14 : decode cX4_comparing 14 = .ok (.lconst 0, 1) := by decide +kernel
theorem dX4_comparing_15 : decode cX4_comparing 15 = .ok (.lreturn, 1) := by decide +kernel
theorem dX4_comparing_16 : decode cX4_comparing 16 = .ok (.aload_n 1, 1) := by decide +kernel
theorem dX4_comparing_17 : decode cX4_comparing 17 = .ok (.iload_n 2, 1) := by decide +kernel
theorem dX4_comparing_18 : decode cX4_comparing 18 = .ok (.iconst 1, 1) := by decide +kernel
theorem dX4_comparing_19 : decode cX4_comparing 19 = .ok (.iadd, 1) := by decide +kernel
theorem dX4_comparing_20 : decode cX4_comparing 20 = .ok (.invokevirtual 51, 3) := by decide +kernel
theorem dX4_comparing_23 : decode cX4_comparing 23 = .ok (.istore 4, 2) := by decide +kernel
theorem dX4_comparing_25 : decode cX4_comparing 25 = .ok (.aload_n 1, 1) := by decide +kernel
theorem dX4_comparing_26 : decode cX4_comparing 26 = .ok (.iload_n 2, 1) := by decide +kernel
theorem dX4_comparing_27 : decode cX4_comparing 27 = .ok (.iconst 2, 1) := by decide +kernel
theorem dX4_comparing_28 : decode cX4_comparing 28 = .ok (.iadd, 1) := by decide +kernel
theorem dX4_comparing_29 : decode cX4_comparing 29 = .ok (.invokevirtual 81, 3) := by decide +kernel
theorem dX4_comparing_32 : decode cX4_comparing 32 = .ok (.istore 5, 2) := by decide +kernel
theorem dX4_comparing_34 : decode cX4_comparing 34 = .ok (.lconst 0, 1) := by decide +kernel
theorem dX4_comparing_35 : decode cX4_comparing 35 = .ok (.lstore 6, 2) := by decide +kernel
theorem dX4_comparing_37 : decode cX4_comparing 37 = .ok (.iconst 0, 1) := by decide +kernel
theorem dX4_comparing_38 : decode cX4_comparing 38 = .ok (.istore 8, 2) := by decide +kernel
theorem dX4_comparing_40 : decode cX4_comparing 40 = .ok (.iload 8, 2) := by decide +kernel
theorem dX4_comparing_42 : decode cX4_comparing 42 = .ok (.bipush 40, 2) := by decide +kernel
theorem dX4_comparing_44 : decode cX4_comparing 44 = .ok (.if_icmp .ge 58, 3) := by decide +kernel
theorem dX4_comparing_47 : decode cX4_comparing 47 = .ok (.aload_n 0, 1) := by decide +kernel
theorem dX4_comparing_48 : decode cX4_comparing 48 = .ok (.getfield 9, 3) := by decide +kernel
theorem dX4_comparing_51 : decode cX4_comparing 51 = .ok (.iload 8, 2) := by decide +kernel
theorem dX4_comparing_53 : decode cX4_comparing 53 = .ok (.iload_n 3, 1) := by decide +kernel
theorem dX4_comparing_54 : decode cX4_comparing 54 = .ok (.invokevirtual 115, 3) := by decide +kernel
theorem dX4_comparing_57 : decode cX4_comparing 57 = .ok (.istore 9, 2) := by decide +kernel
theorem dX4_comparing_59 : decode cX4_comparing 59 = .ok (.aload_n 0, 1) := by decide +kernel
theorem dX4_comparing_60 : decode cX4_comparing 60 = .ok (.getfield 9, 3) := by decide +kernel
theorem dX4_comparing_63 : decode cX4_comparing 63 = .ok (.invokevirtual 67, 3) := by decide +kernel
theorem dX4_comparing_66 : decode cX4_comparing 66 = .ok (.iload 8, 2) := by decide +kernel
theorem dX4_comparing_68 : decode cX4_comparing 68 = .ok (.invokestatic 111, 3) := by decide +kernel
theorem dX4_comparing_71 : decode cX4_comparing 71 = .ok (.ifCond .eq 25, 3) := by decide +kernel
theorem dX4_comparing_74 : decode cX4_comparing 74 = .ok (.iload 9, 2) := by decide +kernel
theorem dX4_comparing_76 : decode cX4_comparing 76 = .ok (.iload 4, 2) := by decide +kernel
theorem dX4_comparing_78 : decode cX4_comparing 78 = .ok (.iload 5, 2) := by decide +kernel
theorem dX4_comparing_80 : decode cX4_comparing 80 = .ok (.invokestatic 135, 3) := by decide +kernel
theorem dX4_comparing_83 : decode cX4_comparing 83 = .ok (.ifCond .eq 13, 3) := by decide +kernel
theorem dX4_comparing_86 : decode cX4_comparing 86 = .ok (.lload 6, 2) := by decide +kernel
theorem dX4_comparing_88 : decode cX4_comparing 88 = .ok (.iload 8, 2) := by decide +kernel
theorem dX4_comparing_90 : decode cX4_comparing 90 = .ok (.invokestatic 119, 3) := by decide +kernel
theorem dX4_comparing_93 : decode cX4_comparing 93 = .ok (.lor, 1) := by decide +kernel
theorem dX4_comparing_94 : decode cX4_comparing 94 = .ok (.lstore 6, 2) := by decide +kernel
theorem dX4_comparing_96 : decode cX4_comparing 96 = .ok (.iinc 8 1, 3) := by decide +kernel
theorem dX4_comparing_99 : decode cX4_comparing 99 = .ok (.goto (-59), 3) := by decide +kernel
theorem dX4_comparing_102 : decode cX4_comparing 102 = .ok (.lload 6, 2) := by decide +kernel
theorem dX4_comparing_104 : decode cX4_comparing 104 = .ok (.lreturn, 1) := by decide +kernel
theorem dX4_agrees_0 : decode cX4_agrees 0 = .ok (.iload_n 0, 1) := by decide +kernel
theorem dX4_agrees_1 : decode cX4_agrees 1 = .ok (.iconst (-1), 1) := by decide +kernel
theorem dX4_agrees_2 : decode cX4_agrees 2 = .ok (.if_icmp .ne 5, 3) := by decide +kernel
theorem dX4_agrees_5 : decode cX4_agrees 5 = .ok (.iconst 0, 1) := by decide +kernel
theorem dX4_agrees_6 : decode cX4_agrees 6 = .ok (.ireturn, 1) := by decide +kernel
theorem dX4_agrees_7 : decode cX4_agrees 7 = .ok (.iload_n 1, 1) := by decide +kernel
theorem dX4_agrees_8 : decode cX4_agrees 8 = .ok (.tableswitch 61 60 62 #[28, 39, 50], 28) := by decide +kernel
theorem dX4_agrees_36 : decode cX4_agrees 36 = .ok (.iload_n 0, 1) := by decide +kernel
theorem dX4_agrees_37 : decode cX4_agrees 37 = .ok (.iload_n 2, 1) := by decide +kernel
theorem dX4_agrees_38 : decode cX4_agrees 38 = .ok (.if_icmp .ge 7, 3) := by decide +kernel
theorem dX4_agrees_41 : decode cX4_agrees 41 = .ok (.iconst 1, 1) := by decide +kernel
theorem dX4_agrees_42 : decode cX4_agrees 42 = .ok (.goto 4, 3) := by decide +kernel
theorem dX4_agrees_45 : decode cX4_agrees 45 = .ok (.iconst 0, 1) := by decide +kernel
theorem dX4_agrees_46 : decode cX4_agrees 46 = .ok (.ireturn, 1) := by decide +kernel
theorem dX4_agrees_47 : decode cX4_agrees 47 = .ok (.iload_n 0, 1) := by decide +kernel
theorem dX4_agrees_48 : decode cX4_agrees 48 = .ok (.iload_n 2, 1) := by decide +kernel
theorem dX4_agrees_49 : decode cX4_agrees 49 = .ok (.if_icmp .ne 7, 3) := by decide +kernel
theorem dX4_agrees_52 : decode cX4_agrees 52 = .ok (.iconst 1, 1) := by decide +kernel
theorem dX4_agrees_53 : decode cX4_agrees 53 = .ok (.goto 4, 3) := by decide +kernel
theorem dX4_agrees_56 : decode cX4_agrees 56 = .ok (.iconst 0, 1) := by decide +kernel
theorem dX4_agrees_57 : decode cX4_agrees 57 = .ok (.ireturn, 1) := by decide +kernel
theorem dX4_agrees_58 : decode cX4_agrees 58 = .ok (.iload_n 0, 1) := by decide +kernel
theorem dX4_agrees_59 : decode cX4_agrees 59 = .ok (.iload_n 2, 1) := by decide +kernel
theorem dX4_agrees_60 : decode cX4_agrees 60 = .ok (.if_icmp .le 7, 3) := by decide +kernel
theorem dX4_agrees_63 : decode cX4_agrees 63 = .ok (.iconst 1, 1) := by decide +kernel
theorem dX4_agrees_64 : decode cX4_agrees 64 = .ok (.goto 4, 3) := by decide +kernel
theorem dX4_agrees_67 : decode cX4_agrees 67 = .ok (.iconst 0, 1) := by decide +kernel
theorem dX4_agrees_68 : decode cX4_agrees 68 = .ok (.ireturn, 1) := by decide +kernel
theorem dX4_agrees_69 : decode cX4_agrees 69 = .ok (.iconst 1, 1) := by decide +kernel
theorem dX4_agrees_70 : decode cX4_agrees 70 = .ok (.ireturn, 1) := by decide +kernel
theorem dX5_init_0 : decode cX5_init 0 = .ok (.aload_n 0, 1) := by decide +kernel
theorem dX5_init_1 : decode cX5_init 1 = .ok (.invokespecial 3, 3) := by decide +kernel
theorem dX5_init_4 : decode cX5_init 4 = .ok (.aload_n 0, 1) := by decide +kernel
theorem dX5_init_5 : decode cX5_init 5 = .ok (.bipush 80, 2) := by decide +kernel
theorem dX5_init_7 : decode cX5_init 7 = .ok (.newarray .char, 2) := by decide +kernel
theorem dX5_init_9 : decode cX5_init 9 = .ok (.putfield 9, 3) := by decide +kernel
theorem dX5_init_12 : decode cX5_init 12 = .ok (.return_, 1) := by decide +kernel
theorem dX5_length_0 : decode cX5_length 0 = .ok (.aload_n 0, 1) := by decide +kernel
theorem dX5_length_1 : decode cX5_length 1 = .ok (.getfield 15, 3) := by decide +kernel
theorem dX5_length_4 : decode cX5_length 4 = .ok (.ireturn, 1) := by decide +kernel
theorem dX5_append_0 : decode cX5_append 0 = .ok (.aload_n 0, 1) := by decide +kernel
theorem dX5_append_1 : decode cX5_append 1 = .ok (.getfield 15, 3) := by decide +kernel
theorem dX5_append_4 : decode cX5_append 4 = .ok (.bipush 80, 2) := by decide +kernel
theorem dX5_append_6 : decode cX5_append 6 = .ok (.if_icmp .ge 23, 3) := by decide +kernel
theorem dX5_append_9 : decode cX5_append 9 = .ok (.aload_n 0, 1) := by decide +kernel
theorem dX5_append_10 : decode cX5_append 10 = .ok (.getfield 9, 3) := by decide +kernel
theorem dX5_append_13 : decode cX5_append 13 = .ok (.aload_n 0, 1) := by decide +kernel
theorem dX5_append_14 : decode cX5_append 14 = .ok (.getfield 15, 3) := by decide +kernel
theorem dX5_append_17 : decode cX5_append 17 = .ok (.iload_n 1, 1) := by decide +kernel
theorem dX5_append_18 : decode cX5_append 18 = .ok (.castore, 1) := by decide +kernel
theorem dX5_append_19 : decode cX5_append 19 = .ok (.aload_n 0, 1) := by decide +kernel
theorem dX5_append_20 : decode cX5_append 20 = .ok (.dup, 1) := by decide +kernel
theorem dX5_append_21 : decode cX5_append 21 = .ok (.getfield 15, 3) := by decide +kernel
theorem dX5_append_24 : decode cX5_append 24 = .ok (.iconst 1, 1) := by decide +kernel
theorem dX5_append_25 : decode cX5_append 25 = .ok (.iadd, 1) := by decide +kernel
theorem dX5_append_26 : decode cX5_append 26 = .ok (.putfield 15, 3) := by decide +kernel
theorem dX5_append_29 : decode cX5_append 29 = .ok (.return_, 1) := by decide +kernel
theorem dX5_empty_0 : decode cX5_empty 0 = .ok (.aload_n 0, 1) := by decide +kernel
theorem dX5_empty_1 : decode cX5_empty 1 = .ok (.iconst 0, 1) := by decide +kernel
theorem dX5_empty_2 : decode cX5_empty 2 = .ok (.putfield 15, 3) := by decide +kernel
theorem dX5_empty_5 : decode cX5_empty 5 = .ok (.return_, 1) := by decide +kernel
theorem dX5_copy_0 : decode cX5_copy 0 = .ok (.aload_n 1, 1) := by decide +kernel
theorem dX5_copy_1 : decode cX5_copy 1 = .ok (.getfield 9, 3) := by decide +kernel
theorem dX5_copy_4 : decode cX5_copy 4 = .ok (.iconst 0, 1) := by decide +kernel
theorem dX5_copy_5 : decode cX5_copy 5 = .ok (.aload_n 0, 1) := by decide +kernel
theorem dX5_copy_6 : decode cX5_copy 6 = .ok (.getfield 9, 3) := by decide +kernel
theorem dX5_copy_9 : decode cX5_copy 9 = .ok (.iconst 0, 1) := by decide +kernel
theorem dX5_copy_10 : decode cX5_copy 10 = .ok (.aload_n 1, 1) := by decide +kernel
theorem dX5_copy_11 : decode cX5_copy 11 = .ok (.getfield 15, 3) := by decide +kernel
theorem dX5_copy_14 : decode cX5_copy 14 = .ok (.invokestatic 19, 3) := by decide +kernel
theorem dX5_copy_17 : decode cX5_copy 17 = .ok (.aload_n 0, 1) := by decide +kernel
theorem dX5_copy_18 : decode cX5_copy 18 = .ok (.aload_n 1, 1) := by decide +kernel
theorem dX5_copy_19 : decode cX5_copy 19 = .ok (.getfield 15, 3) := by decide +kernel
theorem dX5_copy_22 : decode cX5_copy 22 = .ok (.putfield 15, 3) := by decide +kernel
theorem dX5_copy_25 : decode cX5_copy 25 = .ok (.return_, 1) := by decide +kernel
theorem dX5_at_0 : decode cX5_at 0 = .ok (.iload_n 1, 1) := by decide +kernel
theorem dX5_at_1 : decode cX5_at 1 = .ok (.ifCond .lt 20, 3) := by decide +kernel
theorem dX5_at_4 : decode cX5_at 4 = .ok (.iload_n 1, 1) := by decide +kernel
theorem dX5_at_5 : decode cX5_at 5 = .ok (.aload_n 0, 1) := by decide +kernel
theorem dX5_at_6 : decode cX5_at 6 = .ok (.getfield 15, 3) := by decide +kernel
theorem dX5_at_9 : decode cX5_at 9 = .ok (.if_icmp .ge 12, 3) := by decide +kernel
theorem dX5_at_12 : decode cX5_at 12 = .ok (.aload_n 0, 1) := by decide +kernel
theorem dX5_at_13 : decode cX5_at 13 = .ok (.getfield 9, 3) := by decide +kernel
theorem dX5_at_16 : decode cX5_at 16 = .ok (.iload_n 1, 1) := by decide +kernel
theorem dX5_at_17 : decode cX5_at 17 = .ok (.caload, 1) := by decide +kernel
theorem dX5_at_18 : decode cX5_at 18 = .ok (.goto 4, 3) := by decide +kernel
theorem dX5_at_21 : decode cX5_at 21 = .ok (.iconst 0, 1) := by decide +kernel
theorem dX5_at_22 : decode cX5_at 22 = .ok (.ireturn, 1) := by decide +kernel
set_option maxRecDepth 20000 in
theorem ggX5_numberAt_X5_at : GoodIn wsX5_numberAt wsX5_at := goodIn_r _ [5, 6, 7, 11, 12] (by decide +kernel) (by decide +kernel)
set_option maxRecDepth 20000 in
theorem gX5_numberAt_X5_at : GoodIn wsX5_numberAt (wsV RX5 25 RX5 yX5_at wsX5_at) := goodIn_app (goodIn_of _ (by decide +kernel)) ggX5_numberAt_X5_at
set_option maxRecDepth 20000 in
theorem ggX5_numberAt_X5_isDigit : GoodIn wsX5_numberAt wsX5_isDigit := goodIn_r _ [10] (by decide +kernel) (by decide +kernel)
set_option maxRecDepth 20000 in
theorem gX5_numberAt_X5_isDigit : GoodIn wsX5_numberAt (va_wsS RX5 29 yX5_isDigit wsX5_isDigit) := goodIn_app (goodIn_of _ (by decide +kernel)) ggX5_numberAt_X5_isDigit
theorem dX5_numberAt_0 : decode cX5_numberAt 0 = .ok (.iconst 0, 1) := by decide +kernel
theorem dX5_numberAt_1 : decode cX5_numberAt 1 = .ok (.istore_n 2, 1) := by decide +kernel
theorem dX5_numberAt_2 : decode cX5_numberAt 2 = .ok (.iload_n 1, 1) := by decide +kernel
theorem dX5_numberAt_3 : decode cX5_numberAt 3 = .ok (.istore_n 3, 1) := by decide +kernel
theorem dX5_numberAt_4 : decode cX5_numberAt 4 = .ok (.iload_n 3, 1) := by decide +kernel
theorem dX5_numberAt_5 : decode cX5_numberAt 5 = .ok (.iload_n 1, 1) := by decide +kernel
theorem dX5_numberAt_6 : decode cX5_numberAt 6 = .ok (.iconst 5, 1) := by decide +kernel
theorem dX5_numberAt_7 : decode cX5_numberAt 7 = .ok (.iadd, 1) := by decide +kernel
theorem dX5_numberAt_8 : decode cX5_numberAt 8 = .ok (.if_icmp .ge 34, 3) := by decide +kernel
theorem dX5_numberAt_11 : decode cX5_numberAt 11 = .ok (.aload_n 0, 1) := by decide +kernel
theorem dX5_numberAt_12 : decode cX5_numberAt 12 = .ok (.iload_n 3, 1) := by decide +kernel
theorem dX5_numberAt_13 : decode cX5_numberAt 13 = .ok (.invokevirtual 25, 3) := by decide +kernel
theorem dX5_numberAt_16 : decode cX5_numberAt 16 = .ok (.invokestatic 29, 3) := by decide +kernel
theorem dX5_numberAt_19 : decode cX5_numberAt 19 = .ok (.ifCond .eq 23, 3) := by decide +kernel
theorem dX5_numberAt_22 : decode cX5_numberAt 22 = .ok (.bipush 10, 2) := by decide +kernel
theorem dX5_numberAt_24 : decode cX5_numberAt 24 = .ok (.iload_n 2, 1) := by decide +kernel
theorem dX5_numberAt_25 : decode cX5_numberAt 25 = .ok (.imul, 1) := by decide +kernel
theorem dX5_numberAt_26 : decode cX5_numberAt 26 = .ok (.aload_n 0, 1) := by decide +kernel
theorem dX5_numberAt_27 : decode cX5_numberAt 27 = .ok (.iload_n 3, 1) := by decide +kernel
theorem dX5_numberAt_28 : decode cX5_numberAt 28 = .ok (.invokevirtual 25, 3) := by decide +kernel
theorem dX5_numberAt_31 : decode cX5_numberAt 31 = .ok (.bipush 48, 2) := by decide +kernel
theorem dX5_numberAt_33 : decode cX5_numberAt 33 = .ok (.isub, 1) := by decide +kernel
theorem dX5_numberAt_34 : decode cX5_numberAt 34 = .ok (.iadd, 1) := by decide +kernel
theorem dX5_numberAt_35 : decode cX5_numberAt 35 = .ok (.istore_n 2, 1) := by decide +kernel
theorem dX5_numberAt_36 : decode cX5_numberAt 36 = .ok (.iinc 3 1, 3) := by decide +kernel
theorem dX5_numberAt_39 : decode cX5_numberAt 39 = .ok (.goto (-35), 3) := by decide +kernel
theorem dX5_numberAt_42 : decode cX5_numberAt 42 = .ok (.iload_n 2, 1) := by decide +kernel
theorem dX5_numberAt_43 : decode cX5_numberAt 43 = .ok (.ireturn, 1) := by decide +kernel
set_option maxRecDepth 20000 in
theorem ggX5_names_X5_at : GoodIn wsX5_names wsX5_at := goodIn_r _ [6, 1, 7, 8, 9] (by decide +kernel) (by decide +kernel)
set_option maxRecDepth 20000 in
theorem gX5_names_X5_at : GoodIn wsX5_names (wsV RX5 25 RX5 yX5_at wsX5_at) := goodIn_app (goodIn_of _ (by decide +kernel)) ggX5_names_X5_at
theorem dX5_names_0 : decode cX5_names 0 = .ok (.iconst 0, 1) := by decide +kernel
theorem dX5_names_1 : decode cX5_names 1 = .ok (.istore_n 2, 1) := by decide +kernel
theorem dX5_names_2 : decode cX5_names 2 = .ok (.iload_n 2, 1) := by decide +kernel
theorem dX5_names_3 : decode cX5_names 3 = .ok (.aload_n 0, 1) := by decide +kernel
theorem dX5_names_4 : decode cX5_names 4 = .ok (.getfield 15, 3) := by decide +kernel
theorem dX5_names_7 : decode cX5_names 7 = .ok (.if_icmp .ge 35, 3) := by decide +kernel
theorem dX5_names_10 : decode cX5_names 10 = .ok (.aload_n 0, 1) := by decide +kernel
theorem dX5_names_11 : decode cX5_names 11 = .ok (.iload_n 2, 1) := by decide +kernel
theorem dX5_names_12 : decode cX5_names 12 = .ok (.invokevirtual 25, 3) := by decide +kernel
theorem dX5_names_15 : decode cX5_names 15 = .ok (.bipush 97, 2) := by decide +kernel
theorem dX5_names_17 : decode cX5_names 17 = .ok (.if_icmp .ne 19, 3) := by decide +kernel
theorem dX5_names_20 : decode cX5_names 20 = .ok (.aload_n 0, 1) := by decide +kernel
theorem dX5_names_21 : decode cX5_names 21 = .ok (.iload_n 2, 1) := by decide +kernel
theorem dX5_names_22 : decode cX5_names 22 = .ok (.iconst 1, 1) := by decide +kernel
theorem dX5_names_23 : decode cX5_names 23 = .ok (.iadd, 1) := by decide +kernel
theorem dX5_names_24 : decode cX5_names 24 = .ok (.invokevirtual 25, 3) := by decide +kernel
theorem dX5_names_27 : decode cX5_names 27 = .ok (.bipush 48, 2) := by decide +kernel
theorem dX5_names_29 : decode cX5_names 29 = .ok (.isub, 1) := by decide +kernel
theorem dX5_names_30 : decode cX5_names 30 = .ok (.iload_n 1, 1) := by decide +kernel
theorem dX5_names_31 : decode cX5_names 31 = .ok (.if_icmp .ne 5, 3) := by decide +kernel
theorem dX5_names_34 : decode cX5_names 34 = .ok (.iconst 1, 1) := by decide +kernel
theorem dX5_names_35 : decode cX5_names 35 = .ok (.ireturn, 1) := by decide +kernel
theorem dX5_names_36 : decode cX5_names 36 = .ok (.iinc 2 1, 3) := by decide +kernel
theorem dX5_names_39 : decode cX5_names 39 = .ok (.goto (-37), 3) := by decide +kernel
theorem dX5_names_42 : decode cX5_names 42 = .ok (.iconst 0, 1) := by decide +kernel
theorem dX5_names_43 : decode cX5_names 43 = .ok (.ireturn, 1) := by decide +kernel
set_option maxRecDepth 20000 in
theorem ggX5_firstFault_X5_next : GoodIn wsX5_firstFault wsX5_next := goodIn_r _ [6, 7, 8, 5, 9, 10, 11, 12, 13, 14, 15, 16, 17, 18, 19, 20, 21, 22, 23, 24] (by decide +kernel) (by decide +kernel)
set_option maxRecDepth 20000 in
theorem gX5_firstFault_X5_next : GoodIn wsX5_firstFault (va_wsS RX5 33 yX5_next wsX5_next) := goodIn_app (goodIn_of _ (by decide +kernel)) ggX5_firstFault_X5_next
theorem dX5_firstFault_0 : decode cX5_firstFault 0 = .ok (.iconst 0, 1) := by decide +kernel
theorem dX5_firstFault_1 : decode cX5_firstFault 1 = .ok (.istore_n 1, 1) := by decide +kernel
theorem dX5_firstFault_2 : decode cX5_firstFault 2 = .ok (.iconst 0, 1) := by decide +kernel
theorem dX5_firstFault_3 : decode cX5_firstFault 3 = .ok (.istore_n 2, 1) := by decide +kernel
theorem dX5_firstFault_4 : decode cX5_firstFault 4 = .ok (.iconst 0, 1) := by decide +kernel
theorem dX5_firstFault_5 : decode cX5_firstFault 5 = .ok (.istore_n 3, 1) := by decide +kernel
theorem dX5_firstFault_6 : decode cX5_firstFault 6 = .ok (.iload_n 3, 1) := by decide +kernel
theorem dX5_firstFault_7 : decode cX5_firstFault 7 = .ok (.aload_n 0, 1) := by decide +kernel
theorem dX5_firstFault_8 : decode cX5_firstFault 8 = .ok (.getfield 15, 3) := by decide +kernel
theorem dX5_firstFault_11 : decode cX5_firstFault 11 = .ok (.if_icmp .ge 55, 3) := by decide +kernel
theorem dX5_firstFault_14 : decode cX5_firstFault 14 = .ok (.aload_n 0, 1) := by decide +kernel
theorem dX5_firstFault_15 : decode cX5_firstFault 15 = .ok (.getfield 9, 3) := by decide +kernel
theorem dX5_firstFault_18 : decode cX5_firstFault 18 = .ok (.iload_n 3, 1) := by decide +kernel
theorem dX5_firstFault_19 : decode cX5_firstFault 19 = .ok (.caload, 1) := by decide +kernel
theorem dX5_firstFault_20 : decode cX5_firstFault 20 = .ok (.istore 4, 2) := by decide +kernel
theorem dX5_firstFault_22 : decode cX5_firstFault 22 = .ok (.iload_n 1, 1) := by decide +kernel
theorem dX5_firstFault_23 : decode cX5_firstFault 23 = .ok (.iload 4, 2) := by decide +kernel
theorem dX5_firstFault_25 : decode cX5_firstFault 25 = .ok (.iload_n 2, 1) := by decide +kernel
theorem dX5_firstFault_26 : decode cX5_firstFault 26 = .ok (.invokestatic 33, 3) := by decide +kernel
theorem dX5_firstFault_29 : decode cX5_firstFault 29 = .ok (.istore_n 1, 1) := by decide +kernel
theorem dX5_firstFault_30 : decode cX5_firstFault 30 = .ok (.iload_n 1, 1) := by decide +kernel
theorem dX5_firstFault_31 : decode cX5_firstFault 31 = .ok (.iconst (-1), 1) := by decide +kernel
theorem dX5_firstFault_32 : decode cX5_firstFault 32 = .ok (.if_icmp .ne 5, 3) := by decide +kernel
theorem dX5_firstFault_35 : decode cX5_firstFault 35 = .ok (.iload_n 3, 1) := by decide +kernel
theorem dX5_firstFault_36 : decode cX5_firstFault 36 = .ok (.ireturn, 1) := by decide +kernel
theorem dX5_firstFault_37 : decode cX5_firstFault 37 = .ok (.iload 4, 2) := by decide +kernel
theorem dX5_firstFault_39 : decode cX5_firstFault 39 = .ok (.bipush 40, 2) := by decide +kernel
theorem dX5_firstFault_41 : decode cX5_firstFault 41 = .ok (.if_icmp .ne 9, 3) := by decide +kernel
theorem dX5_firstFault_44 : decode cX5_firstFault 44 = .ok (.iinc 2 1, 3) := by decide +kernel
theorem dX5_firstFault_47 : decode cX5_firstFault 47 = .ok (.goto 13, 3) := by decide +kernel
theorem dX5_firstFault_50 : decode cX5_firstFault 50 = .ok (.iload 4, 2) := by decide +kernel
theorem dX5_firstFault_52 : decode cX5_firstFault 52 = .ok (.bipush 41, 2) := by decide +kernel
theorem dX5_firstFault_54 : decode cX5_firstFault 54 = .ok (.if_icmp .ne 6, 3) := by decide +kernel
theorem dX5_firstFault_57 : decode cX5_firstFault 57 = .ok (.iinc 2 (-1), 3) := by decide +kernel
theorem dX5_firstFault_60 : decode cX5_firstFault 60 = .ok (.iinc 3 1, 3) := by decide +kernel
theorem dX5_firstFault_63 : decode cX5_firstFault 63 = .ok (.goto (-57), 3) := by decide +kernel
theorem dX5_firstFault_66 : decode cX5_firstFault 66 = .ok (.iload_n 1, 1) := by decide +kernel
theorem dX5_firstFault_67 : decode cX5_firstFault 67 = .ok (.iconst 3, 1) := by decide +kernel
theorem dX5_firstFault_68 : decode cX5_firstFault 68 = .ok (.if_icmp .lt 16, 3) := by decide +kernel
theorem dX5_firstFault_71 : decode cX5_firstFault 71 = .ok (.iload_n 1, 1) := by decide +kernel
theorem dX5_firstFault_72 : decode cX5_firstFault 72 = .ok (.iconst 4, 1) := by decide +kernel
theorem dX5_firstFault_73 : decode cX5_firstFault 73 = .ok (.if_icmp .eq 11, 3) := by decide +kernel
theorem dX5_firstFault_76 : decode cX5_firstFault 76 = .ok (.iload_n 2, 1) := by decide +kernel
theorem dX5_firstFault_77 : decode cX5_firstFault 77 = .ok (.ifCond .ne 7, 3) := by decide +kernel
theorem dX5_firstFault_80 : decode cX5_firstFault 80 = .ok (.iconst (-1), 1) := by decide +kernel
theorem dX5_firstFault_81 : decode cX5_firstFault 81 = .ok (.goto 7, 3) := by decide +kernel
theorem dX5_firstFault_84 : decode cX5_firstFault 84 = .ok (.aload_n 0, 1) := by decide +kernel
theorem dX5_firstFault_85 : decode cX5_firstFault 85 = .ok (.getfield 15, 3) := by decide +kernel
theorem dX5_firstFault_88 : decode cX5_firstFault 88 = .ok (.ireturn, 1) := by decide +kernel
set_option maxRecDepth 20000 in
theorem ggX5_next_X5_inItem : GoodIn wsX5_next wsX5_inItem := goodIn_r _ [4, 5, 6, 3, 7] (by decide +kernel) (by decide +kernel)
set_option maxRecDepth 20000 in
theorem gX5_next_X5_inItem : GoodIn wsX5_next (va_wsS RX5 37 yX5_inItem wsX5_inItem) := goodIn_app (goodIn_of _ (by decide +kernel)) ggX5_next_X5_inItem
set_option maxRecDepth 20000 in
theorem ggX5_next_X5_afterField : GoodIn wsX5_next wsX5_afterField := goodIn_r _ [10] (by decide +kernel) (by decide +kernel)
set_option maxRecDepth 20000 in
theorem gX5_next_X5_afterField : GoodIn wsX5_next (va_wsS RX5 41 yX5_afterField wsX5_afterField) := goodIn_app (goodIn_of _ (by decide +kernel)) ggX5_next_X5_afterField
set_option maxRecDepth 20000 in
theorem ggX5_next_X5_isDigit : GoodIn wsX5_next wsX5_isDigit := goodIn_r _ [13] (by decide +kernel) (by decide +kernel)
set_option maxRecDepth 20000 in
theorem gX5_next_X5_isDigit : GoodIn wsX5_next (va_wsS RX5 29 yX5_isDigit wsX5_isDigit) := goodIn_app (goodIn_of _ (by decide +kernel)) ggX5_next_X5_isDigit
set_option maxRecDepth 20000 in
theorem ggX5_next_X5_afterItem : GoodIn wsX5_next wsX5_afterItem := goodIn_r _ [16] (by decide +kernel) (by decide +kernel)
set_option maxRecDepth 20000 in
theorem gX5_next_X5_afterItem : GoodIn wsX5_next (va_wsS RX5 45 yX5_afterItem wsX5_afterItem) := goodIn_app (goodIn_of _ (by decide +kernel)) ggX5_next_X5_afterItem
set_option maxRecDepth 20000 in
theorem ggX5_next_X5_inNumber : GoodIn wsX5_next wsX5_inNumber := goodIn_r _ [19, 11, 12, 3, 13, 14, 15, 16] (by decide +kernel) (by decide +kernel)
set_option maxRecDepth 20000 in
theorem gX5_next_X5_inNumber : GoodIn wsX5_next (va_wsS RX5 48 yX5_inNumber wsX5_inNumber) := goodIn_app (goodIn_of _ (by decide +kernel)) ggX5_next_X5_inNumber
theorem dX5_next_0 : decode cX5_next 0 = .ok (.iload_n 0, 1) := by decide +kernel
theorem dX5_next_1 : decode cX5_next 1 = .ok (.tableswitch 61 0 3 #[31, 37, 42, 55], 31) := by decide +kernel
theorem dX5_next_32 : decode cX5_next 32 = .ok (.iload_n 1, 1) := by decide +kernel
theorem dX5_next_33 : decode cX5_next 33 = .ok (.iload_n 2, 1) := by decide +kernel
theorem dX5_next_34 : decode cX5_next 34 = .ok (.invokestatic 37, 3) := by decide +kernel
theorem dX5_next_37 : decode cX5_next 37 = .ok (.ireturn, 1) := by decide +kernel
theorem dX5_next_38 : decode cX5_next 38 = .ok (.iload_n 1, 1) := by decide +kernel
theorem dX5_next_39 : decode cX5_next 39 = .ok (.invokestatic 41, 3) := by decide +kernel
theorem dX5_next_42 : decode cX5_next 42 = .ok (.ireturn, 1) := by decide +kernel
theorem dX5_next_43 : decode cX5_next 43 = .ok (.iload_n 1, 1) := by decide +kernel
theorem dX5_next_44 : decode cX5_next 44 = .ok (.invokestatic 29, 3) := by decide +kernel
theorem dX5_next_47 : decode cX5_next 47 = .ok (.ifCond .eq 7, 3) := by decide +kernel
theorem dX5_next_50 : decode cX5_next 50 = .ok (.iconst 3, 1) := by decide +kernel
theorem dX5_next_51 : decode cX5_next 51 = .ok (.goto 4, 3) := by decide +kernel
theorem dX5_next_54 : decode cX5_next 54 = .ok (.iconst (-1), 1) := by decide +kernel
theorem dX5_next_55 : decode cX5_next 55 = .ok (.ireturn, 1) := by decide +kernel
theorem dX5_next_56 : decode cX5_next 56 = .ok (.iload_n 1, 1) := by decide +kernel
theorem dX5_next_57 : decode cX5_next 57 = .ok (.iload_n 2, 1) := by decide +kernel
theorem dX5_next_58 : decode cX5_next 58 = .ok (.invokestatic 45, 3) := by decide +kernel
theorem dX5_next_61 : decode cX5_next 61 = .ok (.ireturn, 1) := by decide +kernel
theorem dX5_next_62 : decode cX5_next 62 = .ok (.iload_n 0, 1) := by decide +kernel
theorem dX5_next_63 : decode cX5_next 63 = .ok (.iload_n 1, 1) := by decide +kernel
theorem dX5_next_64 : decode cX5_next 64 = .ok (.iload_n 2, 1) := by decide +kernel
theorem dX5_next_65 : decode cX5_next 65 = .ok (.invokestatic 48, 3) := by decide +kernel
theorem dX5_next_68 : decode cX5_next 68 = .ok (.ireturn, 1) := by decide +kernel
set_option maxRecDepth 20000 in
theorem ggX5_inItem_X5_fieldNamed : GoodIn wsX5_inItem wsX5_fieldNamed := goodIn_r _ [4] (by decide +kernel) (by decide +kernel)
set_option maxRecDepth 20000 in
theorem gX5_inItem_X5_fieldNamed : GoodIn wsX5_inItem (va_wsS RX5 51 yX5_fieldNamed wsX5_fieldNamed) := goodIn_app (goodIn_of _ (by decide +kernel)) ggX5_inItem_X5_fieldNamed
theorem dX5_inItem_0 : decode cX5_inItem 0 = .ok (.iload_n 0, 1) := by decide +kernel
theorem dX5_inItem_1 : decode cX5_inItem 1 = .ok (.bipush 33, 2) := by decide +kernel
theorem dX5_inItem_3 : decode cX5_inItem 3 = .ok (.if_icmp .eq 15, 3) := by decide +kernel
theorem dX5_inItem_6 : decode cX5_inItem 6 = .ok (.iload_n 0, 1) := by decide +kernel
theorem dX5_inItem_7 : decode cX5_inItem 7 = .ok (.bipush 40, 2) := by decide +kernel
theorem dX5_inItem_9 : decode cX5_inItem 9 = .ok (.if_icmp .ne 11, 3) := by decide +kernel
