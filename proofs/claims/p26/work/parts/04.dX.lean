theorem dX0_init_0 : decode cX0_init 0 = .ok (.aload_n 0, 1) := by decide +kernel
theorem dX0_init_1 : decode cX0_init 1 = .ok (.invokespecial 3, 3) := by decide +kernel
theorem dX0_init_4 : decode cX0_init 4 = .ok (.aload_n 0, 1) := by decide +kernel
theorem dX0_init_5 : decode cX0_init 5 = .ok (.sipush 128, 3) := by decide +kernel
theorem dX0_init_8 : decode cX0_init 8 = .ok (.newarray .int, 2) := by decide +kernel
theorem dX0_init_10 : decode cX0_init 10 = .ok (.putfield 11, 3) := by decide +kernel
theorem dX0_init_13 : decode cX0_init 13 = .ok (.aload_n 0, 1) := by decide +kernel
theorem dX0_init_14 : decode cX0_init 14 = .ok (.sipush 128, 3) := by decide +kernel
theorem dX0_init_17 : decode cX0_init 17 = .ok (.newarray .int, 2) := by decide +kernel
theorem dX0_init_19 : decode cX0_init 19 = .ok (.putfield 15, 3) := by decide +kernel
theorem dX0_init_22 : decode cX0_init 22 = .ok (.aload_n 0, 1) := by decide +kernel
theorem dX0_init_23 : decode cX0_init 23 = .ok (.sipush 128, 3) := by decide +kernel
theorem dX0_init_26 : decode cX0_init 26 = .ok (.newarray .int, 2) := by decide +kernel
theorem dX0_init_28 : decode cX0_init 28 = .ok (.putfield 18, 3) := by decide +kernel
theorem dX0_init_31 : decode cX0_init 31 = .ok (.aload_n 0, 1) := by decide +kernel
theorem dX0_init_32 : decode cX0_init 32 = .ok (.sipush 128, 3) := by decide +kernel
theorem dX0_init_35 : decode cX0_init 35 = .ok (.newarray .int, 2) := by decide +kernel
theorem dX0_init_37 : decode cX0_init 37 = .ok (.putfield 21, 3) := by decide +kernel
theorem dX0_init_40 : decode cX0_init 40 = .ok (.aload_n 0, 1) := by decide +kernel
theorem dX0_init_41 : decode cX0_init 41 = .ok (.sipush 128, 3) := by decide +kernel
theorem dX0_init_44 : decode cX0_init 44 = .ok (.newarray .int, 2) := by decide +kernel
theorem dX0_init_46 : decode cX0_init 46 = .ok (.putfield 24, 3) := by decide +kernel
theorem dX0_init_49 : decode cX0_init 49 = .ok (.aload_n 0, 1) := by decide +kernel
theorem dX0_init_50 : decode cX0_init 50 = .ok (.sipush 128, 3) := by decide +kernel
theorem dX0_init_53 : decode cX0_init 53 = .ok (.newarray .int, 2) := by decide +kernel
theorem dX0_init_55 : decode cX0_init 55 = .ok (.putfield 27, 3) := by decide +kernel
theorem dX0_init_58 : decode cX0_init 58 = .ok (.return_, 1) := by decide +kernel
set_option maxRecDepth 20000 in
theorem ggX0_renew_X0_setSpan : GoodIn wsX0_renew wsX0_setSpan := goodIn_r _ [14, 2, 1, 23, 24, 25, 26, 27, 28, 29, 30, 31] (by decide +kernel) (by decide +kernel)
set_option maxRecDepth 20000 in
theorem gX0_renew_X0_setSpan : GoodIn wsX0_renew (wsV RX0 30 RX0 yX0_setSpan wsX0_setSpan) := goodIn_app (goodIn_of _ (by decide +kernel)) ggX0_renew_X0_setSpan
set_option maxRecDepth 20000 in
theorem ggX0_renew_X0_splitSpan : GoodIn wsX0_renew wsX0_splitSpan := goodIn_r _ [18, 2, 1, 19, 20, 21, 13, 22, 10, 11, 12, 14, 23, 24, 25, 26, 27, 28, 29, 30, 31] (by decide +kernel) (by decide +kernel)
set_option maxRecDepth 20000 in
theorem gX0_renew_X0_splitSpan : GoodIn wsX0_renew (wsV RX0 34 RX0 yX0_splitSpan wsX0_splitSpan) := goodIn_app (goodIn_of _ (by decide +kernel)) ggX0_renew_X0_splitSpan
theorem dX0_renew_0 : decode cX0_renew 0 = .ok (.aload_n 0, 1) := by decide +kernel
theorem dX0_renew_1 : decode cX0_renew 1 = .ok (.iconst 1, 1) := by decide +kernel
theorem dX0_renew_2 : decode cX0_renew 2 = .ok (.iconst 0, 1) := by decide +kernel
theorem dX0_renew_3 : decode cX0_renew 3 = .ok (.iload_n 1, 1) := by decide +kernel
theorem dX0_renew_4 : decode cX0_renew 4 = .ok (.iconst 1, 1) := by decide +kernel
theorem dX0_renew_5 : decode cX0_renew 5 = .ok (.isub, 1) := by decide +kernel
theorem dX0_renew_6 : decode cX0_renew 6 = .ok (.invokevirtual 30, 3) := by decide +kernel
theorem dX0_renew_9 : decode cX0_renew 9 = .ok (.iconst 1, 1) := by decide +kernel
theorem dX0_renew_10 : decode cX0_renew 10 = .ok (.istore_n 3, 1) := by decide +kernel
theorem dX0_renew_11 : decode cX0_renew 11 = .ok (.iload_n 3, 1) := by decide +kernel
theorem dX0_renew_12 : decode cX0_renew 12 = .ok (.bipush 64, 2) := by decide +kernel
theorem dX0_renew_14 : decode cX0_renew 14 = .ok (.if_icmp .ge 14, 3) := by decide +kernel
theorem dX0_renew_17 : decode cX0_renew 17 = .ok (.aload_n 0, 1) := by decide +kernel
theorem dX0_renew_18 : decode cX0_renew 18 = .ok (.iload_n 3, 1) := by decide +kernel
theorem dX0_renew_19 : decode cX0_renew 19 = .ok (.invokevirtual 34, 3) := by decide +kernel
theorem dX0_renew_22 : decode cX0_renew 22 = .ok (.iinc 3 1, 3) := by decide +kernel
theorem dX0_renew_25 : decode cX0_renew 25 = .ok (.goto (-14), 3) := by decide +kernel
theorem dX0_renew_28 : decode cX0_renew 28 = .ok (.iconst 1, 1) := by decide +kernel
theorem dX0_renew_29 : decode cX0_renew 29 = .ok (.istore_n 3, 1) := by decide +kernel
theorem dX0_renew_30 : decode cX0_renew 30 = .ok (.iload_n 3, 1) := by decide +kernel
theorem dX0_renew_31 : decode cX0_renew 31 = .ok (.sipush 128, 3) := by decide +kernel
theorem dX0_renew_34 : decode cX0_renew 34 = .ok (.if_icmp .ge 58, 3) := by decide +kernel
theorem dX0_renew_37 : decode cX0_renew 37 = .ok (.aload_n 0, 1) := by decide +kernel
theorem dX0_renew_38 : decode cX0_renew 38 = .ok (.getfield 15, 3) := by decide +kernel
theorem dX0_renew_41 : decode cX0_renew 41 = .ok (.iload_n 3, 1) := by decide +kernel
theorem dX0_renew_42 : decode cX0_renew 42 = .ok (.iaload, 1) := by decide +kernel
theorem dX0_renew_43 : decode cX0_renew 43 = .ok (.aload_n 0, 1) := by decide +kernel
theorem dX0_renew_44 : decode cX0_renew 44 = .ok (.getfield 11, 3) := by decide +kernel
theorem dX0_renew_47 : decode cX0_renew 47 = .ok (.iload_n 3, 1) := by decide +kernel
theorem dX0_renew_48 : decode cX0_renew 48 = .ok (.iaload, 1) := by decide +kernel
theorem dX0_renew_49 : decode cX0_renew 49 = .ok (.isub, 1) := by decide +kernel
theorem dX0_renew_50 : decode cX0_renew 50 = .ok (.iconst 1, 1) := by decide +kernel
theorem dX0_renew_51 : decode cX0_renew 51 = .ok (.iadd, 1) := by decide +kernel
theorem dX0_renew_52 : decode cX0_renew 52 = .ok (.istore 4, 2) := by decide +kernel
theorem dX0_renew_54 : decode cX0_renew 54 = .ok (.aload_n 0, 1) := by decide +kernel
theorem dX0_renew_55 : decode cX0_renew 55 = .ok (.getfield 18, 3) := by decide +kernel
theorem dX0_renew_58 : decode cX0_renew 58 = .ok (.iload_n 3, 1) := by decide +kernel
theorem dX0_renew_59 : decode cX0_renew 59 = .ok (.iload_n 2, 1) := by decide +kernel
theorem dX0_renew_60 : decode cX0_renew 60 = .ok (.iastore, 1) := by decide +kernel
theorem dX0_renew_61 : decode cX0_renew 61 = .ok (.aload_n 0, 1) := by decide +kernel
theorem dX0_renew_62 : decode cX0_renew 62 = .ok (.getfield 21, 3) := by decide +kernel
theorem dX0_renew_65 : decode cX0_renew 65 = .ok (.iload_n 3, 1) := by decide +kernel
theorem dX0_renew_66 : decode cX0_renew 66 = .ok (.iconst (-1), 1) := by decide +kernel
theorem dX0_renew_67 : decode cX0_renew 67 = .ok (.iastore, 1) := by decide +kernel
theorem dX0_renew_68 : decode cX0_renew 68 = .ok (.aload_n 0, 1) := by decide +kernel
theorem dX0_renew_69 : decode cX0_renew 69 = .ok (.getfield 24, 3) := by decide +kernel
theorem dX0_renew_72 : decode cX0_renew 72 = .ok (.iload_n 3, 1) := by decide +kernel
theorem dX0_renew_73 : decode cX0_renew 73 = .ok (.iload 4, 2) := by decide +kernel
theorem dX0_renew_75 : decode cX0_renew 75 = .ok (.iastore, 1) := by decide +kernel
theorem dX0_renew_76 : decode cX0_renew 76 = .ok (.aload_n 0, 1) := by decide +kernel
theorem dX0_renew_77 : decode cX0_renew 77 = .ok (.getfield 27, 3) := by decide +kernel
theorem dX0_renew_80 : decode cX0_renew 80 = .ok (.iload_n 3, 1) := by decide +kernel
theorem dX0_renew_81 : decode cX0_renew 81 = .ok (.iload 4, 2) := by decide +kernel
theorem dX0_renew_83 : decode cX0_renew 83 = .ok (.iload_n 2, 1) := by decide +kernel
theorem dX0_renew_84 : decode cX0_renew 84 = .ok (.imul, 1) := by decide +kernel
theorem dX0_renew_85 : decode cX0_renew 85 = .ok (.iastore, 1) := by decide +kernel
theorem dX0_renew_86 : decode cX0_renew 86 = .ok (.iinc 3 1, 3) := by decide +kernel
theorem dX0_renew_89 : decode cX0_renew 89 = .ok (.goto (-59), 3) := by decide +kernel
theorem dX0_renew_92 : decode cX0_renew 92 = .ok (.aload_n 0, 1) := by decide +kernel
theorem dX0_renew_93 : decode cX0_renew 93 = .ok (.iconst 0, 1) := by decide +kernel
theorem dX0_renew_94 : decode cX0_renew 94 = .ok (.putfield 38, 3) := by decide +kernel
theorem dX0_renew_97 : decode cX0_renew 97 = .ok (.aload_n 0, 1) := by decide +kernel
theorem dX0_renew_98 : decode cX0_renew 98 = .ok (.iconst 0, 1) := by decide +kernel
theorem dX0_renew_99 : decode cX0_renew 99 = .ok (.putfield 42, 3) := by decide +kernel
theorem dX0_renew_102 : decode cX0_renew 102 = .ok (.aload_n 0, 1) := by decide +kernel
theorem dX0_renew_103 : decode cX0_renew 103 = .ok (.iconst 0, 1) := by decide +kernel
theorem dX0_renew_104 : decode cX0_renew 104 = .ok (.putfield 45, 3) := by decide +kernel
theorem dX0_renew_107 : decode cX0_renew 107 = .ok (.return_, 1) := by decide +kernel
theorem dX0_has_0 : decode cX0_has 0 = .ok (.iload_n 1, 1) := by decide +kernel
theorem dX0_has_1 : decode cX0_has 1 = .ok (.iconst 1, 1) := by decide +kernel
theorem dX0_has_2 : decode cX0_has 2 = .ok (.if_icmp .lt 24, 3) := by decide +kernel
theorem dX0_has_5 : decode cX0_has 5 = .ok (.iload_n 1, 1) := by decide +kernel
theorem dX0_has_6 : decode cX0_has 6 = .ok (.sipush 128, 3) := by decide +kernel
theorem dX0_has_9 : decode cX0_has 9 = .ok (.if_icmp .ge 17, 3) := by decide +kernel
theorem dX0_has_12 : decode cX0_has 12 = .ok (.aload_n 0, 1) := by decide +kernel
theorem dX0_has_13 : decode cX0_has 13 = .ok (.getfield 15, 3) := by decide +kernel
theorem dX0_has_16 : decode cX0_has 16 = .ok (.iload_n 1, 1) := by decide +kernel
theorem dX0_has_17 : decode cX0_has 17 = .ok (.iaload, 1) := by decide +kernel
theorem dX0_has_18 : decode cX0_has 18 = .ok (.iconst (-1), 1) := by decide +kernel
theorem dX0_has_19 : decode cX0_has 19 = .ok (.if_icmp .eq 7, 3) := by decide +kernel
theorem dX0_has_22 : decode cX0_has 22 = .ok (.iconst 1, 1) := by decide +kernel
theorem dX0_has_23 : decode cX0_has 23 = .ok (.goto 4, 3) := by decide +kernel
theorem dX0_has_26 : decode cX0_has 26 = .ok (.iconst 0, 1) := by decide +kernel
theorem dX0_has_27 : decode cX0_has 27 = .ok (.ireturn, 1) := by decide +kernel
set_option maxRecDepth 20000 in
theorem ggX0_press_X0_beginCall : GoodIn wsX0_press wsX0_beginCall := goodIn_r _ [6, 7, 8, 67, 68, 69, 70, 71, 72, 73, 74, 75] (by decide +kernel) (by decide +kernel)
set_option maxRecDepth 20000 in
theorem gX0_press_X0_beginCall : GoodIn wsX0_press (wsV RX0 48 RX0 yX0_beginCall wsX0_beginCall) := goodIn_app (goodIn_of _ (by decide +kernel)) ggX0_press_X0_beginCall
set_option maxRecDepth 20000 in
theorem ggX0_press_X0_pressFrom : GoodIn wsX0_press wsX0_pressFrom := goodIn_r _ [12, 13, 14, 15, 16, 17, 5, 18, 8, 19, 20, 21, 22, 23, 24, 25, 26, 27, 28, 29, 30, 31, 32, 33, 34, 35, 36, 37, 1, 38, 39, 40, 41, 42, 43, 44, 45, 46, 47, 48, 49, 50, 9, 10, 11, 51, 52, 53, 54, 55, 56, 57, 58, 59, 60, 61, 62, 63, 64, 65, 66, 67, 68, 69, 70, 71, 72, 73, 74, 75] (by decide +kernel) (by decide +kernel)
set_option maxRecDepth 20000 in
theorem gX0_press_X0_pressFrom : GoodIn wsX0_press (wsV RX0 51 RX0 yX0_pressFrom wsX0_pressFrom) := goodIn_app (goodIn_of _ (by decide +kernel)) ggX0_press_X0_pressFrom
theorem dX0_press_0 : decode cX0_press 0 = .ok (.aload_n 0, 1) := by decide +kernel
theorem dX0_press_1 : decode cX0_press 1 = .ok (.invokevirtual 48, 3) := by decide +kernel
theorem dX0_press_4 : decode cX0_press 4 = .ok (.aload_n 0, 1) := by decide +kernel
theorem dX0_press_5 : decode cX0_press 5 = .ok (.getfield 27, 3) := by decide +kernel
theorem dX0_press_8 : decode cX0_press 8 = .ok (.iconst 1, 1) := by decide +kernel
theorem dX0_press_9 : decode cX0_press 9 = .ok (.iaload, 1) := by decide +kernel
theorem dX0_press_10 : decode cX0_press 10 = .ok (.istore 4, 2) := by decide +kernel
theorem dX0_press_12 : decode cX0_press 12 = .ok (.aload_n 0, 1) := by decide +kernel
theorem dX0_press_13 : decode cX0_press 13 = .ok (.iconst 1, 1) := by decide +kernel
theorem dX0_press_14 : decode cX0_press 14 = .ok (.iload_n 1, 1) := by decide +kernel
theorem dX0_press_15 : decode cX0_press 15 = .ok (.iload_n 2, 1) := by decide +kernel
theorem dX0_press_16 : decode cX0_press 16 = .ok (.iload_n 3, 1) := by decide +kernel
theorem dX0_press_17 : decode cX0_press 17 = .ok (.invokevirtual 51, 3) := by decide +kernel
theorem dX0_press_20 : decode cX0_press 20 = .ok (.iload 4, 2) := by decide +kernel
theorem dX0_press_22 : decode cX0_press 22 = .ok (.aload_n 0, 1) := by decide +kernel
theorem dX0_press_23 : decode cX0_press 23 = .ok (.getfield 27, 3) := by decide +kernel
theorem dX0_press_26 : decode cX0_press 26 = .ok (.iconst 1, 1) := by decide +kernel
theorem dX0_press_27 : decode cX0_press 27 = .ok (.iaload, 1) := by decide +kernel
theorem dX0_press_28 : decode cX0_press 28 = .ok (.isub, 1) := by decide +kernel
theorem dX0_press_29 : decode cX0_press 29 = .ok (.ireturn, 1) := by decide +kernel
set_option maxRecDepth 20000 in
theorem ggX0_raise_X0_beginCall : GoodIn wsX0_raise wsX0_beginCall := goodIn_r _ [5, 6, 7, 59, 60, 61, 62, 63, 64, 65, 66, 67] (by decide +kernel) (by decide +kernel)
set_option maxRecDepth 20000 in
theorem gX0_raise_X0_beginCall : GoodIn wsX0_raise (wsV RX0 48 RX0 yX0_beginCall wsX0_beginCall) := goodIn_app (goodIn_of _ (by decide +kernel)) ggX0_raise_X0_beginCall
set_option maxRecDepth 20000 in
theorem ggX0_raise_X0_raiseFrom : GoodIn wsX0_raise wsX0_raiseFrom := goodIn_r _ [11, 12, 13, 14, 15, 16, 17, 4, 18, 7, 19, 20, 21, 22, 23, 24, 25, 26, 27, 28, 29, 30, 31, 32, 33, 34, 35, 36, 37, 38, 39, 40, 41, 8, 9, 10, 42, 43, 44, 45, 46, 47, 48, 49, 50, 51, 52, 53, 54, 55, 56, 57, 58, 59, 60, 61, 62, 63, 64, 65, 66, 67] (by decide +kernel) (by decide +kernel)
set_option maxRecDepth 20000 in
theorem gX0_raise_X0_raiseFrom : GoodIn wsX0_raise (wsV RX0 55 RX0 yX0_raiseFrom wsX0_raiseFrom) := goodIn_app (goodIn_of _ (by decide +kernel)) ggX0_raise_X0_raiseFrom
theorem dX0_raise_0 : decode cX0_raise 0 = .ok (.aload_n 0, 1) := by decide +kernel
theorem dX0_raise_1 : decode cX0_raise 1 = .ok (.invokevirtual 48, 3) := by decide +kernel
theorem dX0_raise_4 : decode cX0_raise 4 = .ok (.aload_n 0, 1) := by decide +kernel
theorem dX0_raise_5 : decode cX0_raise 5 = .ok (.iconst 1, 1) := by decide +kernel
theorem dX0_raise_6 : decode cX0_raise 6 = .ok (.iload_n 1, 1) := by decide +kernel
theorem dX0_raise_7 : decode cX0_raise 7 = .ok (.iload_n 2, 1) := by decide +kernel
theorem dX0_raise_8 : decode cX0_raise 8 = .ok (.invokevirtual 55, 3) := by decide +kernel
theorem dX0_raise_11 : decode cX0_raise 11 = .ok (.return_, 1) := by decide +kernel
set_option maxRecDepth 20000 in
theorem ggX0_askSum_X0_beginCall : GoodIn wsX0_askSum wsX0_beginCall := goodIn_r _ [5, 6, 7, 50, 51, 52, 53, 54, 55, 56, 57, 58] (by decide +kernel) (by decide +kernel)
set_option maxRecDepth 20000 in
theorem gX0_askSum_X0_beginCall : GoodIn wsX0_askSum (wsV RX0 48 RX0 yX0_beginCall wsX0_beginCall) := goodIn_app (goodIn_of _ (by decide +kernel)) ggX0_askSum_X0_beginCall
set_option maxRecDepth 20000 in
theorem ggX0_askSum_X0_sumFrom : GoodIn wsX0_askSum wsX0_sumFrom := goodIn_r _ [11, 12, 13, 14, 15, 4, 16, 7, 17, 18, 19, 20, 21, 22, 23, 24, 25, 26, 27, 28, 29, 30, 31, 32, 33, 34, 35, 36, 37, 38, 39, 40, 41, 42, 43, 44, 45, 46, 47, 48, 49, 8, 9, 10, 50, 51, 52, 53, 54, 55, 56, 57, 58] (by decide +kernel) (by decide +kernel)
set_option maxRecDepth 20000 in
theorem gX0_askSum_X0_sumFrom : GoodIn wsX0_askSum (wsV RX0 58 RX0 yX0_sumFrom wsX0_sumFrom) := goodIn_app (goodIn_of _ (by decide +kernel)) ggX0_askSum_X0_sumFrom
theorem dX0_askSum_0 : decode cX0_askSum 0 = .ok (.aload_n 0, 1) := by decide +kernel
theorem dX0_askSum_1 : decode cX0_askSum 1 = .ok (.invokevirtual 48, 3) := by decide +kernel
theorem dX0_askSum_4 : decode cX0_askSum 4 = .ok (.aload_n 0, 1) := by decide +kernel
theorem dX0_askSum_5 : decode cX0_askSum 5 = .ok (.iconst 1, 1) := by decide +kernel
theorem dX0_askSum_6 : decode cX0_askSum 6 = .ok (.iload_n 1, 1) := by decide +kernel
theorem dX0_askSum_7 : decode cX0_askSum 7 = .ok (.iload_n 2, 1) := by decide +kernel
theorem dX0_askSum_8 : decode cX0_askSum 8 = .ok (.invokevirtual 58, 3) := by decide +kernel
theorem dX0_askSum_11 : decode cX0_askSum 11 = .ok (.ireturn, 1) := by decide +kernel
set_option maxRecDepth 20000 in
theorem ggX0_askGreatest_X0_beginCall : GoodIn wsX0_askGreatest wsX0_beginCall := goodIn_r _ [5, 6, 7, 54, 55, 56, 57, 58, 59, 60, 61, 62] (by decide +kernel) (by decide +kernel)
set_option maxRecDepth 20000 in
theorem gX0_askGreatest_X0_beginCall : GoodIn wsX0_askGreatest (wsV RX0 48 RX0 yX0_beginCall wsX0_beginCall) := goodIn_app (goodIn_of _ (by decide +kernel)) ggX0_askGreatest_X0_beginCall
set_option maxRecDepth 20000 in
theorem ggX0_askGreatest_X0_greatestFrom : GoodIn wsX0_askGreatest wsX0_greatestFrom := goodIn_r _ [11, 12, 13, 14, 15, 16, 17, 18, 19, 4, 20, 7, 21, 22, 23, 24, 25, 26, 27, 28, 29, 30, 31, 32, 33, 34, 35, 36, 37, 38, 39, 40, 41, 42, 43, 44, 45, 46, 47, 48, 49, 50, 51, 52, 53, 8, 9, 10, 54, 55, 56, 57, 58, 59, 60, 61, 62] (by decide +kernel) (by decide +kernel)
set_option maxRecDepth 20000 in
theorem gX0_askGreatest_X0_greatestFrom : GoodIn wsX0_askGreatest (wsV RX0 62 RX0 yX0_greatestFrom wsX0_greatestFrom) := goodIn_app (goodIn_of _ (by decide +kernel)) ggX0_askGreatest_X0_greatestFrom
theorem dX0_askGreatest_0 : decode cX0_askGreatest 0 = .ok (.aload_n 0, 1) := by decide +kernel
theorem dX0_askGreatest_1 : decode cX0_askGreatest 1 = .ok (.invokevirtual 48, 3) := by decide +kernel
theorem dX0_askGreatest_4 : decode cX0_askGreatest 4 = .ok (.aload_n 0, 1) := by decide +kernel
theorem dX0_askGreatest_5 : decode cX0_askGreatest 5 = .ok (.iconst 1, 1) := by decide +kernel
theorem dX0_askGreatest_6 : decode cX0_askGreatest 6 = .ok (.iload_n 1, 1) := by decide +kernel
theorem dX0_askGreatest_7 : decode cX0_askGreatest 7 = .ok (.iload_n 2, 1) := by decide +kernel
theorem dX0_askGreatest_8 : decode cX0_askGreatest 8 = .ok (.invokevirtual 62, 3) := by decide +kernel
theorem dX0_askGreatest_11 : decode cX0_askGreatest 11 = .ok (.ireturn, 1) := by decide +kernel
set_option maxRecDepth 20000 in
theorem ggX0_leastGreatestOver_X0_has : GoodIn wsX0_leastGreatestOver wsX0_has := goodIn_r _ [10, 11, 17, 18, 19, 20, 21, 22, 23, 24, 25] (by decide +kernel) (by decide +kernel)
set_option maxRecDepth 20000 in
theorem gX0_leastGreatestOver_X0_has : GoodIn wsX0_leastGreatestOver (wsV RX0 65 RX0 yX0_has wsX0_has) := goodIn_app (goodIn_of _ (by decide +kernel)) ggX0_leastGreatestOver_X0_has
set_option maxRecDepth 20000 in
theorem ggX0_leastGreatestOver_X0_isApart : GoodIn wsX0_leastGreatestOver wsX0_isApart := goodIn_r _ [15, 11, 16, 17, 18, 19, 20, 21, 22, 23, 24, 25] (by decide +kernel) (by decide +kernel)
set_option maxRecDepth 20000 in
theorem gX0_leastGreatestOver_X0_isApart : GoodIn wsX0_leastGreatestOver (wsV RX0 69 RX0 yX0_isApart wsX0_isApart) := goodIn_app (goodIn_of _ (by decide +kernel)) ggX0_leastGreatestOver_X0_isApart
theorem dX0_leastGreatestOver_0 : decode cX0_leastGreatestOver 0 = .ok (.aload_n 0, 1) := by decide +kernel
theorem dX0_leastGreatestOver_1 : decode cX0_leastGreatestOver 1 = .ok (.getfield 18, 3) := by decide +kernel
theorem dX0_leastGreatestOver_4 : decode cX0_leastGreatestOver 4 = .ok (.iconst 1, 1) := by decide +kernel
theorem dX0_leastGreatestOver_5 : decode cX0_leastGreatestOver 5 = .ok (.iaload, 1) := by decide +kernel
theorem dX0_leastGreatestOver_6 : decode cX0_leastGreatestOver 6 = .ok (.istore_n 2, 1) := by decide +kernel
theorem dX0_leastGreatestOver_7 : decode cX0_leastGreatestOver 7 = .ok (.iconst 2, 1) := by decide +kernel
theorem dX0_leastGreatestOver_8 : decode cX0_leastGreatestOver 8 = .ok (.istore_n 3, 1) := by decide +kernel
theorem dX0_leastGreatestOver_9 : decode cX0_leastGreatestOver 9 = .ok (.iload_n 3, 1) := by decide +kernel
theorem dX0_leastGreatestOver_10 : decode cX0_leastGreatestOver 10 = .ok (.sipush 128, 3) := by decide +kernel
theorem dX0_leastGreatestOver_13 : decode cX0_leastGreatestOver 13 = .ok (.if_icmp .ge 38, 3) := by decide +kernel
theorem dX0_leastGreatestOver_16 : decode cX0_leastGreatestOver 16 = .ok (.aload_n 0, 1) := by decide +kernel
theorem dX0_leastGreatestOver_17 : decode cX0_leastGreatestOver 17 = .ok (.iload_n 3, 1) := by decide +kernel
theorem dX0_leastGreatestOver_18 : decode cX0_leastGreatestOver 18 = .ok (.invokevirtual 65, 3) := by decide +kernel
theorem dX0_leastGreatestOver_21 : decode cX0_leastGreatestOver 21 = .ok (.ifCond .eq 24, 3) := by decide +kernel
theorem dX0_leastGreatestOver_24 : decode cX0_leastGreatestOver 24 = .ok (.aload_n 0, 1) := by decide +kernel
theorem dX0_leastGreatestOver_25 : decode cX0_leastGreatestOver 25 = .ok (.iload_n 3, 1) := by decide +kernel
theorem dX0_leastGreatestOver_26 : decode cX0_leastGreatestOver 26 = .ok (.iload_n 1, 1) := by decide +kernel
theorem dX0_leastGreatestOver_27 : decode cX0_leastGreatestOver 27 = .ok (.iload_n 1, 1) := by decide +kernel
theorem dX0_leastGreatestOver_28 : decode cX0_leastGreatestOver 28 = .ok (.invokevirtual 69, 3) := by decide +kernel
theorem dX0_leastGreatestOver_31 : decode cX0_leastGreatestOver 31 = .ok (.ifCond .ne 14, 3) := by decide +kernel
theorem dX0_leastGreatestOver_34 : decode cX0_leastGreatestOver 34 = .ok (.iload_n 2, 1) := by decide +kernel
theorem dX0_leastGreatestOver_35 : decode cX0_leastGreatestOver 35 = .ok (.aload_n 0, 1) := by decide +kernel
theorem dX0_leastGreatestOver_36 : decode cX0_leastGreatestOver 36 = .ok (.getfield 18, 3) := by decide +kernel
theorem dX0_leastGreatestOver_39 : decode cX0_leastGreatestOver 39 = .ok (.iload_n 3, 1) := by decide +kernel
theorem dX0_leastGreatestOver_40 : decode cX0_leastGreatestOver 40 = .ok (.iaload, 1) := by decide +kernel
theorem dX0_leastGreatestOver_41 : decode cX0_leastGreatestOver 41 = .ok (.invokestatic 73, 3) := by decide +kernel
theorem dX0_leastGreatestOver_44 : decode cX0_leastGreatestOver 44 = .ok (.istore_n 2, 1) := by decide +kernel
theorem dX0_leastGreatestOver_45 : decode cX0_leastGreatestOver 45 = .ok (.iinc 3 1, 3) := by decide +kernel
theorem dX0_leastGreatestOver_48 : decode cX0_leastGreatestOver 48 = .ok (.goto (-39), 3) := by decide +kernel
theorem dX0_leastGreatestOver_51 : decode cX0_leastGreatestOver 51 = .ok (.iload_n 2, 1) := by decide +kernel
theorem dX0_leastGreatestOver_52 : decode cX0_leastGreatestOver 52 = .ok (.ireturn, 1) := by decide +kernel
set_option maxRecDepth 20000 in
theorem ggX0_countLagging_X0_has : GoodIn wsX0_countLagging wsX0_has := goodIn_r _ [5, 6, 12, 13, 14, 15, 16, 17, 18, 19, 20] (by decide +kernel) (by decide +kernel)
set_option maxRecDepth 20000 in
theorem gX0_countLagging_X0_has : GoodIn wsX0_countLagging (wsV RX0 65 RX0 yX0_has wsX0_has) := goodIn_app (goodIn_of _ (by decide +kernel)) ggX0_countLagging_X0_has
set_option maxRecDepth 20000 in
theorem ggX0_countLagging_X0_lags : GoodIn wsX0_countLagging wsX0_lags := goodIn_r _ [10, 11, 12, 13, 14, 15, 16, 17, 18, 19, 20] (by decide +kernel) (by decide +kernel)
set_option maxRecDepth 20000 in
theorem gX0_countLagging_X0_lags : GoodIn wsX0_countLagging (wsV RX0 79 RX0 yX0_lags wsX0_lags) := goodIn_app (goodIn_of _ (by decide +kernel)) ggX0_countLagging_X0_lags
theorem dX0_countLagging_0 : decode cX0_countLagging 0 = .ok (.iconst 0, 1) := by decide +kernel
theorem dX0_countLagging_1 : decode cX0_countLagging 1 = .ok (.istore_n 1, 1) := by decide +kernel
theorem dX0_countLagging_2 : decode cX0_countLagging 2 = .ok (.iconst 2, 1) := by decide +kernel
theorem dX0_countLagging_3 : decode cX0_countLagging 3 = .ok (.istore_n 2, 1) := by decide +kernel
theorem dX0_countLagging_4 : decode cX0_countLagging 4 = .ok (.iload_n 2, 1) := by decide +kernel
theorem dX0_countLagging_5 : decode cX0_countLagging 5 = .ok (.sipush 128, 3) := by decide +kernel
theorem dX0_countLagging_8 : decode cX0_countLagging 8 = .ok (.if_icmp .ge 28, 3) := by decide +kernel
theorem dX0_countLagging_11 : decode cX0_countLagging 11 = .ok (.aload_n 0, 1) := by decide +kernel
theorem dX0_countLagging_12 : decode cX0_countLagging 12 = .ok (.iload_n 2, 1) := by decide +kernel
theorem dX0_countLagging_13 : decode cX0_countLagging 13 = .ok (.invokevirtual 65, 3) := by decide +kernel
theorem dX0_countLagging_16 : decode cX0_countLagging 16 = .ok (.ifCond .eq 14, 3) := by decide +kernel
theorem dX0_countLagging_19 : decode cX0_countLagging 19 = .ok (.aload_n 0, 1) := by decide +kernel
theorem dX0_countLagging_20 : decode cX0_countLagging 20 = .ok (.iload_n 2, 1) := by decide +kernel
theorem dX0_countLagging_21 : decode cX0_countLagging 21 = .ok (.invokevirtual 79, 3) := by decide +kernel
theorem dX0_countLagging_24 : decode cX0_countLagging 24 = .ok (.ifCond .eq 6, 3) := by decide +kernel
theorem dX0_countLagging_27 : decode cX0_countLagging 27 = .ok (.iinc 1 1, 3) := by decide +kernel
theorem dX0_countLagging_30 : decode cX0_countLagging 30 = .ok (.iinc 2 1, 3) := by decide +kernel
theorem dX0_countLagging_33 : decode cX0_countLagging 33 = .ok (.goto (-29), 3) := by decide +kernel
theorem dX0_countLagging_36 : decode cX0_countLagging 36 = .ok (.iload_n 1, 1) := by decide +kernel
theorem dX0_countLagging_37 : decode cX0_countLagging 37 = .ok (.ireturn, 1) := by decide +kernel
theorem dX0_setSpan_0 : decode cX0_setSpan 0 = .ok (.aload_n 0, 1) := by decide +kernel
theorem dX0_setSpan_1 : decode cX0_setSpan 1 = .ok (.getfield 11, 3) := by decide +kernel
theorem dX0_setSpan_4 : decode cX0_setSpan 4 = .ok (.iload_n 1, 1) := by decide +kernel
theorem dX0_setSpan_5 : decode cX0_setSpan 5 = .ok (.iload_n 2, 1) := by decide +kernel
theorem dX0_setSpan_6 : decode cX0_setSpan 6 = .ok (.iastore, 1) := by decide +kernel
theorem dX0_setSpan_7 : decode cX0_setSpan 7 = .ok (.aload_n 0, 1) := by decide +kernel
theorem dX0_setSpan_8 : decode cX0_setSpan 8 = .ok (.getfield 15, 3) := by decide +kernel
theorem dX0_setSpan_11 : decode cX0_setSpan 11 = .ok (.iload_n 1, 1) := by decide +kernel
theorem dX0_setSpan_12 : decode cX0_setSpan 12 = .ok (.iload_n 3, 1) := by decide +kernel
theorem dX0_setSpan_13 : decode cX0_setSpan 13 = .ok (.iastore, 1) := by decide +kernel
theorem dX0_setSpan_14 : decode cX0_setSpan 14 = .ok (.return_, 1) := by decide +kernel
set_option maxRecDepth 20000 in
theorem ggX0_splitSpan_X0_hasParts : GoodIn wsX0_splitSpan wsX0_hasParts := goodIn_r _ [7, 1, 2, 12, 13, 14, 15, 16, 17, 18, 19, 20] (by decide +kernel) (by decide +kernel)
set_option maxRecDepth 20000 in
theorem gX0_splitSpan_X0_hasParts : GoodIn wsX0_splitSpan (wsV RX0 82 RX0 yX0_hasParts wsX0_hasParts) := goodIn_app (goodIn_of _ (by decide +kernel)) ggX0_splitSpan_X0_hasParts
set_option maxRecDepth 20000 in
theorem ggX0_splitSpan_X0_setSpan : GoodIn wsX0_splitSpan wsX0_setSpan := goodIn_r _ [11, 1, 2, 12, 13, 14, 15, 16, 17, 18, 19, 20] (by decide +kernel) (by decide +kernel)
set_option maxRecDepth 20000 in
theorem gX0_splitSpan_X0_setSpan : GoodIn wsX0_splitSpan (wsV RX0 30 RX0 yX0_setSpan wsX0_setSpan) := goodIn_app (goodIn_of _ (by decide +kernel)) ggX0_splitSpan_X0_setSpan
theorem dX0_splitSpan_0 : decode cX0_splitSpan 0 = .ok (.aload_n 0, 1) := by decide +kernel
theorem dX0_splitSpan_1 : decode cX0_splitSpan 1 = .ok (.iload_n 1, 1) := by decide +kernel
theorem dX0_splitSpan_2 : decode cX0_splitSpan 2 = .ok (.invokevirtual 82, 3) := by decide +kernel
theorem dX0_splitSpan_5 : decode cX0_splitSpan 5 = .ok (.ifCond .eq 54, 3) := by decide +kernel
theorem dX0_splitSpan_8 : decode cX0_splitSpan 8 = .ok (.aload_n 0, 1) := by decide +kernel
theorem dX0_splitSpan_9 : decode cX0_splitSpan 9 = .ok (.getfield 11, 3) := by decide +kernel
theorem dX0_splitSpan_12 : decode cX0_splitSpan 12 = .ok (.iload_n 1, 1) := by decide +kernel
theorem dX0_splitSpan_13 : decode cX0_splitSpan 13 = .ok (.iaload, 1) := by decide +kernel
theorem dX0_splitSpan_14 : decode cX0_splitSpan 14 = .ok (.aload_n 0, 1) := by decide +kernel
theorem dX0_splitSpan_15 : decode cX0_splitSpan 15 = .ok (.getfield 15, 3) := by decide +kernel
theorem dX0_splitSpan_18 : decode cX0_splitSpan 18 = .ok (.iload_n 1, 1) := by decide +kernel
theorem dX0_splitSpan_19 : decode cX0_splitSpan 19 = .ok (.iaload, 1) := by decide +kernel
theorem dX0_splitSpan_20 : decode cX0_splitSpan 20 = .ok (.iadd, 1) := by decide +kernel
theorem dX0_splitSpan_21 : decode cX0_splitSpan 21 = .ok (.iconst 2, 1) := by decide +kernel
theorem dX0_splitSpan_22 : decode cX0_splitSpan 22 = .ok (.idiv, 1) := by decide +kernel
theorem dX0_splitSpan_23 : decode cX0_splitSpan 23 = .ok (.istore_n 2, 1) := by decide +kernel
theorem dX0_splitSpan_24 : decode cX0_splitSpan 24 = .ok (.aload_n 0, 1) := by decide +kernel
theorem dX0_splitSpan_25 : decode cX0_splitSpan 25 = .ok (.iconst 2, 1) := by decide +kernel
theorem dX0_splitSpan_26 : decode cX0_splitSpan 26 = .ok (.iload_n 1, 1) := by decide +kernel
theorem dX0_splitSpan_27 : decode cX0_splitSpan 27 = .ok (.imul, 1) := by decide +kernel
theorem dX0_splitSpan_28 : decode cX0_splitSpan 28 = .ok (.aload_n 0, 1) := by decide +kernel
theorem dX0_splitSpan_29 : decode cX0_splitSpan 29 = .ok (.getfield 11, 3) := by decide +kernel
theorem dX0_splitSpan_32 : decode cX0_splitSpan 32 = .ok (.iload_n 1, 1) := by decide +kernel
theorem dX0_splitSpan_33 : decode cX0_splitSpan 33 = .ok (.iaload, 1) := by decide +kernel
theorem dX0_splitSpan_34 : decode cX0_splitSpan 34 = .ok (.iload_n 2, 1) := by decide +kernel
theorem dX0_splitSpan_35 : decode cX0_splitSpan 35 = .ok (.invokevirtual 30, 3) := by decide +kernel
theorem dX0_splitSpan_38 : decode cX0_splitSpan 38 = .ok (.aload_n 0, 1) := by decide +kernel
theorem dX0_splitSpan_39 : decode cX0_splitSpan 39 = .ok (.iconst 2, 1) := by decide +kernel
theorem dX0_splitSpan_40 : decode cX0_splitSpan 40 = .ok (.iload_n 1, 1) := by decide +kernel
theorem dX0_splitSpan_41 : decode cX0_splitSpan 41 = .ok (.imul, 1) := by decide +kernel
theorem dX0_splitSpan_42 : decode cX0_splitSpan 42 = .ok (.iconst 1, 1) := by decide +kernel
theorem dX0_splitSpan_43 : decode cX0_splitSpan 43 = .ok (.iadd, 1) := by decide +kernel
theorem dX0_splitSpan_44 : decode cX0_splitSpan 44 = .ok (.iload_n 2, 1) := by decide +kernel
theorem dX0_splitSpan_45 : decode cX0_splitSpan 45 = .ok (.iconst 1, 1) := by decide +kernel
theorem dX0_splitSpan_46 : decode cX0_splitSpan 46 = .ok (.iadd, 1) := by decide +kernel
theorem dX0_splitSpan_47 : decode cX0_splitSpan 47 = .ok (.aload_n 0, 1) := by decide +kernel
theorem dX0_splitSpan_48 : decode cX0_splitSpan 48 = .ok (.getfield 15, 3) := by decide +kernel
theorem dX0_splitSpan_51 : decode cX0_splitSpan 51 = .ok (.iload_n 1, 1) := by decide +kernel
theorem dX0_splitSpan_52 : decode cX0_splitSpan 52 = .ok (.iaload, 1) := by decide +kernel
theorem dX0_splitSpan_53 : decode cX0_splitSpan 53 = .ok (.invokevirtual 30, 3) := by decide +kernel
theorem dX0_splitSpan_56 : decode cX0_splitSpan 56 = .ok (.goto 23, 3) := by decide +kernel
theorem dX0_splitSpan_59 : decode cX0_splitSpan 59 = .ok (.aload_n 0, 1) := by decide +kernel
theorem dX0_splitSpan_60 : decode cX0_splitSpan 60 = .ok (.iconst 2, 1) := by decide +kernel
theorem dX0_splitSpan_61 : decode cX0_splitSpan 61 = .ok (.iload_n 1, 1) := by decide +kernel
theorem dX0_splitSpan_62 : decode cX0_splitSpan 62 = .ok (.imul, 1) := by decide +kernel
theorem dX0_splitSpan_63 : decode cX0_splitSpan 63 = .ok (.iconst 0, 1) := by decide +kernel
theorem dX0_splitSpan_64 : decode cX0_splitSpan 64 = .ok (.iconst (-1), 1) := by decide +kernel
theorem dX0_splitSpan_65 : decode cX0_splitSpan 65 = .ok (.invokevirtual 30, 3) := by decide +kernel
theorem dX0_splitSpan_68 : decode cX0_splitSpan 68 = .ok (.aload_n 0, 1) := by decide +kernel
theorem dX0_splitSpan_69 : decode cX0_splitSpan 69 = .ok (.iconst 2, 1) := by decide +kernel
theorem dX0_splitSpan_70 : decode cX0_splitSpan 70 = .ok (.iload_n 1, 1) := by decide +kernel
theorem dX0_splitSpan_71 : decode cX0_splitSpan 71 = .ok (.imul, 1) := by decide +kernel
theorem dX0_splitSpan_72 : decode cX0_splitSpan 72 = .ok (.iconst 1, 1) := by decide +kernel
theorem dX0_splitSpan_73 : decode cX0_splitSpan 73 = .ok (.iadd, 1) := by decide +kernel
theorem dX0_splitSpan_74 : decode cX0_splitSpan 74 = .ok (.iconst 0, 1) := by decide +kernel
theorem dX0_splitSpan_75 : decode cX0_splitSpan 75 = .ok (.iconst (-1), 1) := by decide +kernel
theorem dX0_splitSpan_76 : decode cX0_splitSpan 76 = .ok (.invokevirtual 30, 3) := by decide +kernel
theorem dX0_splitSpan_79 : decode cX0_splitSpan 79 = .ok (.return_, 1) := by decide +kernel
theorem dX0_hasParts_0 : decode cX0_hasParts 0 = .ok (.iload_n 1, 1) := by decide +kernel
theorem dX0_hasParts_1 : decode cX0_hasParts 1 = .ok (.bipush 64, 2) := by decide +kernel
theorem dX0_hasParts_3 : decode cX0_hasParts 3 = .ok (.if_icmp .ge 22, 3) := by decide +kernel
theorem dX0_hasParts_6 : decode cX0_hasParts 6 = .ok (.aload_n 0, 1) := by decide +kernel
theorem dX0_hasParts_7 : decode cX0_hasParts 7 = .ok (.getfield 11, 3) := by decide +kernel
theorem dX0_hasParts_10 : decode cX0_hasParts 10 = .ok (.iload_n 1, 1) := by decide +kernel
theorem dX0_hasParts_11 : decode cX0_hasParts 11 = .ok (.iaload, 1) := by decide +kernel
theorem dX0_hasParts_12 : decode cX0_hasParts 12 = .ok (.aload_n 0, 1) := by decide +kernel
theorem dX0_hasParts_13 : decode cX0_hasParts 13 = .ok (.getfield 15, 3) := by decide +kernel
theorem dX0_hasParts_16 : decode cX0_hasParts 16 = .ok (.iload_n 1, 1) := by decide +kernel
theorem dX0_hasParts_17 : decode cX0_hasParts 17 = .ok (.iaload, 1) := by decide +kernel
theorem dX0_hasParts_18 : decode cX0_hasParts 18 = .ok (.if_icmp .ge 7, 3) := by decide +kernel
theorem dX0_hasParts_21 : decode cX0_hasParts 21 = .ok (.iconst 1, 1) := by decide +kernel
theorem dX0_hasParts_22 : decode cX0_hasParts 22 = .ok (.goto 4, 3) := by decide +kernel
theorem dX0_hasParts_25 : decode cX0_hasParts 25 = .ok (.iconst 0, 1) := by decide +kernel
theorem dX0_hasParts_26 : decode cX0_hasParts 26 = .ok (.ireturn, 1) := by decide +kernel
theorem dX0_isApart_0 : decode cX0_isApart 0 = .ok (.aload_n 0, 1) := by decide +kernel
theorem dX0_isApart_1 : decode cX0_isApart 1 = .ok (.getfield 15, 3) := by decide +kernel
theorem dX0_isApart_4 : decode cX0_isApart 4 = .ok (.iload_n 1, 1) := by decide +kernel
theorem dX0_isApart_5 : decode cX0_isApart 5 = .ok (.iaload, 1) := by decide +kernel
theorem dX0_isApart_6 : decode cX0_isApart 6 = .ok (.iload_n 2, 1) := by decide +kernel
theorem dX0_isApart_7 : decode cX0_isApart 7 = .ok (.if_icmp .lt 13, 3) := by decide +kernel
theorem dX0_isApart_10 : decode cX0_isApart 10 = .ok (.aload_n 0, 1) := by decide +kernel
theorem dX0_isApart_11 : decode cX0_isApart 11 = .ok (.getfield 11, 3) := by decide +kernel
theorem dX0_isApart_14 : decode cX0_isApart 14 = .ok (.iload_n 1, 1) := by decide +kernel
theorem dX0_isApart_15 : decode cX0_isApart 15 = .ok (.iaload, 1) := by decide +kernel
theorem dX0_isApart_16 : decode cX0_isApart 16 = .ok (.iload_n 3, 1) := by decide +kernel
theorem dX0_isApart_17 : decode cX0_isApart 17 = .ok (.if_icmp .le 7, 3) := by decide +kernel
theorem dX0_isApart_20 : decode cX0_isApart 20 = .ok (.iconst 1, 1) := by decide +kernel
theorem dX0_isApart_21 : decode cX0_isApart 21 = .ok (.goto 4, 3) := by decide +kernel
theorem dX0_isApart_24 : decode cX0_isApart 24 = .ok (.iconst 0, 1) := by decide +kernel
theorem dX0_isApart_25 : decode cX0_isApart 25 = .ok (.ireturn, 1) := by decide +kernel
theorem dX0_isWithin_0 : decode cX0_isWithin 0 = .ok (.iload_n 2, 1) := by decide +kernel
theorem dX0_isWithin_1 : decode cX0_isWithin 1 = .ok (.aload_n 0, 1) := by decide +kernel
theorem dX0_isWithin_2 : decode cX0_isWithin 2 = .ok (.getfield 11, 3) := by decide +kernel
theorem dX0_isWithin_5 : decode cX0_isWithin 5 = .ok (.iload_n 1, 1) := by decide +kernel
theorem dX0_isWithin_6 : decode cX0_isWithin 6 = .ok (.iaload, 1) := by decide +kernel
theorem dX0_isWithin_7 : decode cX0_isWithin 7 = .ok (.if_icmp .gt 17, 3) := by decide +kernel
theorem dX0_isWithin_10 : decode cX0_isWithin 10 = .ok (.aload_n 0, 1) := by decide +kernel
theorem dX0_isWithin_11 : decode cX0_isWithin 11 = .ok (.getfield 15, 3) := by decide +kernel
theorem dX0_isWithin_14 : decode cX0_isWithin 14 = .ok (.iload_n 1, 1) := by decide +kernel
theorem dX0_isWithin_15 : decode cX0_isWithin 15 = .ok (.iaload, 1) := by decide +kernel
theorem dX0_isWithin_16 : decode cX0_isWithin 16 = .ok (.iload_n 3, 1) := by decide +kernel
theorem dX0_isWithin_17 : decode cX0_isWithin 17 = .ok (.if_icmp .gt 7, 3) := by decide +kernel
theorem dX0_isWithin_20 : decode cX0_isWithin 20 = .ok (.iconst 1, 1) := by decide +kernel
theorem dX0_isWithin_21 : decode cX0_isWithin 21 = .ok (.goto 4, 3) := by decide +kernel
theorem dX0_isWithin_24 : decode cX0_isWithin 24 = .ok (.iconst 0, 1) := by decide +kernel
theorem dX0_isWithin_25 : decode cX0_isWithin 25 = .ok (.ireturn, 1) := by decide +kernel
theorem dX0_lags_0 : decode cX0_lags 0 = .ok (.aload_n 0, 1) := by decide +kernel
theorem dX0_lags_1 : decode cX0_lags 1 = .ok (.getfield 18, 3) := by decide +kernel
theorem dX0_lags_4 : decode cX0_lags 4 = .ok (.iload_n 1, 1) := by decide +kernel
theorem dX0_lags_5 : decode cX0_lags 5 = .ok (.iaload, 1) := by decide +kernel
theorem dX0_lags_6 : decode cX0_lags 6 = .ok (.aload_n 0, 1) := by decide +kernel
theorem dX0_lags_7 : decode cX0_lags 7 = .ok (.getfield 18, 3) := by decide +kernel
theorem dX0_lags_10 : decode cX0_lags 10 = .ok (.iload_n 1, 1) := by decide +kernel
theorem dX0_lags_11 : decode cX0_lags 11 = .ok (.iconst 2, 1) := by decide +kernel
theorem dX0_lags_12 : decode cX0_lags 12 = .ok (.idiv, 1) := by decide +kernel
theorem dX0_lags_13 : decode cX0_lags 13 = .ok (.iaload, 1) := by decide +kernel
theorem dX0_lags_14 : decode cX0_lags 14 = .ok (.if_icmp .le 7, 3) := by decide +kernel
theorem dX0_lags_17 : decode cX0_lags 17 = .ok (.iconst 1, 1) := by decide +kernel
theorem dX0_lags_18 : decode cX0_lags 18 = .ok (.goto 4, 3) := by decide +kernel
theorem dX0_lags_21 : decode cX0_lags 21 = .ok (.iconst 0, 1) := by decide +kernel
theorem dX0_lags_22 : decode cX0_lags 22 = .ok (.ireturn, 1) := by decide +kernel
theorem dX0_beginCall_0 : decode cX0_beginCall 0 = .ok (.aload_n 0, 1) := by decide +kernel
theorem dX0_beginCall_1 : decode cX0_beginCall 1 = .ok (.dup, 1) := by decide +kernel
theorem dX0_beginCall_2 : decode cX0_beginCall 2 = .ok (.getfield 45, 3) := by decide +kernel
theorem dX0_beginCall_5 : decode cX0_beginCall 5 = .ok (.iconst 1, 1) := by decide +kernel
theorem dX0_beginCall_6 : decode cX0_beginCall 6 = .ok (.iadd, 1) := by decide +kernel
theorem dX0_beginCall_7 : decode cX0_beginCall 7 = .ok (.putfield 45, 3) := by decide +kernel
theorem dX0_beginCall_10 : decode cX0_beginCall 10 = .ok (.aload_n 0, 1) := by decide +kernel
theorem dX0_beginCall_11 : decode cX0_beginCall 11 = .ok (.iconst 0, 1) := by decide +kernel
theorem dX0_beginCall_12 : decode cX0_beginCall 12 = .ok (.putfield 38, 3) := by decide +kernel
theorem dX0_beginCall_15 : decode cX0_beginCall 15 = .ok (.return_, 1) := by decide +kernel
theorem dX0_countVisit_0 : decode cX0_countVisit 0 = .ok (.aload_n 0, 1) := by decide +kernel
theorem dX0_countVisit_1 : decode cX0_countVisit 1 = .ok (.dup, 1) := by decide +kernel
theorem dX0_countVisit_2 : decode cX0_countVisit 2 = .ok (.getfield 38, 3) := by decide +kernel
theorem dX0_countVisit_5 : decode cX0_countVisit 5 = .ok (.iconst 1, 1) := by decide +kernel
theorem dX0_countVisit_6 : decode cX0_countVisit 6 = .ok (.iadd, 1) := by decide +kernel
theorem dX0_countVisit_7 : decode cX0_countVisit 7 = .ok (.putfield 38, 3) := by decide +kernel
theorem dX0_countVisit_10 : decode cX0_countVisit 10 = .ok (.aload_n 0, 1) := by decide +kernel
theorem dX0_countVisit_11 : decode cX0_countVisit 11 = .ok (.dup, 1) := by decide +kernel
theorem dX0_countVisit_12 : decode cX0_countVisit 12 = .ok (.getfield 42, 3) := by decide +kernel
theorem dX0_countVisit_15 : decode cX0_countVisit 15 = .ok (.iconst 1, 1) := by decide +kernel
theorem dX0_countVisit_16 : decode cX0_countVisit 16 = .ok (.iadd, 1) := by decide +kernel
theorem dX0_countVisit_17 : decode cX0_countVisit 17 = .ok (.putfield 42, 3) := by decide +kernel
theorem dX0_countVisit_20 : decode cX0_countVisit 20 = .ok (.return_, 1) := by decide +kernel
set_option maxRecDepth 20000 in
theorem ggX0_pressFrom_X0_countVisit : GoodIn wsX0_pressFrom wsX0_countVisit := goodIn_r _ [7, 8, 9, 61, 62, 63, 64, 65, 66, 67, 68, 69] (by decide +kernel) (by decide +kernel)
set_option maxRecDepth 20000 in
theorem gX0_pressFrom_X0_countVisit : GoodIn wsX0_pressFrom (wsV RX0 85 RX0 yX0_countVisit wsX0_countVisit) := goodIn_app (goodIn_of _ (by decide +kernel)) ggX0_pressFrom_X0_countVisit
set_option maxRecDepth 20000 in
theorem ggX0_pressFrom_X0_isApart : GoodIn wsX0_pressFrom wsX0_isApart := goodIn_r _ [13, 14, 15, 61, 62, 63, 64, 65, 66, 67, 68, 69] (by decide +kernel) (by decide +kernel)
set_option maxRecDepth 20000 in
theorem gX0_pressFrom_X0_isApart : GoodIn wsX0_pressFrom (wsV RX0 69 RX0 yX0_isApart wsX0_isApart) := goodIn_app (goodIn_of _ (by decide +kernel)) ggX0_pressFrom_X0_isApart
set_option maxRecDepth 20000 in
theorem ggX0_pressFrom_X0_isWithin : GoodIn wsX0_pressFrom wsX0_isWithin := goodIn_r _ [19, 15, 14, 61, 62, 63, 64, 65, 66, 67, 68, 69] (by decide +kernel) (by decide +kernel)
set_option maxRecDepth 20000 in
theorem gX0_pressFrom_X0_isWithin : GoodIn wsX0_pressFrom (wsV RX0 88 RX0 yX0_isWithin wsX0_isWithin) := goodIn_app (goodIn_of _ (by decide +kernel)) ggX0_pressFrom_X0_isWithin
set_option maxRecDepth 20000 in
theorem ggX0_pressFrom_X0_hasParts : GoodIn wsX0_pressFrom wsX0_hasParts := goodIn_r _ [23, 15, 14, 61, 62, 63, 64, 65, 66, 67, 68, 69] (by decide +kernel) (by decide +kernel)
set_option maxRecDepth 20000 in
theorem gX0_pressFrom_X0_hasParts : GoodIn wsX0_pressFrom (wsV RX0 82 RX0 yX0_hasParts wsX0_hasParts) := goodIn_app (goodIn_of _ (by decide +kernel)) ggX0_pressFrom_X0_hasParts
set_option maxRecDepth 20000 in
theorem ggX0_pressFrom_X0_pressDown : GoodIn wsX0_pressFrom wsX0_pressDown := goodIn_r _ [27, 28, 1, 29, 61, 62, 63, 64, 65, 66, 67, 68, 69] (by decide +kernel) (by decide +kernel)
set_option maxRecDepth 20000 in
theorem gX0_pressFrom_X0_pressDown : GoodIn wsX0_pressFrom (wsV RX0 91 RX0 yX0_pressDown wsX0_pressDown) := goodIn_app (goodIn_of _ (by decide +kernel)) ggX0_pressFrom_X0_pressDown
set_option maxRecDepth 20000 in
theorem ggX0_pressFrom_X0_catchUpBelow : GoodIn wsX0_pressFrom wsX0_catchUpBelow := goodIn_r _ [33, 34, 35, 36, 6, 37, 1, 38, 39, 40, 41, 24, 25, 26, 27, 28, 29, 61, 62, 63, 64, 65, 66, 67, 68, 69] (by decide +kernel) (by decide +kernel)
set_option maxRecDepth 20000 in
theorem gX0_pressFrom_X0_catchUpBelow : GoodIn wsX0_pressFrom (wsV RX0 95 RX0 yX0_catchUpBelow wsX0_catchUpBelow) := goodIn_app (goodIn_of _ (by decide +kernel)) ggX0_pressFrom_X0_catchUpBelow
set_option maxRecDepth 20000 in
theorem ggX0_pressFrom_X0_pressFrom : GoodIn wsX0_pressFrom wsX0_pressFrom := goodIn_r _ [0, 1, 2, 3, 4, 5, 6, 7, 8, 9, 10, 11, 12, 13, 14, 15, 16, 17, 18, 19, 20, 21, 22, 23, 24, 25, 26, 27, 28, 29, 30, 31, 32, 33, 34, 35, 36, 37, 38, 39, 40, 41, 42, 43, 44, 45, 46, 47, 48, 49, 50, 51, 52, 53, 54, 55, 56, 57, 58, 59, 60, 61, 62, 63, 64, 65, 66, 67, 68, 69] (by decide +kernel) (by decide +kernel)
set_option maxRecDepth 20000 in
theorem gX0_pressFrom_X0_pressFrom : GoodIn wsX0_pressFrom (wsV RX0 51 RX0 yX0_pressFrom wsX0_pressFrom) := goodIn_app (goodIn_of _ (by decide +kernel)) ggX0_pressFrom_X0_pressFrom
set_option maxRecDepth 20000 in
theorem ggX0_pressFrom_X0_tellAnew : GoodIn wsX0_pressFrom wsX0_tellAnew := goodIn_r _ [48, 1, 49, 50, 51, 52, 29, 2, 28, 53, 54, 55, 6, 56, 57, 58, 59, 60, 61, 62, 63, 64, 65, 66, 67, 68, 69] (by decide +kernel) (by decide +kernel)
set_option maxRecDepth 20000 in
theorem gX0_pressFrom_X0_tellAnew : GoodIn wsX0_pressFrom (wsV RX0 98 RX0 yX0_tellAnew wsX0_tellAnew) := goodIn_app (goodIn_of _ (by decide +kernel)) ggX0_pressFrom_X0_tellAnew
theorem dX0_pressFrom_0 : decode cX0_pressFrom 0 = .ok (.aload_n 0, 1) := by decide +kernel
theorem dX0_pressFrom_1 : decode cX0_pressFrom 1 = .ok (.invokevirtual 85, 3) := by decide +kernel
theorem dX0_pressFrom_4 : decode cX0_pressFrom 4 = .ok (.aload_n 0, 1) := by decide +kernel
theorem dX0_pressFrom_5 : decode cX0_pressFrom 5 = .ok (.iload_n 1, 1) := by decide +kernel
theorem dX0_pressFrom_6 : decode cX0_pressFrom 6 = .ok (.iload_n 2, 1) := by decide +kernel
theorem dX0_pressFrom_7 : decode cX0_pressFrom 7 = .ok (.iload_n 3, 1) := by decide +kernel
theorem dX0_pressFrom_8 : decode cX0_pressFrom 8 = .ok (.invokevirtual 69, 3) := by decide +kernel
theorem dX0_pressFrom_11 : decode cX0_pressFrom 11 = .ok (.ifCond .ne 14, 3) := by decide +kernel
theorem dX0_pressFrom_14 : decode cX0_pressFrom 14 = .ok (.aload_n 0, 1) := by decide +kernel
theorem dX0_pressFrom_15 : decode cX0_pressFrom 15 = .ok (.getfield 18, 3) := by decide +kernel
theorem dX0_pressFrom_18 : decode cX0_pressFrom 18 = .ok (.iload_n 1, 1) := by decide +kernel
theorem dX0_pressFrom_19 : decode cX0_pressFrom 19 = .ok (.iaload, 1) := by decide +kernel
theorem dX0_pressFrom_20 : decode cX0_pressFrom 20 = .ok (.iload 4, 2) := by decide +kernel
theorem dX0_pressFrom_22 : decode cX0_pressFrom 22 = .ok (.if_icmp .gt 4, 3) := by decide +kernel
theorem dX0_pressFrom_25 : decode cX0_pressFrom 25 = .ok (.return_, 1) := by decide +kernel
theorem dX0_pressFrom_26 : decode cX0_pressFrom 26 = .ok (.aload_n 0, 1) := by decide +kernel
theorem dX0_pressFrom_27 : decode cX0_pressFrom 27 = .ok (.iload_n 1, 1) := by decide +kernel
theorem dX0_pressFrom_28 : decode cX0_pressFrom 28 = .ok (.iload_n 2, 1) := by decide +kernel
theorem dX0_pressFrom_29 : decode cX0_pressFrom 29 = .ok (.iload_n 3, 1) := by decide +kernel
theorem dX0_pressFrom_30 : decode cX0_pressFrom 30 = .ok (.invokevirtual 88, 3) := by decide +kernel
theorem dX0_pressFrom_33 : decode cX0_pressFrom 33 = .ok (.ifCond .eq 18, 3) := by decide +kernel
theorem dX0_pressFrom_36 : decode cX0_pressFrom 36 = .ok (.aload_n 0, 1) := by decide +kernel
theorem dX0_pressFrom_37 : decode cX0_pressFrom 37 = .ok (.getfield 21, 3) := by decide +kernel
theorem dX0_pressFrom_40 : decode cX0_pressFrom 40 = .ok (.iload_n 1, 1) := by decide +kernel
theorem dX0_pressFrom_41 : decode cX0_pressFrom 41 = .ok (.iaload, 1) := by decide +kernel
theorem dX0_pressFrom_42 : decode cX0_pressFrom 42 = .ok (.iload 4, 2) := by decide +kernel
theorem dX0_pressFrom_44 : decode cX0_pressFrom 44 = .ok (.if_icmp .ge 7, 3) := by decide +kernel
theorem dX0_pressFrom_47 : decode cX0_pressFrom 47 = .ok (.iconst 1, 1) := by decide +kernel
theorem dX0_pressFrom_48 : decode cX0_pressFrom 48 = .ok (.goto 4, 3) := by decide +kernel
theorem dX0_pressFrom_51 : decode cX0_pressFrom 51 = .ok (.iconst 0, 1) := by decide +kernel
theorem dX0_pressFrom_52 : decode cX0_pressFrom 52 = .ok (.istore 5, 2) := by decide +kernel
theorem dX0_pressFrom_54 : decode cX0_pressFrom 54 = .ok (.iload 5, 2) := by decide +kernel
theorem dX0_pressFrom_56 : decode cX0_pressFrom 56 = .ok (.ifCond .ne 11, 3) := by decide +kernel
theorem dX0_pressFrom_59 : decode cX0_pressFrom 59 = .ok (.aload_n 0, 1) := by decide +kernel
theorem dX0_pressFrom_60 : decode cX0_pressFrom 60 = .ok (.iload_n 1, 1) := by decide +kernel
theorem dX0_pressFrom_61 : decode cX0_pressFrom 61 = .ok (.invokevirtual 82, 3) := by decide +kernel
theorem dX0_pressFrom_64 : decode cX0_pressFrom 64 = .ok (.ifCond .ne 11, 3) := by decide +kernel
theorem dX0_pressFrom_67 : decode cX0_pressFrom 67 = .ok (.aload_n 0, 1) := by decide +kernel
theorem dX0_pressFrom_68 : decode cX0_pressFrom 68 = .ok (.iload_n 1, 1) := by decide +kernel
theorem dX0_pressFrom_69 : decode cX0_pressFrom 69 = .ok (.iload 4, 2) := by decide +kernel
theorem dX0_pressFrom_71 : decode cX0_pressFrom 71 = .ok (.invokevirtual 91, 3) := by decide +kernel
theorem dX0_pressFrom_74 : decode cX0_pressFrom 74 = .ok (.return_, 1) := by decide +kernel
theorem dX0_pressFrom_75 : decode cX0_pressFrom 75 = .ok (.aload_n 0, 1) := by decide +kernel
theorem dX0_pressFrom_76 : decode cX0_pressFrom 76 = .ok (.iload_n 1, 1) := by decide +kernel
theorem dX0_pressFrom_77 : decode cX0_pressFrom 77 = .ok (.invokevirtual 95, 3) := by decide +kernel
theorem dX0_pressFrom_80 : decode cX0_pressFrom 80 = .ok (.aload_n 0, 1) := by decide +kernel
theorem dX0_pressFrom_81 : decode cX0_pressFrom 81 = .ok (.iconst 2, 1) := by decide +kernel
theorem dX0_pressFrom_82 : decode cX0_pressFrom 82 = .ok (.iload_n 1, 1) := by decide +kernel
theorem dX0_pressFrom_83 : decode cX0_pressFrom 83 = .ok (.imul, 1) := by decide +kernel
theorem dX0_pressFrom_84 : decode cX0_pressFrom 84 = .ok (.iload_n 2, 1) := by decide +kernel
theorem dX0_pressFrom_85 : decode cX0_pressFrom 85 = .ok (.iload_n 3, 1) := by decide +kernel
theorem dX0_pressFrom_86 : decode cX0_pressFrom 86 = .ok (.iload 4, 2) := by decide +kernel
theorem dX0_pressFrom_88 : decode cX0_pressFrom 88 = .ok (.invokevirtual 51, 3) := by decide +kernel
theorem dX0_pressFrom_91 : decode cX0_pressFrom 91 = .ok (.aload_n 0, 1) := by decide +kernel
theorem dX0_pressFrom_92 : decode cX0_pressFrom 92 = .ok (.iconst 2, 1) := by decide +kernel
theorem dX0_pressFrom_93 : decode cX0_pressFrom 93 = .ok (.iload_n 1, 1) := by decide +kernel
theorem dX0_pressFrom_94 : decode cX0_pressFrom 94 = .ok (.imul, 1) := by decide +kernel
theorem dX0_pressFrom_95 : decode cX0_pressFrom 95 = .ok (.iconst 1, 1) := by decide +kernel
theorem dX0_pressFrom_96 : decode cX0_pressFrom 96 = .ok (.iadd, 1) := by decide +kernel
theorem dX0_pressFrom_97 : decode cX0_pressFrom 97 = .ok (.iload_n 2, 1) := by decide +kernel
theorem dX0_pressFrom_98 : decode cX0_pressFrom 98 = .ok (.iload_n 3, 1) := by decide +kernel
theorem dX0_pressFrom_99 : decode cX0_pressFrom 99 = .ok (.iload 4, 2) := by decide +kernel
theorem dX0_pressFrom_101 : decode cX0_pressFrom 101 = .ok (.invokevirtual 51, 3) := by decide +kernel
theorem dX0_pressFrom_104 : decode cX0_pressFrom 104 = .ok (.aload_n 0, 1) := by decide +kernel
theorem dX0_pressFrom_105 : decode cX0_pressFrom 105 = .ok (.iload_n 1, 1) := by decide +kernel
theorem dX0_pressFrom_106 : decode cX0_pressFrom 106 = .ok (.invokevirtual 98, 3) := by decide +kernel
theorem dX0_pressFrom_109 : decode cX0_pressFrom 109 = .ok (.return_, 1) := by decide +kernel
set_option maxRecDepth 20000 in
theorem ggX0_raiseFrom_X0_countVisit : GoodIn wsX0_raiseFrom wsX0_countVisit := goodIn_r _ [8, 9, 10, 53, 54, 55, 56, 57, 58, 59, 60, 61] (by decide +kernel) (by decide +kernel)
set_option maxRecDepth 20000 in
theorem gX0_raiseFrom_X0_countVisit : GoodIn wsX0_raiseFrom (wsV RX0 85 RX0 yX0_countVisit wsX0_countVisit) := goodIn_app (goodIn_of _ (by decide +kernel)) ggX0_raiseFrom_X0_countVisit
set_option maxRecDepth 20000 in
theorem ggX0_raiseFrom_X0_hasParts : GoodIn wsX0_raiseFrom wsX0_hasParts := goodIn_r _ [14, 15, 3, 53, 54, 55, 56, 57, 58, 59, 60, 61] (by decide +kernel) (by decide +kernel)
set_option maxRecDepth 20000 in
theorem gX0_raiseFrom_X0_hasParts : GoodIn wsX0_raiseFrom (wsV RX0 82 RX0 yX0_hasParts wsX0_hasParts) := goodIn_app (goodIn_of _ (by decide +kernel)) ggX0_raiseFrom_X0_hasParts
set_option maxRecDepth 20000 in
theorem ggX0_raiseFrom_X0_catchUpBelow : GoodIn wsX0_raiseFrom wsX0_catchUpBelow := goodIn_r _ [19, 20, 21, 22, 7, 23, 1, 24, 25, 26, 27, 28, 29, 30, 31, 2, 32, 53, 54, 55, 56, 57, 58, 59, 60, 61] (by decide +kernel) (by decide +kernel)
set_option maxRecDepth 20000 in
theorem gX0_raiseFrom_X0_catchUpBelow : GoodIn wsX0_raiseFrom (wsV RX0 95 RX0 yX0_catchUpBelow wsX0_catchUpBelow) := goodIn_app (goodIn_of _ (by decide +kernel)) ggX0_raiseFrom_X0_catchUpBelow
set_option maxRecDepth 20000 in
theorem ggX0_raiseFrom_X0_raiseFrom : GoodIn wsX0_raiseFrom wsX0_raiseFrom := goodIn_r _ [0, 1, 2, 3, 4, 5, 6, 7, 8, 9, 10, 11, 12, 13, 14, 15, 16, 17, 18, 19, 20, 21, 22, 23, 24, 25, 26, 27, 28, 29, 30, 31, 32, 33, 34, 35, 36, 37, 38, 39, 40, 41, 42, 43, 44, 45, 46, 47, 48, 49, 50, 51, 52, 53, 54, 55, 56, 57, 58, 59, 60, 61] (by decide +kernel) (by decide +kernel)
set_option maxRecDepth 20000 in
theorem gX0_raiseFrom_X0_raiseFrom : GoodIn wsX0_raiseFrom (wsV RX0 55 RX0 yX0_raiseFrom wsX0_raiseFrom) := goodIn_app (goodIn_of _ (by decide +kernel)) ggX0_raiseFrom_X0_raiseFrom
set_option maxRecDepth 20000 in
theorem ggX0_raiseFrom_X0_tellAnew : GoodIn wsX0_raiseFrom wsX0_tellAnew := goodIn_r _ [39, 1, 40, 41, 42, 43, 32, 44, 2, 45, 46, 47, 7, 48, 49, 50, 51, 52, 53, 54, 55, 56, 57, 58, 59, 60, 61] (by decide +kernel) (by decide +kernel)
set_option maxRecDepth 20000 in
theorem gX0_raiseFrom_X0_tellAnew : GoodIn wsX0_raiseFrom (wsV RX0 98 RX0 yX0_tellAnew wsX0_tellAnew) := goodIn_app (goodIn_of _ (by decide +kernel)) ggX0_raiseFrom_X0_tellAnew
theorem dX0_raiseFrom_0 : decode cX0_raiseFrom 0 = .ok (.aload_n 0, 1) := by decide +kernel
theorem dX0_raiseFrom_1 : decode cX0_raiseFrom 1 = .ok (.invokevirtual 85, 3) := by decide +kernel
theorem dX0_raiseFrom_4 : decode cX0_raiseFrom 4 = .ok (.aload_n 0, 1) := by decide +kernel
theorem dX0_raiseFrom_5 : decode cX0_raiseFrom 5 = .ok (.iload_n 1, 1) := by decide +kernel
theorem dX0_raiseFrom_6 : decode cX0_raiseFrom 6 = .ok (.invokevirtual 82, 3) := by decide +kernel
theorem dX0_raiseFrom_9 : decode cX0_raiseFrom 9 = .ok (.ifCond .ne 18, 3) := by decide +kernel
theorem dX0_raiseFrom_12 : decode cX0_raiseFrom 12 = .ok (.aload_n 0, 1) := by decide +kernel
theorem dX0_raiseFrom_13 : decode cX0_raiseFrom 13 = .ok (.getfield 18, 3) := by decide +kernel
theorem dX0_raiseFrom_16 : decode cX0_raiseFrom 16 = .ok (.iload_n 1, 1) := by decide +kernel
theorem dX0_raiseFrom_17 : decode cX0_raiseFrom 17 = .ok (.iload_n 3, 1) := by decide +kernel
theorem dX0_raiseFrom_18 : decode cX0_raiseFrom 18 = .ok (.iastore, 1) := by decide +kernel
theorem dX0_raiseFrom_19 : decode cX0_raiseFrom 19 = .ok (.aload_n 0, 1) := by decide +kernel
theorem dX0_raiseFrom_20 : decode cX0_raiseFrom 20 = .ok (.getfield 27, 3) := by decide +kernel
theorem dX0_raiseFrom_23 : decode cX0_raiseFrom 23 = .ok (.iload_n 1, 1) := by decide +kernel
theorem dX0_raiseFrom_24 : decode cX0_raiseFrom 24 = .ok (.iload_n 3, 1) := by decide +kernel
theorem dX0_raiseFrom_25 : decode cX0_raiseFrom 25 = .ok (.iastore, 1) := by decide +kernel
theorem dX0_raiseFrom_26 : decode cX0_raiseFrom 26 = .ok (.return_, 1) := by decide +kernel
theorem dX0_raiseFrom_27 : decode cX0_raiseFrom 27 = .ok (.aload_n 0, 1) := by decide +kernel
theorem dX0_raiseFrom_28 : decode cX0_raiseFrom 28 = .ok (.iload_n 1, 1) := by decide +kernel
theorem dX0_raiseFrom_29 : decode cX0_raiseFrom 29 = .ok (.invokevirtual 95, 3) := by decide +kernel
theorem dX0_raiseFrom_32 : decode cX0_raiseFrom 32 = .ok (.iload_n 2, 1) := by decide +kernel
theorem dX0_raiseFrom_33 : decode cX0_raiseFrom 33 = .ok (.aload_n 0, 1) := by decide +kernel
theorem dX0_raiseFrom_34 : decode cX0_raiseFrom 34 = .ok (.getfield 15, 3) := by decide +kernel
theorem dX0_raiseFrom_37 : decode cX0_raiseFrom 37 = .ok (.iconst 2, 1) := by decide +kernel
theorem dX0_raiseFrom_38 : decode cX0_raiseFrom 38 = .ok (.iload_n 1, 1) := by decide +kernel
theorem dX0_raiseFrom_39 : decode cX0_raiseFrom 39 = .ok (.imul, 1) := by decide +kernel
theorem dX0_raiseFrom_40 : decode cX0_raiseFrom 40 = .ok (.iaload, 1) := by decide +kernel
theorem dX0_raiseFrom_41 : decode cX0_raiseFrom 41 = .ok (.if_icmp .gt 7, 3) := by decide +kernel
theorem dX0_raiseFrom_44 : decode cX0_raiseFrom 44 = .ok (.iconst 1, 1) := by decide +kernel
theorem dX0_raiseFrom_45 : decode cX0_raiseFrom 45 = .ok (.goto 4, 3) := by decide +kernel
theorem dX0_raiseFrom_48 : decode cX0_raiseFrom 48 = .ok (.iconst 0, 1) := by decide +kernel
theorem dX0_raiseFrom_49 : decode cX0_raiseFrom 49 = .ok (.istore 4, 2) := by decide +kernel
theorem dX0_raiseFrom_51 : decode cX0_raiseFrom 51 = .ok (.aload_n 0, 1) := by decide +kernel
theorem dX0_raiseFrom_52 : decode cX0_raiseFrom 52 = .ok (.iload 4, 2) := by decide +kernel
theorem dX0_raiseFrom_54 : decode cX0_raiseFrom 54 = .ok (.ifCond .eq 9, 3) := by decide +kernel
theorem dX0_raiseFrom_57 : decode cX0_raiseFrom 57 = .ok (.iconst 2, 1) := by decide +kernel
theorem dX0_raiseFrom_58 : decode cX0_raiseFrom 58 = .ok (.iload_n 1, 1) := by decide +kernel
theorem dX0_raiseFrom_59 : decode cX0_raiseFrom 59 = .ok (.imul, 1) := by decide +kernel
theorem dX0_raiseFrom_60 : decode cX0_raiseFrom 60 = .ok (.goto 8, 3) := by decide +kernel
theorem dX0_raiseFrom_63 : decode cX0_raiseFrom 63 = .ok (.iconst 2, 1) := by decide +kernel
theorem dX0_raiseFrom_64 : decode cX0_raiseFrom 64 = .ok (.iload_n 1, 1) := by decide +kernel
theorem dX0_raiseFrom_65 : decode cX0_raiseFrom 65 = .ok (.imul, 1) := by decide +kernel
theorem dX0_raiseFrom_66 : decode cX0_raiseFrom 66 = .ok (.iconst 1, 1) := by decide +kernel
theorem dX0_raiseFrom_67 : decode cX0_raiseFrom 67 = .ok (.iadd, 1) := by decide +kernel
theorem dX0_raiseFrom_68 : decode cX0_raiseFrom 68 = .ok (.iload_n 2, 1) := by decide +kernel
theorem dX0_raiseFrom_69 : decode cX0_raiseFrom 69 = .ok (.iload_n 3, 1) := by decide +kernel
theorem dX0_raiseFrom_70 : decode cX0_raiseFrom 70 = .ok (.invokevirtual 55, 3) := by decide +kernel
theorem dX0_raiseFrom_73 : decode cX0_raiseFrom 73 = .ok (.aload_n 0, 1) := by decide +kernel
theorem dX0_raiseFrom_74 : decode cX0_raiseFrom 74 = .ok (.iload_n 1, 1) := by decide +kernel
theorem dX0_raiseFrom_75 : decode cX0_raiseFrom 75 = .ok (.invokevirtual 98, 3) := by decide +kernel
theorem dX0_raiseFrom_78 : decode cX0_raiseFrom 78 = .ok (.return_, 1) := by decide +kernel
set_option maxRecDepth 20000 in
theorem ggX0_sumFrom_X0_countVisit : GoodIn wsX0_sumFrom wsX0_countVisit := goodIn_r _ [6, 7, 8, 44, 45, 46, 47, 48, 49, 50, 51, 52] (by decide +kernel) (by decide +kernel)
set_option maxRecDepth 20000 in
theorem gX0_sumFrom_X0_countVisit : GoodIn wsX0_sumFrom (wsV RX0 85 RX0 yX0_countVisit wsX0_countVisit) := goodIn_app (goodIn_of _ (by decide +kernel)) ggX0_sumFrom_X0_countVisit
set_option maxRecDepth 20000 in
theorem ggX0_sumFrom_X0_isApart : GoodIn wsX0_sumFrom wsX0_isApart := goodIn_r _ [12, 13, 14, 44, 45, 46, 47, 48, 49, 50, 51, 52] (by decide +kernel) (by decide +kernel)
set_option maxRecDepth 20000 in
theorem gX0_sumFrom_X0_isApart : GoodIn wsX0_sumFrom (wsV RX0 69 RX0 yX0_isApart wsX0_isApart) := goodIn_app (goodIn_of _ (by decide +kernel)) ggX0_sumFrom_X0_isApart
set_option maxRecDepth 20000 in
theorem ggX0_sumFrom_X0_isWithin : GoodIn wsX0_sumFrom wsX0_isWithin := goodIn_r _ [18, 14, 13, 44, 45, 46, 47, 48, 49, 50, 51, 52] (by decide +kernel) (by decide +kernel)
set_option maxRecDepth 20000 in
theorem gX0_sumFrom_X0_isWithin : GoodIn wsX0_sumFrom (wsV RX0 88 RX0 yX0_isWithin wsX0_isWithin) := goodIn_app (goodIn_of _ (by decide +kernel)) ggX0_sumFrom_X0_isWithin
set_option maxRecDepth 20000 in
theorem ggX0_sumFrom_X0_hasParts : GoodIn wsX0_sumFrom wsX0_hasParts := goodIn_r _ [22, 14, 13, 44, 45, 46, 47, 48, 49, 50, 51, 52] (by decide +kernel) (by decide +kernel)
set_option maxRecDepth 20000 in
theorem gX0_sumFrom_X0_hasParts : GoodIn wsX0_sumFrom (wsV RX0 82 RX0 yX0_hasParts wsX0_hasParts) := goodIn_app (goodIn_of _ (by decide +kernel)) ggX0_sumFrom_X0_hasParts
set_option maxRecDepth 20000 in
theorem ggX0_sumFrom_X0_catchUpBelow : GoodIn wsX0_sumFrom wsX0_catchUpBelow := goodIn_r _ [26, 27, 28, 29, 5, 30, 31, 32, 33, 34, 35, 36, 37, 38, 39, 1, 40, 44, 45, 46, 47, 48, 49, 50, 51, 52] (by decide +kernel) (by decide +kernel)
set_option maxRecDepth 20000 in
theorem gX0_sumFrom_X0_catchUpBelow : GoodIn wsX0_sumFrom (wsV RX0 95 RX0 yX0_catchUpBelow wsX0_catchUpBelow) := goodIn_app (goodIn_of _ (by decide +kernel)) ggX0_sumFrom_X0_catchUpBelow
set_option maxRecDepth 20000 in
theorem ggX0_sumFrom_X0_sumFrom : GoodIn wsX0_sumFrom wsX0_sumFrom := goodIn_r _ [0, 1, 2, 3, 4, 5, 6, 7, 8, 9, 10, 11, 12, 13, 14, 15, 16, 17, 18, 19, 20, 21, 22, 23, 24, 25, 26, 27, 28, 29, 30, 31, 32, 33, 34, 35, 36, 37, 38, 39, 40, 41, 42, 43, 44, 45, 46, 47, 48, 49, 50, 51, 52] (by decide +kernel) (by decide +kernel)
set_option maxRecDepth 20000 in
theorem gX0_sumFrom_X0_sumFrom : GoodIn wsX0_sumFrom (wsV RX0 58 RX0 yX0_sumFrom wsX0_sumFrom) := goodIn_app (goodIn_of _ (by decide +kernel)) ggX0_sumFrom_X0_sumFrom
theorem dX0_sumFrom_0 : decode cX0_sumFrom 0 = .ok (.aload_n 0, 1) := by decide +kernel
theorem dX0_sumFrom_1 : decode cX0_sumFrom 1 = .ok (.invokevirtual 85, 3) := by decide +kernel
theorem dX0_sumFrom_4 : decode cX0_sumFrom 4 = .ok (.aload_n 0, 1) := by decide +kernel
theorem dX0_sumFrom_5 : decode cX0_sumFrom 5 = .ok (.iload_n 1, 1) := by decide +kernel
theorem dX0_sumFrom_6 : decode cX0_sumFrom 6 = .ok (.iload_n 2, 1) := by decide +kernel
theorem dX0_sumFrom_7 : decode cX0_sumFrom 7 = .ok (.iload_n 3, 1) := by decide +kernel
theorem dX0_sumFrom_8 : decode cX0_sumFrom 8 = .ok (.invokevirtual 69, 3) := by decide +kernel
theorem dX0_sumFrom_11 : decode cX0_sumFrom 11 = .ok (.ifCond .eq 5, 3) := by decide +kernel
theorem dX0_sumFrom_14 : decode cX0_sumFrom 14 = .ok (.iconst 0, 1) := by decide +kernel
theorem dX0_sumFrom_15 : decode cX0_sumFrom 15 = .ok (.ireturn, 1) := by decide +kernel
theorem dX0_sumFrom_16 : decode cX0_sumFrom 16 = .ok (.aload_n 0, 1) := by decide +kernel
theorem dX0_sumFrom_17 : decode cX0_sumFrom 17 = .ok (.iload_n 1, 1) := by decide +kernel
theorem dX0_sumFrom_18 : decode cX0_sumFrom 18 = .ok (.iload_n 2, 1) := by decide +kernel
theorem dX0_sumFrom_19 : decode cX0_sumFrom 19 = .ok (.iload_n 3, 1) := by decide +kernel
theorem dX0_sumFrom_20 : decode cX0_sumFrom 20 = .ok (.invokevirtual 88, 3) := by decide +kernel
theorem dX0_sumFrom_23 : decode cX0_sumFrom 23 = .ok (.ifCond .ne 11, 3) := by decide +kernel
theorem dX0_sumFrom_26 : decode cX0_sumFrom 26 = .ok (.aload_n 0, 1) := by decide +kernel
theorem dX0_sumFrom_27 : decode cX0_sumFrom 27 = .ok (.iload_n 1, 1) := by decide +kernel
theorem dX0_sumFrom_28 : decode cX0_sumFrom 28 = .ok (.invokevirtual 82, 3) := by decide +kernel
theorem dX0_sumFrom_31 : decode cX0_sumFrom 31 = .ok (.ifCond .ne 10, 3) := by decide +kernel
theorem dX0_sumFrom_34 : decode cX0_sumFrom 34 = .ok (.aload_n 0, 1) := by decide +kernel
theorem dX0_sumFrom_35 : decode cX0_sumFrom 35 = .ok (.getfield 27, 3) := by decide +kernel
theorem dX0_sumFrom_38 : decode cX0_sumFrom 38 = .ok (.iload_n 1, 1) := by decide +kernel
theorem dX0_sumFrom_39 : decode cX0_sumFrom 39 = .ok (.iaload, 1) := by decide +kernel
theorem dX0_sumFrom_40 : decode cX0_sumFrom 40 = .ok (.ireturn, 1) := by decide +kernel
theorem dX0_sumFrom_41 : decode cX0_sumFrom 41 = .ok (.aload_n 0, 1) := by decide +kernel
theorem dX0_sumFrom_42 : decode cX0_sumFrom 42 = .ok (.iload_n 1, 1) := by decide +kernel
theorem dX0_sumFrom_43 : decode cX0_sumFrom 43 = .ok (.invokevirtual 95, 3) := by decide +kernel
theorem dX0_sumFrom_46 : decode cX0_sumFrom 46 = .ok (.aload_n 0, 1) := by decide +kernel
theorem dX0_sumFrom_47 : decode cX0_sumFrom 47 = .ok (.iconst 2, 1) := by decide +kernel
theorem dX0_sumFrom_48 : decode cX0_sumFrom 48 = .ok (.iload_n 1, 1) := by decide +kernel
theorem dX0_sumFrom_49 : decode cX0_sumFrom 49 = .ok (.imul, 1) := by decide +kernel
theorem dX0_sumFrom_50 : decode cX0_sumFrom 50 = .ok (.iload_n 2, 1) := by decide +kernel
theorem dX0_sumFrom_51 : decode cX0_sumFrom 51 = .ok (.iload_n 3, 1) := by decide +kernel
theorem dX0_sumFrom_52 : decode cX0_sumFrom 52 = .ok (.invokevirtual 58, 3) := by decide +kernel
theorem dX0_sumFrom_55 : decode cX0_sumFrom 55 = .ok (.aload_n 0, 1) := by decide +kernel
theorem dX0_sumFrom_56 : decode cX0_sumFrom 56 = .ok (.iconst 2, 1) := by decide +kernel
theorem dX0_sumFrom_57 : decode cX0_sumFrom 57 = .ok (.iload_n 1, 1) := by decide +kernel
theorem dX0_sumFrom_58 : decode cX0_sumFrom 58 = .ok (.imul, 1) := by decide +kernel
theorem dX0_sumFrom_59 : decode cX0_sumFrom 59 = .ok (.iconst 1, 1) := by decide +kernel
theorem dX0_sumFrom_60 : decode cX0_sumFrom 60 = .ok (.iadd, 1) := by decide +kernel
theorem dX0_sumFrom_61 : decode cX0_sumFrom 61 = .ok (.iload_n 2, 1) := by decide +kernel
theorem dX0_sumFrom_62 : decode cX0_sumFrom 62 = .ok (.iload_n 3, 1) := by decide +kernel
theorem dX0_sumFrom_63 : decode cX0_sumFrom 63 = .ok (.invokevirtual 58, 3) := by decide +kernel
theorem dX0_sumFrom_66 : decode cX0_sumFrom 66 = .ok (.iadd, 1) := by decide +kernel
theorem dX0_sumFrom_67 : decode cX0_sumFrom 67 = .ok (.ireturn, 1) := by decide +kernel
set_option maxRecDepth 20000 in
theorem ggX0_greatestFrom_X0_countVisit : GoodIn wsX0_greatestFrom wsX0_countVisit := goodIn_r _ [10, 11, 12, 48, 49, 50, 51, 52, 53, 54, 55, 56] (by decide +kernel) (by decide +kernel)
set_option maxRecDepth 20000 in
theorem gX0_greatestFrom_X0_countVisit : GoodIn wsX0_greatestFrom (wsV RX0 85 RX0 yX0_countVisit wsX0_countVisit) := goodIn_app (goodIn_of _ (by decide +kernel)) ggX0_greatestFrom_X0_countVisit
set_option maxRecDepth 20000 in
theorem ggX0_greatestFrom_X0_isApart : GoodIn wsX0_greatestFrom wsX0_isApart := goodIn_r _ [16, 17, 18, 48, 49, 50, 51, 52, 53, 54, 55, 56] (by decide +kernel) (by decide +kernel)
set_option maxRecDepth 20000 in
theorem gX0_greatestFrom_X0_isApart : GoodIn wsX0_greatestFrom (wsV RX0 69 RX0 yX0_isApart wsX0_isApart) := goodIn_app (goodIn_of _ (by decide +kernel)) ggX0_greatestFrom_X0_isApart
set_option maxRecDepth 20000 in
theorem ggX0_greatestFrom_X0_isWithin : GoodIn wsX0_greatestFrom wsX0_isWithin := goodIn_r _ [22, 18, 17, 48, 49, 50, 51, 52, 53, 54, 55, 56] (by decide +kernel) (by decide +kernel)
set_option maxRecDepth 20000 in
theorem gX0_greatestFrom_X0_isWithin : GoodIn wsX0_greatestFrom (wsV RX0 88 RX0 yX0_isWithin wsX0_isWithin) := goodIn_app (goodIn_of _ (by decide +kernel)) ggX0_greatestFrom_X0_isWithin
set_option maxRecDepth 20000 in
theorem ggX0_greatestFrom_X0_hasParts : GoodIn wsX0_greatestFrom wsX0_hasParts := goodIn_r _ [26, 18, 17, 48, 49, 50, 51, 52, 53, 54, 55, 56] (by decide +kernel) (by decide +kernel)
set_option maxRecDepth 20000 in
theorem gX0_greatestFrom_X0_hasParts : GoodIn wsX0_greatestFrom (wsV RX0 82 RX0 yX0_hasParts wsX0_hasParts) := goodIn_app (goodIn_of _ (by decide +kernel)) ggX0_greatestFrom_X0_hasParts
set_option maxRecDepth 20000 in
theorem ggX0_greatestFrom_X0_catchUpBelow : GoodIn wsX0_greatestFrom wsX0_catchUpBelow := goodIn_r _ [30, 31, 32, 33, 9, 34, 1, 35, 36, 37, 38, 39, 40, 41, 42, 43, 44, 48, 49, 50, 51, 52, 53, 54, 55, 56] (by decide +kernel) (by decide +kernel)
set_option maxRecDepth 20000 in
theorem gX0_greatestFrom_X0_catchUpBelow : GoodIn wsX0_greatestFrom (wsV RX0 95 RX0 yX0_catchUpBelow wsX0_catchUpBelow) := goodIn_app (goodIn_of _ (by decide +kernel)) ggX0_greatestFrom_X0_catchUpBelow
set_option maxRecDepth 20000 in
theorem ggX0_greatestFrom_X0_greatestFrom : GoodIn wsX0_greatestFrom wsX0_greatestFrom := goodIn_r _ [0, 1, 2, 3, 4, 5, 6, 7, 8, 9, 10, 11, 12, 13, 14, 15, 16, 17, 18, 19, 20, 21, 22, 23, 24, 25, 26, 27, 28, 29, 30, 31, 32, 33, 34, 35, 36, 37, 38, 39, 40, 41, 42, 43, 44, 45, 46, 47, 48, 49, 50, 51, 52, 53, 54, 55, 56] (by decide +kernel) (by decide +kernel)
set_option maxRecDepth 20000 in
theorem gX0_greatestFrom_X0_greatestFrom : GoodIn wsX0_greatestFrom (wsV RX0 62 RX0 yX0_greatestFrom wsX0_greatestFrom) := goodIn_app (goodIn_of _ (by decide +kernel)) ggX0_greatestFrom_X0_greatestFrom
theorem dX0_greatestFrom_0 : decode cX0_greatestFrom 0 = .ok (.aload_n 0, 1) := by decide +kernel
theorem dX0_greatestFrom_1 : decode cX0_greatestFrom 1 = .ok (.invokevirtual 85, 3) := by decide +kernel
theorem dX0_greatestFrom_4 : decode cX0_greatestFrom 4 = .ok (.aload_n 0, 1) := by decide +kernel
theorem dX0_greatestFrom_5 : decode cX0_greatestFrom 5 = .ok (.iload_n 1, 1) := by decide +kernel
theorem dX0_greatestFrom_6 : decode cX0_greatestFrom 6 = .ok (.iload_n 2, 1) := by decide +kernel
theorem dX0_greatestFrom_7 : decode cX0_greatestFrom 7 = .ok (.iload_n 3, 1) := by decide +kernel
theorem dX0_greatestFrom_8 : decode cX0_greatestFrom 8 = .ok (.invokevirtual 69, 3) := by decide +kernel
theorem dX0_greatestFrom_11 : decode cX0_greatestFrom 11 = .ok (.ifCond .eq 5, 3) := by decide +kernel
theorem dX0_greatestFrom_14 : decode cX0_greatestFrom 14 = .ok (.iconst (-1), 1) := by decide +kernel
theorem dX0_greatestFrom_15 : decode cX0_greatestFrom 15 = .ok (.ireturn, 1) := by decide +kernel
theorem dX0_greatestFrom_16 : decode cX0_greatestFrom 16 = .ok (.aload_n 0, 1) := by decide +kernel
theorem dX0_greatestFrom_17 : decode cX0_greatestFrom 17 = .ok (.iload_n 1, 1) := by decide +kernel
theorem dX0_greatestFrom_18 : decode cX0_greatestFrom 18 = .ok (.iload_n 2, 1) := by decide +kernel
theorem dX0_greatestFrom_19 : decode cX0_greatestFrom 19 = .ok (.iload_n 3, 1) := by decide +kernel
theorem dX0_greatestFrom_20 : decode cX0_greatestFrom 20 = .ok (.invokevirtual 88, 3) := by decide +kernel
theorem dX0_greatestFrom_23 : decode cX0_greatestFrom 23 = .ok (.ifCond .ne 11, 3) := by decide +kernel
theorem dX0_greatestFrom_26 : decode cX0_greatestFrom 26 = .ok (.aload_n 0, 1) := by decide +kernel
theorem dX0_greatestFrom_27 : decode cX0_greatestFrom 27 = .ok (.iload_n 1, 1) := by decide +kernel
theorem dX0_greatestFrom_28 : decode cX0_greatestFrom 28 = .ok (.invokevirtual 82, 3) := by decide +kernel
theorem dX0_greatestFrom_31 : decode cX0_greatestFrom 31 = .ok (.ifCond .ne 10, 3) := by decide +kernel
theorem dX0_greatestFrom_34 : decode cX0_greatestFrom 34 = .ok (.aload_n 0, 1) := by decide +kernel
theorem dX0_greatestFrom_35 : decode cX0_greatestFrom 35 = .ok (.getfield 18, 3) := by decide +kernel
theorem dX0_greatestFrom_38 : decode cX0_greatestFrom 38 = .ok (.iload_n 1, 1) := by decide +kernel
theorem dX0_greatestFrom_39 : decode cX0_greatestFrom 39 = .ok (.iaload, 1) := by decide +kernel
theorem dX0_greatestFrom_40 : decode cX0_greatestFrom 40 = .ok (.ireturn, 1) := by decide +kernel
theorem dX0_greatestFrom_41 : decode cX0_greatestFrom 41 = .ok (.aload_n 0, 1) := by decide +kernel
theorem dX0_greatestFrom_42 : decode cX0_greatestFrom 42 = .ok (.iload_n 1, 1) := by decide +kernel
theorem dX0_greatestFrom_43 : decode cX0_greatestFrom 43 = .ok (.invokevirtual 95, 3) := by decide +kernel
theorem dX0_greatestFrom_46 : decode cX0_greatestFrom 46 = .ok (.aload_n 0, 1) := by decide +kernel
theorem dX0_greatestFrom_47 : decode cX0_greatestFrom 47 = .ok (.iconst 2, 1) := by decide +kernel
theorem dX0_greatestFrom_48 : decode cX0_greatestFrom 48 = .ok (.iload_n 1, 1) := by decide +kernel
theorem dX0_greatestFrom_49 : decode cX0_greatestFrom 49 = .ok (.imul, 1) := by decide +kernel
theorem dX0_greatestFrom_50 : decode cX0_greatestFrom 50 = .ok (.iload_n 2, 1) := by decide +kernel
theorem dX0_greatestFrom_51 : decode cX0_greatestFrom 51 = .ok (.iload_n 3, 1) := by decide +kernel
theorem dX0_greatestFrom_52 : decode cX0_greatestFrom 52 = .ok (.invokevirtual 62, 3) := by decide +kernel
theorem dX0_greatestFrom_55 : decode cX0_greatestFrom 55 = .ok (.aload_n 0, 1) := by decide +kernel
theorem dX0_greatestFrom_56 : decode cX0_greatestFrom 56 = .ok (.iconst 2, 1) := by decide +kernel
theorem dX0_greatestFrom_57 : decode cX0_greatestFrom 57 = .ok (.iload_n 1, 1) := by decide +kernel
theorem dX0_greatestFrom_58 : decode cX0_greatestFrom 58 = .ok (.imul, 1) := by decide +kernel
theorem dX0_greatestFrom_59 : decode cX0_greatestFrom 59 = .ok (.iconst 1, 1) := by decide +kernel
theorem dX0_greatestFrom_60 : decode cX0_greatestFrom 60 = .ok (.iadd, 1) := by decide +kernel
theorem dX0_greatestFrom_61 : decode cX0_greatestFrom 61 = .ok (.iload_n 2, 1) := by decide +kernel
theorem dX0_greatestFrom_62 : decode cX0_greatestFrom 62 = .ok (.iload_n 3, 1) := by decide +kernel
theorem dX0_greatestFrom_63 : decode cX0_greatestFrom 63 = .ok (.invokevirtual 62, 3) := by decide +kernel
theorem dX0_greatestFrom_66 : decode cX0_greatestFrom 66 = .ok (.invokestatic 101, 3) := by decide +kernel
theorem dX0_greatestFrom_69 : decode cX0_greatestFrom 69 = .ok (.ireturn, 1) := by decide +kernel
theorem dX0_pressDown_0 : decode cX0_pressDown 0 = .ok (.aload_n 0, 1) := by decide +kernel
theorem dX0_pressDown_1 : decode cX0_pressDown 1 = .ok (.getfield 27, 3) := by decide +kernel
theorem dX0_pressDown_4 : decode cX0_pressDown 4 = .ok (.iload_n 1, 1) := by decide +kernel
theorem dX0_pressDown_5 : decode cX0_pressDown 5 = .ok (.dup2, 1) := by decide +kernel
theorem dX0_pressDown_6 : decode cX0_pressDown 6 = .ok (.iaload, 1) := by decide +kernel
theorem dX0_pressDown_7 : decode cX0_pressDown 7 = .ok (.aload_n 0, 1) := by decide +kernel
theorem dX0_pressDown_8 : decode cX0_pressDown 8 = .ok (.getfield 18, 3) := by decide +kernel
theorem dX0_pressDown_11 : decode cX0_pressDown 11 = .ok (.iload_n 1, 1) := by decide +kernel
theorem dX0_pressDown_12 : decode cX0_pressDown 12 = .ok (.iaload, 1) := by decide +kernel
theorem dX0_pressDown_13 : decode cX0_pressDown 13 = .ok (.iload_n 2, 1) := by decide +kernel
theorem dX0_pressDown_14 : decode cX0_pressDown 14 = .ok (.isub, 1) := by decide +kernel
theorem dX0_pressDown_15 : decode cX0_pressDown 15 = .ok (.aload_n 0, 1) := by decide +kernel
theorem dX0_pressDown_16 : decode cX0_pressDown 16 = .ok (.getfield 24, 3) := by decide +kernel
theorem dX0_pressDown_19 : decode cX0_pressDown 19 = .ok (.iload_n 1, 1) := by decide +kernel
theorem dX0_pressDown_20 : decode cX0_pressDown 20 = .ok (.iaload, 1) := by decide +kernel
theorem dX0_pressDown_21 : decode cX0_pressDown 21 = .ok (.imul, 1) := by decide +kernel
theorem dX0_pressDown_22 : decode cX0_pressDown 22 = .ok (.isub, 1) := by decide +kernel
theorem dX0_pressDown_23 : decode cX0_pressDown 23 = .ok (.iastore, 1) := by decide +kernel
theorem dX0_pressDown_24 : decode cX0_pressDown 24 = .ok (.aload_n 0, 1) := by decide +kernel
theorem dX0_pressDown_25 : decode cX0_pressDown 25 = .ok (.getfield 18, 3) := by decide +kernel
theorem dX0_pressDown_28 : decode cX0_pressDown 28 = .ok (.iload_n 1, 1) := by decide +kernel
theorem dX0_pressDown_29 : decode cX0_pressDown 29 = .ok (.iload_n 2, 1) := by decide +kernel
theorem dX0_pressDown_30 : decode cX0_pressDown 30 = .ok (.iastore, 1) := by decide +kernel
theorem dX0_pressDown_31 : decode cX0_pressDown 31 = .ok (.return_, 1) := by decide +kernel
set_option maxRecDepth 20000 in
theorem ggX0_catchUpBelow_X0_catchUp : GoodIn wsX0_catchUpBelow wsX0_catchUp := goodIn_r _ [5, 6, 7, 8, 9, 4, 10, 11, 12, 13, 14, 15, 16, 17, 18, 19, 20, 21, 22, 23, 24, 25] (by decide +kernel) (by decide +kernel)
set_option maxRecDepth 20000 in
theorem gX0_catchUpBelow_X0_catchUp : GoodIn wsX0_catchUpBelow (wsV RX0 104 RX0 yX0_catchUp wsX0_catchUp) := goodIn_app (goodIn_of _ (by decide +kernel)) ggX0_catchUpBelow_X0_catchUp
theorem dX0_catchUpBelow_0 : decode cX0_catchUpBelow 0 = .ok (.aload_n 0, 1) := by decide +kernel
theorem dX0_catchUpBelow_1 : decode cX0_catchUpBelow 1 = .ok (.iconst 2, 1) := by decide +kernel
theorem dX0_catchUpBelow_2 : decode cX0_catchUpBelow 2 = .ok (.iload_n 1, 1) := by decide +kernel
theorem dX0_catchUpBelow_3 : decode cX0_catchUpBelow 3 = .ok (.imul, 1) := by decide +kernel
theorem dX0_catchUpBelow_4 : decode cX0_catchUpBelow 4 = .ok (.invokevirtual 104, 3) := by decide +kernel
theorem dX0_catchUpBelow_7 : decode cX0_catchUpBelow 7 = .ok (.aload_n 0, 1) := by decide +kernel
theorem dX0_catchUpBelow_8 : decode cX0_catchUpBelow 8 = .ok (.iconst 2, 1) := by decide +kernel
theorem dX0_catchUpBelow_9 : decode cX0_catchUpBelow 9 = .ok (.iload_n 1, 1) := by decide +kernel
theorem dX0_catchUpBelow_10 : decode cX0_catchUpBelow 10 = .ok (.imul, 1) := by decide +kernel
theorem dX0_catchUpBelow_11 : decode cX0_catchUpBelow 11 = .ok (.iconst 1, 1) := by decide +kernel
theorem dX0_catchUpBelow_12 : decode cX0_catchUpBelow 12 = .ok (.iadd, 1) := by decide +kernel
theorem dX0_catchUpBelow_13 : decode cX0_catchUpBelow 13 = .ok (.invokevirtual 104, 3) := by decide +kernel
theorem dX0_catchUpBelow_16 : decode cX0_catchUpBelow 16 = .ok (.return_, 1) := by decide +kernel
set_option maxRecDepth 20000 in
theorem ggX0_catchUp_X0_lags : GoodIn wsX0_catchUp wsX0_lags := goodIn_r _ [6, 1, 13, 14, 15, 16, 17, 18, 19, 20, 21] (by decide +kernel) (by decide +kernel)
set_option maxRecDepth 20000 in
theorem gX0_catchUp_X0_lags : GoodIn wsX0_catchUp (wsV RX0 79 RX0 yX0_lags wsX0_lags) := goodIn_app (goodIn_of _ (by decide +kernel)) ggX0_catchUp_X0_lags
set_option maxRecDepth 20000 in
theorem ggX0_catchUp_X0_pressDown : GoodIn wsX0_catchUp wsX0_pressDown := goodIn_r _ [10, 11, 1, 12, 13, 14, 15, 16, 17, 18, 19, 20, 21] (by decide +kernel) (by decide +kernel)
set_option maxRecDepth 20000 in
theorem gX0_catchUp_X0_pressDown : GoodIn wsX0_catchUp (wsV RX0 91 RX0 yX0_pressDown wsX0_pressDown) := goodIn_app (goodIn_of _ (by decide +kernel)) ggX0_catchUp_X0_pressDown
theorem dX0_catchUp_0 : decode cX0_catchUp 0 = .ok (.aload_n 0, 1) := by decide +kernel
theorem dX0_catchUp_1 : decode cX0_catchUp 1 = .ok (.iload_n 1, 1) := by decide +kernel
theorem dX0_catchUp_2 : decode cX0_catchUp 2 = .ok (.invokevirtual 79, 3) := by decide +kernel
theorem dX0_catchUp_5 : decode cX0_catchUp 5 = .ok (.ifCond .eq 16, 3) := by decide +kernel
theorem dX0_catchUp_8 : decode cX0_catchUp 8 = .ok (.aload_n 0, 1) := by decide +kernel
theorem dX0_catchUp_9 : decode cX0_catchUp 9 = .ok (.iload_n 1, 1) := by decide +kernel
theorem dX0_catchUp_10 : decode cX0_catchUp 10 = .ok (.aload_n 0, 1) := by decide +kernel
theorem dX0_catchUp_11 : decode cX0_catchUp 11 = .ok (.getfield 18, 3) := by decide +kernel
theorem dX0_catchUp_14 : decode cX0_catchUp 14 = .ok (.iload_n 1, 1) := by decide +kernel
theorem dX0_catchUp_15 : decode cX0_catchUp 15 = .ok (.iconst 2, 1) := by decide +kernel
theorem dX0_catchUp_16 : decode cX0_catchUp 16 = .ok (.idiv, 1) := by decide +kernel
theorem dX0_catchUp_17 : decode cX0_catchUp 17 = .ok (.iaload, 1) := by decide +kernel
theorem dX0_catchUp_18 : decode cX0_catchUp 18 = .ok (.invokevirtual 91, 3) := by decide +kernel
theorem dX0_catchUp_21 : decode cX0_catchUp 21 = .ok (.return_, 1) := by decide +kernel
set_option maxRecDepth 20000 in
theorem ggX0_tellAnew_X0_manyAt : GoodIn wsX0_tellAnew wsX0_manyAt := goodIn_r _ [13, 1, 6, 18, 19, 20, 21, 22, 23, 24, 25, 26] (by decide +kernel) (by decide +kernel)
set_option maxRecDepth 20000 in
theorem gX0_tellAnew_X0_manyAt : GoodIn wsX0_tellAnew (wsV RX0 107 RX0 yX0_manyAt wsX0_manyAt) := goodIn_app (goodIn_of _ (by decide +kernel)) ggX0_tellAnew_X0_manyAt
set_option maxRecDepth 20000 in
theorem ggX0_tellAnew_X0_greatestLessThan : GoodIn wsX0_tellAnew wsX0_greatestLessThan := goodIn_r _ [17, 1, 7, 18, 19, 20, 21, 22, 23, 24, 25, 26] (by decide +kernel) (by decide +kernel)
set_option maxRecDepth 20000 in
theorem gX0_tellAnew_X0_greatestLessThan : GoodIn wsX0_tellAnew (wsV RX0 110 RX0 yX0_greatestLessThan wsX0_greatestLessThan) := goodIn_app (goodIn_of _ (by decide +kernel)) ggX0_tellAnew_X0_greatestLessThan
theorem dX0_tellAnew_0 : decode cX0_tellAnew 0 = .ok (.iconst 2, 1) := by decide +kernel
theorem dX0_tellAnew_1 : decode cX0_tellAnew 1 = .ok (.iload_n 1, 1) := by decide +kernel
theorem dX0_tellAnew_2 : decode cX0_tellAnew 2 = .ok (.imul, 1) := by decide +kernel
theorem dX0_tellAnew_3 : decode cX0_tellAnew 3 = .ok (.istore_n 2, 1) := by decide +kernel
theorem dX0_tellAnew_4 : decode cX0_tellAnew 4 = .ok (.iload_n 2, 1) := by decide +kernel
theorem dX0_tellAnew_5 : decode cX0_tellAnew 5 = .ok (.iconst 1, 1) := by decide +kernel
theorem dX0_tellAnew_6 : decode cX0_tellAnew 6 = .ok (.iadd, 1) := by decide +kernel
theorem dX0_tellAnew_7 : decode cX0_tellAnew 7 = .ok (.istore_n 3, 1) := by decide +kernel
theorem dX0_tellAnew_8 : decode cX0_tellAnew 8 = .ok (.aload_n 0, 1) := by decide +kernel
theorem dX0_tellAnew_9 : decode cX0_tellAnew 9 = .ok (.getfield 18, 3) := by decide +kernel
theorem dX0_tellAnew_12 : decode cX0_tellAnew 12 = .ok (.iload_n 2, 1) := by decide +kernel
theorem dX0_tellAnew_13 : decode cX0_tellAnew 13 = .ok (.iaload, 1) := by decide +kernel
theorem dX0_tellAnew_14 : decode cX0_tellAnew 14 = .ok (.aload_n 0, 1) := by decide +kernel
theorem dX0_tellAnew_15 : decode cX0_tellAnew 15 = .ok (.getfield 18, 3) := by decide +kernel
theorem dX0_tellAnew_18 : decode cX0_tellAnew 18 = .ok (.iload_n 3, 1) := by decide +kernel
theorem dX0_tellAnew_19 : decode cX0_tellAnew 19 = .ok (.iaload, 1) := by decide +kernel
theorem dX0_tellAnew_20 : decode cX0_tellAnew 20 = .ok (.invokestatic 101, 3) := by decide +kernel
theorem dX0_tellAnew_23 : decode cX0_tellAnew 23 = .ok (.istore 4, 2) := by decide +kernel
theorem dX0_tellAnew_25 : decode cX0_tellAnew 25 = .ok (.aload_n 0, 1) := by decide +kernel
theorem dX0_tellAnew_26 : decode cX0_tellAnew 26 = .ok (.getfield 18, 3) := by decide +kernel
theorem dX0_tellAnew_29 : decode cX0_tellAnew 29 = .ok (.iload_n 1, 1) := by decide +kernel
theorem dX0_tellAnew_30 : decode cX0_tellAnew 30 = .ok (.iload 4, 2) := by decide +kernel
theorem dX0_tellAnew_32 : decode cX0_tellAnew 32 = .ok (.iastore, 1) := by decide +kernel
theorem dX0_tellAnew_33 : decode cX0_tellAnew 33 = .ok (.aload_n 0, 1) := by decide +kernel
theorem dX0_tellAnew_34 : decode cX0_tellAnew 34 = .ok (.getfield 24, 3) := by decide +kernel
theorem dX0_tellAnew_37 : decode cX0_tellAnew 37 = .ok (.iload_n 1, 1) := by decide +kernel
theorem dX0_tellAnew_38 : decode cX0_tellAnew 38 = .ok (.aload_n 0, 1) := by decide +kernel
theorem dX0_tellAnew_39 : decode cX0_tellAnew 39 = .ok (.iload_n 2, 1) := by decide +kernel
theorem dX0_tellAnew_40 : decode cX0_tellAnew 40 = .ok (.iload 4, 2) := by decide +kernel
theorem dX0_tellAnew_42 : decode cX0_tellAnew 42 = .ok (.invokevirtual 107, 3) := by decide +kernel
theorem dX0_tellAnew_45 : decode cX0_tellAnew 45 = .ok (.aload_n 0, 1) := by decide +kernel
theorem dX0_tellAnew_46 : decode cX0_tellAnew 46 = .ok (.iload_n 3, 1) := by decide +kernel
theorem dX0_tellAnew_47 : decode cX0_tellAnew 47 = .ok (.iload 4, 2) := by decide +kernel
theorem dX0_tellAnew_49 : decode cX0_tellAnew 49 = .ok (.invokevirtual 107, 3) := by decide +kernel
theorem dX0_tellAnew_52 : decode cX0_tellAnew 52 = .ok (.iadd, 1) := by decide +kernel
theorem dX0_tellAnew_53 : decode cX0_tellAnew 53 = .ok (.iastore, 1) := by decide +kernel
theorem dX0_tellAnew_54 : decode cX0_tellAnew 54 = .ok (.aload_n 0, 1) := by decide +kernel
theorem dX0_tellAnew_55 : decode cX0_tellAnew 55 = .ok (.getfield 21, 3) := by decide +kernel
theorem dX0_tellAnew_58 : decode cX0_tellAnew 58 = .ok (.iload_n 1, 1) := by decide +kernel
theorem dX0_tellAnew_59 : decode cX0_tellAnew 59 = .ok (.aload_n 0, 1) := by decide +kernel
theorem dX0_tellAnew_60 : decode cX0_tellAnew 60 = .ok (.iload 4, 2) := by decide +kernel
theorem dX0_tellAnew_62 : decode cX0_tellAnew 62 = .ok (.iload_n 2, 1) := by decide +kernel
theorem dX0_tellAnew_63 : decode cX0_tellAnew 63 = .ok (.invokevirtual 110, 3) := by decide +kernel
theorem dX0_tellAnew_66 : decode cX0_tellAnew 66 = .ok (.aload_n 0, 1) := by decide +kernel
theorem dX0_tellAnew_67 : decode cX0_tellAnew 67 = .ok (.iload 4, 2) := by decide +kernel
theorem dX0_tellAnew_69 : decode cX0_tellAnew 69 = .ok (.iload_n 3, 1) := by decide +kernel
theorem dX0_tellAnew_70 : decode cX0_tellAnew 70 = .ok (.invokevirtual 110, 3) := by decide +kernel
theorem dX0_tellAnew_73 : decode cX0_tellAnew 73 = .ok (.invokestatic 101, 3) := by decide +kernel
theorem dX0_tellAnew_76 : decode cX0_tellAnew 76 = .ok (.iastore, 1) := by decide +kernel
theorem dX0_tellAnew_77 : decode cX0_tellAnew 77 = .ok (.aload_n 0, 1) := by decide +kernel
theorem dX0_tellAnew_78 : decode cX0_tellAnew 78 = .ok (.getfield 27, 3) := by decide +kernel
theorem dX0_tellAnew_81 : decode cX0_tellAnew 81 = .ok (.iload_n 1, 1) := by decide +kernel
theorem dX0_tellAnew_82 : decode cX0_tellAnew 82 = .ok (.aload_n 0, 1) := by decide +kernel
theorem dX0_tellAnew_83 : decode cX0_tellAnew 83 = .ok (.getfield 27, 3) := by decide +kernel
theorem dX0_tellAnew_86 : decode cX0_tellAnew 86 = .ok (.iload_n 2, 1) := by decide +kernel
theorem dX0_tellAnew_87 : decode cX0_tellAnew 87 = .ok (.iaload, 1) := by decide +kernel
theorem dX0_tellAnew_88 : decode cX0_tellAnew 88 = .ok (.aload_n 0, 1) := by decide +kernel
theorem dX0_tellAnew_89 : decode cX0_tellAnew 89 = .ok (.getfield 27, 3) := by decide +kernel
theorem dX0_tellAnew_92 : decode cX0_tellAnew 92 = .ok (.iload_n 3, 1) := by decide +kernel
theorem dX0_tellAnew_93 : decode cX0_tellAnew 93 = .ok (.iaload, 1) := by decide +kernel
theorem dX0_tellAnew_94 : decode cX0_tellAnew 94 = .ok (.iadd, 1) := by decide +kernel
theorem dX0_tellAnew_95 : decode cX0_tellAnew 95 = .ok (.iastore, 1) := by decide +kernel
theorem dX0_tellAnew_96 : decode cX0_tellAnew 96 = .ok (.return_, 1) := by decide +kernel
theorem dX0_manyAt_0 : decode cX0_manyAt 0 = .ok (.aload_n 0, 1) := by decide +kernel
theorem dX0_manyAt_1 : decode cX0_manyAt 1 = .ok (.getfield 18, 3) := by decide +kernel
theorem dX0_manyAt_4 : decode cX0_manyAt 4 = .ok (.iload_n 1, 1) := by decide +kernel
theorem dX0_manyAt_5 : decode cX0_manyAt 5 = .ok (.iaload, 1) := by decide +kernel
theorem dX0_manyAt_6 : decode cX0_manyAt 6 = .ok (.iload_n 2, 1) := by decide +kernel
theorem dX0_manyAt_7 : decode cX0_manyAt 7 = .ok (.if_icmp .ne 12, 3) := by decide +kernel
theorem dX0_manyAt_10 : decode cX0_manyAt 10 = .ok (.aload_n 0, 1) := by decide +kernel
theorem dX0_manyAt_11 : decode cX0_manyAt 11 = .ok (.getfield 24, 3) := by decide +kernel
theorem dX0_manyAt_14 : decode cX0_manyAt 14 = .ok (.iload_n 1, 1) := by decide +kernel
theorem dX0_manyAt_15 : decode cX0_manyAt 15 = .ok (.iaload, 1) := by decide +kernel
theorem dX0_manyAt_16 : decode cX0_manyAt 16 = .ok (.goto 4, 3) := by decide +kernel
theorem dX0_manyAt_19 : decode cX0_manyAt 19 = .ok (.iconst 0, 1) := by decide +kernel
theorem dX0_manyAt_20 : decode cX0_manyAt 20 = .ok (.ireturn, 1) := by decide +kernel
theorem dX0_greatestLessThan_0 : decode cX0_greatestLessThan 0 = .ok (.aload_n 0, 1) := by decide +kernel
theorem dX0_greatestLessThan_1 : decode cX0_greatestLessThan 1 = .ok (.getfield 18, 3) := by decide +kernel
theorem dX0_greatestLessThan_4 : decode cX0_greatestLessThan 4 = .ok (.iload_n 2, 1) := by decide +kernel
theorem dX0_greatestLessThan_5 : decode cX0_greatestLessThan 5 = .ok (.iaload, 1) := by decide +kernel
theorem dX0_greatestLessThan_6 : decode cX0_greatestLessThan 6 = .ok (.iload_n 1, 1) := by decide +kernel
theorem dX0_greatestLessThan_7 : decode cX0_greatestLessThan 7 = .ok (.if_icmp .ge 12, 3) := by decide +kernel
theorem dX0_greatestLessThan_10 : decode cX0_greatestLessThan 10 = .ok (.aload_n 0, 1) := by decide +kernel
theorem dX0_greatestLessThan_11 : decode cX0_greatestLessThan 11 = .ok (.getfield 18, 3) := by decide +kernel
theorem dX0_greatestLessThan_14 : decode cX0_greatestLessThan 14 = .ok (.iload_n 2, 1) := by decide +kernel
theorem dX0_greatestLessThan_15 : decode cX0_greatestLessThan 15 = .ok (.iaload, 1) := by decide +kernel
theorem dX0_greatestLessThan_16 : decode cX0_greatestLessThan 16 = .ok (.goto 9, 3) := by decide +kernel
theorem dX0_greatestLessThan_19 : decode cX0_greatestLessThan 19 = .ok (.aload_n 0, 1) := by decide +kernel
theorem dX0_greatestLessThan_20 : decode cX0_greatestLessThan 20 = .ok (.getfield 21, 3) := by decide +kernel
theorem dX0_greatestLessThan_23 : decode cX0_greatestLessThan 23 = .ok (.iload_n 2, 1) := by decide +kernel
theorem dX0_greatestLessThan_24 : decode cX0_greatestLessThan 24 = .ok (.iaload, 1) := by decide +kernel
theorem dX0_greatestLessThan_25 : decode cX0_greatestLessThan 25 = .ok (.ireturn, 1) := by decide +kernel
theorem dX1_init_0 : decode cX1_init 0 = .ok (.aload_n 0, 1) := by decide +kernel
theorem dX1_init_1 : decode cX1_init 1 = .ok (.invokespecial 3, 3) := by decide +kernel
theorem dX1_init_4 : decode cX1_init 4 = .ok (.aload_n 0, 1) := by decide +kernel
theorem dX1_init_5 : decode cX1_init 5 = .ok (.bipush 64, 2) := by decide +kernel
theorem dX1_init_7 : decode cX1_init 7 = .ok (.newarray .int, 2) := by decide +kernel
theorem dX1_init_9 : decode cX1_init 9 = .ok (.putfield 9, 3) := by decide +kernel
theorem dX1_init_12 : decode cX1_init 12 = .ok (.aload_n 0, 1) := by decide +kernel
theorem dX1_init_13 : decode cX1_init 13 = .ok (.bipush 64, 2) := by decide +kernel
theorem dX1_init_15 : decode cX1_init 15 = .ok (.newarray .int, 2) := by decide +kernel
theorem dX1_init_17 : decode cX1_init 17 = .ok (.putfield 15, 3) := by decide +kernel
theorem dX1_init_20 : decode cX1_init 20 = .ok (.return_, 1) := by decide +kernel
theorem dX1_renew_0 : decode cX1_renew 0 = .ok (.aload_n 0, 1) := by decide +kernel
theorem dX1_renew_1 : decode cX1_renew 1 = .ok (.iload_n 1, 1) := by decide +kernel
theorem dX1_renew_2 : decode cX1_renew 2 = .ok (.putfield 18, 3) := by decide +kernel
theorem dX1_renew_5 : decode cX1_renew 5 = .ok (.aload_n 0, 1) := by decide +kernel
theorem dX1_renew_6 : decode cX1_renew 6 = .ok (.iload_n 1, 1) := by decide +kernel
theorem dX1_renew_7 : decode cX1_renew 7 = .ok (.iload_n 2, 1) := by decide +kernel
theorem dX1_renew_8 : decode cX1_renew 8 = .ok (.imul, 1) := by decide +kernel
theorem dX1_renew_9 : decode cX1_renew 9 = .ok (.putfield 22, 3) := by decide +kernel
theorem dX1_renew_12 : decode cX1_renew 12 = .ok (.iconst 0, 1) := by decide +kernel
theorem dX1_renew_13 : decode cX1_renew 13 = .ok (.istore_n 3, 1) := by decide +kernel
theorem dX1_renew_14 : decode cX1_renew 14 = .ok (.iload_n 3, 1) := by decide +kernel
theorem dX1_renew_15 : decode cX1_renew 15 = .ok (.bipush 64, 2) := by decide +kernel
theorem dX1_renew_17 : decode cX1_renew 17 = .ok (.if_icmp .ge 32, 3) := by decide +kernel
theorem dX1_renew_20 : decode cX1_renew 20 = .ok (.aload_n 0, 1) := by decide +kernel
theorem dX1_renew_21 : decode cX1_renew 21 = .ok (.getfield 9, 3) := by decide +kernel
theorem dX1_renew_24 : decode cX1_renew 24 = .ok (.iload_n 3, 1) := by decide +kernel
theorem dX1_renew_25 : decode cX1_renew 25 = .ok (.iload_n 3, 1) := by decide +kernel
theorem dX1_renew_26 : decode cX1_renew 26 = .ok (.iload_n 1, 1) := by decide +kernel
theorem dX1_renew_27 : decode cX1_renew 27 = .ok (.if_icmp .ge 7, 3) := by decide +kernel
theorem dX1_renew_30 : decode cX1_renew 30 = .ok (.iload_n 2, 1) := by decide +kernel
theorem dX1_renew_31 : decode cX1_renew 31 = .ok (.goto 4, 3) := by decide +kernel
theorem dX1_renew_34 : decode cX1_renew 34 = .ok (.iconst 0, 1) := by decide +kernel
theorem dX1_renew_35 : decode cX1_renew 35 = .ok (.iastore, 1) := by decide +kernel
theorem dX1_renew_36 : decode cX1_renew 36 = .ok (.aload_n 0, 1) := by decide +kernel
theorem dX1_renew_37 : decode cX1_renew 37 = .ok (.getfield 15, 3) := by decide +kernel
theorem dX1_renew_40 : decode cX1_renew 40 = .ok (.iload_n 3, 1) := by decide +kernel
theorem dX1_renew_41 : decode cX1_renew 41 = .ok (.iconst (-1), 1) := by decide +kernel
theorem dX1_renew_42 : decode cX1_renew 42 = .ok (.iastore, 1) := by decide +kernel
theorem dX1_renew_43 : decode cX1_renew 43 = .ok (.iinc 3 1, 3) := by decide +kernel
theorem dX1_renew_46 : decode cX1_renew 46 = .ok (.goto (-32), 3) := by decide +kernel
theorem dX1_renew_49 : decode cX1_renew 49 = .ok (.return_, 1) := by decide +kernel
theorem dX1_raise_0 : decode cX1_raise 0 = .ok (.aload_n 0, 1) := by decide +kernel
theorem dX1_raise_1 : decode cX1_raise 1 = .ok (.getfield 9, 3) := by decide +kernel
theorem dX1_raise_4 : decode cX1_raise 4 = .ok (.iload_n 1, 1) := by decide +kernel
theorem dX1_raise_5 : decode cX1_raise 5 = .ok (.dup2, 1) := by decide +kernel
theorem dX1_raise_6 : decode cX1_raise 6 = .ok (.iaload, 1) := by decide +kernel
theorem dX1_raise_7 : decode cX1_raise 7 = .ok (.iload_n 2, 1) := by decide +kernel
theorem dX1_raise_8 : decode cX1_raise 8 = .ok (.iadd, 1) := by decide +kernel
theorem dX1_raise_9 : decode cX1_raise 9 = .ok (.iastore, 1) := by decide +kernel
theorem dX1_raise_10 : decode cX1_raise 10 = .ok (.aload_n 0, 1) := by decide +kernel
theorem dX1_raise_11 : decode cX1_raise 11 = .ok (.getfield 15, 3) := by decide +kernel
theorem dX1_raise_14 : decode cX1_raise 14 = .ok (.iload_n 1, 1) := by decide +kernel
theorem dX1_raise_15 : decode cX1_raise 15 = .ok (.iconst (-1), 1) := by decide +kernel
theorem dX1_raise_16 : decode cX1_raise 16 = .ok (.iastore, 1) := by decide +kernel
theorem dX1_raise_17 : decode cX1_raise 17 = .ok (.aload_n 0, 1) := by decide +kernel
theorem dX1_raise_18 : decode cX1_raise 18 = .ok (.dup, 1) := by decide +kernel
theorem dX1_raise_19 : decode cX1_raise 19 = .ok (.getfield 22, 3) := by decide +kernel
theorem dX1_raise_22 : decode cX1_raise 22 = .ok (.iload_n 2, 1) := by decide +kernel
theorem dX1_raise_23 : decode cX1_raise 23 = .ok (.iadd, 1) := by decide +kernel
theorem dX1_raise_24 : decode cX1_raise 24 = .ok (.putfield 22, 3) := by decide +kernel
theorem dX1_raise_27 : decode cX1_raise 27 = .ok (.return_, 1) := by decide +kernel
theorem dX1_press_0 : decode cX1_press 0 = .ok (.iload_n 1, 1) := by decide +kernel
theorem dX1_press_1 : decode cX1_press 1 = .ok (.istore 4, 2) := by decide +kernel
theorem dX1_press_3 : decode cX1_press 3 = .ok (.iload 4, 2) := by decide +kernel
theorem dX1_press_5 : decode cX1_press 5 = .ok (.iload_n 2, 1) := by decide +kernel
theorem dX1_press_6 : decode cX1_press 6 = .ok (.if_icmp .gt 57, 3) := by decide +kernel
theorem dX1_press_9 : decode cX1_press 9 = .ok (.aload_n 0, 1) := by decide +kernel
theorem dX1_press_10 : decode cX1_press 10 = .ok (.getfield 9, 3) := by decide +kernel
theorem dX1_press_13 : decode cX1_press 13 = .ok (.iload 4, 2) := by decide +kernel
theorem dX1_press_15 : decode cX1_press 15 = .ok (.aload_n 0, 1) := by decide +kernel
theorem dX1_press_16 : decode cX1_press 16 = .ok (.getfield 9, 3) := by decide +kernel
theorem dX1_press_19 : decode cX1_press 19 = .ok (.iload 4, 2) := by decide +kernel
theorem dX1_press_21 : decode cX1_press 21 = .ok (.iaload, 1) := by decide +kernel
theorem dX1_press_22 : decode cX1_press 22 = .ok (.iload_n 3, 1) := by decide +kernel
theorem dX1_press_23 : decode cX1_press 23 = .ok (.invokestatic 25, 3) := by decide +kernel
theorem dX1_press_26 : decode cX1_press 26 = .ok (.iastore, 1) := by decide +kernel
theorem dX1_press_27 : decode cX1_press 27 = .ok (.aload_n 0, 1) := by decide +kernel
theorem dX1_press_28 : decode cX1_press 28 = .ok (.getfield 15, 3) := by decide +kernel
theorem dX1_press_31 : decode cX1_press 31 = .ok (.iload 4, 2) := by decide +kernel
theorem dX1_press_33 : decode cX1_press 33 = .ok (.iaload, 1) := by decide +kernel
theorem dX1_press_34 : decode cX1_press 34 = .ok (.iconst (-1), 1) := by decide +kernel
theorem dX1_press_35 : decode cX1_press 35 = .ok (.if_icmp .eq 14, 3) := by decide +kernel
theorem dX1_press_38 : decode cX1_press 38 = .ok (.iload_n 3, 1) := by decide +kernel
theorem dX1_press_39 : decode cX1_press 39 = .ok (.aload_n 0, 1) := by decide +kernel
theorem dX1_press_40 : decode cX1_press 40 = .ok (.getfield 15, 3) := by decide +kernel
theorem dX1_press_43 : decode cX1_press 43 = .ok (.iload 4, 2) := by decide +kernel
theorem dX1_press_45 : decode cX1_press 45 = .ok (.iaload, 1) := by decide +kernel
theorem dX1_press_46 : decode cX1_press 46 = .ok (.if_icmp .ge 11, 3) := by decide +kernel
theorem dX1_press_49 : decode cX1_press 49 = .ok (.aload_n 0, 1) := by decide +kernel
theorem dX1_press_50 : decode cX1_press 50 = .ok (.getfield 15, 3) := by decide +kernel
theorem dX1_press_53 : decode cX1_press 53 = .ok (.iload 4, 2) := by decide +kernel
theorem dX1_press_55 : decode cX1_press 55 = .ok (.iload_n 3, 1) := by decide +kernel
theorem dX1_press_56 : decode cX1_press 56 = .ok (.iastore, 1) := by decide +kernel
theorem dX1_press_57 : decode cX1_press 57 = .ok (.iinc 4 1, 3) := by decide +kernel
theorem dX1_press_60 : decode cX1_press 60 = .ok (.goto (-57), 3) := by decide +kernel
theorem dX1_press_63 : decode cX1_press 63 = .ok (.return_, 1) := by decide +kernel
theorem dX1_earthAbove_0 : decode cX1_earthAbove 0 = .ok (.iconst 0, 1) := by decide +kernel
theorem dX1_earthAbove_1 : decode cX1_earthAbove 1 = .ok (.istore 4, 2) := by decide +kernel
theorem dX1_earthAbove_3 : decode cX1_earthAbove 3 = .ok (.iload_n 1, 1) := by decide +kernel
theorem dX1_earthAbove_4 : decode cX1_earthAbove 4 = .ok (.istore 5, 2) := by decide +kernel
theorem dX1_earthAbove_6 : decode cX1_earthAbove 6 = .ok (.iload 5, 2) := by decide +kernel
theorem dX1_earthAbove_8 : decode cX1_earthAbove 8 = .ok (.iload_n 2, 1) := by decide +kernel
theorem dX1_earthAbove_9 : decode cX1_earthAbove 9 = .ok (.if_icmp .gt 27, 3) := by decide +kernel
theorem dX1_earthAbove_12 : decode cX1_earthAbove 12 = .ok (.iload 4, 2) := by decide +kernel
theorem dX1_earthAbove_14 : decode cX1_earthAbove 14 = .ok (.aload_n 0, 1) := by decide +kernel
theorem dX1_earthAbove_15 : decode cX1_earthAbove 15 = .ok (.getfield 9, 3) := by decide +kernel
theorem dX1_earthAbove_18 : decode cX1_earthAbove 18 = .ok (.iload 5, 2) := by decide +kernel
theorem dX1_earthAbove_20 : decode cX1_earthAbove 20 = .ok (.iaload, 1) := by decide +kernel
theorem dX1_earthAbove_21 : decode cX1_earthAbove 21 = .ok (.iload_n 3, 1) := by decide +kernel
theorem dX1_earthAbove_22 : decode cX1_earthAbove 22 = .ok (.isub, 1) := by decide +kernel
theorem dX1_earthAbove_23 : decode cX1_earthAbove 23 = .ok (.iconst 0, 1) := by decide +kernel
theorem dX1_earthAbove_24 : decode cX1_earthAbove 24 = .ok (.invokestatic 31, 3) := by decide +kernel
theorem dX1_earthAbove_27 : decode cX1_earthAbove 27 = .ok (.iadd, 1) := by decide +kernel
theorem dX1_earthAbove_28 : decode cX1_earthAbove 28 = .ok (.istore 4, 2) := by decide +kernel
theorem dX1_earthAbove_30 : decode cX1_earthAbove 30 = .ok (.iinc 5 1, 3) := by decide +kernel
theorem dX1_earthAbove_33 : decode cX1_earthAbove 33 = .ok (.goto (-27), 3) := by decide +kernel
theorem dX1_earthAbove_36 : decode cX1_earthAbove 36 = .ok (.iload 4, 2) := by decide +kernel
theorem dX1_earthAbove_38 : decode cX1_earthAbove 38 = .ok (.ireturn, 1) := by decide +kernel
set_option maxRecDepth 20000 in
theorem ggX1_highestCeilingFor_X1_earthAbove : GoodIn wsX1_highestCeilingFor wsX1_earthAbove := goodIn_r _ [5, 6, 7, 8, 9, 10, 11, 12, 13, 14] (by decide +kernel) (by decide +kernel)
set_option maxRecDepth 20000 in
theorem gX1_highestCeilingFor_X1_earthAbove : GoodIn wsX1_highestCeilingFor (wsV RX1 34 RX1 yX1_earthAbove wsX1_earthAbove) := goodIn_app (goodIn_of _ (by decide +kernel)) ggX1_highestCeilingFor_X1_earthAbove
theorem dX1_highestCeilingFor_0 : decode cX1_highestCeilingFor 0 = .ok (.aload_n 0, 1) := by decide +kernel
theorem dX1_highestCeilingFor_1 : decode cX1_highestCeilingFor 1 = .ok (.iload_n 1, 1) := by decide +kernel
theorem dX1_highestCeilingFor_2 : decode cX1_highestCeilingFor 2 = .ok (.iload_n 2, 1) := by decide +kernel
theorem dX1_highestCeilingFor_3 : decode cX1_highestCeilingFor 3 = .ok (.iconst 0, 1) := by decide +kernel
theorem dX1_highestCeilingFor_4 : decode cX1_highestCeilingFor 4 = .ok (.invokevirtual 34, 3) := by decide +kernel
theorem dX1_highestCeilingFor_7 : decode cX1_highestCeilingFor 7 = .ok (.iload_n 3, 1) := by decide +kernel
theorem dX1_highestCeilingFor_8 : decode cX1_highestCeilingFor 8 = .ok (.if_icmp .ge 5, 3) := by decide +kernel
theorem dX1_highestCeilingFor_11 : decode cX1_highestCeilingFor 11 = .ok (.iconst (-1), 1) := by decide +kernel
theorem dX1_highestCeilingFor_12 : decode cX1_highestCeilingFor 12 = .ok (.ireturn, 1) := by decide +kernel
theorem dX1_highestCeilingFor_13 : decode cX1_highestCeilingFor 13 = .ok (.iconst 0, 1) := by decide +kernel
theorem dX1_highestCeilingFor_14 : decode cX1_highestCeilingFor 14 = .ok (.istore 4, 2) := by decide +kernel
theorem dX1_highestCeilingFor_16 : decode cX1_highestCeilingFor 16 = .ok (.sipush 512, 3) := by decide +kernel
theorem dX1_highestCeilingFor_19 : decode cX1_highestCeilingFor 19 = .ok (.istore 5, 2) := by decide +kernel
theorem dX1_highestCeilingFor_21 : decode cX1_highestCeilingFor 21 = .ok (.iload 5, 2) := by decide +kernel
theorem dX1_highestCeilingFor_23 : decode cX1_highestCeilingFor 23 = .ok (.ifCond .le 34, 3) := by decide +kernel
theorem dX1_highestCeilingFor_26 : decode cX1_highestCeilingFor 26 = .ok (.aload_n 0, 1) := by decide +kernel
theorem dX1_highestCeilingFor_27 : decode cX1_highestCeilingFor 27 = .ok (.iload_n 1, 1) := by decide +kernel
theorem dX1_highestCeilingFor_28 : decode cX1_highestCeilingFor 28 = .ok (.iload_n 2, 1) := by decide +kernel
theorem dX1_highestCeilingFor_29 : decode cX1_highestCeilingFor 29 = .ok (.iload 4, 2) := by decide +kernel
theorem dX1_highestCeilingFor_31 : decode cX1_highestCeilingFor 31 = .ok (.iload 5, 2) := by decide +kernel
theorem dX1_highestCeilingFor_33 : decode cX1_highestCeilingFor 33 = .ok (.iadd, 1) := by decide +kernel
theorem dX1_highestCeilingFor_34 : decode cX1_highestCeilingFor 34 = .ok (.invokevirtual 34, 3) := by decide +kernel
theorem dX1_highestCeilingFor_37 : decode cX1_highestCeilingFor 37 = .ok (.iload_n 3, 1) := by decide +kernel
theorem dX1_highestCeilingFor_38 : decode cX1_highestCeilingFor 38 = .ok (.if_icmp .lt 10, 3) := by decide +kernel
theorem dX1_highestCeilingFor_41 : decode cX1_highestCeilingFor 41 = .ok (.iload 4, 2) := by decide +kernel
theorem dX1_highestCeilingFor_43 : decode cX1_highestCeilingFor 43 = .ok (.iload 5, 2) := by decide +kernel
theorem dX1_highestCeilingFor_45 : decode cX1_highestCeilingFor 45 = .ok (.iadd, 1) := by decide +kernel
theorem dX1_highestCeilingFor_46 : decode cX1_highestCeilingFor 46 = .ok (.istore 4, 2) := by decide +kernel
theorem dX1_highestCeilingFor_48 : decode cX1_highestCeilingFor 48 = .ok (.iload 5, 2) := by decide +kernel
theorem dX1_highestCeilingFor_50 : decode cX1_highestCeilingFor 50 = .ok (.iconst 2, 1) := by decide +kernel
theorem dX1_highestCeilingFor_51 : decode cX1_highestCeilingFor 51 = .ok (.idiv, 1) := by decide +kernel
theorem dX1_highestCeilingFor_52 : decode cX1_highestCeilingFor 52 = .ok (.istore 5, 2) := by decide +kernel
theorem dX1_highestCeilingFor_54 : decode cX1_highestCeilingFor 54 = .ok (.goto (-33), 3) := by decide +kernel
theorem dX1_highestCeilingFor_57 : decode cX1_highestCeilingFor 57 = .ok (.iload 4, 2) := by decide +kernel
theorem dX1_highestCeilingFor_59 : decode cX1_highestCeilingFor 59 = .ok (.ireturn, 1) := by decide +kernel
set_option maxRecDepth 20000 in
theorem ggX2_init_X0_init : GoodIn wsX2_init wsX0_init := goodIn_r _ [14, 15, 2, 3, 16, 17, 18, 19, 20, 21, 22, 53, 54, 55, 56, 57, 58, 59, 60, 61] (by decide +kernel) (by decide +kernel)
set_option maxRecDepth 20000 in
theorem gX2_init_X0_init_n11 : GoodIn wsX2_init (wsX0_init) := ggX2_init_X0_init
set_option maxRecDepth 20000 in
theorem ggX2_init_X1_init : GoodIn wsX2_init wsX1_init := goodIn_r _ [24, 25, 2, 3, 16, 26, 27, 65, 66, 67, 68] (by decide +kernel) (by decide +kernel)
set_option maxRecDepth 20000 in
theorem gX2_init_X1_init_n18 : GoodIn wsX2_init (wsX1_init) := ggX2_init_X1_init
set_option maxRecDepth 20000 in
theorem ggX2_init_X0_renew : GoodIn wsX2_init wsX0_renew := goodIn_r _ [31, 18, 17, 19, 20, 21, 22, 32, 33, 34, 35, 36, 37, 6, 38, 39, 40, 41, 42, 43, 44, 45, 46, 53, 54, 55, 56, 57, 58, 59, 60, 61] (by decide +kernel) (by decide +kernel)
set_option maxRecDepth 20000 in
theorem gX2_init_X0_renew : GoodIn wsX2_init (wsV RX2 23 RX0 yX0_renew wsX0_renew) := goodIn_app (goodIn_of _ (by decide +kernel)) ggX2_init_X0_renew
set_option maxRecDepth 20000 in
theorem ggX2_init_X1_renew : GoodIn wsX2_init wsX1_renew := goodIn_r _ [50, 51, 52, 26, 27, 65, 66, 67, 68] (by decide +kernel) (by decide +kernel)
set_option maxRecDepth 20000 in
theorem gX2_init_X1_renew : GoodIn wsX2_init (wsV RX2 27 RX1 yX1_renew wsX1_renew) := goodIn_app (goodIn_of _ (by decide +kernel)) ggX2_init_X1_renew
theorem dX2_init_0 : decode cX2_init 0 = .ok (.aload_n 0, 1) := by decide +kernel
theorem dX2_init_1 : decode cX2_init 1 = .ok (.invokespecial 3, 3) := by decide +kernel
theorem dX2_init_4 : decode cX2_init 4 = .ok (.aload_n 0, 1) := by decide +kernel
theorem dX2_init_5 : decode cX2_init 5 = .ok (.new 9, 3) := by decide +kernel
theorem dX2_init_8 : decode cX2_init 8 = .ok (.dup, 1) := by decide +kernel
theorem dX2_init_9 : decode cX2_init 9 = .ok (.invokespecial 11, 3) := by decide +kernel
theorem dX2_init_12 : decode cX2_init 12 = .ok (.putfield 12, 3) := by decide +kernel
theorem dX2_init_15 : decode cX2_init 15 = .ok (.aload_n 0, 1) := by decide +kernel
theorem dX2_init_16 : decode cX2_init 16 = .ok (.new 16, 3) := by decide +kernel
theorem dX2_init_19 : decode cX2_init 19 = .ok (.dup, 1) := by decide +kernel
theorem dX2_init_20 : decode cX2_init 20 = .ok (.invokespecial 18, 3) := by decide +kernel
theorem dX2_init_23 : decode cX2_init 23 = .ok (.putfield 19, 3) := by decide +kernel
theorem dX2_init_26 : decode cX2_init 26 = .ok (.aload_n 0, 1) := by decide +kernel
theorem dX2_init_27 : decode cX2_init 27 = .ok (.getfield 12, 3) := by decide +kernel
theorem dX2_init_30 : decode cX2_init 30 = .ok (.iconst 1, 1) := by decide +kernel
theorem dX2_init_31 : decode cX2_init 31 = .ok (.iconst 0, 1) := by decide +kernel
theorem dX2_init_32 : decode cX2_init 32 = .ok (.invokevirtual 23, 3) := by decide +kernel
theorem dX2_init_35 : decode cX2_init 35 = .ok (.aload_n 0, 1) := by decide +kernel
theorem dX2_init_36 : decode cX2_init 36 = .ok (.getfield 19, 3) := by decide +kernel
theorem dX2_init_39 : decode cX2_init 39 = .ok (.iconst 1, 1) := by decide +kernel
theorem dX2_init_40 : decode cX2_init 40 = .ok (.iconst 0, 1) := by decide +kernel
theorem dX2_init_41 : decode cX2_init 41 = .ok (.invokevirtual 27, 3) := by decide +kernel
theorem dX2_init_44 : decode cX2_init 44 = .ok (.aload_n 0, 1) := by decide +kernel
theorem dX2_init_45 : decode cX2_init 45 = .ok (.iconst 0, 1) := by decide +kernel
theorem dX2_init_46 : decode cX2_init 46 = .ok (.putfield 28, 3) := by decide +kernel
theorem dX2_init_49 : decode cX2_init 49 = .ok (.return_, 1) := by decide +kernel
set_option maxRecDepth 20000 in
theorem ggX2_layOut_X2_requireInRange : GoodIn wsX2_layOut wsX2_requireInRange := goodIn_r _ [7, 8, 9] (by decide +kernel) (by decide +kernel)
set_option maxRecDepth 20000 in
theorem gX2_layOut_X2_requireInRange : GoodIn wsX2_layOut (va_wsS RX2 32 yX2_requireInRange wsX2_requireInRange) := goodIn_app (goodIn_of _ (by decide +kernel)) ggX2_layOut_X2_requireInRange
set_option maxRecDepth 20000 in
theorem ggX2_layOut_X0_renew : GoodIn wsX2_layOut wsX0_renew := goodIn_r _ [14, 15, 16, 17, 18, 19, 20, 21, 22, 23, 24, 25, 26, 13, 27, 28, 29, 30, 31, 32, 33, 34, 35, 48, 49, 50, 51, 52, 53, 54, 55, 56] (by decide +kernel) (by decide +kernel)
set_option maxRecDepth 20000 in
theorem gX2_layOut_X0_renew : GoodIn wsX2_layOut (wsV RX2 23 RX0 yX0_renew wsX0_renew) := goodIn_app (goodIn_of _ (by decide +kernel)) ggX2_layOut_X0_renew
set_option maxRecDepth 20000 in
theorem ggX2_layOut_X1_renew : GoodIn wsX2_layOut wsX1_renew := goodIn_r _ [40, 41, 42, 43, 44, 57, 58, 59, 60] (by decide +kernel) (by decide +kernel)
set_option maxRecDepth 20000 in
theorem gX2_layOut_X1_renew : GoodIn wsX2_layOut (wsV RX2 27 RX1 yX1_renew wsX1_renew) := goodIn_app (goodIn_of _ (by decide +kernel)) ggX2_layOut_X1_renew
theorem dX2_layOut_0 : decode cX2_layOut 0 = .ok (.iload_n 1, 1) := by decide +kernel
theorem dX2_layOut_1 : decode cX2_layOut 1 = .ok (.iconst 1, 1) := by decide +kernel
theorem dX2_layOut_2 : decode cX2_layOut 2 = .ok (.bipush 64, 2) := by decide +kernel
theorem dX2_layOut_4 : decode cX2_layOut 4 = .ok (.invokestatic 32, 3) := by decide +kernel
theorem dX2_layOut_7 : decode cX2_layOut 7 = .ok (.iload_n 2, 1) := by decide +kernel
theorem dX2_layOut_8 : decode cX2_layOut 8 = .ok (.iconst 0, 1) := by decide +kernel
theorem dX2_layOut_9 : decode cX2_layOut 9 = .ok (.sipush 1000, 3) := by decide +kernel
theorem dX2_layOut_12 : decode cX2_layOut 12 = .ok (.invokestatic 32, 3) := by decide +kernel
theorem dX2_layOut_15 : decode cX2_layOut 15 = .ok (.aload_n 0, 1) := by decide +kernel
theorem dX2_layOut_16 : decode cX2_layOut 16 = .ok (.getfield 12, 3) := by decide +kernel
theorem dX2_layOut_19 : decode cX2_layOut 19 = .ok (.iload_n 1, 1) := by decide +kernel
theorem dX2_layOut_20 : decode cX2_layOut 20 = .ok (.iload_n 2, 1) := by decide +kernel
theorem dX2_layOut_21 : decode cX2_layOut 21 = .ok (.invokevirtual 23, 3) := by decide +kernel
theorem dX2_layOut_24 : decode cX2_layOut 24 = .ok (.aload_n 0, 1) := by decide +kernel
theorem dX2_layOut_25 : decode cX2_layOut 25 = .ok (.getfield 19, 3) := by decide +kernel
theorem dX2_layOut_28 : decode cX2_layOut 28 = .ok (.iload_n 1, 1) := by decide +kernel
theorem dX2_layOut_29 : decode cX2_layOut 29 = .ok (.iload_n 2, 1) := by decide +kernel
theorem dX2_layOut_30 : decode cX2_layOut 30 = .ok (.invokevirtual 27, 3) := by decide +kernel
theorem dX2_layOut_33 : decode cX2_layOut 33 = .ok (.aload_n 0, 1) := by decide +kernel
theorem dX2_layOut_34 : decode cX2_layOut 34 = .ok (.iconst 0, 1) := by decide +kernel
theorem dX2_layOut_35 : decode cX2_layOut 35 = .ok (.putfield 28, 3) := by decide +kernel
theorem dX2_layOut_38 : decode cX2_layOut 38 = .ok (.iload_n 1, 1) := by decide +kernel
theorem dX2_layOut_39 : decode cX2_layOut 39 = .ok (.iload_n 2, 1) := by decide +kernel
theorem dX2_layOut_40 : decode cX2_layOut 40 = .ok (.imul, 1) := by decide +kernel
theorem dX2_layOut_41 : decode cX2_layOut 41 = .ok (.ireturn, 1) := by decide +kernel
set_option maxRecDepth 20000 in
theorem ggX2_pile_X2_requireColumn : GoodIn wsX2_pile wsX2_requireColumn := goodIn_r _ [9, 10, 11, 3, 87, 88, 89, 90, 91, 92, 93] (by decide +kernel) (by decide +kernel)
set_option maxRecDepth 20000 in
theorem gX2_pile_X2_requireColumn : GoodIn wsX2_pile (wsV RX2 36 RX2 yX2_requireColumn wsX2_requireColumn) := goodIn_app (goodIn_of _ (by decide +kernel)) ggX2_pile_X2_requireColumn
set_option maxRecDepth 20000 in
theorem ggX2_pile_X2_requireInRange : GoodIn wsX2_pile wsX2_requireInRange := goodIn_r _ [14, 15, 16] (by decide +kernel) (by decide +kernel)
set_option maxRecDepth 20000 in
theorem gX2_pile_X2_requireInRange : GoodIn wsX2_pile (va_wsS RX2 32 yX2_requireInRange wsX2_requireInRange) := goodIn_app (goodIn_of _ (by decide +kernel)) ggX2_pile_X2_requireInRange
set_option maxRecDepth 20000 in
theorem ggX2_pile_X1_raise : GoodIn wsX2_pile wsX1_raise := goodIn_r _ [21, 22, 23, 24, 90, 91, 92, 93] (by decide +kernel) (by decide +kernel)
set_option maxRecDepth 20000 in
theorem gX2_pile_X1_raise : GoodIn wsX2_pile (wsV RX2 51 RX1 yX1_raise wsX1_raise) := goodIn_app (goodIn_of _ (by decide +kernel)) ggX2_pile_X1_raise
set_option maxRecDepth 20000 in
theorem ggX2_pile_X0_raise : GoodIn wsX2_pile wsX0_raise := goodIn_r _ [29, 30, 31, 32, 28, 33, 34, 35, 36, 37, 38, 39, 40, 41, 42, 43, 44, 45, 46, 47, 48, 49, 50, 51, 52, 53, 54, 55, 56, 57, 58, 59, 60, 61, 62, 63, 64, 65, 66, 67, 68, 69, 70, 71, 72, 73, 74, 75, 76, 77, 78, 79, 80, 81, 82, 83, 84, 85, 86, 94, 95, 96, 97, 98, 99, 100, 101, 102] (by decide +kernel) (by decide +kernel)
set_option maxRecDepth 20000 in
theorem gX2_pile_X0_raise : GoodIn wsX2_pile (wsV RX2 54 RX0 yX0_raise wsX0_raise) := goodIn_app (goodIn_of _ (by decide +kernel)) ggX2_pile_X0_raise
theorem dX2_pile_0 : decode cX2_pile 0 = .ok (.aload_n 0, 1) := by decide +kernel
theorem dX2_pile_1 : decode cX2_pile 1 = .ok (.iload_n 1, 1) := by decide +kernel
theorem dX2_pile_2 : decode cX2_pile 2 = .ok (.invokevirtual 36, 3) := by decide +kernel
theorem dX2_pile_5 : decode cX2_pile 5 = .ok (.iload_n 2, 1) := by decide +kernel
theorem dX2_pile_6 : decode cX2_pile 6 = .ok (.iconst 1, 1) := by decide +kernel
theorem dX2_pile_7 : decode cX2_pile 7 = .ok (.sipush 1000, 3) := by decide +kernel
theorem dX2_pile_10 : decode cX2_pile 10 = .ok (.invokestatic 32, 3) := by decide +kernel
theorem dX2_pile_13 : decode cX2_pile 13 = .ok (.aload_n 0, 1) := by decide +kernel
theorem dX2_pile_14 : decode cX2_pile 14 = .ok (.getfield 19, 3) := by decide +kernel
theorem dX2_pile_17 : decode cX2_pile 17 = .ok (.getfield 40, 3) := by decide +kernel
theorem dX2_pile_20 : decode cX2_pile 20 = .ok (.iload_n 1, 1) := by decide +kernel
theorem dX2_pile_21 : decode cX2_pile 21 = .ok (.iaload, 1) := by decide +kernel
theorem dX2_pile_22 : decode cX2_pile 22 = .ok (.iload_n 2, 1) := by decide +kernel
theorem dX2_pile_23 : decode cX2_pile 23 = .ok (.iadd, 1) := by decide +kernel
theorem dX2_pile_24 : decode cX2_pile 24 = .ok (.istore_n 3, 1) := by decide +kernel
theorem dX2_pile_25 : decode cX2_pile 25 = .ok (.iload_n 3, 1) := by decide +kernel
theorem dX2_pile_26 : decode cX2_pile 26 = .ok (.sipush 1000, 3) := by decide +kernel
theorem dX2_pile_29 : decode cX2_pile 29 = .ok (.if_icmp .le 13, 3) := by decide +kernel
theorem dX2_pile_32 : decode cX2_pile 32 = .ok (.new 44, 3) := by decide +kernel
theorem dX2_pile_35 : decode cX2_pile 35 = .ok (.dup, 1) := by decide +kernel
theorem dX2_pile_36 : decode cX2_pile 36 = .ok (.ldc 46, 2) := by decide +kernel
theorem dX2_pile_38 : decode cX2_pile 38 = .ok (.invokespecial 48, 3) := by decide +kernel
theorem dX2_pile_41 : decode cX2_pile 41 = .ok (.athrow, 1) := by decide +kernel
theorem dX2_pile_42 : decode cX2_pile 42 = .ok (.aload_n 0, 1) := by decide +kernel
theorem dX2_pile_43 : decode cX2_pile 43 = .ok (.getfield 19, 3) := by decide +kernel
theorem dX2_pile_46 : decode cX2_pile 46 = .ok (.iload_n 1, 1) := by decide +kernel
theorem dX2_pile_47 : decode cX2_pile 47 = .ok (.iload_n 2, 1) := by decide +kernel
theorem dX2_pile_48 : decode cX2_pile 48 = .ok (.invokevirtual 51, 3) := by decide +kernel
theorem dX2_pile_51 : decode cX2_pile 51 = .ok (.aload_n 0, 1) := by decide +kernel
theorem dX2_pile_52 : decode cX2_pile 52 = .ok (.getfield 12, 3) := by decide +kernel
theorem dX2_pile_55 : decode cX2_pile 55 = .ok (.iload_n 1, 1) := by decide +kernel
theorem dX2_pile_56 : decode cX2_pile 56 = .ok (.iload_n 3, 1) := by decide +kernel
theorem dX2_pile_57 : decode cX2_pile 57 = .ok (.invokevirtual 54, 3) := by decide +kernel
theorem dX2_pile_60 : decode cX2_pile 60 = .ok (.iload_n 3, 1) := by decide +kernel
theorem dX2_pile_61 : decode cX2_pile 61 = .ok (.ireturn, 1) := by decide +kernel
set_option maxRecDepth 20000 in
theorem ggX2_lower_X2_requireSpan : GoodIn wsX2_lower wsX2_requireSpan := goodIn_r _ [8, 9, 10, 11, 12, 13, 7, 14, 15, 16, 2, 100, 101, 102, 103, 104, 105, 106] (by decide +kernel) (by decide +kernel)
set_option maxRecDepth 20000 in
theorem gX2_lower_X2_requireSpan : GoodIn wsX2_lower (wsV RX2 55 RX2 yX2_requireSpan wsX2_requireSpan) := goodIn_app (goodIn_of _ (by decide +kernel)) ggX2_lower_X2_requireSpan
set_option maxRecDepth 20000 in
theorem ggX2_lower_X2_requireInRange : GoodIn wsX2_lower wsX2_requireInRange := goodIn_r _ [19, 9, 10] (by decide +kernel) (by decide +kernel)
set_option maxRecDepth 20000 in
theorem gX2_lower_X2_requireInRange : GoodIn wsX2_lower (va_wsS RX2 32 yX2_requireInRange wsX2_requireInRange) := goodIn_app (goodIn_of _ (by decide +kernel)) ggX2_lower_X2_requireInRange
set_option maxRecDepth 20000 in
theorem ggX2_lower_X0_press : GoodIn wsX2_lower wsX0_press := goodIn_r _ [24, 25, 26, 27, 28, 23, 29, 30, 31, 32, 33, 34, 35, 36, 37, 38, 39, 40, 41, 42, 43, 44, 45, 46, 47, 48, 49, 50, 51, 52, 53, 54, 55, 56, 57, 58, 59, 60, 61, 62, 63, 64, 65, 66, 67, 68, 69, 70, 71, 72, 73, 74, 75, 76, 77, 78, 79, 80, 81, 82, 83, 84, 85, 86, 87, 88, 89, 107, 108, 109, 110, 111, 112, 113, 114, 115] (by decide +kernel) (by decide +kernel)
set_option maxRecDepth 20000 in
theorem gX2_lower_X0_press : GoodIn wsX2_lower (wsV RX2 58 RX0 yX0_press wsX0_press) := goodIn_app (goodIn_of _ (by decide +kernel)) ggX2_lower_X0_press
set_option maxRecDepth 20000 in
theorem ggX2_lower_X1_press : GoodIn wsX2_lower wsX1_press := goodIn_r _ [94, 95, 96, 97, 80, 98, 99, 103, 104, 105, 106] (by decide +kernel) (by decide +kernel)
set_option maxRecDepth 20000 in
theorem gX2_lower_X1_press : GoodIn wsX2_lower (wsV RX2 62 RX1 yX1_press wsX1_press) := goodIn_app (goodIn_of _ (by decide +kernel)) ggX2_lower_X1_press
theorem dX2_lower_0 : decode cX2_lower 0 = .ok (.aload_n 0, 1) := by decide +kernel
theorem dX2_lower_1 : decode cX2_lower 1 = .ok (.iload_n 1, 1) := by decide +kernel
theorem dX2_lower_2 : decode cX2_lower 2 = .ok (.iload_n 2, 1) := by decide +kernel
theorem dX2_lower_3 : decode cX2_lower 3 = .ok (.invokevirtual 55, 3) := by decide +kernel
theorem dX2_lower_6 : decode cX2_lower 6 = .ok (.iload_n 3, 1) := by decide +kernel
theorem dX2_lower_7 : decode cX2_lower 7 = .ok (.iconst 0, 1) := by decide +kernel
theorem dX2_lower_8 : decode cX2_lower 8 = .ok (.sipush 1000, 3) := by decide +kernel
theorem dX2_lower_11 : decode cX2_lower 11 = .ok (.invokestatic 32, 3) := by decide +kernel
theorem dX2_lower_14 : decode cX2_lower 14 = .ok (.aload_n 0, 1) := by decide +kernel
theorem dX2_lower_15 : decode cX2_lower 15 = .ok (.getfield 12, 3) := by decide +kernel
theorem dX2_lower_18 : decode cX2_lower 18 = .ok (.iload_n 1, 1) := by decide +kernel
theorem dX2_lower_19 : decode cX2_lower 19 = .ok (.iload_n 2, 1) := by decide +kernel
theorem dX2_lower_20 : decode cX2_lower 20 = .ok (.iload_n 3, 1) := by decide +kernel
theorem dX2_lower_21 : decode cX2_lower 21 = .ok (.invokevirtual 58, 3) := by decide +kernel
theorem dX2_lower_24 : decode cX2_lower 24 = .ok (.istore 4, 2) := by decide +kernel
theorem dX2_lower_26 : decode cX2_lower 26 = .ok (.aload_n 0, 1) := by decide +kernel
theorem dX2_lower_27 : decode cX2_lower 27 = .ok (.getfield 19, 3) := by decide +kernel
theorem dX2_lower_30 : decode cX2_lower 30 = .ok (.iload_n 1, 1) := by decide +kernel
theorem dX2_lower_31 : decode cX2_lower 31 = .ok (.iload_n 2, 1) := by decide +kernel
theorem dX2_lower_32 : decode cX2_lower 32 = .ok (.iload_n 3, 1) := by decide +kernel
theorem dX2_lower_33 : decode cX2_lower 33 = .ok (.invokevirtual 62, 3) := by decide +kernel
theorem dX2_lower_36 : decode cX2_lower 36 = .ok (.aload_n 0, 1) := by decide +kernel
theorem dX2_lower_37 : decode cX2_lower 37 = .ok (.dup, 1) := by decide +kernel
theorem dX2_lower_38 : decode cX2_lower 38 = .ok (.getfield 28, 3) := by decide +kernel
theorem dX2_lower_41 : decode cX2_lower 41 = .ok (.iload 4, 2) := by decide +kernel
theorem dX2_lower_43 : decode cX2_lower 43 = .ok (.iadd, 1) := by decide +kernel
theorem dX2_lower_44 : decode cX2_lower 44 = .ok (.putfield 28, 3) := by decide +kernel
theorem dX2_lower_47 : decode cX2_lower 47 = .ok (.iload 4, 2) := by decide +kernel
theorem dX2_lower_49 : decode cX2_lower 49 = .ok (.ireturn, 1) := by decide +kernel
set_option maxRecDepth 20000 in
theorem ggX2_earth_X2_requireSpan : GoodIn wsX2_earth wsX2_requireSpan := goodIn_r _ [6, 7, 8, 9, 10, 11, 5, 12, 13, 14, 15, 69, 70, 71, 72, 73, 74, 75] (by decide +kernel) (by decide +kernel)
set_option maxRecDepth 20000 in
theorem gX2_earth_X2_requireSpan : GoodIn wsX2_earth (wsV RX2 55 RX2 yX2_requireSpan wsX2_requireSpan) := goodIn_app (goodIn_of _ (by decide +kernel)) ggX2_earth_X2_requireSpan
set_option maxRecDepth 20000 in
theorem ggX2_earth_X0_askSum : GoodIn wsX2_earth wsX0_askSum := goodIn_r _ [20, 21, 22, 23, 19, 24, 25, 26, 27, 28, 29, 30, 31, 32, 33, 34, 35, 36, 37, 38, 39, 40, 41, 42, 43, 44, 45, 46, 47, 48, 49, 50, 51, 52, 53, 54, 55, 56, 57, 58, 59, 60, 61, 62, 63, 64, 65, 66, 67, 68, 76, 77, 78, 79, 80, 81, 82, 83, 84] (by decide +kernel) (by decide +kernel)
set_option maxRecDepth 20000 in
theorem gX2_earth_X0_askSum : GoodIn wsX2_earth (wsV RX2 64 RX0 yX0_askSum wsX0_askSum) := goodIn_app (goodIn_of _ (by decide +kernel)) ggX2_earth_X0_askSum
theorem dX2_earth_0 : decode cX2_earth 0 = .ok (.aload_n 0, 1) := by decide +kernel
theorem dX2_earth_1 : decode cX2_earth 1 = .ok (.iload_n 1, 1) := by decide +kernel
theorem dX2_earth_2 : decode cX2_earth 2 = .ok (.iload_n 2, 1) := by decide +kernel
theorem dX2_earth_3 : decode cX2_earth 3 = .ok (.invokevirtual 55, 3) := by decide +kernel
theorem dX2_earth_6 : decode cX2_earth 6 = .ok (.aload_n 0, 1) := by decide +kernel
theorem dX2_earth_7 : decode cX2_earth 7 = .ok (.getfield 12, 3) := by decide +kernel
theorem dX2_earth_10 : decode cX2_earth 10 = .ok (.iload_n 1, 1) := by decide +kernel
theorem dX2_earth_11 : decode cX2_earth 11 = .ok (.iload_n 2, 1) := by decide +kernel
theorem dX2_earth_12 : decode cX2_earth 12 = .ok (.invokevirtual 64, 3) := by decide +kernel
theorem dX2_earth_15 : decode cX2_earth 15 = .ok (.ireturn, 1) := by decide +kernel
set_option maxRecDepth 20000 in
theorem ggX2_earthByColumns_X2_requireSpan : GoodIn wsX2_earthByColumns wsX2_requireSpan := goodIn_r _ [6, 7, 8, 9, 10, 11, 5, 12, 13, 14, 1, 25, 26, 27, 28, 29, 30, 31] (by decide +kernel) (by decide +kernel)
set_option maxRecDepth 20000 in
theorem gX2_earthByColumns_X2_requireSpan : GoodIn wsX2_earthByColumns (wsV RX2 55 RX2 yX2_requireSpan wsX2_requireSpan) := goodIn_app (goodIn_of _ (by decide +kernel)) ggX2_earthByColumns_X2_requireSpan
set_option maxRecDepth 20000 in
theorem ggX2_earthByColumns_X1_earthAbove : GoodIn wsX2_earthByColumns wsX1_earthAbove := goodIn_r _ [19, 20, 21, 22, 23, 24, 28, 29, 30, 31] (by decide +kernel) (by decide +kernel)
set_option maxRecDepth 20000 in
theorem gX2_earthByColumns_X1_earthAbove : GoodIn wsX2_earthByColumns (wsV RX2 68 RX1 yX1_earthAbove wsX1_earthAbove) := goodIn_app (goodIn_of _ (by decide +kernel)) ggX2_earthByColumns_X1_earthAbove
theorem dX2_earthByColumns_0 : decode cX2_earthByColumns 0 = .ok (.aload_n 0, 1) := by decide +kernel
theorem dX2_earthByColumns_1 : decode cX2_earthByColumns 1 = .ok (.iload_n 1, 1) := by decide +kernel
theorem dX2_earthByColumns_2 : decode cX2_earthByColumns 2 = .ok (.iload_n 2, 1) := by decide +kernel
theorem dX2_earthByColumns_3 : decode cX2_earthByColumns 3 = .ok (.invokevirtual 55, 3) := by decide +kernel
theorem dX2_earthByColumns_6 : decode cX2_earthByColumns 6 = .ok (.aload_n 0, 1) := by decide +kernel
theorem dX2_earthByColumns_7 : decode cX2_earthByColumns 7 = .ok (.getfield 19, 3) := by decide +kernel
theorem dX2_earthByColumns_10 : decode cX2_earthByColumns 10 = .ok (.iload_n 1, 1) := by decide +kernel
theorem dX2_earthByColumns_11 : decode cX2_earthByColumns 11 = .ok (.iload_n 2, 1) := by decide +kernel
theorem dX2_earthByColumns_12 : decode cX2_earthByColumns 12 = .ok (.iconst 0, 1) := by decide +kernel
theorem dX2_earthByColumns_13 : decode cX2_earthByColumns 13 = .ok (.invokevirtual 68, 3) := by decide +kernel
theorem dX2_earthByColumns_16 : decode cX2_earthByColumns 16 = .ok (.ireturn, 1) := by decide +kernel
set_option maxRecDepth 20000 in
theorem ggX2_top_X2_requireSpan : GoodIn wsX2_top wsX2_requireSpan := goodIn_r _ [6, 7, 8, 9, 10, 11, 5, 12, 13, 14, 15, 73, 74, 75, 76, 77, 78, 79] (by decide +kernel) (by decide +kernel)
set_option maxRecDepth 20000 in
theorem gX2_top_X2_requireSpan : GoodIn wsX2_top (wsV RX2 55 RX2 yX2_requireSpan wsX2_requireSpan) := goodIn_app (goodIn_of _ (by decide +kernel)) ggX2_top_X2_requireSpan
set_option maxRecDepth 20000 in
theorem ggX2_top_X0_askGreatest : GoodIn wsX2_top wsX0_askGreatest := goodIn_r _ [20, 21, 22, 23, 19, 24, 25, 26, 27, 28, 29, 30, 31, 32, 33, 34, 35, 36, 37, 38, 39, 40, 41, 42, 43, 44, 45, 46, 47, 48, 49, 50, 51, 52, 53, 54, 55, 56, 57, 58, 59, 60, 61, 62, 63, 64, 65, 66, 67, 68, 69, 70, 71, 72, 80, 81, 82, 83, 84, 85, 86, 87, 88] (by decide +kernel) (by decide +kernel)
set_option maxRecDepth 20000 in
theorem gX2_top_X0_askGreatest : GoodIn wsX2_top (wsV RX2 71 RX0 yX0_askGreatest wsX0_askGreatest) := goodIn_app (goodIn_of _ (by decide +kernel)) ggX2_top_X0_askGreatest
theorem dX2_top_0 : decode cX2_top 0 = .ok (.aload_n 0, 1) := by decide +kernel
theorem dX2_top_1 : decode cX2_top 1 = .ok (.iload_n 1, 1) := by decide +kernel
theorem dX2_top_2 : decode cX2_top 2 = .ok (.iload_n 2, 1) := by decide +kernel
theorem dX2_top_3 : decode cX2_top 3 = .ok (.invokevirtual 55, 3) := by decide +kernel
theorem dX2_top_6 : decode cX2_top 6 = .ok (.aload_n 0, 1) := by decide +kernel
theorem dX2_top_7 : decode cX2_top 7 = .ok (.getfield 12, 3) := by decide +kernel
theorem dX2_top_10 : decode cX2_top 10 = .ok (.iload_n 1, 1) := by decide +kernel
theorem dX2_top_11 : decode cX2_top 11 = .ok (.iload_n 2, 1) := by decide +kernel
theorem dX2_top_12 : decode cX2_top 12 = .ok (.invokevirtual 71, 3) := by decide +kernel
theorem dX2_top_15 : decode cX2_top 15 = .ok (.ireturn, 1) := by decide +kernel
set_option maxRecDepth 20000 in
theorem ggX2_height_X2_requireColumn : GoodIn wsX2_height wsX2_requireColumn := goodIn_r _ [6, 7, 8, 9, 30, 31, 32, 33, 34, 35, 36] (by decide +kernel) (by decide +kernel)
set_option maxRecDepth 20000 in
theorem gX2_height_X2_requireColumn : GoodIn wsX2_height (wsV RX2 36 RX2 yX2_requireColumn wsX2_requireColumn) := goodIn_app (goodIn_of _ (by decide +kernel)) ggX2_height_X2_requireColumn
set_option maxRecDepth 20000 in
theorem ggX2_height_X0_leastGreatestOver : GoodIn wsX2_height wsX0_leastGreatestOver := goodIn_r _ [14, 15, 16, 17, 18, 19, 20, 21, 22, 13, 23, 24, 25, 26, 27, 28, 29, 37, 38, 39, 40, 41, 42, 43, 44, 45] (by decide +kernel) (by decide +kernel)
set_option maxRecDepth 20000 in
theorem gX2_height_X0_leastGreatestOver : GoodIn wsX2_height (wsV RX2 74 RX0 yX0_leastGreatestOver wsX0_leastGreatestOver) := goodIn_app (goodIn_of _ (by decide +kernel)) ggX2_height_X0_leastGreatestOver
theorem dX2_height_0 : decode cX2_height 0 = .ok (.aload_n 0, 1) := by decide +kernel
theorem dX2_height_1 : decode cX2_height 1 = .ok (.iload_n 1, 1) := by decide +kernel
theorem dX2_height_2 : decode cX2_height 2 = .ok (.invokevirtual 36, 3) := by decide +kernel
theorem dX2_height_5 : decode cX2_height 5 = .ok (.aload_n 0, 1) := by decide +kernel
theorem dX2_height_6 : decode cX2_height 6 = .ok (.getfield 12, 3) := by decide +kernel
theorem dX2_height_9 : decode cX2_height 9 = .ok (.iload_n 1, 1) := by decide +kernel
theorem dX2_height_10 : decode cX2_height 10 = .ok (.invokevirtual 74, 3) := by decide +kernel
theorem dX2_height_13 : decode cX2_height 13 = .ok (.ireturn, 1) := by decide +kernel
set_option maxRecDepth 20000 in
theorem ggX2_heightOfColumn_X2_requireColumn : GoodIn wsX2_heightOfColumn wsX2_requireColumn := goodIn_r _ [6, 7, 8, 1, 9, 10, 11, 12, 13, 14, 15] (by decide +kernel) (by decide +kernel)
set_option maxRecDepth 20000 in
theorem gX2_heightOfColumn_X2_requireColumn : GoodIn wsX2_heightOfColumn (wsV RX2 36 RX2 yX2_requireColumn wsX2_requireColumn) := goodIn_app (goodIn_of _ (by decide +kernel)) ggX2_heightOfColumn_X2_requireColumn
theorem dX2_heightOfColumn_0 : decode cX2_heightOfColumn 0 = .ok (.aload_n 0, 1) := by decide +kernel
theorem dX2_heightOfColumn_1 : decode cX2_heightOfColumn 1 = .ok (.iload_n 1, 1) := by decide +kernel
theorem dX2_heightOfColumn_2 : decode cX2_heightOfColumn 2 = .ok (.invokevirtual 36, 3) := by decide +kernel
theorem dX2_heightOfColumn_5 : decode cX2_heightOfColumn 5 = .ok (.aload_n 0, 1) := by decide +kernel
theorem dX2_heightOfColumn_6 : decode cX2_heightOfColumn 6 = .ok (.getfield 19, 3) := by decide +kernel
theorem dX2_heightOfColumn_9 : decode cX2_heightOfColumn 9 = .ok (.getfield 40, 3) := by decide +kernel
theorem dX2_heightOfColumn_12 : decode cX2_heightOfColumn 12 = .ok (.iload_n 1, 1) := by decide +kernel
theorem dX2_heightOfColumn_13 : decode cX2_heightOfColumn 13 = .ok (.iaload, 1) := by decide +kernel
theorem dX2_heightOfColumn_14 : decode cX2_heightOfColumn 14 = .ok (.ireturn, 1) := by decide +kernel
set_option maxRecDepth 20000 in
theorem ggX2_wouldPress_X2_requireSpan : GoodIn wsX2_wouldPress wsX2_requireSpan := goodIn_r _ [6, 7, 8, 9, 10, 11, 5, 12, 13, 14, 1, 28, 29, 30, 31, 32, 33, 34] (by decide +kernel) (by decide +kernel)
set_option maxRecDepth 20000 in
theorem gX2_wouldPress_X2_requireSpan : GoodIn wsX2_wouldPress (wsV RX2 55 RX2 yX2_requireSpan wsX2_requireSpan) := goodIn_app (goodIn_of _ (by decide +kernel)) ggX2_wouldPress_X2_requireSpan
set_option maxRecDepth 20000 in
theorem ggX2_wouldPress_X2_requireInRange : GoodIn wsX2_wouldPress wsX2_requireInRange := goodIn_r _ [17, 7, 8] (by decide +kernel) (by decide +kernel)
set_option maxRecDepth 20000 in
theorem gX2_wouldPress_X2_requireInRange : GoodIn wsX2_wouldPress (va_wsS RX2 32 yX2_requireInRange wsX2_requireInRange) := goodIn_app (goodIn_of _ (by decide +kernel)) ggX2_wouldPress_X2_requireInRange
set_option maxRecDepth 20000 in
theorem ggX2_wouldPress_X1_earthAbove : GoodIn wsX2_wouldPress wsX1_earthAbove := goodIn_r _ [22, 23, 24, 25, 26, 27, 31, 32, 33, 34] (by decide +kernel) (by decide +kernel)
set_option maxRecDepth 20000 in
theorem gX2_wouldPress_X1_earthAbove : GoodIn wsX2_wouldPress (wsV RX2 68 RX1 yX1_earthAbove wsX1_earthAbove) := goodIn_app (goodIn_of _ (by decide +kernel)) ggX2_wouldPress_X1_earthAbove
theorem dX2_wouldPress_0 : decode cX2_wouldPress 0 = .ok (.aload_n 0, 1) := by decide +kernel
theorem dX2_wouldPress_1 : decode cX2_wouldPress 1 = .ok (.iload_n 1, 1) := by decide +kernel
theorem dX2_wouldPress_2 : decode cX2_wouldPress 2 = .ok (.iload_n 2, 1) := by decide +kernel
theorem dX2_wouldPress_3 : decode cX2_wouldPress 3 = .ok (.invokevirtual 55, 3) := by decide +kernel
theorem dX2_wouldPress_6 : decode cX2_wouldPress 6 = .ok (.iload_n 3, 1) := by decide +kernel
theorem dX2_wouldPress_7 : decode cX2_wouldPress 7 = .ok (.iconst 0, 1) := by decide +kernel
theorem dX2_wouldPress_8 : decode cX2_wouldPress 8 = .ok (.sipush 1000, 3) := by decide +kernel
theorem dX2_wouldPress_11 : decode cX2_wouldPress 11 = .ok (.invokestatic 32, 3) := by decide +kernel
theorem dX2_wouldPress_14 : decode cX2_wouldPress 14 = .ok (.aload_n 0, 1) := by decide +kernel
theorem dX2_wouldPress_15 : decode cX2_wouldPress 15 = .ok (.getfield 19, 3) := by decide +kernel
theorem dX2_wouldPress_18 : decode cX2_wouldPress 18 = .ok (.iload_n 1, 1) := by decide +kernel
theorem dX2_wouldPress_19 : decode cX2_wouldPress 19 = .ok (.iload_n 2, 1) := by decide +kernel
theorem dX2_wouldPress_20 : decode cX2_wouldPress 20 = .ok (.iload_n 3, 1) := by decide +kernel
theorem dX2_wouldPress_21 : decode cX2_wouldPress 21 = .ok (.invokevirtual 68, 3) := by decide +kernel
theorem dX2_wouldPress_24 : decode cX2_wouldPress 24 = .ok (.ireturn, 1) := by decide +kernel
set_option maxRecDepth 20000 in
theorem ggX2_ceilingFor_X2_requireSpan : GoodIn wsX2_ceilingFor wsX2_requireSpan := goodIn_r _ [9, 10, 11, 12, 13, 14, 8, 15, 16, 17, 4, 35, 36, 37, 38, 39, 40, 41] (by decide +kernel) (by decide +kernel)
set_option maxRecDepth 20000 in
theorem gX2_ceilingFor_X2_requireSpan : GoodIn wsX2_ceilingFor (wsV RX2 55 RX2 yX2_requireSpan wsX2_requireSpan) := goodIn_app (goodIn_of _ (by decide +kernel)) ggX2_ceilingFor_X2_requireSpan
set_option maxRecDepth 20000 in
theorem ggX2_ceilingFor_X2_requireInRange : GoodIn wsX2_ceilingFor wsX2_requireInRange := goodIn_r _ [20, 10, 11] (by decide +kernel) (by decide +kernel)
set_option maxRecDepth 20000 in
theorem gX2_ceilingFor_X2_requireInRange : GoodIn wsX2_ceilingFor (va_wsS RX2 32 yX2_requireInRange wsX2_requireInRange) := goodIn_app (goodIn_of _ (by decide +kernel)) ggX2_ceilingFor_X2_requireInRange
set_option maxRecDepth 20000 in
theorem ggX2_ceilingFor_X1_highestCeilingFor : GoodIn wsX2_ceilingFor wsX1_highestCeilingFor := goodIn_r _ [25, 26, 27, 28, 24, 29, 30, 31, 32, 33, 34, 38, 39, 40, 41] (by decide +kernel) (by decide +kernel)
set_option maxRecDepth 20000 in
theorem gX2_ceilingFor_X1_highestCeilingFor : GoodIn wsX2_ceilingFor (wsV RX2 79 RX1 yX1_highestCeilingFor wsX1_highestCeilingFor) := goodIn_app (goodIn_of _ (by decide +kernel)) ggX2_ceilingFor_X1_highestCeilingFor
theorem dX2_ceilingFor_0 : decode cX2_ceilingFor 0 = .ok (.aload_n 0, 1) := by decide +kernel
theorem dX2_ceilingFor_1 : decode cX2_ceilingFor 1 = .ok (.iload_n 1, 1) := by decide +kernel
theorem dX2_ceilingFor_2 : decode cX2_ceilingFor 2 = .ok (.iload_n 2, 1) := by decide +kernel
theorem dX2_ceilingFor_3 : decode cX2_ceilingFor 3 = .ok (.invokevirtual 55, 3) := by decide +kernel
theorem dX2_ceilingFor_6 : decode cX2_ceilingFor 6 = .ok (.iload_n 3, 1) := by decide +kernel
theorem dX2_ceilingFor_7 : decode cX2_ceilingFor 7 = .ok (.iconst 1, 1) := by decide +kernel
theorem dX2_ceilingFor_8 : decode cX2_ceilingFor 8 = .ok (.ldc 78, 2) := by decide +kernel
theorem dX2_ceilingFor_10 : decode cX2_ceilingFor 10 = .ok (.invokestatic 32, 3) := by decide +kernel
theorem dX2_ceilingFor_13 : decode cX2_ceilingFor 13 = .ok (.aload_n 0, 1) := by decide +kernel
theorem dX2_ceilingFor_14 : decode cX2_ceilingFor 14 = .ok (.getfield 19, 3) := by decide +kernel
theorem dX2_ceilingFor_17 : decode cX2_ceilingFor 17 = .ok (.iload_n 1, 1) := by decide +kernel
theorem dX2_ceilingFor_18 : decode cX2_ceilingFor 18 = .ok (.iload_n 2, 1) := by decide +kernel
theorem dX2_ceilingFor_19 : decode cX2_ceilingFor 19 = .ok (.iload_n 3, 1) := by decide +kernel
theorem dX2_ceilingFor_20 : decode cX2_ceilingFor 20 = .ok (.invokevirtual 79, 3) := by decide +kernel
theorem dX2_ceilingFor_23 : decode cX2_ceilingFor 23 = .ok (.istore 4, 2) := by decide +kernel
theorem dX2_ceilingFor_25 : decode cX2_ceilingFor 25 = .ok (.iload 4, 2) := by decide +kernel
theorem dX2_ceilingFor_27 : decode cX2_ceilingFor 27 = .ok (.iconst (-1), 1) := by decide +kernel
theorem dX2_ceilingFor_28 : decode cX2_ceilingFor 28 = .ok (.if_icmp .ne 13, 3) := by decide +kernel
theorem dX2_ceilingFor_31 : decode cX2_ceilingFor 31 = .ok (.new 82, 3) := by decide +kernel
theorem dX2_ceilingFor_34 : decode cX2_ceilingFor 34 = .ok (.dup, 1) := by decide +kernel
theorem dX2_ceilingFor_35 : decode cX2_ceilingFor 35 = .ok (.ldc 84, 2) := by decide +kernel
theorem dX2_ceilingFor_37 : decode cX2_ceilingFor 37 = .ok (.invokespecial 86, 3) := by decide +kernel
theorem dX2_ceilingFor_40 : decode cX2_ceilingFor 40 = .ok (.athrow, 1) := by decide +kernel
theorem dX2_ceilingFor_41 : decode cX2_ceilingFor 41 = .ok (.iload 4, 2) := by decide +kernel
theorem dX2_ceilingFor_43 : decode cX2_ceilingFor 43 = .ok (.ireturn, 1) := by decide +kernel
set_option maxRecDepth 20000 in
theorem ggX2_ceilingOver_X2_requireColumn : GoodIn wsX2_ceilingOver wsX2_requireColumn := goodIn_r _ [8, 9, 10, 3, 11, 12, 13, 14, 15, 16, 17] (by decide +kernel) (by decide +kernel)
set_option maxRecDepth 20000 in
theorem gX2_ceilingOver_X2_requireColumn : GoodIn wsX2_ceilingOver (wsV RX2 36 RX2 yX2_requireColumn wsX2_requireColumn) := goodIn_app (goodIn_of _ (by decide +kernel)) ggX2_ceilingOver_X2_requireColumn
theorem dX2_ceilingOver_0 : decode cX2_ceilingOver 0 = .ok (.aload_n 0, 1) := by decide +kernel
theorem dX2_ceilingOver_1 : decode cX2_ceilingOver 1 = .ok (.iload_n 1, 1) := by decide +kernel
theorem dX2_ceilingOver_2 : decode cX2_ceilingOver 2 = .ok (.invokevirtual 36, 3) := by decide +kernel
theorem dX2_ceilingOver_5 : decode cX2_ceilingOver 5 = .ok (.aload_n 0, 1) := by decide +kernel
theorem dX2_ceilingOver_6 : decode cX2_ceilingOver 6 = .ok (.getfield 19, 3) := by decide +kernel
theorem dX2_ceilingOver_9 : decode cX2_ceilingOver 9 = .ok (.getfield 87, 3) := by decide +kernel
theorem dX2_ceilingOver_12 : decode cX2_ceilingOver 12 = .ok (.iload_n 1, 1) := by decide +kernel
theorem dX2_ceilingOver_13 : decode cX2_ceilingOver 13 = .ok (.iaload, 1) := by decide +kernel
theorem dX2_ceilingOver_14 : decode cX2_ceilingOver 14 = .ok (.istore_n 2, 1) := by decide +kernel
theorem dX2_ceilingOver_15 : decode cX2_ceilingOver 15 = .ok (.iload_n 2, 1) := by decide +kernel
theorem dX2_ceilingOver_16 : decode cX2_ceilingOver 16 = .ok (.iconst (-1), 1) := by decide +kernel
theorem dX2_ceilingOver_17 : decode cX2_ceilingOver 17 = .ok (.if_icmp .ne 13, 3) := by decide +kernel
theorem dX2_ceilingOver_20 : decode cX2_ceilingOver 20 = .ok (.new 82, 3) := by decide +kernel
theorem dX2_ceilingOver_23 : decode cX2_ceilingOver 23 = .ok (.dup, 1) := by decide +kernel
theorem dX2_ceilingOver_24 : decode cX2_ceilingOver 24 = .ok (.ldc 90, 2) := by decide +kernel
theorem dX2_ceilingOver_26 : decode cX2_ceilingOver 26 = .ok (.invokespecial 86, 3) := by decide +kernel
theorem dX2_ceilingOver_29 : decode cX2_ceilingOver 29 = .ok (.athrow, 1) := by decide +kernel
theorem dX2_ceilingOver_30 : decode cX2_ceilingOver 30 = .ok (.iload_n 2, 1) := by decide +kernel
theorem dX2_ceilingOver_31 : decode cX2_ceilingOver 31 = .ok (.ireturn, 1) := by decide +kernel
theorem dX2_columns_0 : decode cX2_columns 0 = .ok (.aload_n 0, 1) := by decide +kernel
theorem dX2_columns_1 : decode cX2_columns 1 = .ok (.getfield 19, 3) := by decide +kernel
theorem dX2_columns_4 : decode cX2_columns 4 = .ok (.getfield 92, 3) := by decide +kernel
theorem dX2_columns_7 : decode cX2_columns 7 = .ok (.ireturn, 1) := by decide +kernel
set_option maxRecDepth 20000 in
theorem ggX2_spanOf_X2_requireEntry : GoodIn wsX2_spanOf wsX2_requireEntry := goodIn_r _ [6, 7, 8, 1, 9, 10, 11, 12, 13, 14, 15, 16, 17, 18, 19, 20, 21, 22, 23, 24, 25, 26] (by decide +kernel) (by decide +kernel)
set_option maxRecDepth 20000 in
theorem gX2_spanOf_X2_requireEntry : GoodIn wsX2_spanOf (wsV RX2 95 RX2 yX2_requireEntry wsX2_requireEntry) := goodIn_app (goodIn_of _ (by decide +kernel)) ggX2_spanOf_X2_requireEntry
theorem dX2_spanOf_0 : decode cX2_spanOf 0 = .ok (.aload_n 0, 1) := by decide +kernel
theorem dX2_spanOf_1 : decode cX2_spanOf 1 = .ok (.iload_n 1, 1) := by decide +kernel
theorem dX2_spanOf_2 : decode cX2_spanOf 2 = .ok (.invokevirtual 95, 3) := by decide +kernel
theorem dX2_spanOf_5 : decode cX2_spanOf 5 = .ok (.bipush 100, 2) := by decide +kernel
theorem dX2_spanOf_7 : decode cX2_spanOf 7 = .ok (.aload_n 0, 1) := by decide +kernel
theorem dX2_spanOf_8 : decode cX2_spanOf 8 = .ok (.getfield 12, 3) := by decide +kernel
theorem dX2_spanOf_11 : decode cX2_spanOf 11 = .ok (.getfield 98, 3) := by decide +kernel
theorem dX2_spanOf_14 : decode cX2_spanOf 14 = .ok (.iload_n 1, 1) := by decide +kernel
theorem dX2_spanOf_15 : decode cX2_spanOf 15 = .ok (.iaload, 1) := by decide +kernel
theorem dX2_spanOf_16 : decode cX2_spanOf 16 = .ok (.imul, 1) := by decide +kernel
theorem dX2_spanOf_17 : decode cX2_spanOf 17 = .ok (.aload_n 0, 1) := by decide +kernel
theorem dX2_spanOf_18 : decode cX2_spanOf 18 = .ok (.getfield 12, 3) := by decide +kernel
theorem dX2_spanOf_21 : decode cX2_spanOf 21 = .ok (.getfield 101, 3) := by decide +kernel
theorem dX2_spanOf_24 : decode cX2_spanOf 24 = .ok (.iload_n 1, 1) := by decide +kernel
theorem dX2_spanOf_25 : decode cX2_spanOf 25 = .ok (.iaload, 1) := by decide +kernel
theorem dX2_spanOf_26 : decode cX2_spanOf 26 = .ok (.iadd, 1) := by decide +kernel
theorem dX2_spanOf_27 : decode cX2_spanOf 27 = .ok (.ireturn, 1) := by decide +kernel
set_option maxRecDepth 20000 in
theorem ggX2_greatest_X2_requireEntry : GoodIn wsX2_greatest wsX2_requireEntry := goodIn_r _ [6, 7, 8, 1, 9, 10, 11, 12, 13, 14, 15, 16, 17, 18, 19, 20, 21, 22, 23, 24, 25, 26] (by decide +kernel) (by decide +kernel)
set_option maxRecDepth 20000 in
theorem gX2_greatest_X2_requireEntry : GoodIn wsX2_greatest (wsV RX2 95 RX2 yX2_requireEntry wsX2_requireEntry) := goodIn_app (goodIn_of _ (by decide +kernel)) ggX2_greatest_X2_requireEntry
theorem dX2_greatest_0 : decode cX2_greatest 0 = .ok (.aload_n 0, 1) := by decide +kernel
theorem dX2_greatest_1 : decode cX2_greatest 1 = .ok (.iload_n 1, 1) := by decide +kernel
theorem dX2_greatest_2 : decode cX2_greatest 2 = .ok (.invokevirtual 95, 3) := by decide +kernel
theorem dX2_greatest_5 : decode cX2_greatest 5 = .ok (.aload_n 0, 1) := by decide +kernel
theorem dX2_greatest_6 : decode cX2_greatest 6 = .ok (.getfield 12, 3) := by decide +kernel
theorem dX2_greatest_9 : decode cX2_greatest 9 = .ok (.getfield 104, 3) := by decide +kernel
theorem dX2_greatest_12 : decode cX2_greatest 12 = .ok (.iload_n 1, 1) := by decide +kernel
theorem dX2_greatest_13 : decode cX2_greatest 13 = .ok (.iaload, 1) := by decide +kernel
theorem dX2_greatest_14 : decode cX2_greatest 14 = .ok (.ireturn, 1) := by decide +kernel
set_option maxRecDepth 20000 in
theorem ggX2_second_X2_requireEntry : GoodIn wsX2_second wsX2_requireEntry := goodIn_r _ [6, 7, 8, 1, 9, 10, 11, 12, 13, 14, 15, 16, 17, 18, 19, 20, 21, 22, 23, 24, 25, 26] (by decide +kernel) (by decide +kernel)
set_option maxRecDepth 20000 in
theorem gX2_second_X2_requireEntry : GoodIn wsX2_second (wsV RX2 95 RX2 yX2_requireEntry wsX2_requireEntry) := goodIn_app (goodIn_of _ (by decide +kernel)) ggX2_second_X2_requireEntry
theorem dX2_second_0 : decode cX2_second 0 = .ok (.aload_n 0, 1) := by decide +kernel
theorem dX2_second_1 : decode cX2_second 1 = .ok (.iload_n 1, 1) := by decide +kernel
theorem dX2_second_2 : decode cX2_second 2 = .ok (.invokevirtual 95, 3) := by decide +kernel
theorem dX2_second_5 : decode cX2_second 5 = .ok (.aload_n 0, 1) := by decide +kernel
theorem dX2_second_6 : decode cX2_second 6 = .ok (.getfield 12, 3) := by decide +kernel
theorem dX2_second_9 : decode cX2_second 9 = .ok (.getfield 107, 3) := by decide +kernel
theorem dX2_second_12 : decode cX2_second 12 = .ok (.iload_n 1, 1) := by decide +kernel
theorem dX2_second_13 : decode cX2_second 13 = .ok (.iaload, 1) := by decide +kernel
theorem dX2_second_14 : decode cX2_second 14 = .ok (.ireturn, 1) := by decide +kernel
set_option maxRecDepth 20000 in
theorem ggX2_many_X2_requireEntry : GoodIn wsX2_many wsX2_requireEntry := goodIn_r _ [6, 7, 8, 1, 9, 10, 11, 12, 13, 14, 15, 16, 17, 18, 19, 20, 21, 22, 23, 24, 25, 26] (by decide +kernel) (by decide +kernel)
set_option maxRecDepth 20000 in
theorem gX2_many_X2_requireEntry : GoodIn wsX2_many (wsV RX2 95 RX2 yX2_requireEntry wsX2_requireEntry) := goodIn_app (goodIn_of _ (by decide +kernel)) ggX2_many_X2_requireEntry
theorem dX2_many_0 : decode cX2_many 0 = .ok (.aload_n 0, 1) := by decide +kernel
theorem dX2_many_1 : decode cX2_many 1 = .ok (.iload_n 1, 1) := by decide +kernel
theorem dX2_many_2 : decode cX2_many 2 = .ok (.invokevirtual 95, 3) := by decide +kernel
theorem dX2_many_5 : decode cX2_many 5 = .ok (.aload_n 0, 1) := by decide +kernel
theorem dX2_many_6 : decode cX2_many 6 = .ok (.getfield 12, 3) := by decide +kernel
theorem dX2_many_9 : decode cX2_many 9 = .ok (.getfield 110, 3) := by decide +kernel
theorem dX2_many_12 : decode cX2_many 12 = .ok (.iload_n 1, 1) := by decide +kernel
theorem dX2_many_13 : decode cX2_many 13 = .ok (.iaload, 1) := by decide +kernel
theorem dX2_many_14 : decode cX2_many 14 = .ok (.ireturn, 1) := by decide +kernel
set_option maxRecDepth 20000 in
theorem ggX2_noted_X2_requireEntry : GoodIn wsX2_noted wsX2_requireEntry := goodIn_r _ [6, 7, 8, 1, 9, 10, 11, 12, 13, 14, 15, 16, 17, 18, 19, 20, 21, 22, 23, 24, 25, 26] (by decide +kernel) (by decide +kernel)
set_option maxRecDepth 20000 in
theorem gX2_noted_X2_requireEntry : GoodIn wsX2_noted (wsV RX2 95 RX2 yX2_requireEntry wsX2_requireEntry) := goodIn_app (goodIn_of _ (by decide +kernel)) ggX2_noted_X2_requireEntry
theorem dX2_noted_0 : decode cX2_noted 0 = .ok (.aload_n 0, 1) := by decide +kernel
theorem dX2_noted_1 : decode cX2_noted 1 = .ok (.iload_n 1, 1) := by decide +kernel
theorem dX2_noted_2 : decode cX2_noted 2 = .ok (.invokevirtual 95, 3) := by decide +kernel
theorem dX2_noted_5 : decode cX2_noted 5 = .ok (.aload_n 0, 1) := by decide +kernel
theorem dX2_noted_6 : decode cX2_noted 6 = .ok (.getfield 12, 3) := by decide +kernel
theorem dX2_noted_9 : decode cX2_noted 9 = .ok (.getfield 113, 3) := by decide +kernel
theorem dX2_noted_12 : decode cX2_noted 12 = .ok (.iload_n 1, 1) := by decide +kernel
theorem dX2_noted_13 : decode cX2_noted 13 = .ok (.iaload, 1) := by decide +kernel
theorem dX2_noted_14 : decode cX2_noted 14 = .ok (.ireturn, 1) := by decide +kernel
set_option maxRecDepth 20000 in
theorem ggX2_lagging_X0_countLagging : GoodIn wsX2_lagging wsX0_countLagging := goodIn_r _ [6, 7, 8, 9, 5, 10, 11, 12, 13, 14, 15, 16, 20, 21, 22, 23, 24, 25, 26, 27, 28] (by decide +kernel) (by decide +kernel)
set_option maxRecDepth 20000 in
theorem gX2_lagging_X0_countLagging : GoodIn wsX2_lagging (wsV RX2 116 RX0 yX0_countLagging wsX0_countLagging) := goodIn_app (goodIn_of _ (by decide +kernel)) ggX2_lagging_X0_countLagging
theorem dX2_lagging_0 : decode cX2_lagging 0 = .ok (.aload_n 0, 1) := by decide +kernel
theorem dX2_lagging_1 : decode cX2_lagging 1 = .ok (.getfield 12, 3) := by decide +kernel
theorem dX2_lagging_4 : decode cX2_lagging 4 = .ok (.invokevirtual 116, 3) := by decide +kernel
theorem dX2_lagging_7 : decode cX2_lagging 7 = .ok (.ireturn, 1) := by decide +kernel
theorem dX2_visits_0 : decode cX2_visits 0 = .ok (.aload_n 0, 1) := by decide +kernel
theorem dX2_visits_1 : decode cX2_visits 1 = .ok (.getfield 12, 3) := by decide +kernel
theorem dX2_visits_4 : decode cX2_visits 4 = .ok (.getfield 120, 3) := by decide +kernel
theorem dX2_visits_7 : decode cX2_visits 7 = .ok (.ireturn, 1) := by decide +kernel
theorem dX2_allVisits_0 : decode cX2_allVisits 0 = .ok (.aload_n 0, 1) := by decide +kernel
theorem dX2_allVisits_1 : decode cX2_allVisits 1 = .ok (.getfield 12, 3) := by decide +kernel
theorem dX2_allVisits_4 : decode cX2_allVisits 4 = .ok (.getfield 123, 3) := by decide +kernel
theorem dX2_allVisits_7 : decode cX2_allVisits 7 = .ok (.ireturn, 1) := by decide +kernel
theorem dX2_pressedAway_0 : decode cX2_pressedAway 0 = .ok (.aload_n 0, 1) := by decide +kernel
theorem dX2_pressedAway_1 : decode cX2_pressedAway 1 = .ok (.getfield 28, 3) := by decide +kernel
theorem dX2_pressedAway_4 : decode cX2_pressedAway 4 = .ok (.ireturn, 1) := by decide +kernel
set_option maxRecDepth 20000 in
theorem ggX2_pressedAwayByRest_X1_earthAbove : GoodIn wsX2_pressedAwayByRest wsX1_earthAbove := goodIn_r _ [6, 7, 8, 9, 10, 11, 15, 16, 17, 18] (by decide +kernel) (by decide +kernel)
set_option maxRecDepth 20000 in
theorem gX2_pressedAwayByRest_X1_earthAbove : GoodIn wsX2_pressedAwayByRest (wsV RX2 68 RX1 yX1_earthAbove wsX1_earthAbove) := goodIn_app (goodIn_of _ (by decide +kernel)) ggX2_pressedAwayByRest_X1_earthAbove
theorem dX2_pressedAwayByRest_0 : decode cX2_pressedAwayByRest 0 = .ok (.aload_n 0, 1) := by decide +kernel
theorem dX2_pressedAwayByRest_1 : decode cX2_pressedAwayByRest 1 = .ok (.getfield 19, 3) := by decide +kernel
theorem dX2_pressedAwayByRest_4 : decode cX2_pressedAwayByRest 4 = .ok (.getfield 126, 3) := by decide +kernel
theorem dX2_pressedAwayByRest_7 : decode cX2_pressedAwayByRest 7 = .ok (.aload_n 0, 1) := by decide +kernel
theorem dX2_pressedAwayByRest_8 : decode cX2_pressedAwayByRest 8 = .ok (.getfield 19, 3) := by decide +kernel
theorem dX2_pressedAwayByRest_11 : decode cX2_pressedAwayByRest 11 = .ok (.iconst 0, 1) := by decide +kernel
theorem dX2_pressedAwayByRest_12 : decode cX2_pressedAwayByRest 12 = .ok (.aload_n 0, 1) := by decide +kernel
theorem dX2_pressedAwayByRest_13 : decode cX2_pressedAwayByRest 13 = .ok (.getfield 19, 3) := by decide +kernel
theorem dX2_pressedAwayByRest_16 : decode cX2_pressedAwayByRest 16 = .ok (.getfield 92, 3) := by decide +kernel
theorem dX2_pressedAwayByRest_19 : decode cX2_pressedAwayByRest 19 = .ok (.iconst 1, 1) := by decide +kernel
theorem dX2_pressedAwayByRest_20 : decode cX2_pressedAwayByRest 20 = .ok (.isub, 1) := by decide +kernel
theorem dX2_pressedAwayByRest_21 : decode cX2_pressedAwayByRest 21 = .ok (.iconst 0, 1) := by decide +kernel
theorem dX2_pressedAwayByRest_22 : decode cX2_pressedAwayByRest 22 = .ok (.invokevirtual 68, 3) := by decide +kernel
theorem dX2_pressedAwayByRest_25 : decode cX2_pressedAwayByRest 25 = .ok (.isub, 1) := by decide +kernel
theorem dX2_pressedAwayByRest_26 : decode cX2_pressedAwayByRest 26 = .ok (.ireturn, 1) := by decide +kernel
theorem dX2_meanVisits_0 : decode cX2_meanVisits 0 = .ok (.aload_n 0, 1) := by decide +kernel
theorem dX2_meanVisits_1 : decode cX2_meanVisits 1 = .ok (.getfield 12, 3) := by decide +kernel
theorem dX2_meanVisits_4 : decode cX2_meanVisits 4 = .ok (.getfield 129, 3) := by decide +kernel
theorem dX2_meanVisits_7 : decode cX2_meanVisits 7 = .ok (.ifCond .ne 5, 3) := by decide +kernel
theorem dX2_meanVisits_10 : decode cX2_meanVisits 10 = .ok (.dconst 0, 1) := by decide +kernel
theorem dX2_meanVisits_11 : decode cX2_meanVisits 11 = .ok (.dreturn, 1) := by decide +kernel
theorem dX2_meanVisits_12 : decode cX2_meanVisits 12 = .ok (.aload_n 0, 1) := by decide +kernel
theorem dX2_meanVisits_13 : decode cX2_meanVisits 13 = .ok (.getfield 12, 3) := by decide +kernel
theorem dX2_meanVisits_16 : decode cX2_meanVisits 16 = .ok (.getfield 123, 3) := by decide +kernel
theorem dX2_meanVisits_19 : decode cX2_meanVisits 19 = .ok (.i2d, 1) := by decide +kernel
theorem dX2_meanVisits_20 : decode cX2_meanVisits 20 = .ok (.aload_n 0, 1) := by decide +kernel
theorem dX2_meanVisits_21 : decode cX2_meanVisits 21 = .ok (.getfield 12, 3) := by decide +kernel
theorem dX2_meanVisits_24 : decode cX2_meanVisits 24 = .ok (.getfield 129, 3) := by decide +kernel
theorem dX2_meanVisits_27 : decode cX2_meanVisits 27 = .ok (.i2d, 1) := by decide +kernel
theorem dX2_meanVisits_28 : decode cX2_meanVisits 28 = .ok (.ddiv, 1) := by decide +kernel
theorem dX2_meanVisits_29 : decode cX2_meanVisits 29 = .ok (.dreturn, 1) := by decide +kernel
theorem dX2_requireColumn_0 : decode cX2_requireColumn 0 = .ok (.iload_n 1, 1) := by decide +kernel
theorem dX2_requireColumn_1 : decode cX2_requireColumn 1 = .ok (.ifCond .lt 14, 3) := by decide +kernel
theorem dX2_requireColumn_4 : decode cX2_requireColumn 4 = .ok (.iload_n 1, 1) := by decide +kernel
theorem dX2_requireColumn_5 : decode cX2_requireColumn 5 = .ok (.aload_n 0, 1) := by decide +kernel
theorem dX2_requireColumn_6 : decode cX2_requireColumn 6 = .ok (.getfield 19, 3) := by decide +kernel
theorem dX2_requireColumn_9 : decode cX2_requireColumn 9 = .ok (.getfield 92, 3) := by decide +kernel
theorem dX2_requireColumn_12 : decode cX2_requireColumn 12 = .ok (.if_icmp .lt 13, 3) := by decide +kernel
theorem dX2_requireColumn_15 : decode cX2_requireColumn 15 = .ok (.new 132, 3) := by decide +kernel
theorem dX2_requireColumn_18 : decode cX2_requireColumn 18 = .ok (.dup, 1) := by decide +kernel
theorem dX2_requireColumn_19 : decode cX2_requireColumn 19 = .ok (.ldc 134, 2) := by decide +kernel
theorem dX2_requireColumn_21 : decode cX2_requireColumn 21 = .ok (.invokespecial 136, 3) := by decide +kernel
theorem dX2_requireColumn_24 : decode cX2_requireColumn 24 = .ok (.athrow, 1) := by decide +kernel
theorem dX2_requireColumn_25 : decode cX2_requireColumn 25 = .ok (.return_, 1) := by decide +kernel
set_option maxRecDepth 20000 in
theorem ggX2_requireSpan_X2_requireColumn : GoodIn wsX2_requireSpan wsX2_requireColumn := goodIn_r _ [7, 8, 9, 10, 11, 12, 13, 14, 15, 16, 17] (by decide +kernel) (by decide +kernel)
set_option maxRecDepth 20000 in
theorem gX2_requireSpan_X2_requireColumn : GoodIn wsX2_requireSpan (wsV RX2 36 RX2 yX2_requireColumn wsX2_requireColumn) := goodIn_app (goodIn_of _ (by decide +kernel)) ggX2_requireSpan_X2_requireColumn
theorem dX2_requireSpan_0 : decode cX2_requireSpan 0 = .ok (.aload_n 0, 1) := by decide +kernel
theorem dX2_requireSpan_1 : decode cX2_requireSpan 1 = .ok (.iload_n 1, 1) := by decide +kernel
theorem dX2_requireSpan_2 : decode cX2_requireSpan 2 = .ok (.invokevirtual 36, 3) := by decide +kernel
theorem dX2_requireSpan_5 : decode cX2_requireSpan 5 = .ok (.aload_n 0, 1) := by decide +kernel
theorem dX2_requireSpan_6 : decode cX2_requireSpan 6 = .ok (.iload_n 2, 1) := by decide +kernel
theorem dX2_requireSpan_7 : decode cX2_requireSpan 7 = .ok (.invokevirtual 36, 3) := by decide +kernel
theorem dX2_requireSpan_10 : decode cX2_requireSpan 10 = .ok (.iload_n 2, 1) := by decide +kernel
theorem dX2_requireSpan_11 : decode cX2_requireSpan 11 = .ok (.iload_n 1, 1) := by decide +kernel
theorem dX2_requireSpan_12 : decode cX2_requireSpan 12 = .ok (.if_icmp .ge 13, 3) := by decide +kernel
theorem dX2_requireSpan_15 : decode cX2_requireSpan 15 = .ok (.new 137, 3) := by decide +kernel
theorem dX2_requireSpan_18 : decode cX2_requireSpan 18 = .ok (.dup, 1) := by decide +kernel
theorem dX2_requireSpan_19 : decode cX2_requireSpan 19 = .ok (.ldc 139, 2) := by decide +kernel
theorem dX2_requireSpan_21 : decode cX2_requireSpan 21 = .ok (.invokespecial 141, 3) := by decide +kernel
theorem dX2_requireSpan_24 : decode cX2_requireSpan 24 = .ok (.athrow, 1) := by decide +kernel
theorem dX2_requireSpan_25 : decode cX2_requireSpan 25 = .ok (.return_, 1) := by decide +kernel
set_option maxRecDepth 20000 in
theorem ggX2_requireEntry_X0_has : GoodIn wsX2_requireEntry wsX0_has := goodIn_r _ [8, 9, 13, 14, 15, 16, 17, 18, 19, 20, 21] (by decide +kernel) (by decide +kernel)
set_option maxRecDepth 20000 in
theorem gX2_requireEntry_X0_has : GoodIn wsX2_requireEntry (wsV RX2 142 RX0 yX0_has wsX0_has) := goodIn_app (goodIn_of _ (by decide +kernel)) ggX2_requireEntry_X0_has
theorem dX2_requireEntry_0 : decode cX2_requireEntry 0 = .ok (.aload_n 0, 1) := by decide +kernel
theorem dX2_requireEntry_1 : decode cX2_requireEntry 1 = .ok (.getfield 12, 3) := by decide +kernel
theorem dX2_requireEntry_4 : decode cX2_requireEntry 4 = .ok (.iload_n 1, 1) := by decide +kernel
theorem dX2_requireEntry_5 : decode cX2_requireEntry 5 = .ok (.invokevirtual 142, 3) := by decide +kernel
theorem dX2_requireEntry_8 : decode cX2_requireEntry 8 = .ok (.ifCond .ne 13, 3) := by decide +kernel
theorem dX2_requireEntry_11 : decode cX2_requireEntry 11 = .ok (.new 132, 3) := by decide +kernel
theorem dX2_requireEntry_14 : decode cX2_requireEntry 14 = .ok (.dup, 1) := by decide +kernel
theorem dX2_requireEntry_15 : decode cX2_requireEntry 15 = .ok (.ldc 146, 2) := by decide +kernel
theorem dX2_requireEntry_17 : decode cX2_requireEntry 17 = .ok (.invokespecial 136, 3) := by decide +kernel
theorem dX2_requireEntry_20 : decode cX2_requireEntry 20 = .ok (.athrow, 1) := by decide +kernel
theorem dX2_requireEntry_21 : decode cX2_requireEntry 21 = .ok (.return_, 1) := by decide +kernel
theorem dX2_requireInRange_0 : decode cX2_requireInRange 0 = .ok (.iload_n 0, 1) := by decide +kernel
theorem dX2_requireInRange_1 : decode cX2_requireInRange 1 = .ok (.iload_n 1, 1) := by decide +kernel
theorem dX2_requireInRange_2 : decode cX2_requireInRange 2 = .ok (.if_icmp .lt 8, 3) := by decide +kernel
theorem dX2_requireInRange_5 : decode cX2_requireInRange 5 = .ok (.iload_n 0, 1) := by decide +kernel
theorem dX2_requireInRange_6 : decode cX2_requireInRange 6 = .ok (.iload_n 2, 1) := by decide +kernel
theorem dX2_requireInRange_7 : decode cX2_requireInRange 7 = .ok (.if_icmp .le 13, 3) := by decide +kernel
theorem dX2_requireInRange_10 : decode cX2_requireInRange 10 = .ok (.new 137, 3) := by decide +kernel
theorem dX2_requireInRange_13 : decode cX2_requireInRange 13 = .ok (.dup, 1) := by decide +kernel
theorem dX2_requireInRange_14 : decode cX2_requireInRange 14 = .ok (.ldc 148, 2) := by decide +kernel
theorem dX2_requireInRange_16 : decode cX2_requireInRange 16 = .ok (.invokespecial 141, 3) := by decide +kernel
theorem dX2_requireInRange_19 : decode cX2_requireInRange 19 = .ok (.athrow, 1) := by decide +kernel
theorem dX2_requireInRange_20 : decode cX2_requireInRange 20 = .ok (.return_, 1) := by decide +kernel
