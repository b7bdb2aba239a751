set_option maxRecDepth 100000 in
theorem ggX0_init_Jx4a65c_init_da8c8 : GoodIn wsX0_init wsJx4a65c_init_da8c8 := wk_g rfl wm_X0_init 2055 wc_Jx4a65c_init_da8c8 rfl (by decide +kernel) (by decide +kernel) wq_Jx4a65c_init_da8c8
set_option maxRecDepth 100000 in
theorem gX0_init_Jx4a65c_init_da8c8 : GoodIn wsX0_init (wsJx4a65c_init_da8c8) := ggX0_init_Jx4a65c_init_da8c8
set_option maxRecDepth 100000 in
theorem ggX0_init_X7_init : GoodIn wsX0_init wsX7_init := wk_g rfl wm_X0_init 4109 wc_X7_init rfl (by decide +kernel) (by decide +kernel) wq_X7_init
set_option maxRecDepth 100000 in
theorem gX0_init_X7_init_n20 : GoodIn wsX0_init (wsX7_init) := ggX0_init_X7_init
theorem dX0_init_0 : decode cX0_init 0 = .ok (.aload_n 0, 1) := by decide +kernel
theorem dX0_init_1 : decode cX0_init 1 = .ok (.invokespecial 3, 3) := by decide +kernel
theorem dX0_init_4 : decode cX0_init 4 = .ok (.aload_n 0, 1) := by decide +kernel
theorem dX0_init_5 : decode cX0_init 5 = .ok (.new 9, 3) := by decide +kernel
theorem dX0_init_8 : decode cX0_init 8 = .ok (.dup, 1) := by decide +kernel
theorem dX0_init_9 : decode cX0_init 9 = .ok (.invokespecial 11, 3) := by decide +kernel
theorem dX0_init_12 : decode cX0_init 12 = .ok (.putfield 12, 3) := by decide +kernel
theorem dX0_init_15 : decode cX0_init 15 = .ok (.aload_n 0, 1) := by decide +kernel
theorem dX0_init_16 : decode cX0_init 16 = .ok (.new 18, 3) := by decide +kernel
theorem dX0_init_19 : decode cX0_init 19 = .ok (.dup, 1) := by decide +kernel
theorem dX0_init_20 : decode cX0_init 20 = .ok (.invokespecial 20, 3) := by decide +kernel
theorem dX0_init_23 : decode cX0_init 23 = .ok (.putfield 21, 3) := by decide +kernel
theorem dX0_init_26 : decode cX0_init 26 = .ok (.aload_n 0, 1) := by decide +kernel
theorem dX0_init_27 : decode cX0_init 27 = .ok (.new 18, 3) := by decide +kernel
theorem dX0_init_30 : decode cX0_init 30 = .ok (.dup, 1) := by decide +kernel
theorem dX0_init_31 : decode cX0_init 31 = .ok (.invokespecial 20, 3) := by decide +kernel
theorem dX0_init_34 : decode cX0_init 34 = .ok (.putfield 25, 3) := by decide +kernel
theorem dX0_init_37 : decode cX0_init 37 = .ok (.aload_n 0, 1) := by decide +kernel
theorem dX0_init_38 : decode cX0_init 38 = .ok (.iconst 5, 1) := by decide +kernel
theorem dX0_init_39 : decode cX0_init 39 = .ok (.putfield 28, 3) := by decide +kernel
theorem dX0_init_42 : decode cX0_init 42 = .ok (.aload_n 0, 1) := by decide +kernel
theorem dX0_init_43 : decode cX0_init 43 = .ok (.iload_n 1, 1) := by decide +kernel
theorem dX0_init_44 : decode cX0_init 44 = .ok (.putfield 32, 3) := by decide +kernel
theorem dX0_init_47 : decode cX0_init 47 = .ok (.aload_n 0, 1) := by decide +kernel
theorem dX0_init_48 : decode cX0_init 48 = .ok (.aload_n 2, 1) := by decide +kernel
theorem dX0_init_49 : decode cX0_init 49 = .ok (.putfield 35, 3) := by decide +kernel
theorem dX0_init_52 : decode cX0_init 52 = .ok (.aload_n 0, 1) := by decide +kernel
theorem dX0_init_53 : decode cX0_init 53 = .ok (.aload_n 3, 1) := by decide +kernel
theorem dX0_init_54 : decode cX0_init 54 = .ok (.putfield 39, 3) := by decide +kernel
theorem dX0_init_57 : decode cX0_init 57 = .ok (.aload_n 0, 1) := by decide +kernel
theorem dX0_init_58 : decode cX0_init 58 = .ok (.iload 4, 2) := by decide +kernel
theorem dX0_init_60 : decode cX0_init 60 = .ok (.putfield 42, 3) := by decide +kernel
theorem dX0_init_63 : decode cX0_init 63 = .ok (.aload_n 0, 1) := by decide +kernel
theorem dX0_init_64 : decode cX0_init 64 = .ok (.iload 5, 2) := by decide +kernel
theorem dX0_init_66 : decode cX0_init 66 = .ok (.putfield 45, 3) := by decide +kernel
theorem dX0_init_69 : decode cX0_init 69 = .ok (.return_, 1) := by decide +kernel
theorem dX0_isOpenAt_0 : decode cX0_isOpenAt 0 = .ok (.iload_n 1, 1) := by decide +kernel
theorem dX0_isOpenAt_1 : decode cX0_isOpenAt 1 = .ok (.aload_n 0, 1) := by decide +kernel
theorem dX0_isOpenAt_2 : decode cX0_isOpenAt 2 = .ok (.getfield 42, 3) := by decide +kernel
theorem dX0_isOpenAt_5 : decode cX0_isOpenAt 5 = .ok (.isub, 1) := by decide +kernel
theorem dX0_isOpenAt_6 : decode cX0_isOpenAt 6 = .ok (.bipush 24, 2) := by decide +kernel
theorem dX0_isOpenAt_8 : decode cX0_isOpenAt 8 = .ok (.iadd, 1) := by decide +kernel
theorem dX0_isOpenAt_9 : decode cX0_isOpenAt 9 = .ok (.bipush 24, 2) := by decide +kernel
theorem dX0_isOpenAt_11 : decode cX0_isOpenAt 11 = .ok (.irem, 1) := by decide +kernel
theorem dX0_isOpenAt_12 : decode cX0_isOpenAt 12 = .ok (.aload_n 0, 1) := by decide +kernel
theorem dX0_isOpenAt_13 : decode cX0_isOpenAt 13 = .ok (.getfield 45, 3) := by decide +kernel
theorem dX0_isOpenAt_16 : decode cX0_isOpenAt 16 = .ok (.if_icmp .ge 7, 3) := by decide +kernel
theorem dX0_isOpenAt_19 : decode cX0_isOpenAt 19 = .ok (.iconst 1, 1) := by decide +kernel
theorem dX0_isOpenAt_20 : decode cX0_isOpenAt 20 = .ok (.goto 4, 3) := by decide +kernel
theorem dX0_isOpenAt_23 : decode cX0_isOpenAt 23 = .ok (.iconst 0, 1) := by decide +kernel
theorem dX0_isOpenAt_24 : decode cX0_isOpenAt 24 = .ok (.ireturn, 1) := by decide +kernel
theorem dX0_dozes_0 : decode cX0_dozes 0 = .ok (.aload_n 0, 1) := by decide +kernel
theorem dX0_dozes_1 : decode cX0_dozes 1 = .ok (.getfield 48, 3) := by decide +kernel
theorem dX0_dozes_4 : decode cX0_dozes 4 = .ok (.iconst 5, 1) := by decide +kernel
theorem dX0_dozes_5 : decode cX0_dozes 5 = .ok (.if_icmp .lt 7, 3) := by decide +kernel
theorem dX0_dozes_8 : decode cX0_dozes 8 = .ok (.iconst 1, 1) := by decide +kernel
theorem dX0_dozes_9 : decode cX0_dozes 9 = .ok (.goto 4, 3) := by decide +kernel
theorem dX0_dozes_12 : decode cX0_dozes 12 = .ok (.iconst 0, 1) := by decide +kernel
theorem dX0_dozes_13 : decode cX0_dozes 13 = .ok (.ireturn, 1) := by decide +kernel
theorem dX0_isAt_0 : decode cX0_isAt 0 = .ok (.aload_n 1, 1) := by decide +kernel
theorem dX0_isAt_1 : decode cX0_isAt 1 = .ok (.aload_n 0, 1) := by decide +kernel
theorem dX0_isAt_2 : decode cX0_isAt 2 = .ok (.getfield 35, 3) := by decide +kernel
theorem dX0_isAt_5 : decode cX0_isAt 5 = .ok (.if_acmp .eq 11, 3) := by decide +kernel
theorem dX0_isAt_8 : decode cX0_isAt 8 = .ok (.aload_n 1, 1) := by decide +kernel
theorem dX0_isAt_9 : decode cX0_isAt 9 = .ok (.aload_n 0, 1) := by decide +kernel
theorem dX0_isAt_10 : decode cX0_isAt 10 = .ok (.getfield 39, 3) := by decide +kernel
theorem dX0_isAt_13 : decode cX0_isAt 13 = .ok (.if_acmp .ne 7, 3) := by decide +kernel
theorem dX0_isAt_16 : decode cX0_isAt 16 = .ok (.iconst 1, 1) := by decide +kernel
theorem dX0_isAt_17 : decode cX0_isAt 17 = .ok (.goto 4, 3) := by decide +kernel
theorem dX0_isAt_20 : decode cX0_isAt 20 = .ok (.iconst 0, 1) := by decide +kernel
theorem dX0_isAt_21 : decode cX0_isAt 21 = .ok (.ireturn, 1) := by decide +kernel
theorem dX0_across_0 : decode cX0_across 0 = .ok (.aload_n 1, 1) := by decide +kernel
theorem dX0_across_1 : decode cX0_across 1 = .ok (.aload_n 0, 1) := by decide +kernel
theorem dX0_across_2 : decode cX0_across 2 = .ok (.getfield 35, 3) := by decide +kernel
theorem dX0_across_5 : decode cX0_across 5 = .ok (.if_acmp .ne 10, 3) := by decide +kernel
theorem dX0_across_8 : decode cX0_across 8 = .ok (.aload_n 0, 1) := by decide +kernel
theorem dX0_across_9 : decode cX0_across 9 = .ok (.getfield 39, 3) := by decide +kernel
theorem dX0_across_12 : decode cX0_across 12 = .ok (.goto 7, 3) := by decide +kernel
theorem dX0_across_15 : decode cX0_across 15 = .ok (.aload_n 0, 1) := by decide +kernel
theorem dX0_across_16 : decode cX0_across 16 = .ok (.getfield 35, 3) := by decide +kernel
theorem dX0_across_19 : decode cX0_across 19 = .ok (.areturn, 1) := by decide +kernel
set_option maxRecDepth 100000 in
theorem ggX0_babiesInLine_Jx4a65c_size_8abf5 : GoodIn wsX0_babiesInLine wsJx4a65c_size_8abf5 := wk_g rfl wm_X0_babiesInLine 2173 wc_Jx4a65c_size_8abf5 rfl (by decide +kernel) (by decide +kernel) wq_Jx4a65c_size_8abf5
set_option maxRecDepth 100000 in
theorem gX0_babiesInLine_Jx4a65c_size_8abf5 : GoodIn wsX0_babiesInLine (wsV RX0 51 RJx4a65c yJx4a65c_size_8abf5 wsJx4a65c_size_8abf5) := goodIn_app (wk_h rfl wm_X0_babiesInLine [2198, 2171, 2172, 2004] (by decide +kernel) (by decide +kernel) (by decide +kernel)) ggX0_babiesInLine_Jx4a65c_size_8abf5
set_option maxRecDepth 100000 in
theorem ggX0_babiesInLine_Jx4a65c_get_915e3 : GoodIn wsX0_babiesInLine wsJx4a65c_get_915e3 := wk_g rfl wm_X0_babiesInLine 2177 wc_Jx4a65c_get_915e3 rfl (by decide +kernel) (by decide +kernel) wq_Jx4a65c_get_915e3
set_option maxRecDepth 100000 in
theorem gX0_babiesInLine_Jx4a65c_get_915e3 : GoodIn wsX0_babiesInLine (wsV RX0 55 RJx4a65c yJx4a65c_get_915e3 wsJx4a65c_get_915e3) := goodIn_app (wk_h rfl wm_X0_babiesInLine [2199, 2175, 2176, 2004] (by decide +kernel) (by decide +kernel) (by decide +kernel)) ggX0_babiesInLine_Jx4a65c_get_915e3
theorem dX0_babiesInLine_0 : decode cX0_babiesInLine 0 = .ok (.iconst 0, 1) := by decide +kernel
theorem dX0_babiesInLine_1 : decode cX0_babiesInLine 1 = .ok (.istore_n 1, 1) := by decide +kernel
theorem dX0_babiesInLine_2 : decode cX0_babiesInLine 2 = .ok (.iconst 0, 1) := by decide +kernel
theorem dX0_babiesInLine_3 : decode cX0_babiesInLine 3 = .ok (.istore_n 2, 1) := by decide +kernel
theorem dX0_babiesInLine_4 : decode cX0_babiesInLine 4 = .ok (.iload_n 2, 1) := by decide +kernel
theorem dX0_babiesInLine_5 : decode cX0_babiesInLine 5 = .ok (.aload_n 0, 1) := by decide +kernel
theorem dX0_babiesInLine_6 : decode cX0_babiesInLine 6 = .ok (.getfield 12, 3) := by decide +kernel
theorem dX0_babiesInLine_9 : decode cX0_babiesInLine 9 = .ok (.invokevirtual 51, 3) := by decide +kernel
theorem dX0_babiesInLine_12 : decode cX0_babiesInLine 12 = .ok (.if_icmp .ge 29, 3) := by decide +kernel
theorem dX0_babiesInLine_15 : decode cX0_babiesInLine 15 = .ok (.aload_n 0, 1) := by decide +kernel
theorem dX0_babiesInLine_16 : decode cX0_babiesInLine 16 = .ok (.getfield 12, 3) := by decide +kernel
theorem dX0_babiesInLine_19 : decode cX0_babiesInLine 19 = .ok (.iload_n 2, 1) := by decide +kernel
theorem dX0_babiesInLine_20 : decode cX0_babiesInLine 20 = .ok (.invokevirtual 55, 3) := by decide +kernel
theorem dX0_babiesInLine_23 : decode cX0_babiesInLine 23 = .ok (.checkcast 59, 3) := by decide +kernel
theorem dX0_babiesInLine_26 : decode cX0_babiesInLine 26 = .ok (.getfield 61, 3) := by decide +kernel
theorem dX0_babiesInLine_29 : decode cX0_babiesInLine 29 = .ok (.ifCond .eq 6, 3) := by decide +kernel
theorem dX0_babiesInLine_32 : decode cX0_babiesInLine 32 = .ok (.iinc 1 1, 3) := by decide +kernel
theorem dX0_babiesInLine_35 : decode cX0_babiesInLine 35 = .ok (.iinc 2 1, 3) := by decide +kernel
theorem dX0_babiesInLine_38 : decode cX0_babiesInLine 38 = .ok (.goto (-34), 3) := by decide +kernel
theorem dX0_babiesInLine_41 : decode cX0_babiesInLine 41 = .ok (.iload_n 1, 1) := by decide +kernel
theorem dX0_babiesInLine_42 : decode cX0_babiesInLine 42 = .ok (.ireturn, 1) := by decide +kernel
set_option maxRecDepth 100000 in
theorem ggX0_babiesAreAhead_Jx4a65c_size_8abf5 : GoodIn wsX0_babiesAreAhead wsJx4a65c_size_8abf5 := wk_g rfl wm_X0_babiesAreAhead 2173 wc_Jx4a65c_size_8abf5 rfl (by decide +kernel) (by decide +kernel) wq_Jx4a65c_size_8abf5
set_option maxRecDepth 100000 in
theorem gX0_babiesAreAhead_Jx4a65c_size_8abf5 : GoodIn wsX0_babiesAreAhead (wsV RX0 51 RJx4a65c yJx4a65c_size_8abf5 wsJx4a65c_size_8abf5) := goodIn_app (wk_h rfl wm_X0_babiesAreAhead [2198, 2171, 2172, 2004] (by decide +kernel) (by decide +kernel) (by decide +kernel)) ggX0_babiesAreAhead_Jx4a65c_size_8abf5
set_option maxRecDepth 100000 in
theorem ggX0_babiesAreAhead_Jx4a65c_get_915e3 : GoodIn wsX0_babiesAreAhead wsJx4a65c_get_915e3 := wk_g rfl wm_X0_babiesAreAhead 2177 wc_Jx4a65c_get_915e3 rfl (by decide +kernel) (by decide +kernel) wq_Jx4a65c_get_915e3
set_option maxRecDepth 100000 in
theorem gX0_babiesAreAhead_Jx4a65c_get_915e3 : GoodIn wsX0_babiesAreAhead (wsV RX0 55 RJx4a65c yJx4a65c_get_915e3 wsJx4a65c_get_915e3) := goodIn_app (wk_h rfl wm_X0_babiesAreAhead [2199, 2175, 2176, 2004] (by decide +kernel) (by decide +kernel) (by decide +kernel)) ggX0_babiesAreAhead_Jx4a65c_get_915e3
theorem dX0_babiesAreAhead_0 : decode cX0_babiesAreAhead 0 = .ok (.iconst 1, 1) := by decide +kernel
theorem dX0_babiesAreAhead_1 : decode cX0_babiesAreAhead 1 = .ok (.istore_n 1, 1) := by decide +kernel
theorem dX0_babiesAreAhead_2 : decode cX0_babiesAreAhead 2 = .ok (.iload_n 1, 1) := by decide +kernel
theorem dX0_babiesAreAhead_3 : decode cX0_babiesAreAhead 3 = .ok (.aload_n 0, 1) := by decide +kernel
theorem dX0_babiesAreAhead_4 : decode cX0_babiesAreAhead 4 = .ok (.getfield 12, 3) := by decide +kernel
theorem dX0_babiesAreAhead_7 : decode cX0_babiesAreAhead 7 = .ok (.invokevirtual 51, 3) := by decide +kernel
theorem dX0_babiesAreAhead_10 : decode cX0_babiesAreAhead 10 = .ok (.if_icmp .ge 47, 3) := by decide +kernel
theorem dX0_babiesAreAhead_13 : decode cX0_babiesAreAhead 13 = .ok (.aload_n 0, 1) := by decide +kernel
theorem dX0_babiesAreAhead_14 : decode cX0_babiesAreAhead 14 = .ok (.getfield 12, 3) := by decide +kernel
theorem dX0_babiesAreAhead_17 : decode cX0_babiesAreAhead 17 = .ok (.iload_n 1, 1) := by decide +kernel
theorem dX0_babiesAreAhead_18 : decode cX0_babiesAreAhead 18 = .ok (.invokevirtual 55, 3) := by decide +kernel
theorem dX0_babiesAreAhead_21 : decode cX0_babiesAreAhead 21 = .ok (.checkcast 59, 3) := by decide +kernel
theorem dX0_babiesAreAhead_24 : decode cX0_babiesAreAhead 24 = .ok (.getfield 61, 3) := by decide +kernel
theorem dX0_babiesAreAhead_27 : decode cX0_babiesAreAhead 27 = .ok (.ifCond .eq 24, 3) := by decide +kernel
theorem dX0_babiesAreAhead_30 : decode cX0_babiesAreAhead 30 = .ok (.aload_n 0, 1) := by decide +kernel
theorem dX0_babiesAreAhead_31 : decode cX0_babiesAreAhead 31 = .ok (.getfield 12, 3) := by decide +kernel
theorem dX0_babiesAreAhead_34 : decode cX0_babiesAreAhead 34 = .ok (.iload_n 1, 1) := by decide +kernel
theorem dX0_babiesAreAhead_35 : decode cX0_babiesAreAhead 35 = .ok (.iconst 1, 1) := by decide +kernel
theorem dX0_babiesAreAhead_36 : decode cX0_babiesAreAhead 36 = .ok (.isub, 1) := by decide +kernel
theorem dX0_babiesAreAhead_37 : decode cX0_babiesAreAhead 37 = .ok (.invokevirtual 55, 3) := by decide +kernel
theorem dX0_babiesAreAhead_40 : decode cX0_babiesAreAhead 40 = .ok (.checkcast 59, 3) := by decide +kernel
theorem dX0_babiesAreAhead_43 : decode cX0_babiesAreAhead 43 = .ok (.getfield 61, 3) := by decide +kernel
theorem dX0_babiesAreAhead_46 : decode cX0_babiesAreAhead 46 = .ok (.ifCond .ne 5, 3) := by decide +kernel
theorem dX0_babiesAreAhead_49 : decode cX0_babiesAreAhead 49 = .ok (.iconst 0, 1) := by decide +kernel
theorem dX0_babiesAreAhead_50 : decode cX0_babiesAreAhead 50 = .ok (.ireturn, 1) := by decide +kernel
theorem dX0_babiesAreAhead_51 : decode cX0_babiesAreAhead 51 = .ok (.iinc 1 1, 3) := by decide +kernel
theorem dX0_babiesAreAhead_54 : decode cX0_babiesAreAhead 54 = .ok (.goto (-52), 3) := by decide +kernel
theorem dX0_babiesAreAhead_57 : decode cX0_babiesAreAhead 57 = .ok (.iconst 1, 1) := by decide +kernel
theorem dX0_babiesAreAhead_58 : decode cX0_babiesAreAhead 58 = .ok (.ireturn, 1) := by decide +kernel
set_option maxRecDepth 100000 in
theorem ggX0_timesInLine_Jx4a65c_size_8abf5 : GoodIn wsX0_timesInLine wsJx4a65c_size_8abf5 := wk_g rfl wm_X0_timesInLine 2173 wc_Jx4a65c_size_8abf5 rfl (by decide +kernel) (by decide +kernel) wq_Jx4a65c_size_8abf5
set_option maxRecDepth 100000 in
theorem gX0_timesInLine_Jx4a65c_size_8abf5 : GoodIn wsX0_timesInLine (wsV RX0 51 RJx4a65c yJx4a65c_size_8abf5 wsJx4a65c_size_8abf5) := goodIn_app (wk_h rfl wm_X0_timesInLine [2198, 2171, 2172, 2004] (by decide +kernel) (by decide +kernel) (by decide +kernel)) ggX0_timesInLine_Jx4a65c_size_8abf5
set_option maxRecDepth 100000 in
theorem ggX0_timesInLine_Jx4a65c_get_915e3 : GoodIn wsX0_timesInLine wsJx4a65c_get_915e3 := wk_g rfl wm_X0_timesInLine 2177 wc_Jx4a65c_get_915e3 rfl (by decide +kernel) (by decide +kernel) wq_Jx4a65c_get_915e3
set_option maxRecDepth 100000 in
theorem gX0_timesInLine_Jx4a65c_get_915e3 : GoodIn wsX0_timesInLine (wsV RX0 55 RJx4a65c yJx4a65c_get_915e3 wsJx4a65c_get_915e3) := goodIn_app (wk_h rfl wm_X0_timesInLine [2199, 2175, 2176, 2004] (by decide +kernel) (by decide +kernel) (by decide +kernel)) ggX0_timesInLine_Jx4a65c_get_915e3
theorem dX0_timesInLine_0 : decode cX0_timesInLine 0 = .ok (.iconst 0, 1) := by decide +kernel
theorem dX0_timesInLine_1 : decode cX0_timesInLine 1 = .ok (.istore_n 2, 1) := by decide +kernel
theorem dX0_timesInLine_2 : decode cX0_timesInLine 2 = .ok (.iconst 0, 1) := by decide +kernel
theorem dX0_timesInLine_3 : decode cX0_timesInLine 3 = .ok (.istore_n 3, 1) := by decide +kernel
theorem dX0_timesInLine_4 : decode cX0_timesInLine 4 = .ok (.iload_n 3, 1) := by decide +kernel
theorem dX0_timesInLine_5 : decode cX0_timesInLine 5 = .ok (.aload_n 0, 1) := by decide +kernel
theorem dX0_timesInLine_6 : decode cX0_timesInLine 6 = .ok (.getfield 12, 3) := by decide +kernel
theorem dX0_timesInLine_9 : decode cX0_timesInLine 9 = .ok (.invokevirtual 51, 3) := by decide +kernel
theorem dX0_timesInLine_12 : decode cX0_timesInLine 12 = .ok (.if_icmp .ge 24, 3) := by decide +kernel
theorem dX0_timesInLine_15 : decode cX0_timesInLine 15 = .ok (.aload_n 0, 1) := by decide +kernel
theorem dX0_timesInLine_16 : decode cX0_timesInLine 16 = .ok (.getfield 12, 3) := by decide +kernel
theorem dX0_timesInLine_19 : decode cX0_timesInLine 19 = .ok (.iload_n 3, 1) := by decide +kernel
theorem dX0_timesInLine_20 : decode cX0_timesInLine 20 = .ok (.invokevirtual 55, 3) := by decide +kernel
theorem dX0_timesInLine_23 : decode cX0_timesInLine 23 = .ok (.aload_n 1, 1) := by decide +kernel
theorem dX0_timesInLine_24 : decode cX0_timesInLine 24 = .ok (.if_acmp .ne 6, 3) := by decide +kernel
theorem dX0_timesInLine_27 : decode cX0_timesInLine 27 = .ok (.iinc 2 1, 3) := by decide +kernel
theorem dX0_timesInLine_30 : decode cX0_timesInLine 30 = .ok (.iinc 3 1, 3) := by decide +kernel
theorem dX0_timesInLine_33 : decode cX0_timesInLine 33 = .ok (.goto (-29), 3) := by decide +kernel
theorem dX0_timesInLine_36 : decode cX0_timesInLine 36 = .ok (.iload_n 2, 1) := by decide +kernel
theorem dX0_timesInLine_37 : decode cX0_timesInLine 37 = .ok (.ireturn, 1) := by decide +kernel
theorem dX1_init_0 : decode cX1_init 0 = .ok (.aload_n 0, 1) := by decide +kernel
theorem dX1_init_1 : decode cX1_init 1 = .ok (.invokespecial 1, 3) := by decide +kernel
theorem dX1_init_4 : decode cX1_init 4 = .ok (.aload_n 0, 1) := by decide +kernel
theorem dX1_init_5 : decode cX1_init 5 = .ok (.aload_n 1, 1) := by decide +kernel
theorem dX1_init_6 : decode cX1_init 6 = .ok (.putfield 7, 3) := by decide +kernel
theorem dX1_init_9 : decode cX1_init 9 = .ok (.aload_n 0, 1) := by decide +kernel
theorem dX1_init_10 : decode cX1_init 10 = .ok (.iload_n 2, 1) := by decide +kernel
theorem dX1_init_11 : decode cX1_init 11 = .ok (.putfield 13, 3) := by decide +kernel
theorem dX1_init_14 : decode cX1_init 14 = .ok (.aload_n 0, 1) := by decide +kernel
theorem dX1_init_15 : decode cX1_init 15 = .ok (.iload_n 3, 1) := by decide +kernel
theorem dX1_init_16 : decode cX1_init 16 = .ok (.putfield 17, 3) := by decide +kernel
theorem dX1_init_19 : decode cX1_init 19 = .ok (.return_, 1) := by decide +kernel
theorem dX2_init_0 : decode cX2_init 0 = .ok (.aload_n 0, 1) := by decide +kernel
theorem dX2_init_1 : decode cX2_init 1 = .ok (.invokespecial 1, 3) := by decide +kernel
theorem dX2_init_4 : decode cX2_init 4 = .ok (.aload_n 0, 1) := by decide +kernel
theorem dX2_init_5 : decode cX2_init 5 = .ok (.bipush 10, 2) := by decide +kernel
theorem dX2_init_7 : decode cX2_init 7 = .ok (.putfield 7, 3) := by decide +kernel
theorem dX2_init_10 : decode cX2_init 10 = .ok (.aload_n 0, 1) := by decide +kernel
theorem dX2_init_11 : decode cX2_init 11 = .ok (.bipush 20, 2) := by decide +kernel
theorem dX2_init_13 : decode cX2_init 13 = .ok (.putfield 13, 3) := by decide +kernel
theorem dX2_init_16 : decode cX2_init 16 = .ok (.aload_n 0, 1) := by decide +kernel
theorem dX2_init_17 : decode cX2_init 17 = .ok (.iconst 5, 1) := by decide +kernel
theorem dX2_init_18 : decode cX2_init 18 = .ok (.putfield 16, 3) := by decide +kernel
theorem dX2_init_21 : decode cX2_init 21 = .ok (.aload_n 0, 1) := by decide +kernel
theorem dX2_init_22 : decode cX2_init 22 = .ok (.iload_n 1, 1) := by decide +kernel
theorem dX2_init_23 : decode cX2_init 23 = .ok (.putfield 19, 3) := by decide +kernel
theorem dX2_init_26 : decode cX2_init 26 = .ok (.return_, 1) := by decide +kernel
theorem dX2_dutyOn_0 : decode cX2_dutyOn 0 = .ok (.iload_n 1, 1) := by decide +kernel
theorem dX2_dutyOn_1 : decode cX2_dutyOn 1 = .ok (.aload_n 0, 1) := by decide +kernel
theorem dX2_dutyOn_2 : decode cX2_dutyOn 2 = .ok (.getfield 13, 3) := by decide +kernel
theorem dX2_dutyOn_5 : decode cX2_dutyOn 5 = .ok (.if_icmp .gt 7, 3) := by decide +kernel
theorem dX2_dutyOn_8 : decode cX2_dutyOn 8 = .ok (.iconst 0, 1) := by decide +kernel
theorem dX2_dutyOn_9 : decode cX2_dutyOn 9 = .ok (.goto 17, 3) := by decide +kernel
theorem dX2_dutyOn_12 : decode cX2_dutyOn 12 = .ok (.iload_n 1, 1) := by decide +kernel
theorem dX2_dutyOn_13 : decode cX2_dutyOn 13 = .ok (.aload_n 0, 1) := by decide +kernel
theorem dX2_dutyOn_14 : decode cX2_dutyOn 14 = .ok (.getfield 13, 3) := by decide +kernel
theorem dX2_dutyOn_17 : decode cX2_dutyOn 17 = .ok (.isub, 1) := by decide +kernel
theorem dX2_dutyOn_18 : decode cX2_dutyOn 18 = .ok (.aload_n 0, 1) := by decide +kernel
theorem dX2_dutyOn_19 : decode cX2_dutyOn 19 = .ok (.getfield 7, 3) := by decide +kernel
theorem dX2_dutyOn_22 : decode cX2_dutyOn 22 = .ok (.imul, 1) := by decide +kernel
theorem dX2_dutyOn_23 : decode cX2_dutyOn 23 = .ok (.bipush 100, 2) := by decide +kernel
theorem dX2_dutyOn_25 : decode cX2_dutyOn 25 = .ok (.idiv, 1) := by decide +kernel
theorem dX2_dutyOn_26 : decode cX2_dutyOn 26 = .ok (.ireturn, 1) := by decide +kernel
theorem dX3_init_0 : decode cX3_init 0 = .ok (.aload_n 0, 1) := by decide +kernel
theorem dX3_init_1 : decode cX3_init 1 = .ok (.invokespecial 1, 3) := by decide +kernel
theorem dX3_init_4 : decode cX3_init 4 = .ok (.aload_n 0, 1) := by decide +kernel
theorem dX3_init_5 : decode cX3_init 5 = .ok (.iload_n 1, 1) := by decide +kernel
theorem dX3_init_6 : decode cX3_init 6 = .ok (.putfield 7, 3) := by decide +kernel
theorem dX3_init_9 : decode cX3_init 9 = .ok (.aload_n 0, 1) := by decide +kernel
theorem dX3_init_10 : decode cX3_init 10 = .ok (.aload_n 2, 1) := by decide +kernel
theorem dX3_init_11 : decode cX3_init 11 = .ok (.putfield 13, 3) := by decide +kernel
theorem dX3_init_14 : decode cX3_init 14 = .ok (.aload_n 0, 1) := by decide +kernel
theorem dX3_init_15 : decode cX3_init 15 = .ok (.iload_n 3, 1) := by decide +kernel
theorem dX3_init_16 : decode cX3_init 16 = .ok (.putfield 17, 3) := by decide +kernel
theorem dX3_init_19 : decode cX3_init 19 = .ok (.aload_n 0, 1) := by decide +kernel
theorem dX3_init_20 : decode cX3_init 20 = .ok (.iload 4, 2) := by decide +kernel
theorem dX3_init_22 : decode cX3_init 22 = .ok (.putfield 20, 3) := by decide +kernel
theorem dX3_init_25 : decode cX3_init 25 = .ok (.aload_n 0, 1) := by decide +kernel
theorem dX3_init_26 : decode cX3_init 26 = .ok (.iload 5, 2) := by decide +kernel
theorem dX3_init_28 : decode cX3_init 28 = .ok (.putfield 23, 3) := by decide +kernel
theorem dX3_init_31 : decode cX3_init 31 = .ok (.return_, 1) := by decide +kernel
theorem dX3_isNightmare_0 : decode cX3_isNightmare 0 = .ok (.aload_n 0, 1) := by decide +kernel
theorem dX3_isNightmare_1 : decode cX3_isNightmare 1 = .ok (.getfield 23, 3) := by decide +kernel
theorem dX3_isNightmare_4 : decode cX3_isNightmare 4 = .ok (.iconst 5, 1) := by decide +kernel
theorem dX3_isNightmare_5 : decode cX3_isNightmare 5 = .ok (.if_icmp .lt 7, 3) := by decide +kernel
theorem dX3_isNightmare_8 : decode cX3_isNightmare 8 = .ok (.iconst 1, 1) := by decide +kernel
theorem dX3_isNightmare_9 : decode cX3_isNightmare 9 = .ok (.goto 4, 3) := by decide +kernel
theorem dX3_isNightmare_12 : decode cX3_isNightmare 12 = .ok (.iconst 0, 1) := by decide +kernel
theorem dX3_isNightmare_13 : decode cX3_isNightmare 13 = .ok (.ireturn, 1) := by decide +kernel
theorem dX3_isIn_0 : decode cX3_isIn 0 = .ok (.iload_n 1, 1) := by decide +kernel
theorem dX3_isIn_1 : decode cX3_isIn 1 = .ok (.aload_n 0, 1) := by decide +kernel
theorem dX3_isIn_2 : decode cX3_isIn 2 = .ok (.getfield 7, 3) := by decide +kernel
theorem dX3_isIn_5 : decode cX3_isIn 5 = .ok (.ishr, 1) := by decide +kernel
theorem dX3_isIn_6 : decode cX3_isIn 6 = .ok (.iconst 1, 1) := by decide +kernel
theorem dX3_isIn_7 : decode cX3_isIn 7 = .ok (.iand, 1) := by decide +kernel
theorem dX3_isIn_8 : decode cX3_isIn 8 = .ok (.ifCond .eq 7, 3) := by decide +kernel
theorem dX3_isIn_11 : decode cX3_isIn 11 = .ok (.iconst 1, 1) := by decide +kernel
theorem dX3_isIn_12 : decode cX3_isIn 12 = .ok (.goto 4, 3) := by decide +kernel
theorem dX3_isIn_15 : decode cX3_isIn 15 = .ok (.iconst 0, 1) := by decide +kernel
theorem dX3_isIn_16 : decode cX3_isIn 16 = .ok (.ireturn, 1) := by decide +kernel
set_option maxRecDepth 100000 in
theorem ggX3_isHidden_X3_isIn : GoodIn wsX3_isHidden wsX3_isIn := wk_g rfl wm_X3_isHidden 3145 wc_X3_isIn rfl (by decide +kernel) (by decide +kernel) wq_X3_isIn
set_option maxRecDepth 100000 in
theorem gX3_isHidden_X3_isIn : GoodIn wsX3_isHidden (wsV RX3 31 RX3 yX3_isIn wsX3_isIn) := goodIn_app (wk_h rfl wm_X3_isHidden [3142, 3143, 3144, 2027] (by decide +kernel) (by decide +kernel) (by decide +kernel)) ggX3_isHidden_X3_isIn
theorem dX3_isHidden_0 : decode cX3_isHidden 0 = .ok (.aload_n 0, 1) := by decide +kernel
theorem dX3_isHidden_1 : decode cX3_isHidden 1 = .ok (.getfield 13, 3) := by decide +kernel
theorem dX3_isHidden_4 : decode cX3_isHidden 4 = .ok (.ifnull 21, 3) := by decide +kernel
theorem dX3_isHidden_7 : decode cX3_isHidden 7 = .ok (.aload_n 0, 1) := by decide +kernel
theorem dX3_isHidden_8 : decode cX3_isHidden 8 = .ok (.aload_n 0, 1) := by decide +kernel
theorem dX3_isHidden_9 : decode cX3_isHidden 9 = .ok (.getfield 13, 3) := by decide +kernel
theorem dX3_isHidden_12 : decode cX3_isHidden 12 = .ok (.getfield 26, 3) := by decide +kernel
theorem dX3_isHidden_15 : decode cX3_isHidden 15 = .ok (.invokevirtual 31, 3) := by decide +kernel
theorem dX3_isHidden_18 : decode cX3_isHidden 18 = .ok (.ifCond .ne 7, 3) := by decide +kernel
theorem dX3_isHidden_21 : decode cX3_isHidden 21 = .ok (.iconst 1, 1) := by decide +kernel
theorem dX3_isHidden_22 : decode cX3_isHidden 22 = .ok (.goto 4, 3) := by decide +kernel
theorem dX3_isHidden_25 : decode cX3_isHidden 25 = .ok (.iconst 0, 1) := by decide +kernel
theorem dX3_isHidden_26 : decode cX3_isHidden 26 = .ok (.ireturn, 1) := by decide +kernel
theorem dX3_whereabouts_0 : decode cX3_whereabouts 0 = .ok (.aload_n 0, 1) := by decide +kernel
theorem dX3_whereabouts_1 : decode cX3_whereabouts 1 = .ok (.getfield 35, 3) := by decide +kernel
theorem dX3_whereabouts_4 : decode cX3_whereabouts 4 = .ok (.ifnull 8, 3) := by decide +kernel
theorem dX3_whereabouts_7 : decode cX3_whereabouts 7 = .ok (.aload_n 0, 1) := by decide +kernel
theorem dX3_whereabouts_8 : decode cX3_whereabouts 8 = .ok (.getfield 35, 3) := by decide +kernel
theorem dX3_whereabouts_11 : decode cX3_whereabouts 11 = .ok (.areturn, 1) := by decide +kernel
theorem dX3_whereabouts_12 : decode cX3_whereabouts 12 = .ok (.aload_n 0, 1) := by decide +kernel
theorem dX3_whereabouts_13 : decode cX3_whereabouts 13 = .ok (.getfield 13, 3) := by decide +kernel
theorem dX3_whereabouts_16 : decode cX3_whereabouts 16 = .ok (.ifnonnull 7, 3) := by decide +kernel
theorem dX3_whereabouts_19 : decode cX3_whereabouts 19 = .ok (.aconst_null, 1) := by decide +kernel
theorem dX3_whereabouts_20 : decode cX3_whereabouts 20 = .ok (.goto 10, 3) := by decide +kernel
theorem dX3_whereabouts_23 : decode cX3_whereabouts 23 = .ok (.aload_n 0, 1) := by decide +kernel
theorem dX3_whereabouts_24 : decode cX3_whereabouts 24 = .ok (.getfield 13, 3) := by decide +kernel
theorem dX3_whereabouts_27 : decode cX3_whereabouts 27 = .ok (.getfield 39, 3) := by decide +kernel
theorem dX3_whereabouts_30 : decode cX3_whereabouts 30 = .ok (.areturn, 1) := by decide +kernel
theorem dX3_putInStore_0 : decode cX3_putInStore 0 = .ok (.aload_n 0, 1) := by decide +kernel
theorem dX3_putInStore_1 : decode cX3_putInStore 1 = .ok (.aconst_null, 1) := by decide +kernel
theorem dX3_putInStore_2 : decode cX3_putInStore 2 = .ok (.putfield 13, 3) := by decide +kernel
theorem dX3_putInStore_5 : decode cX3_putInStore 5 = .ok (.aload_n 0, 1) := by decide +kernel
theorem dX3_putInStore_6 : decode cX3_putInStore 6 = .ok (.aload_n 1, 1) := by decide +kernel
theorem dX3_putInStore_7 : decode cX3_putInStore 7 = .ok (.putfield 35, 3) := by decide +kernel
theorem dX3_putInStore_10 : decode cX3_putInStore 10 = .ok (.aload_n 0, 1) := by decide +kernel
theorem dX3_putInStore_11 : decode cX3_putInStore 11 = .ok (.iload_n 2, 1) := by decide +kernel
theorem dX3_putInStore_12 : decode cX3_putInStore 12 = .ok (.putfield 42, 3) := by decide +kernel
theorem dX3_putInStore_15 : decode cX3_putInStore 15 = .ok (.return_, 1) := by decide +kernel
theorem dX4_init_0 : decode cX4_init 0 = .ok (.aload_n 0, 1) := by decide +kernel
theorem dX4_init_1 : decode cX4_init 1 = .ok (.invokespecial 1, 3) := by decide +kernel
theorem dX4_init_4 : decode cX4_init 4 = .ok (.aload_n 0, 1) := by decide +kernel
theorem dX4_init_5 : decode cX4_init 5 = .ok (.aload_n 1, 1) := by decide +kernel
theorem dX4_init_6 : decode cX4_init 6 = .ok (.putfield 7, 3) := by decide +kernel
theorem dX4_init_9 : decode cX4_init 9 = .ok (.aload_n 0, 1) := by decide +kernel
theorem dX4_init_10 : decode cX4_init 10 = .ok (.iload_n 2, 1) := by decide +kernel
theorem dX4_init_11 : decode cX4_init 11 = .ok (.putfield 13, 3) := by decide +kernel
theorem dX4_init_14 : decode cX4_init 14 = .ok (.aload_n 0, 1) := by decide +kernel
theorem dX4_init_15 : decode cX4_init 15 = .ok (.iload_n 3, 1) := by decide +kernel
theorem dX4_init_16 : decode cX4_init 16 = .ok (.putfield 17, 3) := by decide +kernel
theorem dX4_init_19 : decode cX4_init 19 = .ok (.return_, 1) := by decide +kernel
theorem dX5_init_0 : decode cX5_init 0 = .ok (.aload_n 0, 1) := by decide +kernel
theorem dX5_init_1 : decode cX5_init 1 = .ok (.invokespecial 1, 3) := by decide +kernel
theorem dX5_init_4 : decode cX5_init 4 = .ok (.aload_n 0, 1) := by decide +kernel
theorem dX5_init_5 : decode cX5_init 5 = .ok (.iconst 3, 1) := by decide +kernel
theorem dX5_init_6 : decode cX5_init 6 = .ok (.putfield 7, 3) := by decide +kernel
theorem dX5_init_9 : decode cX5_init 9 = .ok (.return_, 1) := by decide +kernel
theorem dX5_draw_0 : decode cX5_draw 0 = .ok (.aload_n 0, 1) := by decide +kernel
theorem dX5_draw_1 : decode cX5_draw 1 = .ok (.getfield 7, 3) := by decide +kernel
theorem dX5_draw_4 : decode cX5_draw 4 = .ok (.istore_n 1, 1) := by decide +kernel
theorem dX5_draw_5 : decode cX5_draw 5 = .ok (.aload_n 0, 1) := by decide +kernel
theorem dX5_draw_6 : decode cX5_draw 6 = .ok (.bipush 21, 2) := by decide +kernel
theorem dX5_draw_8 : decode cX5_draw 8 = .ok (.iload_n 1, 1) := by decide +kernel
theorem dX5_draw_9 : decode cX5_draw 9 = .ok (.imul, 1) := by decide +kernel
theorem dX5_draw_10 : decode cX5_draw 10 = .ok (.bipush 11, 2) := by decide +kernel
theorem dX5_draw_12 : decode cX5_draw 12 = .ok (.iadd, 1) := by decide +kernel
theorem dX5_draw_13 : decode cX5_draw 13 = .ok (.sipush 4096, 3) := by decide +kernel
theorem dX5_draw_16 : decode cX5_draw 16 = .ok (.irem, 1) := by decide +kernel
theorem dX5_draw_17 : decode cX5_draw 17 = .ok (.putfield 7, 3) := by decide +kernel
theorem dX5_draw_20 : decode cX5_draw 20 = .ok (.aload_n 0, 1) := by decide +kernel
theorem dX5_draw_21 : decode cX5_draw 21 = .ok (.dup, 1) := by decide +kernel
theorem dX5_draw_22 : decode cX5_draw 22 = .ok (.getfield 13, 3) := by decide +kernel
theorem dX5_draw_25 : decode cX5_draw 25 = .ok (.iconst 1, 1) := by decide +kernel
theorem dX5_draw_26 : decode cX5_draw 26 = .ok (.iadd, 1) := by decide +kernel
theorem dX5_draw_27 : decode cX5_draw 27 = .ok (.putfield 13, 3) := by decide +kernel
theorem dX5_draw_30 : decode cX5_draw 30 = .ok (.iload_n 1, 1) := by decide +kernel
theorem dX5_draw_31 : decode cX5_draw 31 = .ok (.ireturn, 1) := by decide +kernel
theorem dX6_init_0 : decode cX6_init 0 = .ok (.aload_n 0, 1) := by decide +kernel
theorem dX6_init_1 : decode cX6_init 1 = .ok (.invokespecial 3, 3) := by decide +kernel
theorem dX6_init_4 : decode cX6_init 4 = .ok (.aload_n 0, 1) := by decide +kernel
theorem dX6_init_5 : decode cX6_init 5 = .ok (.iconst 0, 1) := by decide +kernel
theorem dX6_init_6 : decode cX6_init 6 = .ok (.putfield 9, 3) := by decide +kernel
theorem dX6_init_9 : decode cX6_init 9 = .ok (.aload_n 0, 1) := by decide +kernel
theorem dX6_init_10 : decode cX6_init 10 = .ok (.iload_n 1, 1) := by decide +kernel
theorem dX6_init_11 : decode cX6_init 11 = .ok (.putfield 15, 3) := by decide +kernel
theorem dX6_init_14 : decode cX6_init 14 = .ok (.aload_n 0, 1) := by decide +kernel
theorem dX6_init_15 : decode cX6_init 15 = .ok (.aload_n 2, 1) := by decide +kernel
theorem dX6_init_16 : decode cX6_init 16 = .ok (.putfield 18, 3) := by decide +kernel
theorem dX6_init_19 : decode cX6_init 19 = .ok (.aload_n 0, 1) := by decide +kernel
theorem dX6_init_20 : decode cX6_init 20 = .ok (.iload_n 3, 1) := by decide +kernel
theorem dX6_init_21 : decode cX6_init 21 = .ok (.putfield 22, 3) := by decide +kernel
theorem dX6_init_24 : decode cX6_init 24 = .ok (.aload_n 0, 1) := by decide +kernel
theorem dX6_init_25 : decode cX6_init 25 = .ok (.iload 4, 2) := by decide +kernel
theorem dX6_init_27 : decode cX6_init 27 = .ok (.putfield 26, 3) := by decide +kernel
theorem dX6_init_30 : decode cX6_init 30 = .ok (.return_, 1) := by decide +kernel
theorem dX6_standAt_0 : decode cX6_standAt 0 = .ok (.aload_n 0, 1) := by decide +kernel
theorem dX6_standAt_1 : decode cX6_standAt 1 = .ok (.iconst 1, 1) := by decide +kernel
theorem dX6_standAt_2 : decode cX6_standAt 2 = .ok (.putfield 9, 3) := by decide +kernel
theorem dX6_standAt_5 : decode cX6_standAt 5 = .ok (.aload_n 0, 1) := by decide +kernel
theorem dX6_standAt_6 : decode cX6_standAt 6 = .ok (.aload_n 1, 1) := by decide +kernel
theorem dX6_standAt_7 : decode cX6_standAt 7 = .ok (.putfield 29, 3) := by decide +kernel
theorem dX6_standAt_10 : decode cX6_standAt 10 = .ok (.aload_n 0, 1) := by decide +kernel
theorem dX6_standAt_11 : decode cX6_standAt 11 = .ok (.iload_n 2, 1) := by decide +kernel
theorem dX6_standAt_12 : decode cX6_standAt 12 = .ok (.putfield 33, 3) := by decide +kernel
theorem dX6_standAt_15 : decode cX6_standAt 15 = .ok (.return_, 1) := by decide +kernel
theorem dX6_stepOut_0 : decode cX6_stepOut 0 = .ok (.aload_n 0, 1) := by decide +kernel
theorem dX6_stepOut_1 : decode cX6_stepOut 1 = .ok (.iload_n 1, 1) := by decide +kernel
theorem dX6_stepOut_2 : decode cX6_stepOut 2 = .ok (.putfield 9, 3) := by decide +kernel
theorem dX6_stepOut_5 : decode cX6_stepOut 5 = .ok (.aload_n 0, 1) := by decide +kernel
theorem dX6_stepOut_6 : decode cX6_stepOut 6 = .ok (.aconst_null, 1) := by decide +kernel
theorem dX6_stepOut_7 : decode cX6_stepOut 7 = .ok (.putfield 29, 3) := by decide +kernel
theorem dX6_stepOut_10 : decode cX6_stepOut 10 = .ok (.aload_n 0, 1) := by decide +kernel
theorem dX6_stepOut_11 : decode cX6_stepOut 11 = .ok (.iconst 0, 1) := by decide +kernel
theorem dX6_stepOut_12 : decode cX6_stepOut 12 = .ok (.putfield 33, 3) := by decide +kernel
theorem dX6_stepOut_15 : decode cX6_stepOut 15 = .ok (.return_, 1) := by decide +kernel
theorem dX7_init_0 : decode cX7_init 0 = .ok (.aload_n 0, 1) := by decide +kernel
theorem dX7_init_1 : decode cX7_init 1 = .ok (.invokespecial 1, 3) := by decide +kernel
theorem dX7_init_4 : decode cX7_init 4 = .ok (.return_, 1) := by decide +kernel
theorem dX7_has_0 : decode cX7_has 0 = .ok (.iload_n 1, 1) := by decide +kernel
theorem dX7_has_1 : decode cX7_has 1 = .ok (.bipush 64, 2) := by decide +kernel
theorem dX7_has_3 : decode cX7_has 3 = .ok (.if_icmp .ge 12, 3) := by decide +kernel
theorem dX7_has_6 : decode cX7_has 6 = .ok (.aload_n 0, 1) := by decide +kernel
theorem dX7_has_7 : decode cX7_has 7 = .ok (.getfield 9, 3) := by decide +kernel
theorem dX7_has_10 : decode cX7_has 10 = .ok (.iload_n 1, 1) := by decide +kernel
theorem dX7_has_11 : decode cX7_has 11 = .ok (.lushr, 1) := by decide +kernel
theorem dX7_has_12 : decode cX7_has 12 = .ok (.goto 12, 3) := by decide +kernel
theorem dX7_has_15 : decode cX7_has 15 = .ok (.aload_n 0, 1) := by decide +kernel
theorem dX7_has_16 : decode cX7_has 16 = .ok (.getfield 13, 3) := by decide +kernel
theorem dX7_has_19 : decode cX7_has 19 = .ok (.iload_n 1, 1) := by decide +kernel
theorem dX7_has_20 : decode cX7_has 20 = .ok (.bipush 64, 2) := by decide +kernel
theorem dX7_has_22 : decode cX7_has 22 = .ok (.isub, 1) := by decide +kernel
theorem dX7_has_23 : decode cX7_has 23 = .ok (.lushr, 1) := by decide +kernel
theorem dX7_has_24 : decode cX7_has 24 = .ok (.lstore_n 2, 1) := by decide +kernel
theorem dX7_has_25 : decode cX7_has 25 = .ok (.lload_n 2, 1) := by decide +kernel
theorem dX7_has_26 : decode cX7_has 26 = .ok (.lconst 1, 1) := by decide +kernel
theorem dX7_has_27 : decode cX7_has 27 = .ok (.land, 1) := by decide +kernel
theorem dX7_has_28 : decode cX7_has 28 = .ok (.lconst 0, 1) := by decide +kernel
theorem dX7_has_29 : decode cX7_has 29 = .ok (.lcmp, 1) := by decide +kernel
theorem dX7_has_30 : decode cX7_has 30 = .ok (.ifCond .eq 7, 3) := by decide +kernel
theorem dX7_has_33 : decode cX7_has 33 = .ok (.iconst 1, 1) := by decide +kernel
theorem dX7_has_34 : decode cX7_has 34 = .ok (.goto 4, 3) := by decide +kernel
theorem dX7_has_37 : decode cX7_has 37 = .ok (.iconst 0, 1) := by decide +kernel
theorem dX7_has_38 : decode cX7_has 38 = .ok (.ireturn, 1) := by decide +kernel
theorem dX7_put_0 : decode cX7_put 0 = .ok (.iload_n 1, 1) := by decide +kernel
theorem dX7_put_1 : decode cX7_put 1 = .ok (.bipush 64, 2) := by decide +kernel
theorem dX7_put_3 : decode cX7_put 3 = .ok (.if_icmp .ge 18, 3) := by decide +kernel
theorem dX7_put_6 : decode cX7_put 6 = .ok (.aload_n 0, 1) := by decide +kernel
theorem dX7_put_7 : decode cX7_put 7 = .ok (.dup, 1) := by decide +kernel
theorem dX7_put_8 : decode cX7_put 8 = .ok (.getfield 9, 3) := by decide +kernel
theorem dX7_put_11 : decode cX7_put 11 = .ok (.lconst 1, 1) := by decide +kernel
theorem dX7_put_12 : decode cX7_put 12 = .ok (.iload_n 1, 1) := by decide +kernel
theorem dX7_put_13 : decode cX7_put 13 = .ok (.lshl, 1) := by decide +kernel
theorem dX7_put_14 : decode cX7_put 14 = .ok (.lor, 1) := by decide +kernel
theorem dX7_put_15 : decode cX7_put 15 = .ok (.putfield 9, 3) := by decide +kernel
theorem dX7_put_18 : decode cX7_put 18 = .ok (.goto 18, 3) := by decide +kernel
theorem dX7_put_21 : decode cX7_put 21 = .ok (.aload_n 0, 1) := by decide +kernel
theorem dX7_put_22 : decode cX7_put 22 = .ok (.dup, 1) := by decide +kernel
theorem dX7_put_23 : decode cX7_put 23 = .ok (.getfield 13, 3) := by decide +kernel
theorem dX7_put_26 : decode cX7_put 26 = .ok (.lconst 1, 1) := by decide +kernel
theorem dX7_put_27 : decode cX7_put 27 = .ok (.iload_n 1, 1) := by decide +kernel
theorem dX7_put_28 : decode cX7_put 28 = .ok (.bipush 64, 2) := by decide +kernel
theorem dX7_put_30 : decode cX7_put 30 = .ok (.isub, 1) := by decide +kernel
theorem dX7_put_31 : decode cX7_put 31 = .ok (.lshl, 1) := by decide +kernel
theorem dX7_put_32 : decode cX7_put 32 = .ok (.lor, 1) := by decide +kernel
theorem dX7_put_33 : decode cX7_put 33 = .ok (.putfield 13, 3) := by decide +kernel
theorem dX7_put_36 : decode cX7_put 36 = .ok (.return_, 1) := by decide +kernel
theorem dX7_putAll_0 : decode cX7_putAll 0 = .ok (.aload_n 0, 1) := by decide +kernel
theorem dX7_putAll_1 : decode cX7_putAll 1 = .ok (.dup, 1) := by decide +kernel
theorem dX7_putAll_2 : decode cX7_putAll 2 = .ok (.getfield 9, 3) := by decide +kernel
theorem dX7_putAll_5 : decode cX7_putAll 5 = .ok (.aload_n 1, 1) := by decide +kernel
theorem dX7_putAll_6 : decode cX7_putAll 6 = .ok (.getfield 9, 3) := by decide +kernel
theorem dX7_putAll_9 : decode cX7_putAll 9 = .ok (.lor, 1) := by decide +kernel
theorem dX7_putAll_10 : decode cX7_putAll 10 = .ok (.putfield 9, 3) := by decide +kernel
theorem dX7_putAll_13 : decode cX7_putAll 13 = .ok (.aload_n 0, 1) := by decide +kernel
theorem dX7_putAll_14 : decode cX7_putAll 14 = .ok (.dup, 1) := by decide +kernel
theorem dX7_putAll_15 : decode cX7_putAll 15 = .ok (.getfield 13, 3) := by decide +kernel
theorem dX7_putAll_18 : decode cX7_putAll 18 = .ok (.aload_n 1, 1) := by decide +kernel
theorem dX7_putAll_19 : decode cX7_putAll 19 = .ok (.getfield 13, 3) := by decide +kernel
theorem dX7_putAll_22 : decode cX7_putAll 22 = .ok (.lor, 1) := by decide +kernel
theorem dX7_putAll_23 : decode cX7_putAll 23 = .ok (.putfield 13, 3) := by decide +kernel
theorem dX7_putAll_26 : decode cX7_putAll 26 = .ok (.return_, 1) := by decide +kernel
set_option maxRecDepth 100000 in
theorem ggX7_size_J13_bitCount_95d88 : GoodIn wsX7_size wsJ13_bitCount_95d88 := wk_g rfl wm_X7_size 3152 wc_J13_bitCount_95d88 rfl (by decide +kernel) (by decide +kernel) wq_J13_bitCount_95d88
set_option maxRecDepth 100000 in
theorem gX7_size_J13_bitCount_95d88 : GoodIn wsX7_size (va_wsS RX7 16 yJ13_bitCount_95d88 wsJ13_bitCount_95d88) := goodIn_app (wk_h rfl wm_X7_size [3150, 3151, 2040] (by decide +kernel) (by decide +kernel) (by decide +kernel)) ggX7_size_J13_bitCount_95d88
theorem dX7_size_0 : decode cX7_size 0 = .ok (.aload_n 0, 1) := by decide +kernel
theorem dX7_size_1 : decode cX7_size 1 = .ok (.getfield 9, 3) := by decide +kernel
theorem dX7_size_4 : decode cX7_size 4 = .ok (.invokestatic 16, 3) := by decide +kernel
theorem dX7_size_7 : decode cX7_size 7 = .ok (.aload_n 0, 1) := by decide +kernel
theorem dX7_size_8 : decode cX7_size 8 = .ok (.getfield 13, 3) := by decide +kernel
theorem dX7_size_11 : decode cX7_size 11 = .ok (.invokestatic 16, 3) := by decide +kernel
theorem dX7_size_14 : decode cX7_size 14 = .ok (.iadd, 1) := by decide +kernel
theorem dX7_size_15 : decode cX7_size 15 = .ok (.ireturn, 1) := by decide +kernel
theorem dX9_init_0 : decode cX9_init 0 = .ok (.aload_n 0, 1) := by decide +kernel
theorem dX9_init_1 : decode cX9_init 1 = .ok (.invokespecial 1, 3) := by decide +kernel
theorem dX9_init_4 : decode cX9_init 4 = .ok (.return_, 1) := by decide +kernel
set_option maxRecDepth 100000 in
theorem ggX10_init_Jx4a65c_init_da8c8 : GoodIn wsX10_init wsJx4a65c_init_da8c8 := wk_g rfl wm_X10_init 2055 wc_Jx4a65c_init_da8c8 rfl (by decide +kernel) (by decide +kernel) wq_Jx4a65c_init_da8c8
set_option maxRecDepth 100000 in
theorem gX10_init_Jx4a65c_init_da8c8 : GoodIn wsX10_init (wsJx4a65c_init_da8c8) := ggX10_init_Jx4a65c_init_da8c8
theorem dX10_init_0 : decode cX10_init 0 = .ok (.aload_n 0, 1) := by decide +kernel
theorem dX10_init_1 : decode cX10_init 1 = .ok (.invokespecial 3, 3) := by decide +kernel
theorem dX10_init_4 : decode cX10_init 4 = .ok (.aload_n 0, 1) := by decide +kernel
theorem dX10_init_5 : decode cX10_init 5 = .ok (.iconst 5, 1) := by decide +kernel
theorem dX10_init_6 : decode cX10_init 6 = .ok (.putfield 9, 3) := by decide +kernel
theorem dX10_init_9 : decode cX10_init 9 = .ok (.aload_n 0, 1) := by decide +kernel
theorem dX10_init_10 : decode cX10_init 10 = .ok (.new 15, 3) := by decide +kernel
theorem dX10_init_13 : decode cX10_init 13 = .ok (.dup, 1) := by decide +kernel
theorem dX10_init_14 : decode cX10_init 14 = .ok (.invokespecial 17, 3) := by decide +kernel
theorem dX10_init_17 : decode cX10_init 17 = .ok (.putfield 18, 3) := by decide +kernel
theorem dX10_init_20 : decode cX10_init 20 = .ok (.aload_n 0, 1) := by decide +kernel
theorem dX10_init_21 : decode cX10_init 21 = .ok (.bipush 97, 2) := by decide +kernel
theorem dX10_init_23 : decode cX10_init 23 = .ok (.newarray .boolean, 2) := by decide +kernel
theorem dX10_init_25 : decode cX10_init 25 = .ok (.putfield 22, 3) := by decide +kernel
theorem dX10_init_28 : decode cX10_init 28 = .ok (.return_, 1) := by decide +kernel
theorem dX10_isOpen_0 : decode cX10_isOpen 0 = .ok (.iload_n 1, 1) := by decide +kernel
theorem dX10_isOpen_1 : decode cX10_isOpen 1 = .ok (.bipush 24, 2) := by decide +kernel
theorem dX10_isOpen_3 : decode cX10_isOpen 3 = .ok (.iadd, 1) := by decide +kernel
theorem dX10_isOpen_4 : decode cX10_isOpen 4 = .ok (.aload_n 0, 1) := by decide +kernel
theorem dX10_isOpen_5 : decode cX10_isOpen 5 = .ok (.getfield 26, 3) := by decide +kernel
theorem dX10_isOpen_8 : decode cX10_isOpen 8 = .ok (.isub, 1) := by decide +kernel
theorem dX10_isOpen_9 : decode cX10_isOpen 9 = .ok (.bipush 24, 2) := by decide +kernel
theorem dX10_isOpen_11 : decode cX10_isOpen 11 = .ok (.irem, 1) := by decide +kernel
theorem dX10_isOpen_12 : decode cX10_isOpen 12 = .ok (.aload_n 0, 1) := by decide +kernel
theorem dX10_isOpen_13 : decode cX10_isOpen 13 = .ok (.getfield 29, 3) := by decide +kernel
theorem dX10_isOpen_16 : decode cX10_isOpen 16 = .ok (.if_icmp .ge 7, 3) := by decide +kernel
theorem dX10_isOpen_19 : decode cX10_isOpen 19 = .ok (.iconst 1, 1) := by decide +kernel
theorem dX10_isOpen_20 : decode cX10_isOpen 20 = .ok (.goto 4, 3) := by decide +kernel
theorem dX10_isOpen_23 : decode cX10_isOpen 23 = .ok (.iconst 0, 1) := by decide +kernel
theorem dX10_isOpen_24 : decode cX10_isOpen 24 = .ok (.ireturn, 1) := by decide +kernel
theorem dX10_dozes_0 : decode cX10_dozes 0 = .ok (.aload_n 0, 1) := by decide +kernel
theorem dX10_dozes_1 : decode cX10_dozes 1 = .ok (.getfield 32, 3) := by decide +kernel
theorem dX10_dozes_4 : decode cX10_dozes 4 = .ok (.iconst 5, 1) := by decide +kernel
theorem dX10_dozes_5 : decode cX10_dozes 5 = .ok (.if_icmp .lt 7, 3) := by decide +kernel
theorem dX10_dozes_8 : decode cX10_dozes 8 = .ok (.iconst 1, 1) := by decide +kernel
theorem dX10_dozes_9 : decode cX10_dozes 9 = .ok (.goto 4, 3) := by decide +kernel
theorem dX10_dozes_12 : decode cX10_dozes 12 = .ok (.iconst 0, 1) := by decide +kernel
theorem dX10_dozes_13 : decode cX10_dozes 13 = .ok (.ireturn, 1) := by decide +kernel
theorem dX10_has_0 : decode cX10_has 0 = .ok (.aload_n 0, 1) := by decide +kernel
theorem dX10_has_1 : decode cX10_has 1 = .ok (.getfield 35, 3) := by decide +kernel
theorem dX10_has_4 : decode cX10_has 4 = .ok (.iload_n 1, 1) := by decide +kernel
theorem dX10_has_5 : decode cX10_has 5 = .ok (.if_icmp .eq 11, 3) := by decide +kernel
theorem dX10_has_8 : decode cX10_has 8 = .ok (.aload_n 0, 1) := by decide +kernel
theorem dX10_has_9 : decode cX10_has 9 = .ok (.getfield 38, 3) := by decide +kernel
theorem dX10_has_12 : decode cX10_has 12 = .ok (.iload_n 1, 1) := by decide +kernel
theorem dX10_has_13 : decode cX10_has 13 = .ok (.if_icmp .ne 7, 3) := by decide +kernel
theorem dX10_has_16 : decode cX10_has 16 = .ok (.iconst 1, 1) := by decide +kernel
theorem dX10_has_17 : decode cX10_has 17 = .ok (.goto 4, 3) := by decide +kernel
theorem dX10_has_20 : decode cX10_has 20 = .ok (.iconst 0, 1) := by decide +kernel
theorem dX10_has_21 : decode cX10_has 21 = .ok (.ireturn, 1) := by decide +kernel
theorem dX10_beyond_0 : decode cX10_beyond 0 = .ok (.aload_n 0, 1) := by decide +kernel
theorem dX10_beyond_1 : decode cX10_beyond 1 = .ok (.getfield 35, 3) := by decide +kernel
theorem dX10_beyond_4 : decode cX10_beyond 4 = .ok (.iload_n 1, 1) := by decide +kernel
theorem dX10_beyond_5 : decode cX10_beyond 5 = .ok (.if_icmp .ne 10, 3) := by decide +kernel
theorem dX10_beyond_8 : decode cX10_beyond 8 = .ok (.aload_n 0, 1) := by decide +kernel
theorem dX10_beyond_9 : decode cX10_beyond 9 = .ok (.getfield 38, 3) := by decide +kernel
theorem dX10_beyond_12 : decode cX10_beyond 12 = .ok (.goto 7, 3) := by decide +kernel
theorem dX10_beyond_15 : decode cX10_beyond 15 = .ok (.aload_n 0, 1) := by decide +kernel
theorem dX10_beyond_16 : decode cX10_beyond 16 = .ok (.getfield 35, 3) := by decide +kernel
theorem dX10_beyond_19 : decode cX10_beyond 19 = .ok (.ireturn, 1) := by decide +kernel
set_option maxRecDepth 100000 in
theorem ggX10_place_Jx4a65c_size_8abf5 : GoodIn wsX10_place wsJx4a65c_size_8abf5 := wk_g rfl wm_X10_place 2173 wc_Jx4a65c_size_8abf5 rfl (by decide +kernel) (by decide +kernel) wq_Jx4a65c_size_8abf5
set_option maxRecDepth 100000 in
theorem gX10_place_Jx4a65c_size_8abf5 : GoodIn wsX10_place (wsV RX10 41 RJx4a65c yJx4a65c_size_8abf5 wsJx4a65c_size_8abf5) := goodIn_app (wk_h rfl wm_X10_place [8165, 2171, 2172, 2004] (by decide +kernel) (by decide +kernel) (by decide +kernel)) ggX10_place_Jx4a65c_size_8abf5
set_option maxRecDepth 100000 in
theorem ggX10_place_Jx4a65c_get_915e3 : GoodIn wsX10_place wsJx4a65c_get_915e3 := wk_g rfl wm_X10_place 2177 wc_Jx4a65c_get_915e3 rfl (by decide +kernel) (by decide +kernel) wq_Jx4a65c_get_915e3
set_option maxRecDepth 100000 in
theorem gX10_place_Jx4a65c_get_915e3 : GoodIn wsX10_place (wsV RX10 45 RJx4a65c yJx4a65c_get_915e3 wsJx4a65c_get_915e3) := goodIn_app (wk_h rfl wm_X10_place [8166, 2175, 2176, 2004] (by decide +kernel) (by decide +kernel) (by decide +kernel)) ggX10_place_Jx4a65c_get_915e3
set_option maxRecDepth 100000 in
theorem ggX10_place_J6_intValue_8abf5 : GoodIn wsX10_place wsJ6_intValue_8abf5 := wk_g rfl wm_X10_place 8135 wc_J6_intValue_8abf5 rfl (by decide +kernel) (by decide +kernel) wq_J6_intValue_8abf5
set_option maxRecDepth 100000 in
theorem gX10_place_J6_intValue_8abf5 : GoodIn wsX10_place (wsV RX10 51 RJ6 yJ6_intValue_8abf5 wsJ6_intValue_8abf5) := goodIn_app (wk_h rfl wm_X10_place [8168, 8133, 8134, 2036] (by decide +kernel) (by decide +kernel) (by decide +kernel)) ggX10_place_J6_intValue_8abf5
theorem dX10_place_0 : decode cX10_place 0 = .ok (.iconst 0, 1) := by decide +kernel
theorem dX10_place_1 : decode cX10_place 1 = .ok (.istore_n 2, 1) := by decide +kernel
theorem dX10_place_2 : decode cX10_place 2 = .ok (.iload_n 2, 1) := by decide +kernel
theorem dX10_place_3 : decode cX10_place 3 = .ok (.aload_n 0, 1) := by decide +kernel
theorem dX10_place_4 : decode cX10_place 4 = .ok (.getfield 18, 3) := by decide +kernel
theorem dX10_place_7 : decode cX10_place 7 = .ok (.invokevirtual 41, 3) := by decide +kernel
theorem dX10_place_10 : decode cX10_place 10 = .ok (.if_icmp .ge 29, 3) := by decide +kernel
theorem dX10_place_13 : decode cX10_place 13 = .ok (.aload_n 0, 1) := by decide +kernel
theorem dX10_place_14 : decode cX10_place 14 = .ok (.getfield 18, 3) := by decide +kernel
theorem dX10_place_17 : decode cX10_place 17 = .ok (.iload_n 2, 1) := by decide +kernel
theorem dX10_place_18 : decode cX10_place 18 = .ok (.invokevirtual 45, 3) := by decide +kernel
theorem dX10_place_21 : decode cX10_place 21 = .ok (.checkcast 49, 3) := by decide +kernel
theorem dX10_place_24 : decode cX10_place 24 = .ok (.invokevirtual 51, 3) := by decide +kernel
theorem dX10_place_27 : decode cX10_place 27 = .ok (.iload_n 1, 1) := by decide +kernel
theorem dX10_place_28 : decode cX10_place 28 = .ok (.if_icmp .ne 5, 3) := by decide +kernel
theorem dX10_place_31 : decode cX10_place 31 = .ok (.iload_n 2, 1) := by decide +kernel
theorem dX10_place_32 : decode cX10_place 32 = .ok (.ireturn, 1) := by decide +kernel
theorem dX10_place_33 : decode cX10_place 33 = .ok (.iinc 2 1, 3) := by decide +kernel
theorem dX10_place_36 : decode cX10_place 36 = .ok (.goto (-34), 3) := by decide +kernel
theorem dX10_place_39 : decode cX10_place 39 = .ok (.iconst (-1), 1) := by decide +kernel
theorem dX10_place_40 : decode cX10_place 40 = .ok (.ireturn, 1) := by decide +kernel
theorem dX11_init_0 : decode cX11_init 0 = .ok (.aload_n 0, 1) := by decide +kernel
theorem dX11_init_1 : decode cX11_init 1 = .ok (.invokespecial 1, 3) := by decide +kernel
theorem dX11_init_4 : decode cX11_init 4 = .ok (.aload_n 0, 1) := by decide +kernel
theorem dX11_init_5 : decode cX11_init 5 = .ok (.bipush 10, 2) := by decide +kernel
theorem dX11_init_7 : decode cX11_init 7 = .ok (.putfield 7, 3) := by decide +kernel
theorem dX11_init_10 : decode cX11_init 10 = .ok (.aload_n 0, 1) := by decide +kernel
theorem dX11_init_11 : decode cX11_init 11 = .ok (.bipush 20, 2) := by decide +kernel
theorem dX11_init_13 : decode cX11_init 13 = .ok (.putfield 13, 3) := by decide +kernel
theorem dX11_init_16 : decode cX11_init 16 = .ok (.aload_n 0, 1) := by decide +kernel
theorem dX11_init_17 : decode cX11_init 17 = .ok (.iconst 5, 1) := by decide +kernel
theorem dX11_init_18 : decode cX11_init 18 = .ok (.putfield 16, 3) := by decide +kernel
theorem dX11_init_21 : decode cX11_init 21 = .ok (.return_, 1) := by decide +kernel
theorem dX12_init_0 : decode cX12_init 0 = .ok (.aload_n 0, 1) := by decide +kernel
theorem dX12_init_1 : decode cX12_init 1 = .ok (.invokespecial 3, 3) := by decide +kernel
theorem dX12_init_4 : decode cX12_init 4 = .ok (.aload_n 0, 1) := by decide +kernel
theorem dX12_init_5 : decode cX12_init 5 = .ok (.iconst (-1), 1) := by decide +kernel
theorem dX12_init_6 : decode cX12_init 6 = .ok (.putfield 9, 3) := by decide +kernel
theorem dX12_init_9 : decode cX12_init 9 = .ok (.return_, 1) := by decide +kernel
theorem dX12_isNightmare_0 : decode cX12_isNightmare 0 = .ok (.aload_n 0, 1) := by decide +kernel
theorem dX12_isNightmare_1 : decode cX12_isNightmare 1 = .ok (.getfield 15, 3) := by decide +kernel
theorem dX12_isNightmare_4 : decode cX12_isNightmare 4 = .ok (.iconst 5, 1) := by decide +kernel
theorem dX12_isNightmare_5 : decode cX12_isNightmare 5 = .ok (.if_icmp .lt 7, 3) := by decide +kernel
theorem dX12_isNightmare_8 : decode cX12_isNightmare 8 = .ok (.iconst 1, 1) := by decide +kernel
theorem dX12_isNightmare_9 : decode cX12_isNightmare 9 = .ok (.goto 4, 3) := by decide +kernel
theorem dX12_isNightmare_12 : decode cX12_isNightmare 12 = .ok (.iconst 0, 1) := by decide +kernel
theorem dX12_isNightmare_13 : decode cX12_isNightmare 13 = .ok (.ireturn, 1) := by decide +kernel
theorem dX13_init_0 : decode cX13_init 0 = .ok (.aload_n 0, 1) := by decide +kernel
theorem dX13_init_1 : decode cX13_init 1 = .ok (.invokespecial 3, 3) := by decide +kernel
theorem dX13_init_4 : decode cX13_init 4 = .ok (.aload_n 0, 1) := by decide +kernel
theorem dX13_init_5 : decode cX13_init 5 = .ok (.iconst (-1), 1) := by decide +kernel
theorem dX13_init_6 : decode cX13_init 6 = .ok (.putfield 9, 3) := by decide +kernel
theorem dX13_init_9 : decode cX13_init 9 = .ok (.aload_n 0, 1) := by decide +kernel
theorem dX13_init_10 : decode cX13_init 10 = .ok (.iconst (-1), 1) := by decide +kernel
theorem dX13_init_11 : decode cX13_init 11 = .ok (.putfield 15, 3) := by decide +kernel
theorem dX13_init_14 : decode cX13_init 14 = .ok (.aload_n 0, 1) := by decide +kernel
theorem dX13_init_15 : decode cX13_init 15 = .ok (.iconst (-1), 1) := by decide +kernel
theorem dX13_init_16 : decode cX13_init 16 = .ok (.putfield 18, 3) := by decide +kernel
theorem dX13_init_19 : decode cX13_init 19 = .ok (.return_, 1) := by decide +kernel
