set_option maxRecDepth 100000 in
theorem ggX14_init_Jx4a65c_init_da8c8 : GoodIn wsX14_init wsJx4a65c_init_da8c8 := wk_g rfl wm_X14_init 2055 wc_Jx4a65c_init_da8c8 rfl (by decide +kernel) (by decide +kernel) wq_Jx4a65c_init_da8c8
set_option maxRecDepth 100000 in
theorem gX14_init_Jx4a65c_init_da8c8 : GoodIn wsX14_init (wsJx4a65c_init_da8c8) := ggX14_init_Jx4a65c_init_da8c8
set_option maxRecDepth 100000 in
theorem ggX14_init_X11_init : GoodIn wsX14_init wsX11_init := wk_g rfl wm_X14_init 7116 wc_X11_init rfl (by decide +kernel) (by decide +kernel) wq_X11_init
set_option maxRecDepth 100000 in
theorem gX14_init_X11_init_n39 : GoodIn wsX14_init (wsX11_init) := ggX14_init_X11_init
theorem dX14_init_0 : decode cX14_init 0 = .ok (.aload_n 0, 1) := by decide +kernel
theorem dX14_init_1 : decode cX14_init 1 = .ok (.invokespecial 1, 3) := by decide +kernel
theorem dX14_init_4 : decode cX14_init 4 = .ok (.aload_n 0, 1) := by decide +kernel
theorem dX14_init_5 : decode cX14_init 5 = .ok (.iconst 3, 1) := by decide +kernel
theorem dX14_init_6 : decode cX14_init 6 = .ok (.putfield 7, 3) := by decide +kernel
theorem dX14_init_9 : decode cX14_init 9 = .ok (.aload_n 0, 1) := by decide +kernel
theorem dX14_init_10 : decode cX14_init 10 = .ok (.bipush 6, 2) := by decide +kernel
theorem dX14_init_12 : decode cX14_init 12 = .ok (.anewarray 13, 3) := by decide +kernel
theorem dX14_init_15 : decode cX14_init 15 = .ok (.putfield 15, 3) := by decide +kernel
theorem dX14_init_18 : decode cX14_init 18 = .ok (.aload_n 0, 1) := by decide +kernel
theorem dX14_init_19 : decode cX14_init 19 = .ok (.new 19, 3) := by decide +kernel
theorem dX14_init_22 : decode cX14_init 22 = .ok (.dup, 1) := by decide +kernel
theorem dX14_init_23 : decode cX14_init 23 = .ok (.invokespecial 21, 3) := by decide +kernel
theorem dX14_init_26 : decode cX14_init 26 = .ok (.putfield 22, 3) := by decide +kernel
theorem dX14_init_29 : decode cX14_init 29 = .ok (.aload_n 0, 1) := by decide +kernel
theorem dX14_init_30 : decode cX14_init 30 = .ok (.new 19, 3) := by decide +kernel
theorem dX14_init_33 : decode cX14_init 33 = .ok (.dup, 1) := by decide +kernel
theorem dX14_init_34 : decode cX14_init 34 = .ok (.invokespecial 21, 3) := by decide +kernel
theorem dX14_init_37 : decode cX14_init 37 = .ok (.putfield 26, 3) := by decide +kernel
theorem dX14_init_40 : decode cX14_init 40 = .ok (.aload_n 0, 1) := by decide +kernel
theorem dX14_init_41 : decode cX14_init 41 = .ok (.new 19, 3) := by decide +kernel
theorem dX14_init_44 : decode cX14_init 44 = .ok (.dup, 1) := by decide +kernel
theorem dX14_init_45 : decode cX14_init 45 = .ok (.invokespecial 21, 3) := by decide +kernel
theorem dX14_init_48 : decode cX14_init 48 = .ok (.putfield 29, 3) := by decide +kernel
theorem dX14_init_51 : decode cX14_init 51 = .ok (.aload_n 0, 1) := by decide +kernel
theorem dX14_init_52 : decode cX14_init 52 = .ok (.new 19, 3) := by decide +kernel
theorem dX14_init_55 : decode cX14_init 55 = .ok (.dup, 1) := by decide +kernel
theorem dX14_init_56 : decode cX14_init 56 = .ok (.invokespecial 21, 3) := by decide +kernel
theorem dX14_init_59 : decode cX14_init 59 = .ok (.putfield 32, 3) := by decide +kernel
theorem dX14_init_62 : decode cX14_init 62 = .ok (.aload_n 0, 1) := by decide +kernel
theorem dX14_init_63 : decode cX14_init 63 = .ok (.sipush 776, 3) := by decide +kernel
theorem dX14_init_66 : decode cX14_init 66 = .ok (.newarray .boolean, 2) := by decide +kernel
theorem dX14_init_68 : decode cX14_init 68 = .ok (.putfield 35, 3) := by decide +kernel
theorem dX14_init_71 : decode cX14_init 71 = .ok (.iconst 0, 1) := by decide +kernel
theorem dX14_init_72 : decode cX14_init 72 = .ok (.istore_n 1, 1) := by decide +kernel
theorem dX14_init_73 : decode cX14_init 73 = .ok (.iload_n 1, 1) := by decide +kernel
theorem dX14_init_74 : decode cX14_init 74 = .ok (.bipush 6, 2) := by decide +kernel
theorem dX14_init_76 : decode cX14_init 76 = .ok (.if_icmp .ge 22, 3) := by decide +kernel
theorem dX14_init_79 : decode cX14_init 79 = .ok (.aload_n 0, 1) := by decide +kernel
theorem dX14_init_80 : decode cX14_init 80 = .ok (.getfield 15, 3) := by decide +kernel
theorem dX14_init_83 : decode cX14_init 83 = .ok (.iload_n 1, 1) := by decide +kernel
theorem dX14_init_84 : decode cX14_init 84 = .ok (.new 13, 3) := by decide +kernel
theorem dX14_init_87 : decode cX14_init 87 = .ok (.dup, 1) := by decide +kernel
theorem dX14_init_88 : decode cX14_init 88 = .ok (.invokespecial 39, 3) := by decide +kernel
theorem dX14_init_91 : decode cX14_init 91 = .ok (.aastore, 1) := by decide +kernel
theorem dX14_init_92 : decode cX14_init 92 = .ok (.iinc 1 1, 3) := by decide +kernel
theorem dX14_init_95 : decode cX14_init 95 = .ok (.goto (-22), 3) := by decide +kernel
theorem dX14_init_98 : decode cX14_init 98 = .ok (.return_, 1) := by decide +kernel
theorem dX14_thrown_0 : decode cX14_thrown 0 = .ok (.aload_n 0, 1) := by decide +kernel
theorem dX14_thrown_1 : decode cX14_thrown 1 = .ok (.getfield 40, 3) := by decide +kernel
theorem dX14_thrown_4 : decode cX14_thrown 4 = .ok (.ireturn, 1) := by decide +kernel
theorem dX14_refuse_0 : decode cX14_refuse 0 = .ok (.aload_n 0, 1) := by decide +kernel
theorem dX14_refuse_1 : decode cX14_refuse 1 = .ok (.iload_n 1, 1) := by decide +kernel
theorem dX14_refuse_2 : decode cX14_refuse 2 = .ok (.putfield 40, 3) := by decide +kernel
theorem dX14_refuse_5 : decode cX14_refuse 5 = .ok (.iconst 0, 1) := by decide +kernel
theorem dX14_refuse_6 : decode cX14_refuse 6 = .ok (.ireturn, 1) := by decide +kernel
theorem dX14_is_0 : decode cX14_is 0 = .ok (.iload_n 0, 1) := by decide +kernel
theorem dX14_is_1 : decode cX14_is 1 = .ok (.iload_n 1, 1) := by decide +kernel
theorem dX14_is_2 : decode cX14_is 2 = .ok (.if_icmp .lt 12, 3) := by decide +kernel
theorem dX14_is_5 : decode cX14_is 5 = .ok (.iload_n 0, 1) := by decide +kernel
theorem dX14_is_6 : decode cX14_is 6 = .ok (.iload_n 2, 1) := by decide +kernel
theorem dX14_is_7 : decode cX14_is 7 = .ok (.if_icmp .gt 7, 3) := by decide +kernel
theorem dX14_is_10 : decode cX14_is 10 = .ok (.iconst 1, 1) := by decide +kernel
theorem dX14_is_11 : decode cX14_is 11 = .ok (.goto 4, 3) := by decide +kernel
theorem dX14_is_14 : decode cX14_is 14 = .ok (.iconst 0, 1) := by decide +kernel
theorem dX14_is_15 : decode cX14_is 15 = .ok (.ireturn, 1) := by decide +kernel
set_option maxRecDepth 100000 in
theorem ggX14_isLand_X14_is : GoodIn wsX14_isLand wsX14_is := wk_g rfl wm_X14_isLand 7195 wc_X14_is rfl (by decide +kernel) (by decide +kernel) wq_X14_is
set_option maxRecDepth 100000 in
theorem gX14_isLand_X14_is : GoodIn wsX14_isLand (va_wsS RX14 43 yX14_is wsX14_is) := goodIn_app (wk_h rfl wm_X14_isLand [7193, 7194, 2007] (by decide +kernel) (by decide +kernel) (by decide +kernel)) ggX14_isLand_X14_is
theorem dX14_isLand_0 : decode cX14_isLand 0 = .ok (.iload_n 1, 1) := by decide +kernel
theorem dX14_isLand_1 : decode cX14_isLand 1 = .ok (.iconst 0, 1) := by decide +kernel
theorem dX14_isLand_2 : decode cX14_isLand 2 = .ok (.iconst 5, 1) := by decide +kernel
theorem dX14_isLand_3 : decode cX14_isLand 3 = .ok (.invokestatic 43, 3) := by decide +kernel
theorem dX14_isLand_6 : decode cX14_isLand 6 = .ok (.ireturn, 1) := by decide +kernel
set_option maxRecDepth 100000 in
theorem ggX14_isGate_Jx4a65c_size_8abf5 : GoodIn wsX14_isGate wsJx4a65c_size_8abf5 := wk_g rfl wm_X14_isGate 2173 wc_Jx4a65c_size_8abf5 rfl (by decide +kernel) (by decide +kernel) wq_Jx4a65c_size_8abf5
set_option maxRecDepth 100000 in
theorem gX14_isGate_Jx4a65c_size_8abf5 : GoodIn wsX14_isGate (wsV RX14 47 RJx4a65c yJx4a65c_size_8abf5 wsJx4a65c_size_8abf5) := goodIn_app (wk_h rfl wm_X14_isGate [7208, 2171, 2172, 2004] (by decide +kernel) (by decide +kernel) (by decide +kernel)) ggX14_isGate_Jx4a65c_size_8abf5
set_option maxRecDepth 100000 in
theorem ggX14_isGate_X14_is : GoodIn wsX14_isGate wsX14_is := wk_g rfl wm_X14_isGate 7195 wc_X14_is rfl (by decide +kernel) (by decide +kernel) wq_X14_is
set_option maxRecDepth 100000 in
theorem gX14_isGate_X14_is : GoodIn wsX14_isGate (va_wsS RX14 43 yX14_is wsX14_is) := goodIn_app (wk_h rfl wm_X14_isGate [7193, 7194, 2007] (by decide +kernel) (by decide +kernel) (by decide +kernel)) ggX14_isGate_X14_is
theorem dX14_isGate_0 : decode cX14_isGate 0 = .ok (.iload_n 1, 1) := by decide +kernel
theorem dX14_isGate_1 : decode cX14_isGate 1 = .ok (.iconst 0, 1) := by decide +kernel
theorem dX14_isGate_2 : decode cX14_isGate 2 = .ok (.aload_n 0, 1) := by decide +kernel
theorem dX14_isGate_3 : decode cX14_isGate 3 = .ok (.getfield 22, 3) := by decide +kernel
theorem dX14_isGate_6 : decode cX14_isGate 6 = .ok (.invokevirtual 47, 3) := by decide +kernel
theorem dX14_isGate_9 : decode cX14_isGate 9 = .ok (.iconst 1, 1) := by decide +kernel
theorem dX14_isGate_10 : decode cX14_isGate 10 = .ok (.isub, 1) := by decide +kernel
theorem dX14_isGate_11 : decode cX14_isGate 11 = .ok (.invokestatic 43, 3) := by decide +kernel
theorem dX14_isGate_14 : decode cX14_isGate 14 = .ok (.ireturn, 1) := by decide +kernel
set_option maxRecDepth 100000 in
theorem ggX14_isSleeper_Jx4a65c_size_8abf5 : GoodIn wsX14_isSleeper wsJx4a65c_size_8abf5 := wk_g rfl wm_X14_isSleeper 2173 wc_Jx4a65c_size_8abf5 rfl (by decide +kernel) (by decide +kernel) wq_Jx4a65c_size_8abf5
set_option maxRecDepth 100000 in
theorem gX14_isSleeper_Jx4a65c_size_8abf5 : GoodIn wsX14_isSleeper (wsV RX14 47 RJx4a65c yJx4a65c_size_8abf5 wsJx4a65c_size_8abf5) := goodIn_app (wk_h rfl wm_X14_isSleeper [7208, 2171, 2172, 2004] (by decide +kernel) (by decide +kernel) (by decide +kernel)) ggX14_isSleeper_Jx4a65c_size_8abf5
set_option maxRecDepth 100000 in
theorem ggX14_isSleeper_X14_is : GoodIn wsX14_isSleeper wsX14_is := wk_g rfl wm_X14_isSleeper 7195 wc_X14_is rfl (by decide +kernel) (by decide +kernel) wq_X14_is
set_option maxRecDepth 100000 in
theorem gX14_isSleeper_X14_is : GoodIn wsX14_isSleeper (va_wsS RX14 43 yX14_is wsX14_is) := goodIn_app (wk_h rfl wm_X14_isSleeper [7193, 7194, 2007] (by decide +kernel) (by decide +kernel) (by decide +kernel)) ggX14_isSleeper_X14_is
theorem dX14_isSleeper_0 : decode cX14_isSleeper 0 = .ok (.iload_n 1, 1) := by decide +kernel
theorem dX14_isSleeper_1 : decode cX14_isSleeper 1 = .ok (.iconst 0, 1) := by decide +kernel
theorem dX14_isSleeper_2 : decode cX14_isSleeper 2 = .ok (.aload_n 0, 1) := by decide +kernel
theorem dX14_isSleeper_3 : decode cX14_isSleeper 3 = .ok (.getfield 26, 3) := by decide +kernel
theorem dX14_isSleeper_6 : decode cX14_isSleeper 6 = .ok (.invokevirtual 47, 3) := by decide +kernel
theorem dX14_isSleeper_9 : decode cX14_isSleeper 9 = .ok (.iconst 1, 1) := by decide +kernel
theorem dX14_isSleeper_10 : decode cX14_isSleeper 10 = .ok (.isub, 1) := by decide +kernel
theorem dX14_isSleeper_11 : decode cX14_isSleeper 11 = .ok (.invokestatic 43, 3) := by decide +kernel
theorem dX14_isSleeper_14 : decode cX14_isSleeper 14 = .ok (.ireturn, 1) := by decide +kernel
set_option maxRecDepth 100000 in
theorem ggX14_isPart_Jx4a65c_size_8abf5 : GoodIn wsX14_isPart wsJx4a65c_size_8abf5 := wk_g rfl wm_X14_isPart 2173 wc_Jx4a65c_size_8abf5 rfl (by decide +kernel) (by decide +kernel) wq_Jx4a65c_size_8abf5
set_option maxRecDepth 100000 in
theorem gX14_isPart_Jx4a65c_size_8abf5 : GoodIn wsX14_isPart (wsV RX14 47 RJx4a65c yJx4a65c_size_8abf5 wsJx4a65c_size_8abf5) := goodIn_app (wk_h rfl wm_X14_isPart [7208, 2171, 2172, 2004] (by decide +kernel) (by decide +kernel) (by decide +kernel)) ggX14_isPart_Jx4a65c_size_8abf5
set_option maxRecDepth 100000 in
theorem ggX14_isPart_X14_is : GoodIn wsX14_isPart wsX14_is := wk_g rfl wm_X14_isPart 7195 wc_X14_is rfl (by decide +kernel) (by decide +kernel) wq_X14_is
set_option maxRecDepth 100000 in
theorem gX14_isPart_X14_is : GoodIn wsX14_isPart (va_wsS RX14 43 yX14_is wsX14_is) := goodIn_app (wk_h rfl wm_X14_isPart [7193, 7194, 2007] (by decide +kernel) (by decide +kernel) (by decide +kernel)) ggX14_isPart_X14_is
theorem dX14_isPart_0 : decode cX14_isPart 0 = .ok (.iload_n 1, 1) := by decide +kernel
theorem dX14_isPart_1 : decode cX14_isPart 1 = .ok (.iconst 0, 1) := by decide +kernel
theorem dX14_isPart_2 : decode cX14_isPart 2 = .ok (.aload_n 0, 1) := by decide +kernel
theorem dX14_isPart_3 : decode cX14_isPart 3 = .ok (.getfield 29, 3) := by decide +kernel
theorem dX14_isPart_6 : decode cX14_isPart 6 = .ok (.invokevirtual 47, 3) := by decide +kernel
theorem dX14_isPart_9 : decode cX14_isPart 9 = .ok (.iconst 1, 1) := by decide +kernel
theorem dX14_isPart_10 : decode cX14_isPart 10 = .ok (.isub, 1) := by decide +kernel
theorem dX14_isPart_11 : decode cX14_isPart 11 = .ok (.invokestatic 43, 3) := by decide +kernel
theorem dX14_isPart_14 : decode cX14_isPart 14 = .ok (.ireturn, 1) := by decide +kernel
set_option maxRecDepth 100000 in
theorem ggX14_land_X14_isLand : GoodIn wsX14_land wsX14_isLand := wk_g rfl wm_X14_land 7192 wc_X14_isLand rfl (by decide +kernel) (by decide +kernel) wq_X14_isLand
set_option maxRecDepth 100000 in
theorem gX14_land_X14_isLand : GoodIn wsX14_land (wsV RX14 51 RX14 yX14_isLand wsX14_isLand) := goodIn_app (wk_h rfl wm_X14_land [7189, 7191, 1045, 2007] (by decide +kernel) (by decide +kernel) (by decide +kernel)) ggX14_land_X14_isLand
set_option maxRecDepth 100000 in
theorem ggX14_land_X14_refuse : GoodIn wsX14_land wsX14_refuse := wk_g rfl wm_X14_land 7199 wc_X14_refuse rfl (by decide +kernel) (by decide +kernel) wq_X14_refuse
set_option maxRecDepth 100000 in
theorem gX14_land_X14_refuse : GoodIn wsX14_land (wsV RX14 55 RX14 yX14_refuse wsX14_refuse) := goodIn_app (wk_h rfl wm_X14_land [7196, 7198, 1046, 2007] (by decide +kernel) (by decide +kernel) (by decide +kernel)) ggX14_land_X14_refuse
set_option maxRecDepth 100000 in
theorem ggX14_land_X14_is : GoodIn wsX14_land wsX14_is := wk_g rfl wm_X14_land 7195 wc_X14_is rfl (by decide +kernel) (by decide +kernel) wq_X14_is
set_option maxRecDepth 100000 in
theorem gX14_land_X14_is : GoodIn wsX14_land (va_wsS RX14 43 yX14_is wsX14_is) := goodIn_app (wk_h rfl wm_X14_land [7193, 7194, 2007] (by decide +kernel) (by decide +kernel) (by decide +kernel)) ggX14_land_X14_is
theorem dX14_land_0 : decode cX14_land 0 = .ok (.aload_n 0, 1) := by decide +kernel
theorem dX14_land_1 : decode cX14_land 1 = .ok (.iconst 0, 1) := by decide +kernel
theorem dX14_land_2 : decode cX14_land 2 = .ok (.putfield 40, 3) := by decide +kernel
theorem dX14_land_5 : decode cX14_land 5 = .ok (.aload_n 0, 1) := by decide +kernel
theorem dX14_land_6 : decode cX14_land 6 = .ok (.iload_n 1, 1) := by decide +kernel
theorem dX14_land_7 : decode cX14_land 7 = .ok (.invokevirtual 51, 3) := by decide +kernel
theorem dX14_land_10 : decode cX14_land 10 = .ok (.ifCond .ne 9, 3) := by decide +kernel
theorem dX14_land_13 : decode cX14_land 13 = .ok (.aload_n 0, 1) := by decide +kernel
theorem dX14_land_14 : decode cX14_land 14 = .ok (.iconst 1, 1) := by decide +kernel
theorem dX14_land_15 : decode cX14_land 15 = .ok (.invokevirtual 55, 3) := by decide +kernel
theorem dX14_land_18 : decode cX14_land 18 = .ok (.ireturn, 1) := by decide +kernel
theorem dX14_land_19 : decode cX14_land 19 = .ok (.iload_n 2, 1) := by decide +kernel
theorem dX14_land_20 : decode cX14_land 20 = .ok (.iconst 0, 1) := by decide +kernel
theorem dX14_land_21 : decode cX14_land 21 = .ok (.bipush 50, 2) := by decide +kernel
theorem dX14_land_23 : decode cX14_land 23 = .ok (.invokestatic 43, 3) := by decide +kernel
theorem dX14_land_26 : decode cX14_land 26 = .ok (.ifCond .eq 13, 3) := by decide +kernel
theorem dX14_land_29 : decode cX14_land 29 = .ok (.iload_n 3, 1) := by decide +kernel
theorem dX14_land_30 : decode cX14_land 30 = .ok (.iconst 0, 1) := by decide +kernel
theorem dX14_land_31 : decode cX14_land 31 = .ok (.bipush 99, 2) := by decide +kernel
theorem dX14_land_33 : decode cX14_land 33 = .ok (.invokestatic 43, 3) := by decide +kernel
theorem dX14_land_36 : decode cX14_land 36 = .ok (.ifCond .ne 9, 3) := by decide +kernel
theorem dX14_land_39 : decode cX14_land 39 = .ok (.aload_n 0, 1) := by decide +kernel
theorem dX14_land_40 : decode cX14_land 40 = .ok (.iconst 2, 1) := by decide +kernel
theorem dX14_land_41 : decode cX14_land 41 = .ok (.invokevirtual 55, 3) := by decide +kernel
theorem dX14_land_44 : decode cX14_land 44 = .ok (.ireturn, 1) := by decide +kernel
theorem dX14_land_45 : decode cX14_land 45 = .ok (.aload_n 0, 1) := by decide +kernel
theorem dX14_land_46 : decode cX14_land 46 = .ok (.getfield 15, 3) := by decide +kernel
theorem dX14_land_49 : decode cX14_land 49 = .ok (.iload_n 1, 1) := by decide +kernel
theorem dX14_land_50 : decode cX14_land 50 = .ok (.aaload, 1) := by decide +kernel
theorem dX14_land_51 : decode cX14_land 51 = .ok (.getfield 59, 3) := by decide +kernel
theorem dX14_land_54 : decode cX14_land 54 = .ok (.istore 4, 2) := by decide +kernel
theorem dX14_land_56 : decode cX14_land 56 = .ok (.aload_n 0, 1) := by decide +kernel
theorem dX14_land_57 : decode cX14_land 57 = .ok (.getfield 15, 3) := by decide +kernel
theorem dX14_land_60 : decode cX14_land 60 = .ok (.iload_n 1, 1) := by decide +kernel
theorem dX14_land_61 : decode cX14_land 61 = .ok (.aaload, 1) := by decide +kernel
theorem dX14_land_62 : decode cX14_land 62 = .ok (.iload_n 2, 1) := by decide +kernel
theorem dX14_land_63 : decode cX14_land 63 = .ok (.putfield 59, 3) := by decide +kernel
theorem dX14_land_66 : decode cX14_land 66 = .ok (.aload_n 0, 1) := by decide +kernel
theorem dX14_land_67 : decode cX14_land 67 = .ok (.getfield 15, 3) := by decide +kernel
theorem dX14_land_70 : decode cX14_land 70 = .ok (.iload_n 1, 1) := by decide +kernel
theorem dX14_land_71 : decode cX14_land 71 = .ok (.aaload, 1) := by decide +kernel
theorem dX14_land_72 : decode cX14_land 72 = .ok (.iload_n 3, 1) := by decide +kernel
theorem dX14_land_73 : decode cX14_land 73 = .ok (.putfield 62, 3) := by decide +kernel
theorem dX14_land_76 : decode cX14_land 76 = .ok (.iload 4, 2) := by decide +kernel
theorem dX14_land_78 : decode cX14_land 78 = .ok (.ireturn, 1) := by decide +kernel
set_option maxRecDepth 100000 in
theorem ggX14_trade_X14_isLand : GoodIn wsX14_trade wsX14_isLand := wk_g rfl wm_X14_trade 7192 wc_X14_isLand rfl (by decide +kernel) (by decide +kernel) wq_X14_isLand
set_option maxRecDepth 100000 in
theorem gX14_trade_X14_isLand : GoodIn wsX14_trade (wsV RX14 51 RX14 yX14_isLand wsX14_isLand) := goodIn_app (wk_h rfl wm_X14_trade [7189, 7191, 1045, 2007] (by decide +kernel) (by decide +kernel) (by decide +kernel)) ggX14_trade_X14_isLand
set_option maxRecDepth 100000 in
theorem ggX14_trade_X14_refuse : GoodIn wsX14_trade wsX14_refuse := wk_g rfl wm_X14_trade 7199 wc_X14_refuse rfl (by decide +kernel) (by decide +kernel) wq_X14_refuse
set_option maxRecDepth 100000 in
theorem gX14_trade_X14_refuse : GoodIn wsX14_trade (wsV RX14 55 RX14 yX14_refuse wsX14_refuse) := goodIn_app (wk_h rfl wm_X14_trade [7196, 7198, 1046, 2007] (by decide +kernel) (by decide +kernel) (by decide +kernel)) ggX14_trade_X14_refuse
theorem dX14_trade_0 : decode cX14_trade 0 = .ok (.aload_n 0, 1) := by decide +kernel
theorem dX14_trade_1 : decode cX14_trade 1 = .ok (.iconst 0, 1) := by decide +kernel
theorem dX14_trade_2 : decode cX14_trade 2 = .ok (.putfield 40, 3) := by decide +kernel
theorem dX14_trade_5 : decode cX14_trade 5 = .ok (.aload_n 0, 1) := by decide +kernel
theorem dX14_trade_6 : decode cX14_trade 6 = .ok (.iload_n 1, 1) := by decide +kernel
theorem dX14_trade_7 : decode cX14_trade 7 = .ok (.invokevirtual 51, 3) := by decide +kernel
theorem dX14_trade_10 : decode cX14_trade 10 = .ok (.ifCond .eq 11, 3) := by decide +kernel
theorem dX14_trade_13 : decode cX14_trade 13 = .ok (.aload_n 0, 1) := by decide +kernel
theorem dX14_trade_14 : decode cX14_trade 14 = .ok (.iload_n 2, 1) := by decide +kernel
theorem dX14_trade_15 : decode cX14_trade 15 = .ok (.invokevirtual 51, 3) := by decide +kernel
theorem dX14_trade_18 : decode cX14_trade 18 = .ok (.ifCond .ne 9, 3) := by decide +kernel
theorem dX14_trade_21 : decode cX14_trade 21 = .ok (.aload_n 0, 1) := by decide +kernel
theorem dX14_trade_22 : decode cX14_trade 22 = .ok (.iconst 1, 1) := by decide +kernel
theorem dX14_trade_23 : decode cX14_trade 23 = .ok (.invokevirtual 55, 3) := by decide +kernel
theorem dX14_trade_26 : decode cX14_trade 26 = .ok (.ireturn, 1) := by decide +kernel
theorem dX14_trade_27 : decode cX14_trade 27 = .ok (.iload_n 1, 1) := by decide +kernel
theorem dX14_trade_28 : decode cX14_trade 28 = .ok (.iload_n 2, 1) := by decide +kernel
theorem dX14_trade_29 : decode cX14_trade 29 = .ok (.if_icmp .eq 7, 3) := by decide +kernel
theorem dX14_trade_32 : decode cX14_trade 32 = .ok (.iload_n 3, 1) := by decide +kernel
theorem dX14_trade_33 : decode cX14_trade 33 = .ok (.ifCond .ge 9, 3) := by decide +kernel
theorem dX14_trade_36 : decode cX14_trade 36 = .ok (.aload_n 0, 1) := by decide +kernel
theorem dX14_trade_37 : decode cX14_trade 37 = .ok (.iconst 2, 1) := by decide +kernel
theorem dX14_trade_38 : decode cX14_trade 38 = .ok (.invokevirtual 55, 3) := by decide +kernel
theorem dX14_trade_41 : decode cX14_trade 41 = .ok (.ireturn, 1) := by decide +kernel
theorem dX14_trade_42 : decode cX14_trade 42 = .ok (.aload_n 0, 1) := by decide +kernel
theorem dX14_trade_43 : decode cX14_trade 43 = .ok (.getfield 15, 3) := by decide +kernel
theorem dX14_trade_46 : decode cX14_trade 46 = .ok (.iload_n 1, 1) := by decide +kernel
theorem dX14_trade_47 : decode cX14_trade 47 = .ok (.aaload, 1) := by decide +kernel
theorem dX14_trade_48 : decode cX14_trade 48 = .ok (.getfield 65, 3) := by decide +kernel
theorem dX14_trade_51 : decode cX14_trade 51 = .ok (.iload_n 3, 1) := by decide +kernel
theorem dX14_trade_52 : decode cX14_trade 52 = .ok (.if_icmp .lt 19, 3) := by decide +kernel
theorem dX14_trade_55 : decode cX14_trade 55 = .ok (.aload_n 0, 1) := by decide +kernel
theorem dX14_trade_56 : decode cX14_trade 56 = .ok (.getfield 15, 3) := by decide +kernel
theorem dX14_trade_59 : decode cX14_trade 59 = .ok (.iload_n 2, 1) := by decide +kernel
theorem dX14_trade_60 : decode cX14_trade 60 = .ok (.aaload, 1) := by decide +kernel
theorem dX14_trade_61 : decode cX14_trade 61 = .ok (.getfield 65, 3) := by decide +kernel
theorem dX14_trade_64 : decode cX14_trade 64 = .ok (.iload_n 3, 1) := by decide +kernel
theorem dX14_trade_65 : decode cX14_trade 65 = .ok (.iadd, 1) := by decide +kernel
theorem dX14_trade_66 : decode cX14_trade 66 = .ok (.bipush 30, 2) := by decide +kernel
theorem dX14_trade_68 : decode cX14_trade 68 = .ok (.if_icmp .le 9, 3) := by decide +kernel
theorem dX14_trade_71 : decode cX14_trade 71 = .ok (.aload_n 0, 1) := by decide +kernel
theorem dX14_trade_72 : decode cX14_trade 72 = .ok (.iconst 3, 1) := by decide +kernel
theorem dX14_trade_73 : decode cX14_trade 73 = .ok (.invokevirtual 55, 3) := by decide +kernel
theorem dX14_trade_76 : decode cX14_trade 76 = .ok (.ireturn, 1) := by decide +kernel
theorem dX14_trade_77 : decode cX14_trade 77 = .ok (.aload_n 0, 1) := by decide +kernel
theorem dX14_trade_78 : decode cX14_trade 78 = .ok (.getfield 15, 3) := by decide +kernel
theorem dX14_trade_81 : decode cX14_trade 81 = .ok (.iload_n 1, 1) := by decide +kernel
theorem dX14_trade_82 : decode cX14_trade 82 = .ok (.aaload, 1) := by decide +kernel
theorem dX14_trade_83 : decode cX14_trade 83 = .ok (.dup, 1) := by decide +kernel
theorem dX14_trade_84 : decode cX14_trade 84 = .ok (.getfield 65, 3) := by decide +kernel
theorem dX14_trade_87 : decode cX14_trade 87 = .ok (.iload_n 3, 1) := by decide +kernel
theorem dX14_trade_88 : decode cX14_trade 88 = .ok (.isub, 1) := by decide +kernel
theorem dX14_trade_89 : decode cX14_trade 89 = .ok (.putfield 65, 3) := by decide +kernel
theorem dX14_trade_92 : decode cX14_trade 92 = .ok (.aload_n 0, 1) := by decide +kernel
theorem dX14_trade_93 : decode cX14_trade 93 = .ok (.getfield 15, 3) := by decide +kernel
theorem dX14_trade_96 : decode cX14_trade 96 = .ok (.iload_n 2, 1) := by decide +kernel
theorem dX14_trade_97 : decode cX14_trade 97 = .ok (.aaload, 1) := by decide +kernel
theorem dX14_trade_98 : decode cX14_trade 98 = .ok (.dup, 1) := by decide +kernel
theorem dX14_trade_99 : decode cX14_trade 99 = .ok (.getfield 65, 3) := by decide +kernel
theorem dX14_trade_102 : decode cX14_trade 102 = .ok (.iload_n 3, 1) := by decide +kernel
theorem dX14_trade_103 : decode cX14_trade 103 = .ok (.iadd, 1) := by decide +kernel
theorem dX14_trade_104 : decode cX14_trade 104 = .ok (.putfield 65, 3) := by decide +kernel
theorem dX14_trade_107 : decode cX14_trade 107 = .ok (.aload_n 0, 1) := by decide +kernel
theorem dX14_trade_108 : decode cX14_trade 108 = .ok (.getfield 15, 3) := by decide +kernel
theorem dX14_trade_111 : decode cX14_trade 111 = .ok (.iload_n 2, 1) := by decide +kernel
theorem dX14_trade_112 : decode cX14_trade 112 = .ok (.aaload, 1) := by decide +kernel
theorem dX14_trade_113 : decode cX14_trade 113 = .ok (.getfield 65, 3) := by decide +kernel
theorem dX14_trade_116 : decode cX14_trade 116 = .ok (.ireturn, 1) := by decide +kernel
set_option maxRecDepth 100000 in
theorem ggX14_gate_X14_isLand : GoodIn wsX14_gate wsX14_isLand := wk_g rfl wm_X14_gate 7192 wc_X14_isLand rfl (by decide +kernel) (by decide +kernel) wq_X14_isLand
set_option maxRecDepth 100000 in
theorem gX14_gate_X14_isLand : GoodIn wsX14_gate (wsV RX14 51 RX14 yX14_isLand wsX14_isLand) := goodIn_app (wk_h rfl wm_X14_gate [7189, 7191, 1045, 2007] (by decide +kernel) (by decide +kernel) (by decide +kernel)) ggX14_gate_X14_isLand
set_option maxRecDepth 100000 in
theorem ggX14_gate_X14_refuse : GoodIn wsX14_gate wsX14_refuse := wk_g rfl wm_X14_gate 7199 wc_X14_refuse rfl (by decide +kernel) (by decide +kernel) wq_X14_refuse
set_option maxRecDepth 100000 in
theorem gX14_gate_X14_refuse : GoodIn wsX14_gate (wsV RX14 55 RX14 yX14_refuse wsX14_refuse) := goodIn_app (wk_h rfl wm_X14_gate [7196, 7198, 1046, 2007] (by decide +kernel) (by decide +kernel) (by decide +kernel)) ggX14_gate_X14_refuse
set_option maxRecDepth 100000 in
theorem ggX14_gate_X14_is : GoodIn wsX14_gate wsX14_is := wk_g rfl wm_X14_gate 7195 wc_X14_is rfl (by decide +kernel) (by decide +kernel) wq_X14_is
set_option maxRecDepth 100000 in
theorem gX14_gate_X14_is : GoodIn wsX14_gate (va_wsS RX14 43 yX14_is wsX14_is) := goodIn_app (wk_h rfl wm_X14_gate [7193, 7194, 2007] (by decide +kernel) (by decide +kernel) (by decide +kernel)) ggX14_gate_X14_is
set_option maxRecDepth 100000 in
theorem ggX14_gate_Jx4a65c_size_8abf5 : GoodIn wsX14_gate wsJx4a65c_size_8abf5 := wk_g rfl wm_X14_gate 2173 wc_Jx4a65c_size_8abf5 rfl (by decide +kernel) (by decide +kernel) wq_Jx4a65c_size_8abf5
set_option maxRecDepth 100000 in
theorem gX14_gate_Jx4a65c_size_8abf5 : GoodIn wsX14_gate (wsV RX14 47 RJx4a65c yJx4a65c_size_8abf5 wsJx4a65c_size_8abf5) := goodIn_app (wk_h rfl wm_X14_gate [7208, 2171, 2172, 2004] (by decide +kernel) (by decide +kernel) (by decide +kernel)) ggX14_gate_Jx4a65c_size_8abf5
set_option maxRecDepth 100000 in
theorem ggX14_gate_X10_init : GoodIn wsX14_gate wsX10_init := wk_g rfl wm_X14_gate 7213 wc_X10_init rfl (by decide +kernel) (by decide +kernel) wq_X10_init
set_option maxRecDepth 100000 in
theorem gX14_gate_X10_init_n70 : GoodIn wsX14_gate (wsX10_init) := ggX14_gate_X10_init
set_option maxRecDepth 100000 in
theorem ggX14_gate_Jx4a65c_add_9ea2d : GoodIn wsX14_gate wsJx4a65c_add_9ea2d := wk_g rfl wm_X14_gate 4160 wc_Jx4a65c_add_9ea2d rfl (by decide +kernel) (by decide +kernel) wq_Jx4a65c_add_9ea2d
set_option maxRecDepth 100000 in
theorem gX14_gate_Jx4a65c_add_9ea2d : GoodIn wsX14_gate (wsV RX14 83 RJx4a65c yJx4a65c_add_9ea2d wsJx4a65c_add_9ea2d) := goodIn_app (wk_h rfl wm_X14_gate [8010, 4158, 4159, 2004] (by decide +kernel) (by decide +kernel) (by decide +kernel)) ggX14_gate_Jx4a65c_add_9ea2d
theorem dX14_gate_0 : decode cX14_gate 0 = .ok (.aload_n 0, 1) := by decide +kernel
theorem dX14_gate_1 : decode cX14_gate 1 = .ok (.iconst 0, 1) := by decide +kernel
theorem dX14_gate_2 : decode cX14_gate 2 = .ok (.putfield 40, 3) := by decide +kernel
theorem dX14_gate_5 : decode cX14_gate 5 = .ok (.aload_n 0, 1) := by decide +kernel
theorem dX14_gate_6 : decode cX14_gate 6 = .ok (.iload_n 1, 1) := by decide +kernel
theorem dX14_gate_7 : decode cX14_gate 7 = .ok (.invokevirtual 51, 3) := by decide +kernel
theorem dX14_gate_10 : decode cX14_gate 10 = .ok (.ifCond .eq 11, 3) := by decide +kernel
theorem dX14_gate_13 : decode cX14_gate 13 = .ok (.aload_n 0, 1) := by decide +kernel
theorem dX14_gate_14 : decode cX14_gate 14 = .ok (.iload_n 2, 1) := by decide +kernel
theorem dX14_gate_15 : decode cX14_gate 15 = .ok (.invokevirtual 51, 3) := by decide +kernel
theorem dX14_gate_18 : decode cX14_gate 18 = .ok (.ifCond .ne 9, 3) := by decide +kernel
theorem dX14_gate_21 : decode cX14_gate 21 = .ok (.aload_n 0, 1) := by decide +kernel
theorem dX14_gate_22 : decode cX14_gate 22 = .ok (.iconst 1, 1) := by decide +kernel
theorem dX14_gate_23 : decode cX14_gate 23 = .ok (.invokevirtual 55, 3) := by decide +kernel
theorem dX14_gate_26 : decode cX14_gate 26 = .ok (.ireturn, 1) := by decide +kernel
theorem dX14_gate_27 : decode cX14_gate 27 = .ok (.iload_n 1, 1) := by decide +kernel
theorem dX14_gate_28 : decode cX14_gate 28 = .ok (.iload_n 2, 1) := by decide +kernel
theorem dX14_gate_29 : decode cX14_gate 29 = .ok (.if_icmp .eq 24, 3) := by decide +kernel
theorem dX14_gate_32 : decode cX14_gate 32 = .ok (.iload_n 3, 1) := by decide +kernel
theorem dX14_gate_33 : decode cX14_gate 33 = .ok (.iconst 0, 1) := by decide +kernel
theorem dX14_gate_34 : decode cX14_gate 34 = .ok (.bipush 23, 2) := by decide +kernel
theorem dX14_gate_36 : decode cX14_gate 36 = .ok (.invokestatic 43, 3) := by decide +kernel
theorem dX14_gate_39 : decode cX14_gate 39 = .ok (.ifCond .eq 14, 3) := by decide +kernel
theorem dX14_gate_42 : decode cX14_gate 42 = .ok (.iload 4, 2) := by decide +kernel
theorem dX14_gate_44 : decode cX14_gate 44 = .ok (.iconst 1, 1) := by decide +kernel
theorem dX14_gate_45 : decode cX14_gate 45 = .ok (.bipush 24, 2) := by decide +kernel
theorem dX14_gate_47 : decode cX14_gate 47 = .ok (.invokestatic 43, 3) := by decide +kernel
theorem dX14_gate_50 : decode cX14_gate 50 = .ok (.ifCond .ne 9, 3) := by decide +kernel
theorem dX14_gate_53 : decode cX14_gate 53 = .ok (.aload_n 0, 1) := by decide +kernel
theorem dX14_gate_54 : decode cX14_gate 54 = .ok (.iconst 2, 1) := by decide +kernel
theorem dX14_gate_55 : decode cX14_gate 55 = .ok (.invokevirtual 55, 3) := by decide +kernel
theorem dX14_gate_58 : decode cX14_gate 58 = .ok (.ireturn, 1) := by decide +kernel
theorem dX14_gate_59 : decode cX14_gate 59 = .ok (.aload_n 0, 1) := by decide +kernel
theorem dX14_gate_60 : decode cX14_gate 60 = .ok (.getfield 22, 3) := by decide +kernel
theorem dX14_gate_63 : decode cX14_gate 63 = .ok (.invokevirtual 47, 3) := by decide +kernel
theorem dX14_gate_66 : decode cX14_gate 66 = .ok (.bipush 8, 2) := by decide +kernel
theorem dX14_gate_68 : decode cX14_gate 68 = .ok (.if_icmp .ne 9, 3) := by decide +kernel
theorem dX14_gate_71 : decode cX14_gate 71 = .ok (.aload_n 0, 1) := by decide +kernel
theorem dX14_gate_72 : decode cX14_gate 72 = .ok (.iconst 3, 1) := by decide +kernel
theorem dX14_gate_73 : decode cX14_gate 73 = .ok (.invokevirtual 55, 3) := by decide +kernel
theorem dX14_gate_76 : decode cX14_gate 76 = .ok (.ireturn, 1) := by decide +kernel
theorem dX14_gate_77 : decode cX14_gate 77 = .ok (.new 68, 3) := by decide +kernel
theorem dX14_gate_80 : decode cX14_gate 80 = .ok (.dup, 1) := by decide +kernel
theorem dX14_gate_81 : decode cX14_gate 81 = .ok (.invokespecial 70, 3) := by decide +kernel
theorem dX14_gate_84 : decode cX14_gate 84 = .ok (.astore 5, 2) := by decide +kernel
theorem dX14_gate_86 : decode cX14_gate 86 = .ok (.aload 5, 2) := by decide +kernel
theorem dX14_gate_88 : decode cX14_gate 88 = .ok (.iload_n 1, 1) := by decide +kernel
theorem dX14_gate_89 : decode cX14_gate 89 = .ok (.putfield 71, 3) := by decide +kernel
theorem dX14_gate_92 : decode cX14_gate 92 = .ok (.aload 5, 2) := by decide +kernel
theorem dX14_gate_94 : decode cX14_gate 94 = .ok (.iload_n 2, 1) := by decide +kernel
theorem dX14_gate_95 : decode cX14_gate 95 = .ok (.putfield 74, 3) := by decide +kernel
theorem dX14_gate_98 : decode cX14_gate 98 = .ok (.aload 5, 2) := by decide +kernel
theorem dX14_gate_100 : decode cX14_gate 100 = .ok (.iload_n 3, 1) := by decide +kernel
theorem dX14_gate_101 : decode cX14_gate 101 = .ok (.putfield 77, 3) := by decide +kernel
theorem dX14_gate_104 : decode cX14_gate 104 = .ok (.aload 5, 2) := by decide +kernel
theorem dX14_gate_106 : decode cX14_gate 106 = .ok (.iload 4, 2) := by decide +kernel
theorem dX14_gate_108 : decode cX14_gate 108 = .ok (.putfield 80, 3) := by decide +kernel
theorem dX14_gate_111 : decode cX14_gate 111 = .ok (.aload_n 0, 1) := by decide +kernel
theorem dX14_gate_112 : decode cX14_gate 112 = .ok (.getfield 22, 3) := by decide +kernel
theorem dX14_gate_115 : decode cX14_gate 115 = .ok (.aload 5, 2) := by decide +kernel
theorem dX14_gate_117 : decode cX14_gate 117 = .ok (.invokevirtual 83, 3) := by decide +kernel
theorem dX14_gate_120 : decode cX14_gate 120 = .ok (.pop, 1) := by decide +kernel
theorem dX14_gate_121 : decode cX14_gate 121 = .ok (.aload_n 0, 1) := by decide +kernel
theorem dX14_gate_122 : decode cX14_gate 122 = .ok (.getfield 22, 3) := by decide +kernel
theorem dX14_gate_125 : decode cX14_gate 125 = .ok (.invokevirtual 47, 3) := by decide +kernel
theorem dX14_gate_128 : decode cX14_gate 128 = .ok (.iconst 1, 1) := by decide +kernel
theorem dX14_gate_129 : decode cX14_gate 129 = .ok (.isub, 1) := by decide +kernel
theorem dX14_gate_130 : decode cX14_gate 130 = .ok (.ireturn, 1) := by decide +kernel
set_option maxRecDepth 100000 in
theorem ggX14_odds_X14_isGate : GoodIn wsX14_odds wsX14_isGate := wk_g rfl wm_X14_odds 8018 wc_X14_isGate rfl (by decide +kernel) (by decide +kernel) wq_X14_isGate
set_option maxRecDepth 100000 in
theorem gX14_odds_X14_isGate : GoodIn wsX14_odds (wsV RX14 87 RX14 yX14_isGate wsX14_isGate) := goodIn_app (wk_h rfl wm_X14_odds [8015, 8017, 1047, 2007] (by decide +kernel) (by decide +kernel) (by decide +kernel)) ggX14_odds_X14_isGate
set_option maxRecDepth 100000 in
theorem ggX14_odds_X14_refuse : GoodIn wsX14_odds wsX14_refuse := wk_g rfl wm_X14_odds 7199 wc_X14_refuse rfl (by decide +kernel) (by decide +kernel) wq_X14_refuse
set_option maxRecDepth 100000 in
theorem gX14_odds_X14_refuse : GoodIn wsX14_odds (wsV RX14 55 RX14 yX14_refuse wsX14_refuse) := goodIn_app (wk_h rfl wm_X14_odds [7196, 7198, 1046, 2007] (by decide +kernel) (by decide +kernel) (by decide +kernel)) ggX14_odds_X14_refuse
set_option maxRecDepth 100000 in
theorem ggX14_odds_X14_is : GoodIn wsX14_odds wsX14_is := wk_g rfl wm_X14_odds 7195 wc_X14_is rfl (by decide +kernel) (by decide +kernel) wq_X14_is
set_option maxRecDepth 100000 in
theorem gX14_odds_X14_is : GoodIn wsX14_odds (va_wsS RX14 43 yX14_is wsX14_is) := goodIn_app (wk_h rfl wm_X14_odds [7193, 7194, 2007] (by decide +kernel) (by decide +kernel) (by decide +kernel)) ggX14_odds_X14_is
set_option maxRecDepth 100000 in
theorem ggX14_odds_Jx4a65c_get_915e3 : GoodIn wsX14_odds wsJx4a65c_get_915e3 := wk_g rfl wm_X14_odds 2177 wc_Jx4a65c_get_915e3 rfl (by decide +kernel) (by decide +kernel) wq_Jx4a65c_get_915e3
set_option maxRecDepth 100000 in
theorem gX14_odds_Jx4a65c_get_915e3 : GoodIn wsX14_odds (wsV RX14 90 RJx4a65c yJx4a65c_get_915e3 wsJx4a65c_get_915e3) := goodIn_app (wk_h rfl wm_X14_odds [8019, 2175, 2176, 2004] (by decide +kernel) (by decide +kernel) (by decide +kernel)) ggX14_odds_Jx4a65c_get_915e3
theorem dX14_odds_0 : decode cX14_odds 0 = .ok (.aload_n 0, 1) := by decide +kernel
theorem dX14_odds_1 : decode cX14_odds 1 = .ok (.iconst 0, 1) := by decide +kernel
theorem dX14_odds_2 : decode cX14_odds 2 = .ok (.putfield 40, 3) := by decide +kernel
theorem dX14_odds_5 : decode cX14_odds 5 = .ok (.aload_n 0, 1) := by decide +kernel
theorem dX14_odds_6 : decode cX14_odds 6 = .ok (.iload_n 1, 1) := by decide +kernel
theorem dX14_odds_7 : decode cX14_odds 7 = .ok (.invokevirtual 87, 3) := by decide +kernel
theorem dX14_odds_10 : decode cX14_odds 10 = .ok (.ifCond .ne 9, 3) := by decide +kernel
theorem dX14_odds_13 : decode cX14_odds 13 = .ok (.aload_n 0, 1) := by decide +kernel
theorem dX14_odds_14 : decode cX14_odds 14 = .ok (.iconst 1, 1) := by decide +kernel
theorem dX14_odds_15 : decode cX14_odds 15 = .ok (.invokevirtual 55, 3) := by decide +kernel
theorem dX14_odds_18 : decode cX14_odds 18 = .ok (.ireturn, 1) := by decide +kernel
theorem dX14_odds_19 : decode cX14_odds 19 = .ok (.iload_n 2, 1) := by decide +kernel
theorem dX14_odds_20 : decode cX14_odds 20 = .ok (.iconst 0, 1) := by decide +kernel
theorem dX14_odds_21 : decode cX14_odds 21 = .ok (.bipush 10, 2) := by decide +kernel
theorem dX14_odds_23 : decode cX14_odds 23 = .ok (.invokestatic 43, 3) := by decide +kernel
theorem dX14_odds_26 : decode cX14_odds 26 = .ok (.ifCond .ne 9, 3) := by decide +kernel
theorem dX14_odds_29 : decode cX14_odds 29 = .ok (.aload_n 0, 1) := by decide +kernel
theorem dX14_odds_30 : decode cX14_odds 30 = .ok (.iconst 2, 1) := by decide +kernel
theorem dX14_odds_31 : decode cX14_odds 31 = .ok (.invokevirtual 55, 3) := by decide +kernel
theorem dX14_odds_34 : decode cX14_odds 34 = .ok (.ireturn, 1) := by decide +kernel
theorem dX14_odds_35 : decode cX14_odds 35 = .ok (.aload_n 0, 1) := by decide +kernel
theorem dX14_odds_36 : decode cX14_odds 36 = .ok (.getfield 22, 3) := by decide +kernel
theorem dX14_odds_39 : decode cX14_odds 39 = .ok (.iload_n 1, 1) := by decide +kernel
theorem dX14_odds_40 : decode cX14_odds 40 = .ok (.invokevirtual 90, 3) := by decide +kernel
theorem dX14_odds_43 : decode cX14_odds 43 = .ok (.checkcast 68, 3) := by decide +kernel
theorem dX14_odds_46 : decode cX14_odds 46 = .ok (.getfield 94, 3) := by decide +kernel
theorem dX14_odds_49 : decode cX14_odds 49 = .ok (.istore_n 3, 1) := by decide +kernel
theorem dX14_odds_50 : decode cX14_odds 50 = .ok (.aload_n 0, 1) := by decide +kernel
theorem dX14_odds_51 : decode cX14_odds 51 = .ok (.getfield 22, 3) := by decide +kernel
theorem dX14_odds_54 : decode cX14_odds 54 = .ok (.iload_n 1, 1) := by decide +kernel
theorem dX14_odds_55 : decode cX14_odds 55 = .ok (.invokevirtual 90, 3) := by decide +kernel
theorem dX14_odds_58 : decode cX14_odds 58 = .ok (.checkcast 68, 3) := by decide +kernel
theorem dX14_odds_61 : decode cX14_odds 61 = .ok (.iload_n 2, 1) := by decide +kernel
theorem dX14_odds_62 : decode cX14_odds 62 = .ok (.putfield 94, 3) := by decide +kernel
theorem dX14_odds_65 : decode cX14_odds 65 = .ok (.iload_n 3, 1) := by decide +kernel
theorem dX14_odds_66 : decode cX14_odds 66 = .ok (.ireturn, 1) := by decide +kernel
set_option maxRecDepth 100000 in
theorem ggX14_relieve_X14_isGate : GoodIn wsX14_relieve wsX14_isGate := wk_g rfl wm_X14_relieve 8018 wc_X14_isGate rfl (by decide +kernel) (by decide +kernel) wq_X14_isGate
set_option maxRecDepth 100000 in
theorem gX14_relieve_X14_isGate : GoodIn wsX14_relieve (wsV RX14 87 RX14 yX14_isGate wsX14_isGate) := goodIn_app (wk_h rfl wm_X14_relieve [8015, 8017, 1047, 2007] (by decide +kernel) (by decide +kernel) (by decide +kernel)) ggX14_relieve_X14_isGate
set_option maxRecDepth 100000 in
theorem ggX14_relieve_X14_refuse : GoodIn wsX14_relieve wsX14_refuse := wk_g rfl wm_X14_relieve 7199 wc_X14_refuse rfl (by decide +kernel) (by decide +kernel) wq_X14_refuse
set_option maxRecDepth 100000 in
theorem gX14_relieve_X14_refuse : GoodIn wsX14_relieve (wsV RX14 55 RX14 yX14_refuse wsX14_refuse) := goodIn_app (wk_h rfl wm_X14_relieve [7196, 7198, 1046, 2007] (by decide +kernel) (by decide +kernel) (by decide +kernel)) ggX14_relieve_X14_refuse
set_option maxRecDepth 100000 in
theorem ggX14_relieve_Jx4a65c_get_915e3 : GoodIn wsX14_relieve wsJx4a65c_get_915e3 := wk_g rfl wm_X14_relieve 2177 wc_Jx4a65c_get_915e3 rfl (by decide +kernel) (by decide +kernel) wq_Jx4a65c_get_915e3
set_option maxRecDepth 100000 in
theorem gX14_relieve_Jx4a65c_get_915e3 : GoodIn wsX14_relieve (wsV RX14 90 RJx4a65c yJx4a65c_get_915e3 wsJx4a65c_get_915e3) := goodIn_app (wk_h rfl wm_X14_relieve [8019, 2175, 2176, 2004] (by decide +kernel) (by decide +kernel) (by decide +kernel)) ggX14_relieve_Jx4a65c_get_915e3
theorem dX14_relieve_0 : decode cX14_relieve 0 = .ok (.aload_n 0, 1) := by decide +kernel
theorem dX14_relieve_1 : decode cX14_relieve 1 = .ok (.iconst 0, 1) := by decide +kernel
theorem dX14_relieve_2 : decode cX14_relieve 2 = .ok (.putfield 40, 3) := by decide +kernel
theorem dX14_relieve_5 : decode cX14_relieve 5 = .ok (.aload_n 0, 1) := by decide +kernel
theorem dX14_relieve_6 : decode cX14_relieve 6 = .ok (.iload_n 1, 1) := by decide +kernel
theorem dX14_relieve_7 : decode cX14_relieve 7 = .ok (.invokevirtual 87, 3) := by decide +kernel
theorem dX14_relieve_10 : decode cX14_relieve 10 = .ok (.ifCond .ne 9, 3) := by decide +kernel
theorem dX14_relieve_13 : decode cX14_relieve 13 = .ok (.aload_n 0, 1) := by decide +kernel
theorem dX14_relieve_14 : decode cX14_relieve 14 = .ok (.iconst 1, 1) := by decide +kernel
theorem dX14_relieve_15 : decode cX14_relieve 15 = .ok (.invokevirtual 55, 3) := by decide +kernel
theorem dX14_relieve_18 : decode cX14_relieve 18 = .ok (.ireturn, 1) := by decide +kernel
theorem dX14_relieve_19 : decode cX14_relieve 19 = .ok (.aload_n 0, 1) := by decide +kernel
theorem dX14_relieve_20 : decode cX14_relieve 20 = .ok (.getfield 22, 3) := by decide +kernel
theorem dX14_relieve_23 : decode cX14_relieve 23 = .ok (.iload_n 1, 1) := by decide +kernel
theorem dX14_relieve_24 : decode cX14_relieve 24 = .ok (.invokevirtual 90, 3) := by decide +kernel
theorem dX14_relieve_27 : decode cX14_relieve 27 = .ok (.checkcast 68, 3) := by decide +kernel
theorem dX14_relieve_30 : decode cX14_relieve 30 = .ok (.getfield 97, 3) := by decide +kernel
theorem dX14_relieve_33 : decode cX14_relieve 33 = .ok (.istore_n 2, 1) := by decide +kernel
theorem dX14_relieve_34 : decode cX14_relieve 34 = .ok (.aload_n 0, 1) := by decide +kernel
theorem dX14_relieve_35 : decode cX14_relieve 35 = .ok (.getfield 22, 3) := by decide +kernel
theorem dX14_relieve_38 : decode cX14_relieve 38 = .ok (.iload_n 1, 1) := by decide +kernel
theorem dX14_relieve_39 : decode cX14_relieve 39 = .ok (.invokevirtual 90, 3) := by decide +kernel
theorem dX14_relieve_42 : decode cX14_relieve 42 = .ok (.checkcast 68, 3) := by decide +kernel
theorem dX14_relieve_45 : decode cX14_relieve 45 = .ok (.iconst 0, 1) := by decide +kernel
theorem dX14_relieve_46 : decode cX14_relieve 46 = .ok (.putfield 97, 3) := by decide +kernel
theorem dX14_relieve_49 : decode cX14_relieve 49 = .ok (.iload_n 2, 1) := by decide +kernel
theorem dX14_relieve_50 : decode cX14_relieve 50 = .ok (.ireturn, 1) := by decide +kernel
set_option maxRecDepth 100000 in
theorem ggX14_sleeper_X14_isLand : GoodIn wsX14_sleeper wsX14_isLand := wk_g rfl wm_X14_sleeper 7192 wc_X14_isLand rfl (by decide +kernel) (by decide +kernel) wq_X14_isLand
set_option maxRecDepth 100000 in
theorem gX14_sleeper_X14_isLand : GoodIn wsX14_sleeper (wsV RX14 51 RX14 yX14_isLand wsX14_isLand) := goodIn_app (wk_h rfl wm_X14_sleeper [7189, 7191, 1045, 2007] (by decide +kernel) (by decide +kernel) (by decide +kernel)) ggX14_sleeper_X14_isLand
set_option maxRecDepth 100000 in
theorem ggX14_sleeper_X14_refuse : GoodIn wsX14_sleeper wsX14_refuse := wk_g rfl wm_X14_sleeper 7199 wc_X14_refuse rfl (by decide +kernel) (by decide +kernel) wq_X14_refuse
set_option maxRecDepth 100000 in
theorem gX14_sleeper_X14_refuse : GoodIn wsX14_sleeper (wsV RX14 55 RX14 yX14_refuse wsX14_refuse) := goodIn_app (wk_h rfl wm_X14_sleeper [7196, 7198, 1046, 2007] (by decide +kernel) (by decide +kernel) (by decide +kernel)) ggX14_sleeper_X14_refuse
set_option maxRecDepth 100000 in
theorem ggX14_sleeper_X14_is : GoodIn wsX14_sleeper wsX14_is := wk_g rfl wm_X14_sleeper 7195 wc_X14_is rfl (by decide +kernel) (by decide +kernel) wq_X14_is
set_option maxRecDepth 100000 in
theorem gX14_sleeper_X14_is : GoodIn wsX14_sleeper (va_wsS RX14 43 yX14_is wsX14_is) := goodIn_app (wk_h rfl wm_X14_sleeper [7193, 7194, 2007] (by decide +kernel) (by decide +kernel) (by decide +kernel)) ggX14_sleeper_X14_is
set_option maxRecDepth 100000 in
theorem ggX14_sleeper_Jx4a65c_size_8abf5 : GoodIn wsX14_sleeper wsJx4a65c_size_8abf5 := wk_g rfl wm_X14_sleeper 2173 wc_Jx4a65c_size_8abf5 rfl (by decide +kernel) (by decide +kernel) wq_Jx4a65c_size_8abf5
set_option maxRecDepth 100000 in
theorem gX14_sleeper_Jx4a65c_size_8abf5 : GoodIn wsX14_sleeper (wsV RX14 47 RJx4a65c yJx4a65c_size_8abf5 wsJx4a65c_size_8abf5) := goodIn_app (wk_h rfl wm_X14_sleeper [7208, 2171, 2172, 2004] (by decide +kernel) (by decide +kernel) (by decide +kernel)) ggX14_sleeper_Jx4a65c_size_8abf5
set_option maxRecDepth 100000 in
theorem ggX14_sleeper_X13_init : GoodIn wsX14_sleeper wsX13_init := wk_g rfl wm_X14_sleeper 8032 wc_X13_init rfl (by decide +kernel) (by decide +kernel) wq_X13_init
set_option maxRecDepth 100000 in
theorem gX14_sleeper_X13_init_n102 : GoodIn wsX14_sleeper (wsX13_init) := ggX14_sleeper_X13_init
set_option maxRecDepth 100000 in
theorem ggX14_sleeper_Jx4a65c_add_9ea2d : GoodIn wsX14_sleeper wsJx4a65c_add_9ea2d := wk_g rfl wm_X14_sleeper 4160 wc_Jx4a65c_add_9ea2d rfl (by decide +kernel) (by decide +kernel) wq_Jx4a65c_add_9ea2d
set_option maxRecDepth 100000 in
theorem gX14_sleeper_Jx4a65c_add_9ea2d : GoodIn wsX14_sleeper (wsV RX14 83 RJx4a65c yJx4a65c_add_9ea2d wsJx4a65c_add_9ea2d) := goodIn_app (wk_h rfl wm_X14_sleeper [8010, 4158, 4159, 2004] (by decide +kernel) (by decide +kernel) (by decide +kernel)) ggX14_sleeper_Jx4a65c_add_9ea2d
theorem dX14_sleeper_0 : decode cX14_sleeper 0 = .ok (.aload_n 0, 1) := by decide +kernel
theorem dX14_sleeper_1 : decode cX14_sleeper 1 = .ok (.iconst 0, 1) := by decide +kernel
theorem dX14_sleeper_2 : decode cX14_sleeper 2 = .ok (.putfield 40, 3) := by decide +kernel
theorem dX14_sleeper_5 : decode cX14_sleeper 5 = .ok (.aload_n 0, 1) := by decide +kernel
theorem dX14_sleeper_6 : decode cX14_sleeper 6 = .ok (.iload_n 1, 1) := by decide +kernel
theorem dX14_sleeper_7 : decode cX14_sleeper 7 = .ok (.invokevirtual 51, 3) := by decide +kernel
theorem dX14_sleeper_10 : decode cX14_sleeper 10 = .ok (.ifCond .ne 9, 3) := by decide +kernel
theorem dX14_sleeper_13 : decode cX14_sleeper 13 = .ok (.aload_n 0, 1) := by decide +kernel
theorem dX14_sleeper_14 : decode cX14_sleeper 14 = .ok (.iconst 1, 1) := by decide +kernel
theorem dX14_sleeper_15 : decode cX14_sleeper 15 = .ok (.invokevirtual 55, 3) := by decide +kernel
theorem dX14_sleeper_18 : decode cX14_sleeper 18 = .ok (.ireturn, 1) := by decide +kernel
theorem dX14_sleeper_19 : decode cX14_sleeper 19 = .ok (.iload_n 3, 1) := by decide +kernel
theorem dX14_sleeper_20 : decode cX14_sleeper 20 = .ok (.iconst 1, 1) := by decide +kernel
theorem dX14_sleeper_21 : decode cX14_sleeper 21 = .ok (.bipush 9, 2) := by decide +kernel
theorem dX14_sleeper_23 : decode cX14_sleeper 23 = .ok (.invokestatic 43, 3) := by decide +kernel
theorem dX14_sleeper_26 : decode cX14_sleeper 26 = .ok (.ifCond .ne 9, 3) := by decide +kernel
theorem dX14_sleeper_29 : decode cX14_sleeper 29 = .ok (.aload_n 0, 1) := by decide +kernel
theorem dX14_sleeper_30 : decode cX14_sleeper 30 = .ok (.iconst 2, 1) := by decide +kernel
theorem dX14_sleeper_31 : decode cX14_sleeper 31 = .ok (.invokevirtual 55, 3) := by decide +kernel
theorem dX14_sleeper_34 : decode cX14_sleeper 34 = .ok (.ireturn, 1) := by decide +kernel
theorem dX14_sleeper_35 : decode cX14_sleeper 35 = .ok (.aload_n 0, 1) := by decide +kernel
theorem dX14_sleeper_36 : decode cX14_sleeper 36 = .ok (.getfield 26, 3) := by decide +kernel
theorem dX14_sleeper_39 : decode cX14_sleeper 39 = .ok (.invokevirtual 47, 3) := by decide +kernel
theorem dX14_sleeper_42 : decode cX14_sleeper 42 = .ok (.bipush 12, 2) := by decide +kernel
theorem dX14_sleeper_44 : decode cX14_sleeper 44 = .ok (.if_icmp .ne 9, 3) := by decide +kernel
theorem dX14_sleeper_47 : decode cX14_sleeper 47 = .ok (.aload_n 0, 1) := by decide +kernel
theorem dX14_sleeper_48 : decode cX14_sleeper 48 = .ok (.iconst 3, 1) := by decide +kernel
theorem dX14_sleeper_49 : decode cX14_sleeper 49 = .ok (.invokevirtual 55, 3) := by decide +kernel
theorem dX14_sleeper_52 : decode cX14_sleeper 52 = .ok (.ireturn, 1) := by decide +kernel
theorem dX14_sleeper_53 : decode cX14_sleeper 53 = .ok (.new 100, 3) := by decide +kernel
theorem dX14_sleeper_56 : decode cX14_sleeper 56 = .ok (.dup, 1) := by decide +kernel
theorem dX14_sleeper_57 : decode cX14_sleeper 57 = .ok (.invokespecial 102, 3) := by decide +kernel
theorem dX14_sleeper_60 : decode cX14_sleeper 60 = .ok (.astore 4, 2) := by decide +kernel
theorem dX14_sleeper_62 : decode cX14_sleeper 62 = .ok (.aload 4, 2) := by decide +kernel
theorem dX14_sleeper_64 : decode cX14_sleeper 64 = .ok (.iload_n 1, 1) := by decide +kernel
theorem dX14_sleeper_65 : decode cX14_sleeper 65 = .ok (.putfield 103, 3) := by decide +kernel
theorem dX14_sleeper_68 : decode cX14_sleeper 68 = .ok (.aload 4, 2) := by decide +kernel
theorem dX14_sleeper_70 : decode cX14_sleeper 70 = .ok (.iload_n 2, 1) := by decide +kernel
theorem dX14_sleeper_71 : decode cX14_sleeper 71 = .ok (.putfield 106, 3) := by decide +kernel
theorem dX14_sleeper_74 : decode cX14_sleeper 74 = .ok (.aload 4, 2) := by decide +kernel
theorem dX14_sleeper_76 : decode cX14_sleeper 76 = .ok (.iload_n 3, 1) := by decide +kernel
theorem dX14_sleeper_77 : decode cX14_sleeper 77 = .ok (.putfield 110, 3) := by decide +kernel
theorem dX14_sleeper_80 : decode cX14_sleeper 80 = .ok (.aload_n 0, 1) := by decide +kernel
theorem dX14_sleeper_81 : decode cX14_sleeper 81 = .ok (.getfield 26, 3) := by decide +kernel
theorem dX14_sleeper_84 : decode cX14_sleeper 84 = .ok (.aload 4, 2) := by decide +kernel
theorem dX14_sleeper_86 : decode cX14_sleeper 86 = .ok (.invokevirtual 83, 3) := by decide +kernel
theorem dX14_sleeper_89 : decode cX14_sleeper 89 = .ok (.pop, 1) := by decide +kernel
theorem dX14_sleeper_90 : decode cX14_sleeper 90 = .ok (.aload_n 0, 1) := by decide +kernel
theorem dX14_sleeper_91 : decode cX14_sleeper 91 = .ok (.getfield 26, 3) := by decide +kernel
theorem dX14_sleeper_94 : decode cX14_sleeper 94 = .ok (.invokevirtual 47, 3) := by decide +kernel
theorem dX14_sleeper_97 : decode cX14_sleeper 97 = .ok (.iconst 1, 1) := by decide +kernel
theorem dX14_sleeper_98 : decode cX14_sleeper 98 = .ok (.isub, 1) := by decide +kernel
theorem dX14_sleeper_99 : decode cX14_sleeper 99 = .ok (.ireturn, 1) := by decide +kernel
set_option maxRecDepth 100000 in
theorem ggX14_part_X14_isSleeper : GoodIn wsX14_part wsX14_isSleeper := wk_g rfl wm_X14_part 8072 wc_X14_isSleeper rfl (by decide +kernel) (by decide +kernel) wq_X14_isSleeper
set_option maxRecDepth 100000 in
theorem gX14_part_X14_isSleeper : GoodIn wsX14_part (wsV RX14 113 RX14 yX14_isSleeper wsX14_isSleeper) := goodIn_app (wk_h rfl wm_X14_part [8069, 8071, 1048, 2007] (by decide +kernel) (by decide +kernel) (by decide +kernel)) ggX14_part_X14_isSleeper
set_option maxRecDepth 100000 in
theorem ggX14_part_X14_refuse : GoodIn wsX14_part wsX14_refuse := wk_g rfl wm_X14_part 7199 wc_X14_refuse rfl (by decide +kernel) (by decide +kernel) wq_X14_refuse
set_option maxRecDepth 100000 in
theorem gX14_part_X14_refuse : GoodIn wsX14_part (wsV RX14 55 RX14 yX14_refuse wsX14_refuse) := goodIn_app (wk_h rfl wm_X14_part [7196, 7198, 1046, 2007] (by decide +kernel) (by decide +kernel) (by decide +kernel)) ggX14_part_X14_refuse
set_option maxRecDepth 100000 in
theorem ggX14_part_X14_is : GoodIn wsX14_part wsX14_is := wk_g rfl wm_X14_part 7195 wc_X14_is rfl (by decide +kernel) (by decide +kernel) wq_X14_is
set_option maxRecDepth 100000 in
theorem gX14_part_X14_is : GoodIn wsX14_part (va_wsS RX14 43 yX14_is wsX14_is) := goodIn_app (wk_h rfl wm_X14_part [7193, 7194, 2007] (by decide +kernel) (by decide +kernel) (by decide +kernel)) ggX14_part_X14_is
set_option maxRecDepth 100000 in
theorem ggX14_part_Jx4a65c_size_8abf5 : GoodIn wsX14_part wsJx4a65c_size_8abf5 := wk_g rfl wm_X14_part 2173 wc_Jx4a65c_size_8abf5 rfl (by decide +kernel) (by decide +kernel) wq_Jx4a65c_size_8abf5
set_option maxRecDepth 100000 in
theorem gX14_part_Jx4a65c_size_8abf5 : GoodIn wsX14_part (wsV RX14 47 RJx4a65c yJx4a65c_size_8abf5 wsJx4a65c_size_8abf5) := goodIn_app (wk_h rfl wm_X14_part [7208, 2171, 2172, 2004] (by decide +kernel) (by decide +kernel) (by decide +kernel)) ggX14_part_Jx4a65c_size_8abf5
set_option maxRecDepth 100000 in
theorem ggX14_part_Jx4a65c_get_915e3 : GoodIn wsX14_part wsJx4a65c_get_915e3 := wk_g rfl wm_X14_part 2177 wc_Jx4a65c_get_915e3 rfl (by decide +kernel) (by decide +kernel) wq_Jx4a65c_get_915e3
set_option maxRecDepth 100000 in
theorem gX14_part_Jx4a65c_get_915e3 : GoodIn wsX14_part (wsV RX14 90 RJx4a65c yJx4a65c_get_915e3 wsJx4a65c_get_915e3) := goodIn_app (wk_h rfl wm_X14_part [8019, 2175, 2176, 2004] (by decide +kernel) (by decide +kernel) (by decide +kernel)) ggX14_part_Jx4a65c_get_915e3
set_option maxRecDepth 100000 in
theorem ggX14_part_X12_init : GoodIn wsX14_part wsX12_init := wk_g rfl wm_X14_part 8077 wc_X12_init rfl (by decide +kernel) (by decide +kernel) wq_X12_init
set_option maxRecDepth 100000 in
theorem gX14_part_X12_init_n121 : GoodIn wsX14_part (wsX12_init) := ggX14_part_X12_init
set_option maxRecDepth 100000 in
theorem ggX14_part_Jx4a65c_add_9ea2d : GoodIn wsX14_part wsJx4a65c_add_9ea2d := wk_g rfl wm_X14_part 4160 wc_Jx4a65c_add_9ea2d rfl (by decide +kernel) (by decide +kernel) wq_Jx4a65c_add_9ea2d
set_option maxRecDepth 100000 in
theorem gX14_part_Jx4a65c_add_9ea2d : GoodIn wsX14_part (wsV RX14 83 RJx4a65c yJx4a65c_add_9ea2d wsJx4a65c_add_9ea2d) := goodIn_app (wk_h rfl wm_X14_part [8010, 4158, 4159, 2004] (by decide +kernel) (by decide +kernel) (by decide +kernel)) ggX14_part_Jx4a65c_add_9ea2d
theorem dX14_part_0 : decode cX14_part 0 = .ok (.aload_n 0, 1) := by decide +kernel
theorem dX14_part_1 : decode cX14_part 1 = .ok (.iconst 0, 1) := by decide +kernel
theorem dX14_part_2 : decode cX14_part 2 = .ok (.putfield 40, 3) := by decide +kernel
theorem dX14_part_5 : decode cX14_part 5 = .ok (.aload_n 0, 1) := by decide +kernel
theorem dX14_part_6 : decode cX14_part 6 = .ok (.iload_n 1, 1) := by decide +kernel
theorem dX14_part_7 : decode cX14_part 7 = .ok (.invokevirtual 113, 3) := by decide +kernel
theorem dX14_part_10 : decode cX14_part 10 = .ok (.ifCond .ne 9, 3) := by decide +kernel
theorem dX14_part_13 : decode cX14_part 13 = .ok (.aload_n 0, 1) := by decide +kernel
theorem dX14_part_14 : decode cX14_part 14 = .ok (.iconst 1, 1) := by decide +kernel
theorem dX14_part_15 : decode cX14_part 15 = .ok (.invokevirtual 55, 3) := by decide +kernel
theorem dX14_part_18 : decode cX14_part 18 = .ok (.ireturn, 1) := by decide +kernel
theorem dX14_part_19 : decode cX14_part 19 = .ok (.iload_n 2, 1) := by decide +kernel
theorem dX14_part_20 : decode cX14_part 20 = .ok (.iconst 0, 1) := by decide +kernel
theorem dX14_part_21 : decode cX14_part 21 = .ok (.bipush 7, 2) := by decide +kernel
theorem dX14_part_23 : decode cX14_part 23 = .ok (.invokestatic 43, 3) := by decide +kernel
theorem dX14_part_26 : decode cX14_part 26 = .ok (.ifCond .eq 24, 3) := by decide +kernel
theorem dX14_part_29 : decode cX14_part 29 = .ok (.iload_n 3, 1) := by decide +kernel
theorem dX14_part_30 : decode cX14_part 30 = .ok (.iconst 0, 1) := by decide +kernel
theorem dX14_part_31 : decode cX14_part 31 = .ok (.bipush 99, 2) := by decide +kernel
theorem dX14_part_33 : decode cX14_part 33 = .ok (.invokestatic 43, 3) := by decide +kernel
theorem dX14_part_36 : decode cX14_part 36 = .ok (.ifCond .eq 14, 3) := by decide +kernel
theorem dX14_part_39 : decode cX14_part 39 = .ok (.iload 4, 2) := by decide +kernel
theorem dX14_part_41 : decode cX14_part 41 = .ok (.iconst 0, 1) := by decide +kernel
theorem dX14_part_42 : decode cX14_part 42 = .ok (.bipush 9, 2) := by decide +kernel
theorem dX14_part_44 : decode cX14_part 44 = .ok (.invokestatic 43, 3) := by decide +kernel
theorem dX14_part_47 : decode cX14_part 47 = .ok (.ifCond .ne 9, 3) := by decide +kernel
theorem dX14_part_50 : decode cX14_part 50 = .ok (.aload_n 0, 1) := by decide +kernel
theorem dX14_part_51 : decode cX14_part 51 = .ok (.iconst 2, 1) := by decide +kernel
theorem dX14_part_52 : decode cX14_part 52 = .ok (.invokevirtual 55, 3) := by decide +kernel
theorem dX14_part_55 : decode cX14_part 55 = .ok (.ireturn, 1) := by decide +kernel
theorem dX14_part_56 : decode cX14_part 56 = .ok (.aload_n 0, 1) := by decide +kernel
theorem dX14_part_57 : decode cX14_part 57 = .ok (.getfield 29, 3) := by decide +kernel
theorem dX14_part_60 : decode cX14_part 60 = .ok (.invokevirtual 47, 3) := by decide +kernel
theorem dX14_part_63 : decode cX14_part 63 = .ok (.bipush 24, 2) := by decide +kernel
theorem dX14_part_65 : decode cX14_part 65 = .ok (.if_icmp .eq 20, 3) := by decide +kernel
theorem dX14_part_68 : decode cX14_part 68 = .ok (.aload_n 0, 1) := by decide +kernel
theorem dX14_part_69 : decode cX14_part 69 = .ok (.getfield 26, 3) := by decide +kernel
theorem dX14_part_72 : decode cX14_part 72 = .ok (.iload_n 1, 1) := by decide +kernel
theorem dX14_part_73 : decode cX14_part 73 = .ok (.invokevirtual 90, 3) := by decide +kernel
theorem dX14_part_76 : decode cX14_part 76 = .ok (.checkcast 100, 3) := by decide +kernel
theorem dX14_part_79 : decode cX14_part 79 = .ok (.getfield 116, 3) := by decide +kernel
theorem dX14_part_82 : decode cX14_part 82 = .ok (.ifCond .eq 9, 3) := by decide +kernel
theorem dX14_part_85 : decode cX14_part 85 = .ok (.aload_n 0, 1) := by decide +kernel
theorem dX14_part_86 : decode cX14_part 86 = .ok (.iconst 3, 1) := by decide +kernel
theorem dX14_part_87 : decode cX14_part 87 = .ok (.invokevirtual 55, 3) := by decide +kernel
theorem dX14_part_90 : decode cX14_part 90 = .ok (.ireturn, 1) := by decide +kernel
theorem dX14_part_91 : decode cX14_part 91 = .ok (.new 119, 3) := by decide +kernel
theorem dX14_part_94 : decode cX14_part 94 = .ok (.dup, 1) := by decide +kernel
theorem dX14_part_95 : decode cX14_part 95 = .ok (.invokespecial 121, 3) := by decide +kernel
theorem dX14_part_98 : decode cX14_part 98 = .ok (.astore 5, 2) := by decide +kernel
theorem dX14_part_100 : decode cX14_part 100 = .ok (.aload 5, 2) := by decide +kernel
theorem dX14_part_102 : decode cX14_part 102 = .ok (.iload_n 2, 1) := by decide +kernel
theorem dX14_part_103 : decode cX14_part 103 = .ok (.putfield 122, 3) := by decide +kernel
theorem dX14_part_106 : decode cX14_part 106 = .ok (.aload 5, 2) := by decide +kernel
theorem dX14_part_108 : decode cX14_part 108 = .ok (.iload_n 3, 1) := by decide +kernel
theorem dX14_part_109 : decode cX14_part 109 = .ok (.putfield 125, 3) := by decide +kernel
theorem dX14_part_112 : decode cX14_part 112 = .ok (.aload 5, 2) := by decide +kernel
theorem dX14_part_114 : decode cX14_part 114 = .ok (.iload 4, 2) := by decide +kernel
theorem dX14_part_116 : decode cX14_part 116 = .ok (.putfield 128, 3) := by decide +kernel
theorem dX14_part_119 : decode cX14_part 119 = .ok (.aload 5, 2) := by decide +kernel
theorem dX14_part_121 : decode cX14_part 121 = .ok (.iload_n 1, 1) := by decide +kernel
theorem dX14_part_122 : decode cX14_part 122 = .ok (.putfield 131, 3) := by decide +kernel
theorem dX14_part_125 : decode cX14_part 125 = .ok (.aload_n 0, 1) := by decide +kernel
theorem dX14_part_126 : decode cX14_part 126 = .ok (.getfield 29, 3) := by decide +kernel
theorem dX14_part_129 : decode cX14_part 129 = .ok (.aload 5, 2) := by decide +kernel
theorem dX14_part_131 : decode cX14_part 131 = .ok (.invokevirtual 83, 3) := by decide +kernel
theorem dX14_part_134 : decode cX14_part 134 = .ok (.pop, 1) := by decide +kernel
theorem dX14_part_135 : decode cX14_part 135 = .ok (.aload_n 0, 1) := by decide +kernel
theorem dX14_part_136 : decode cX14_part 136 = .ok (.getfield 29, 3) := by decide +kernel
theorem dX14_part_139 : decode cX14_part 139 = .ok (.invokevirtual 47, 3) := by decide +kernel
theorem dX14_part_142 : decode cX14_part 142 = .ok (.iconst 1, 1) := by decide +kernel
theorem dX14_part_143 : decode cX14_part 143 = .ok (.isub, 1) := by decide +kernel
theorem dX14_part_144 : decode cX14_part 144 = .ok (.ireturn, 1) := by decide +kernel
set_option maxRecDepth 100000 in
theorem ggX14_give_X14_isPart : GoodIn wsX14_give wsX14_isPart := wk_g rfl wm_X14_give 8107 wc_X14_isPart rfl (by decide +kernel) (by decide +kernel) wq_X14_isPart
set_option maxRecDepth 100000 in
theorem gX14_give_X14_isPart : GoodIn wsX14_give (wsV RX14 134 RX14 yX14_isPart wsX14_isPart) := goodIn_app (wk_h rfl wm_X14_give [8104, 8106, 1049, 2007] (by decide +kernel) (by decide +kernel) (by decide +kernel)) ggX14_give_X14_isPart
set_option maxRecDepth 100000 in
theorem ggX14_give_X14_isSleeper : GoodIn wsX14_give wsX14_isSleeper := wk_g rfl wm_X14_give 8072 wc_X14_isSleeper rfl (by decide +kernel) (by decide +kernel) wq_X14_isSleeper
set_option maxRecDepth 100000 in
theorem gX14_give_X14_isSleeper : GoodIn wsX14_give (wsV RX14 113 RX14 yX14_isSleeper wsX14_isSleeper) := goodIn_app (wk_h rfl wm_X14_give [8069, 8071, 1048, 2007] (by decide +kernel) (by decide +kernel) (by decide +kernel)) ggX14_give_X14_isSleeper
set_option maxRecDepth 100000 in
theorem ggX14_give_X14_refuse : GoodIn wsX14_give wsX14_refuse := wk_g rfl wm_X14_give 7199 wc_X14_refuse rfl (by decide +kernel) (by decide +kernel) wq_X14_refuse
set_option maxRecDepth 100000 in
theorem gX14_give_X14_refuse : GoodIn wsX14_give (wsV RX14 55 RX14 yX14_refuse wsX14_refuse) := goodIn_app (wk_h rfl wm_X14_give [7196, 7198, 1046, 2007] (by decide +kernel) (by decide +kernel) (by decide +kernel)) ggX14_give_X14_refuse
set_option maxRecDepth 100000 in
theorem ggX14_give_Jx4a65c_get_915e3 : GoodIn wsX14_give wsJx4a65c_get_915e3 := wk_g rfl wm_X14_give 2177 wc_Jx4a65c_get_915e3 rfl (by decide +kernel) (by decide +kernel) wq_Jx4a65c_get_915e3
set_option maxRecDepth 100000 in
theorem gX14_give_Jx4a65c_get_915e3 : GoodIn wsX14_give (wsV RX14 90 RJx4a65c yJx4a65c_get_915e3 wsJx4a65c_get_915e3) := goodIn_app (wk_h rfl wm_X14_give [8019, 2175, 2176, 2004] (by decide +kernel) (by decide +kernel) (by decide +kernel)) ggX14_give_Jx4a65c_get_915e3
theorem dX14_give_0 : decode cX14_give 0 = .ok (.aload_n 0, 1) := by decide +kernel
theorem dX14_give_1 : decode cX14_give 1 = .ok (.iconst 0, 1) := by decide +kernel
theorem dX14_give_2 : decode cX14_give 2 = .ok (.putfield 40, 3) := by decide +kernel
theorem dX14_give_5 : decode cX14_give 5 = .ok (.aload_n 0, 1) := by decide +kernel
theorem dX14_give_6 : decode cX14_give 6 = .ok (.iload_n 1, 1) := by decide +kernel
theorem dX14_give_7 : decode cX14_give 7 = .ok (.invokevirtual 134, 3) := by decide +kernel
theorem dX14_give_10 : decode cX14_give 10 = .ok (.ifCond .eq 11, 3) := by decide +kernel
theorem dX14_give_13 : decode cX14_give 13 = .ok (.aload_n 0, 1) := by decide +kernel
theorem dX14_give_14 : decode cX14_give 14 = .ok (.iload_n 2, 1) := by decide +kernel
theorem dX14_give_15 : decode cX14_give 15 = .ok (.invokevirtual 113, 3) := by decide +kernel
theorem dX14_give_18 : decode cX14_give 18 = .ok (.ifCond .ne 9, 3) := by decide +kernel
theorem dX14_give_21 : decode cX14_give 21 = .ok (.aload_n 0, 1) := by decide +kernel
theorem dX14_give_22 : decode cX14_give 22 = .ok (.iconst 1, 1) := by decide +kernel
theorem dX14_give_23 : decode cX14_give 23 = .ok (.invokevirtual 55, 3) := by decide +kernel
theorem dX14_give_26 : decode cX14_give 26 = .ok (.ireturn, 1) := by decide +kernel
theorem dX14_give_27 : decode cX14_give 27 = .ok (.aload_n 0, 1) := by decide +kernel
theorem dX14_give_28 : decode cX14_give 28 = .ok (.getfield 29, 3) := by decide +kernel
theorem dX14_give_31 : decode cX14_give 31 = .ok (.iload_n 1, 1) := by decide +kernel
theorem dX14_give_32 : decode cX14_give 32 = .ok (.invokevirtual 90, 3) := by decide +kernel
theorem dX14_give_35 : decode cX14_give 35 = .ok (.checkcast 119, 3) := by decide +kernel
theorem dX14_give_38 : decode cX14_give 38 = .ok (.getfield 131, 3) := by decide +kernel
theorem dX14_give_41 : decode cX14_give 41 = .ok (.istore_n 3, 1) := by decide +kernel
theorem dX14_give_42 : decode cX14_give 42 = .ok (.iload_n 3, 1) := by decide +kernel
theorem dX14_give_43 : decode cX14_give 43 = .ok (.bipush 100, 2) := by decide +kernel
theorem dX14_give_45 : decode cX14_give 45 = .ok (.if_icmp .ge 8, 3) := by decide +kernel
theorem dX14_give_48 : decode cX14_give 48 = .ok (.iload_n 3, 1) := by decide +kernel
theorem dX14_give_49 : decode cX14_give 49 = .ok (.iload_n 2, 1) := by decide +kernel
theorem dX14_give_50 : decode cX14_give 50 = .ok (.if_icmp .ne 9, 3) := by decide +kernel
theorem dX14_give_53 : decode cX14_give 53 = .ok (.aload_n 0, 1) := by decide +kernel
theorem dX14_give_54 : decode cX14_give 54 = .ok (.iconst 2, 1) := by decide +kernel
theorem dX14_give_55 : decode cX14_give 55 = .ok (.invokevirtual 55, 3) := by decide +kernel
theorem dX14_give_58 : decode cX14_give 58 = .ok (.ireturn, 1) := by decide +kernel
theorem dX14_give_59 : decode cX14_give 59 = .ok (.aload_n 0, 1) := by decide +kernel
theorem dX14_give_60 : decode cX14_give 60 = .ok (.getfield 26, 3) := by decide +kernel
theorem dX14_give_63 : decode cX14_give 63 = .ok (.iload_n 3, 1) := by decide +kernel
theorem dX14_give_64 : decode cX14_give 64 = .ok (.invokevirtual 90, 3) := by decide +kernel
theorem dX14_give_67 : decode cX14_give 67 = .ok (.checkcast 100, 3) := by decide +kernel
theorem dX14_give_70 : decode cX14_give 70 = .ok (.astore 4, 2) := by decide +kernel
theorem dX14_give_72 : decode cX14_give 72 = .ok (.aload_n 0, 1) := by decide +kernel
theorem dX14_give_73 : decode cX14_give 73 = .ok (.getfield 26, 3) := by decide +kernel
theorem dX14_give_76 : decode cX14_give 76 = .ok (.iload_n 2, 1) := by decide +kernel
theorem dX14_give_77 : decode cX14_give 77 = .ok (.invokevirtual 90, 3) := by decide +kernel
theorem dX14_give_80 : decode cX14_give 80 = .ok (.checkcast 100, 3) := by decide +kernel
theorem dX14_give_83 : decode cX14_give 83 = .ok (.astore 5, 2) := by decide +kernel
theorem dX14_give_85 : decode cX14_give 85 = .ok (.aload 4, 2) := by decide +kernel
theorem dX14_give_87 : decode cX14_give 87 = .ok (.getfield 103, 3) := by decide +kernel
theorem dX14_give_90 : decode cX14_give 90 = .ok (.aload 5, 2) := by decide +kernel
theorem dX14_give_92 : decode cX14_give 92 = .ok (.getfield 103, 3) := by decide +kernel
theorem dX14_give_95 : decode cX14_give 95 = .ok (.if_icmp .ne 19, 3) := by decide +kernel
theorem dX14_give_98 : decode cX14_give 98 = .ok (.aload 4, 2) := by decide +kernel
theorem dX14_give_100 : decode cX14_give 100 = .ok (.getfield 116, 3) := by decide +kernel
theorem dX14_give_103 : decode cX14_give 103 = .ok (.ifCond .ne 11, 3) := by decide +kernel
theorem dX14_give_106 : decode cX14_give 106 = .ok (.aload 5, 2) := by decide +kernel
theorem dX14_give_108 : decode cX14_give 108 = .ok (.getfield 116, 3) := by decide +kernel
theorem dX14_give_111 : decode cX14_give 111 = .ok (.ifCond .eq 9, 3) := by decide +kernel
theorem dX14_give_114 : decode cX14_give 114 = .ok (.aload_n 0, 1) := by decide +kernel
theorem dX14_give_115 : decode cX14_give 115 = .ok (.iconst 2, 1) := by decide +kernel
theorem dX14_give_116 : decode cX14_give 116 = .ok (.invokevirtual 55, 3) := by decide +kernel
theorem dX14_give_119 : decode cX14_give 119 = .ok (.ireturn, 1) := by decide +kernel
theorem dX14_give_120 : decode cX14_give 120 = .ok (.aload_n 0, 1) := by decide +kernel
theorem dX14_give_121 : decode cX14_give 121 = .ok (.getfield 29, 3) := by decide +kernel
theorem dX14_give_124 : decode cX14_give 124 = .ok (.iload_n 1, 1) := by decide +kernel
theorem dX14_give_125 : decode cX14_give 125 = .ok (.invokevirtual 90, 3) := by decide +kernel
theorem dX14_give_128 : decode cX14_give 128 = .ok (.checkcast 119, 3) := by decide +kernel
theorem dX14_give_131 : decode cX14_give 131 = .ok (.iload_n 2, 1) := by decide +kernel
theorem dX14_give_132 : decode cX14_give 132 = .ok (.putfield 131, 3) := by decide +kernel
theorem dX14_give_135 : decode cX14_give 135 = .ok (.iload_n 3, 1) := by decide +kernel
theorem dX14_give_136 : decode cX14_give 136 = .ok (.ireturn, 1) := by decide +kernel
theorem dX14_right_0 : decode cX14_right 0 = .ok (.bipush 13, 2) := by decide +kernel
theorem dX14_right_2 : decode cX14_right 2 = .ok (.iload_n 0, 1) := by decide +kernel
theorem dX14_right_3 : decode cX14_right 3 = .ok (.imul, 1) := by decide +kernel
theorem dX14_right_4 : decode cX14_right 4 = .ok (.bipush 29, 2) := by decide +kernel
theorem dX14_right_6 : decode cX14_right 6 = .ok (.iload_n 1, 1) := by decide +kernel
theorem dX14_right_7 : decode cX14_right 7 = .ok (.imul, 1) := by decide +kernel
theorem dX14_right_8 : decode cX14_right 8 = .ok (.iadd, 1) := by decide +kernel
theorem dX14_right_9 : decode cX14_right 9 = .ok (.bipush 7, 2) := by decide +kernel
theorem dX14_right_11 : decode cX14_right 11 = .ok (.iload_n 2, 1) := by decide +kernel
theorem dX14_right_12 : decode cX14_right 12 = .ok (.imul, 1) := by decide +kernel
theorem dX14_right_13 : decode cX14_right 13 = .ok (.iadd, 1) := by decide +kernel
theorem dX14_right_14 : decode cX14_right 14 = .ok (.bipush 97, 2) := by decide +kernel
theorem dX14_right_16 : decode cX14_right 16 = .ok (.irem, 1) := by decide +kernel
theorem dX14_right_17 : decode cX14_right 17 = .ok (.ireturn, 1) := by decide +kernel
set_option maxRecDepth 100000 in
theorem ggX14_sing_X14_isSleeper : GoodIn wsX14_sing wsX14_isSleeper := wk_g rfl wm_X14_sing 8072 wc_X14_isSleeper rfl (by decide +kernel) (by decide +kernel) wq_X14_isSleeper
set_option maxRecDepth 100000 in
theorem gX14_sing_X14_isSleeper : GoodIn wsX14_sing (wsV RX14 113 RX14 yX14_isSleeper wsX14_isSleeper) := goodIn_app (wk_h rfl wm_X14_sing [8069, 8071, 1048, 2007] (by decide +kernel) (by decide +kernel) (by decide +kernel)) ggX14_sing_X14_isSleeper
set_option maxRecDepth 100000 in
theorem ggX14_sing_X14_isGate : GoodIn wsX14_sing wsX14_isGate := wk_g rfl wm_X14_sing 8018 wc_X14_isGate rfl (by decide +kernel) (by decide +kernel) wq_X14_isGate
set_option maxRecDepth 100000 in
theorem gX14_sing_X14_isGate : GoodIn wsX14_sing (wsV RX14 87 RX14 yX14_isGate wsX14_isGate) := goodIn_app (wk_h rfl wm_X14_sing [8015, 8017, 1047, 2007] (by decide +kernel) (by decide +kernel) (by decide +kernel)) ggX14_sing_X14_isGate
set_option maxRecDepth 100000 in
theorem ggX14_sing_X14_refuse : GoodIn wsX14_sing wsX14_refuse := wk_g rfl wm_X14_sing 7199 wc_X14_refuse rfl (by decide +kernel) (by decide +kernel) wq_X14_refuse
set_option maxRecDepth 100000 in
theorem gX14_sing_X14_refuse : GoodIn wsX14_sing (wsV RX14 55 RX14 yX14_refuse wsX14_refuse) := goodIn_app (wk_h rfl wm_X14_sing [7196, 7198, 1046, 2007] (by decide +kernel) (by decide +kernel) (by decide +kernel)) ggX14_sing_X14_refuse
set_option maxRecDepth 100000 in
theorem ggX14_sing_X14_is : GoodIn wsX14_sing wsX14_is := wk_g rfl wm_X14_sing 7195 wc_X14_is rfl (by decide +kernel) (by decide +kernel) wq_X14_is
set_option maxRecDepth 100000 in
theorem gX14_sing_X14_is : GoodIn wsX14_sing (va_wsS RX14 43 yX14_is wsX14_is) := goodIn_app (wk_h rfl wm_X14_sing [7193, 7194, 2007] (by decide +kernel) (by decide +kernel) (by decide +kernel)) ggX14_sing_X14_is
set_option maxRecDepth 100000 in
theorem ggX14_sing_Jx4a65c_get_915e3 : GoodIn wsX14_sing wsJx4a65c_get_915e3 := wk_g rfl wm_X14_sing 2177 wc_Jx4a65c_get_915e3 rfl (by decide +kernel) (by decide +kernel) wq_Jx4a65c_get_915e3
set_option maxRecDepth 100000 in
theorem gX14_sing_Jx4a65c_get_915e3 : GoodIn wsX14_sing (wsV RX14 90 RJx4a65c yJx4a65c_get_915e3 wsJx4a65c_get_915e3) := goodIn_app (wk_h rfl wm_X14_sing [8019, 2175, 2176, 2004] (by decide +kernel) (by decide +kernel) (by decide +kernel)) ggX14_sing_Jx4a65c_get_915e3
set_option maxRecDepth 100000 in
theorem ggX14_sing_X14_right : GoodIn wsX14_sing wsX14_right := wk_g rfl wm_X14_sing 8114 wc_X14_right rfl (by decide +kernel) (by decide +kernel) wq_X14_right
set_option maxRecDepth 100000 in
theorem gX14_sing_X14_right : GoodIn wsX14_sing (va_wsS RX14 149 yX14_right wsX14_right) := goodIn_app (wk_h rfl wm_X14_sing [8112, 8113, 2007] (by decide +kernel) (by decide +kernel) (by decide +kernel)) ggX14_sing_X14_right
theorem dX14_sing_0 : decode cX14_sing 0 = .ok (.aload_n 0, 1) := by decide +kernel
theorem dX14_sing_1 : decode cX14_sing 1 = .ok (.iconst 0, 1) := by decide +kernel
theorem dX14_sing_2 : decode cX14_sing 2 = .ok (.putfield 40, 3) := by decide +kernel
theorem dX14_sing_5 : decode cX14_sing 5 = .ok (.aload_n 0, 1) := by decide +kernel
theorem dX14_sing_6 : decode cX14_sing 6 = .ok (.iload_n 1, 1) := by decide +kernel
theorem dX14_sing_7 : decode cX14_sing 7 = .ok (.invokevirtual 113, 3) := by decide +kernel
theorem dX14_sing_10 : decode cX14_sing 10 = .ok (.ifCond .eq 11, 3) := by decide +kernel
theorem dX14_sing_13 : decode cX14_sing 13 = .ok (.aload_n 0, 1) := by decide +kernel
theorem dX14_sing_14 : decode cX14_sing 14 = .ok (.iload_n 2, 1) := by decide +kernel
theorem dX14_sing_15 : decode cX14_sing 15 = .ok (.invokevirtual 87, 3) := by decide +kernel
theorem dX14_sing_18 : decode cX14_sing 18 = .ok (.ifCond .ne 9, 3) := by decide +kernel
theorem dX14_sing_21 : decode cX14_sing 21 = .ok (.aload_n 0, 1) := by decide +kernel
theorem dX14_sing_22 : decode cX14_sing 22 = .ok (.iconst 1, 1) := by decide +kernel
theorem dX14_sing_23 : decode cX14_sing 23 = .ok (.invokevirtual 55, 3) := by decide +kernel
theorem dX14_sing_26 : decode cX14_sing 26 = .ok (.ireturn, 1) := by decide +kernel
theorem dX14_sing_27 : decode cX14_sing 27 = .ok (.iload_n 3, 1) := by decide +kernel
theorem dX14_sing_28 : decode cX14_sing 28 = .ok (.aload_n 0, 1) := by decide +kernel
theorem dX14_sing_29 : decode cX14_sing 29 = .ok (.getfield 137, 3) := by decide +kernel
theorem dX14_sing_32 : decode cX14_sing 32 = .ok (.bipush 99, 2) := by decide +kernel
theorem dX14_sing_34 : decode cX14_sing 34 = .ok (.invokestatic 43, 3) := by decide +kernel
theorem dX14_sing_37 : decode cX14_sing 37 = .ok (.ifCond .eq 14, 3) := by decide +kernel
theorem dX14_sing_40 : decode cX14_sing 40 = .ok (.iload 4, 2) := by decide +kernel
theorem dX14_sing_42 : decode cX14_sing 42 = .ok (.iconst 0, 1) := by decide +kernel
theorem dX14_sing_43 : decode cX14_sing 43 = .ok (.bipush 96, 2) := by decide +kernel
theorem dX14_sing_45 : decode cX14_sing 45 = .ok (.invokestatic 43, 3) := by decide +kernel
theorem dX14_sing_48 : decode cX14_sing 48 = .ok (.ifCond .ne 9, 3) := by decide +kernel
theorem dX14_sing_51 : decode cX14_sing 51 = .ok (.aload_n 0, 1) := by decide +kernel
theorem dX14_sing_52 : decode cX14_sing 52 = .ok (.iconst 2, 1) := by decide +kernel
theorem dX14_sing_53 : decode cX14_sing 53 = .ok (.invokevirtual 55, 3) := by decide +kernel
theorem dX14_sing_56 : decode cX14_sing 56 = .ok (.ireturn, 1) := by decide +kernel
theorem dX14_sing_57 : decode cX14_sing 57 = .ok (.aload_n 0, 1) := by decide +kernel
theorem dX14_sing_58 : decode cX14_sing 58 = .ok (.getfield 26, 3) := by decide +kernel
theorem dX14_sing_61 : decode cX14_sing 61 = .ok (.iload_n 1, 1) := by decide +kernel
theorem dX14_sing_62 : decode cX14_sing 62 = .ok (.invokevirtual 90, 3) := by decide +kernel
theorem dX14_sing_65 : decode cX14_sing 65 = .ok (.checkcast 100, 3) := by decide +kernel
theorem dX14_sing_68 : decode cX14_sing 68 = .ok (.astore 5, 2) := by decide +kernel
theorem dX14_sing_70 : decode cX14_sing 70 = .ok (.aload 5, 2) := by decide +kernel
theorem dX14_sing_72 : decode cX14_sing 72 = .ok (.iload_n 2, 1) := by decide +kernel
theorem dX14_sing_73 : decode cX14_sing 73 = .ok (.putfield 140, 3) := by decide +kernel
theorem dX14_sing_76 : decode cX14_sing 76 = .ok (.aload 5, 2) := by decide +kernel
theorem dX14_sing_78 : decode cX14_sing 78 = .ok (.iload_n 3, 1) := by decide +kernel
theorem dX14_sing_79 : decode cX14_sing 79 = .ok (.putfield 143, 3) := by decide +kernel
theorem dX14_sing_82 : decode cX14_sing 82 = .ok (.aload 5, 2) := by decide +kernel
theorem dX14_sing_84 : decode cX14_sing 84 = .ok (.iload 4, 2) := by decide +kernel
theorem dX14_sing_86 : decode cX14_sing 86 = .ok (.putfield 146, 3) := by decide +kernel
theorem dX14_sing_89 : decode cX14_sing 89 = .ok (.iload_n 1, 1) := by decide +kernel
theorem dX14_sing_90 : decode cX14_sing 90 = .ok (.iload_n 2, 1) := by decide +kernel
theorem dX14_sing_91 : decode cX14_sing 91 = .ok (.iload_n 3, 1) := by decide +kernel
theorem dX14_sing_92 : decode cX14_sing 92 = .ok (.invokestatic 149, 3) := by decide +kernel
theorem dX14_sing_95 : decode cX14_sing 95 = .ok (.ireturn, 1) := by decide +kernel
set_option maxRecDepth 100000 in
theorem ggX14_revoke_X14_isGate : GoodIn wsX14_revoke wsX14_isGate := wk_g rfl wm_X14_revoke 8018 wc_X14_isGate rfl (by decide +kernel) (by decide +kernel) wq_X14_isGate
set_option maxRecDepth 100000 in
theorem gX14_revoke_X14_isGate : GoodIn wsX14_revoke (wsV RX14 87 RX14 yX14_isGate wsX14_isGate) := goodIn_app (wk_h rfl wm_X14_revoke [8015, 8017, 1047, 2007] (by decide +kernel) (by decide +kernel) (by decide +kernel)) ggX14_revoke_X14_isGate
set_option maxRecDepth 100000 in
theorem ggX14_revoke_X14_is : GoodIn wsX14_revoke wsX14_is := wk_g rfl wm_X14_revoke 7195 wc_X14_is rfl (by decide +kernel) (by decide +kernel) wq_X14_is
set_option maxRecDepth 100000 in
theorem gX14_revoke_X14_is : GoodIn wsX14_revoke (va_wsS RX14 43 yX14_is wsX14_is) := goodIn_app (wk_h rfl wm_X14_revoke [7193, 7194, 2007] (by decide +kernel) (by decide +kernel) (by decide +kernel)) ggX14_revoke_X14_is
set_option maxRecDepth 100000 in
theorem ggX14_revoke_Jx4a65c_get_915e3 : GoodIn wsX14_revoke wsJx4a65c_get_915e3 := wk_g rfl wm_X14_revoke 2177 wc_Jx4a65c_get_915e3 rfl (by decide +kernel) (by decide +kernel) wq_Jx4a65c_get_915e3
set_option maxRecDepth 100000 in
theorem gX14_revoke_Jx4a65c_get_915e3 : GoodIn wsX14_revoke (wsV RX14 90 RJx4a65c yJx4a65c_get_915e3 wsJx4a65c_get_915e3) := goodIn_app (wk_h rfl wm_X14_revoke [8019, 2175, 2176, 2004] (by decide +kernel) (by decide +kernel) (by decide +kernel)) ggX14_revoke_Jx4a65c_get_915e3
theorem dX14_revoke_0 : decode cX14_revoke 0 = .ok (.aload_n 0, 1) := by decide +kernel
theorem dX14_revoke_1 : decode cX14_revoke 1 = .ok (.aload_n 0, 1) := by decide +kernel
theorem dX14_revoke_2 : decode cX14_revoke 2 = .ok (.iload_n 1, 1) := by decide +kernel
theorem dX14_revoke_3 : decode cX14_revoke 3 = .ok (.invokevirtual 87, 3) := by decide +kernel
theorem dX14_revoke_6 : decode cX14_revoke 6 = .ok (.ifCond .ne 7, 3) := by decide +kernel
theorem dX14_revoke_9 : decode cX14_revoke 9 = .ok (.iconst 1, 1) := by decide +kernel
theorem dX14_revoke_10 : decode cX14_revoke 10 = .ok (.goto 18, 3) := by decide +kernel
theorem dX14_revoke_13 : decode cX14_revoke 13 = .ok (.iload_n 2, 1) := by decide +kernel
theorem dX14_revoke_14 : decode cX14_revoke 14 = .ok (.iconst 0, 1) := by decide +kernel
theorem dX14_revoke_15 : decode cX14_revoke 15 = .ok (.bipush 96, 2) := by decide +kernel
theorem dX14_revoke_17 : decode cX14_revoke 17 = .ok (.invokestatic 43, 3) := by decide +kernel
theorem dX14_revoke_20 : decode cX14_revoke 20 = .ok (.ifCond .ne 7, 3) := by decide +kernel
theorem dX14_revoke_23 : decode cX14_revoke 23 = .ok (.iconst 2, 1) := by decide +kernel
theorem dX14_revoke_24 : decode cX14_revoke 24 = .ok (.goto 4, 3) := by decide +kernel
theorem dX14_revoke_27 : decode cX14_revoke 27 = .ok (.iconst 0, 1) := by decide +kernel
theorem dX14_revoke_28 : decode cX14_revoke 28 = .ok (.putfield 40, 3) := by decide +kernel
theorem dX14_revoke_31 : decode cX14_revoke 31 = .ok (.aload_n 0, 1) := by decide +kernel
theorem dX14_revoke_32 : decode cX14_revoke 32 = .ok (.getfield 40, 3) := by decide +kernel
theorem dX14_revoke_35 : decode cX14_revoke 35 = .ok (.ifCond .le 5, 3) := by decide +kernel
theorem dX14_revoke_38 : decode cX14_revoke 38 = .ok (.iconst 0, 1) := by decide +kernel
theorem dX14_revoke_39 : decode cX14_revoke 39 = .ok (.ireturn, 1) := by decide +kernel
theorem dX14_revoke_40 : decode cX14_revoke 40 = .ok (.aload_n 0, 1) := by decide +kernel
theorem dX14_revoke_41 : decode cX14_revoke 41 = .ok (.getfield 22, 3) := by decide +kernel
theorem dX14_revoke_44 : decode cX14_revoke 44 = .ok (.iload_n 1, 1) := by decide +kernel
theorem dX14_revoke_45 : decode cX14_revoke 45 = .ok (.invokevirtual 90, 3) := by decide +kernel
theorem dX14_revoke_48 : decode cX14_revoke 48 = .ok (.checkcast 68, 3) := by decide +kernel
theorem dX14_revoke_51 : decode cX14_revoke 51 = .ok (.getfield 153, 3) := by decide +kernel
theorem dX14_revoke_54 : decode cX14_revoke 54 = .ok (.iload_n 2, 1) := by decide +kernel
theorem dX14_revoke_55 : decode cX14_revoke 55 = .ok (.baload, 1) := by decide +kernel
theorem dX14_revoke_56 : decode cX14_revoke 56 = .ok (.istore_n 3, 1) := by decide +kernel
theorem dX14_revoke_57 : decode cX14_revoke 57 = .ok (.aload_n 0, 1) := by decide +kernel
theorem dX14_revoke_58 : decode cX14_revoke 58 = .ok (.getfield 22, 3) := by decide +kernel
theorem dX14_revoke_61 : decode cX14_revoke 61 = .ok (.iload_n 1, 1) := by decide +kernel
theorem dX14_revoke_62 : decode cX14_revoke 62 = .ok (.invokevirtual 90, 3) := by decide +kernel
theorem dX14_revoke_65 : decode cX14_revoke 65 = .ok (.checkcast 68, 3) := by decide +kernel
theorem dX14_revoke_68 : decode cX14_revoke 68 = .ok (.getfield 153, 3) := by decide +kernel
theorem dX14_revoke_71 : decode cX14_revoke 71 = .ok (.iload_n 2, 1) := by decide +kernel
theorem dX14_revoke_72 : decode cX14_revoke 72 = .ok (.iconst 1, 1) := by decide +kernel
theorem dX14_revoke_73 : decode cX14_revoke 73 = .ok (.bastore, 1) := by decide +kernel
theorem dX14_revoke_74 : decode cX14_revoke 74 = .ok (.iload_n 3, 1) := by decide +kernel
theorem dX14_revoke_75 : decode cX14_revoke 75 = .ok (.ifCond .ne 7, 3) := by decide +kernel
theorem dX14_revoke_78 : decode cX14_revoke 78 = .ok (.iconst 1, 1) := by decide +kernel
theorem dX14_revoke_79 : decode cX14_revoke 79 = .ok (.goto 4, 3) := by decide +kernel
theorem dX14_revoke_82 : decode cX14_revoke 82 = .ok (.iconst 0, 1) := by decide +kernel
theorem dX14_revoke_83 : decode cX14_revoke 83 = .ok (.ireturn, 1) := by decide +kernel
set_option maxRecDepth 100000 in
theorem ggX14_head_Jx4a65c_size_8abf5 : GoodIn wsX14_head wsJx4a65c_size_8abf5 := wk_g rfl wm_X14_head 2173 wc_Jx4a65c_size_8abf5 rfl (by decide +kernel) (by decide +kernel) wq_Jx4a65c_size_8abf5
set_option maxRecDepth 100000 in
theorem gX14_head_Jx4a65c_size_8abf5 : GoodIn wsX14_head (wsV RX14 47 RJx4a65c yJx4a65c_size_8abf5 wsJx4a65c_size_8abf5) := goodIn_app (wk_h rfl wm_X14_head [7208, 2171, 2172, 2004] (by decide +kernel) (by decide +kernel) (by decide +kernel)) ggX14_head_Jx4a65c_size_8abf5
set_option maxRecDepth 100000 in
theorem ggX14_head_Jx4a65c_get_915e3 : GoodIn wsX14_head wsJx4a65c_get_915e3 := wk_g rfl wm_X14_head 2177 wc_Jx4a65c_get_915e3 rfl (by decide +kernel) (by decide +kernel) wq_Jx4a65c_get_915e3
set_option maxRecDepth 100000 in
theorem gX14_head_Jx4a65c_get_915e3 : GoodIn wsX14_head (wsV RX14 90 RJx4a65c yJx4a65c_get_915e3 wsJx4a65c_get_915e3) := goodIn_app (wk_h rfl wm_X14_head [8019, 2175, 2176, 2004] (by decide +kernel) (by decide +kernel) (by decide +kernel)) ggX14_head_Jx4a65c_get_915e3
theorem dX14_head_0 : decode cX14_head 0 = .ok (.iconst 0, 1) := by decide +kernel
theorem dX14_head_1 : decode cX14_head 1 = .ok (.istore_n 2, 1) := by decide +kernel
theorem dX14_head_2 : decode cX14_head 2 = .ok (.iconst 0, 1) := by decide +kernel
theorem dX14_head_3 : decode cX14_head 3 = .ok (.istore_n 3, 1) := by decide +kernel
theorem dX14_head_4 : decode cX14_head 4 = .ok (.iload_n 3, 1) := by decide +kernel
theorem dX14_head_5 : decode cX14_head 5 = .ok (.aload_n 0, 1) := by decide +kernel
theorem dX14_head_6 : decode cX14_head 6 = .ok (.getfield 29, 3) := by decide +kernel
theorem dX14_head_9 : decode cX14_head 9 = .ok (.invokevirtual 47, 3) := by decide +kernel
theorem dX14_head_12 : decode cX14_head 12 = .ok (.if_icmp .ge 37, 3) := by decide +kernel
theorem dX14_head_15 : decode cX14_head 15 = .ok (.iload_n 2, 1) := by decide +kernel
theorem dX14_head_16 : decode cX14_head 16 = .ok (.aload_n 0, 1) := by decide +kernel
theorem dX14_head_17 : decode cX14_head 17 = .ok (.getfield 29, 3) := by decide +kernel
theorem dX14_head_20 : decode cX14_head 20 = .ok (.iload_n 3, 1) := by decide +kernel
theorem dX14_head_21 : decode cX14_head 21 = .ok (.invokevirtual 90, 3) := by decide +kernel
theorem dX14_head_24 : decode cX14_head 24 = .ok (.checkcast 119, 3) := by decide +kernel
theorem dX14_head_27 : decode cX14_head 27 = .ok (.getfield 131, 3) := by decide +kernel
theorem dX14_head_30 : decode cX14_head 30 = .ok (.iload_n 1, 1) := by decide +kernel
theorem dX14_head_31 : decode cX14_head 31 = .ok (.if_icmp .ne 9, 3) := by decide +kernel
theorem dX14_head_34 : decode cX14_head 34 = .ok (.iconst 1, 1) := by decide +kernel
theorem dX14_head_35 : decode cX14_head 35 = .ok (.iload_n 3, 1) := by decide +kernel
theorem dX14_head_36 : decode cX14_head 36 = .ok (.ishl, 1) := by decide +kernel
theorem dX14_head_37 : decode cX14_head 37 = .ok (.goto 4, 3) := by decide +kernel
theorem dX14_head_40 : decode cX14_head 40 = .ok (.iconst 0, 1) := by decide +kernel
theorem dX14_head_41 : decode cX14_head 41 = .ok (.ior, 1) := by decide +kernel
theorem dX14_head_42 : decode cX14_head 42 = .ok (.istore_n 2, 1) := by decide +kernel
theorem dX14_head_43 : decode cX14_head 43 = .ok (.iinc 3 1, 3) := by decide +kernel
theorem dX14_head_46 : decode cX14_head 46 = .ok (.goto (-42), 3) := by decide +kernel
theorem dX14_head_49 : decode cX14_head 49 = .ok (.iload_n 2, 1) := by decide +kernel
theorem dX14_head_50 : decode cX14_head 50 = .ok (.ireturn, 1) := by decide +kernel
set_option maxRecDepth 100000 in
theorem ggX14_join_X14_isSleeper : GoodIn wsX14_join wsX14_isSleeper := wk_g bm_X14_join wm_X14_join 8072 wc_X14_isSleeper rfl (by decide +kernel) (by decide +kernel) wq_X14_isSleeper
set_option maxRecDepth 100000 in
theorem gX14_join_X14_isSleeper : GoodIn wsX14_join (wsV RX14 113 RX14 yX14_isSleeper wsX14_isSleeper) := goodIn_app (wk_h bm_X14_join wm_X14_join [8069, 8071, 1048, 2007] (by decide +kernel) (by decide +kernel) (by decide +kernel)) ggX14_join_X14_isSleeper
set_option maxRecDepth 100000 in
theorem ggX14_join_X14_isGate : GoodIn wsX14_join wsX14_isGate := wk_g bm_X14_join wm_X14_join 8018 wc_X14_isGate rfl (by decide +kernel) (by decide +kernel) wq_X14_isGate
set_option maxRecDepth 100000 in
theorem gX14_join_X14_isGate : GoodIn wsX14_join (wsV RX14 87 RX14 yX14_isGate wsX14_isGate) := goodIn_app (wk_h bm_X14_join wm_X14_join [8015, 8017, 1047, 2007] (by decide +kernel) (by decide +kernel) (by decide +kernel)) ggX14_join_X14_isGate
set_option maxRecDepth 100000 in
theorem ggX14_join_X14_refuse : GoodIn wsX14_join wsX14_refuse := wk_g bm_X14_join wm_X14_join 7199 wc_X14_refuse rfl (by decide +kernel) (by decide +kernel) wq_X14_refuse
set_option maxRecDepth 100000 in
theorem gX14_join_X14_refuse : GoodIn wsX14_join (wsV RX14 55 RX14 yX14_refuse wsX14_refuse) := goodIn_app (wk_h bm_X14_join wm_X14_join [7196, 7198, 1046, 2007] (by decide +kernel) (by decide +kernel) (by decide +kernel)) ggX14_join_X14_refuse
set_option maxRecDepth 100000 in
theorem ggX14_join_X14_head : GoodIn wsX14_join wsX14_head := wk_g bm_X14_join wm_X14_join 8126 wc_X14_head rfl (by decide +kernel) (by decide +kernel) wq_X14_head
set_option maxRecDepth 100000 in
theorem gX14_join_X14_head : GoodIn wsX14_join (wsV RX14 156 RX14 yX14_head wsX14_head) := goodIn_app (wk_h bm_X14_join wm_X14_join [8123, 8125, 1050, 2007] (by decide +kernel) (by decide +kernel) (by decide +kernel)) ggX14_join_X14_head
set_option maxRecDepth 100000 in
theorem ggX14_join_Jx4a65c_get_915e3 : GoodIn wsX14_join wsJx4a65c_get_915e3 := wk_g bm_X14_join wm_X14_join 2177 wc_Jx4a65c_get_915e3 rfl (by decide +kernel) (by decide +kernel) wq_Jx4a65c_get_915e3
set_option maxRecDepth 100000 in
theorem gX14_join_Jx4a65c_get_915e3 : GoodIn wsX14_join (wsV RX14 90 RJx4a65c yJx4a65c_get_915e3 wsJx4a65c_get_915e3) := goodIn_app (wk_h bm_X14_join wm_X14_join [8019, 2175, 2176, 2004] (by decide +kernel) (by decide +kernel) (by decide +kernel)) ggX14_join_Jx4a65c_get_915e3
set_option maxRecDepth 100000 in
theorem ggX14_join_X10_has : GoodIn wsX14_join wsX10_has := wk_g bm_X14_join wm_X14_join 8130 wc_X10_has rfl (by decide +kernel) (by decide +kernel) wq_X10_has
set_option maxRecDepth 100000 in
theorem gX14_join_X10_has : GoodIn wsX14_join (wsV RX14 159 RX10 yX10_has wsX10_has) := goodIn_app (wk_h bm_X14_join wm_X14_join [8127, 8128, 8129, 2022] (by decide +kernel) (by decide +kernel) (by decide +kernel)) ggX14_join_X10_has
set_option maxRecDepth 100000 in
theorem ggX14_join_Jx4a65c_size_8abf5 : GoodIn wsX14_join wsJx4a65c_size_8abf5 := wk_g bm_X14_join wm_X14_join 2173 wc_Jx4a65c_size_8abf5 rfl (by decide +kernel) (by decide +kernel) wq_Jx4a65c_size_8abf5
set_option maxRecDepth 100000 in
theorem gX14_join_Jx4a65c_size_8abf5 : GoodIn wsX14_join (wsV RX14 47 RJx4a65c yJx4a65c_size_8abf5 wsJx4a65c_size_8abf5) := goodIn_app (wk_h bm_X14_join wm_X14_join [7208, 2171, 2172, 2004] (by decide +kernel) (by decide +kernel) (by decide +kernel)) ggX14_join_Jx4a65c_size_8abf5
set_option maxRecDepth 100000 in
theorem ggX14_join_J6_intValue_8abf5 : GoodIn wsX14_join wsJ6_intValue_8abf5 := wk_g bm_X14_join wm_X14_join 8135 wc_J6_intValue_8abf5 rfl (by decide +kernel) (by decide +kernel) wq_J6_intValue_8abf5
set_option maxRecDepth 100000 in
theorem gX14_join_J6_intValue_8abf5 : GoodIn wsX14_join (wsV RX14 167 RJ6 yJ6_intValue_8abf5 wsJ6_intValue_8abf5) := goodIn_app (wk_h bm_X14_join wm_X14_join [8132, 8133, 8134, 2036] (by decide +kernel) (by decide +kernel) (by decide +kernel)) ggX14_join_J6_intValue_8abf5
set_option maxRecDepth 100000 in
theorem ggX14_join_J6_valueOf_2dffe : GoodIn wsX14_join wsJ6_valueOf_2dffe := wk_g bm_X14_join wm_X14_join 8138 wc_J6_valueOf_2dffe rfl (by decide +kernel) (by decide +kernel) wq_J6_valueOf_2dffe
set_option maxRecDepth 100000 in
theorem gX14_join_J6_valueOf_2dffe : GoodIn wsX14_join (va_wsS RX14 170 yJ6_valueOf_2dffe wsJ6_valueOf_2dffe) := goodIn_app (wk_h bm_X14_join wm_X14_join [8136, 8137, 2036] (by decide +kernel) (by decide +kernel) (by decide +kernel)) ggX14_join_J6_valueOf_2dffe
set_option maxRecDepth 100000 in
theorem ggX14_join_Jx4a65c_add_7a177 : GoodIn wsX14_join wsJx4a65c_add_7a177 := wk_g bm_X14_join wm_X14_join 5155 wc_Jx4a65c_add_7a177 rfl (by decide +kernel) (by decide +kernel) wq_Jx4a65c_add_7a177
set_option maxRecDepth 100000 in
theorem gX14_join_Jx4a65c_add_7a177 : GoodIn wsX14_join (wsV RX14 174 RJx4a65c yJx4a65c_add_7a177 wsJx4a65c_add_7a177) := goodIn_app (wk_h bm_X14_join wm_X14_join [8156, 5153, 5154, 2004] (by decide +kernel) (by decide +kernel) (by decide +kernel)) ggX14_join_Jx4a65c_add_7a177
theorem dX14_join_0 : decode cX14_join 0 = .ok (.aload_n 0, 1) := by decide +kernel
theorem dX14_join_1 : decode cX14_join 1 = .ok (.iconst 0, 1) := by decide +kernel
theorem dX14_join_2 : decode cX14_join 2 = .ok (.putfield 40, 3) := by decide +kernel
theorem dX14_join_5 : decode cX14_join 5 = .ok (.aload_n 0, 1) := by decide +kernel
theorem dX14_join_6 : decode cX14_join 6 = .ok (.iload_n 1, 1) := by decide +kernel
theorem dX14_join_7 : decode cX14_join 7 = .ok (.invokevirtual 113, 3) := by decide +kernel
theorem dX14_join_10 : decode cX14_join 10 = .ok (.ifCond .eq 11, 3) := by decide +kernel
theorem dX14_join_13 : decode cX14_join 13 = .ok (.aload_n 0, 1) := by decide +kernel
theorem dX14_join_14 : decode cX14_join 14 = .ok (.iload_n 2, 1) := by decide +kernel
theorem dX14_join_15 : decode cX14_join 15 = .ok (.invokevirtual 87, 3) := by decide +kernel
theorem dX14_join_18 : decode cX14_join 18 = .ok (.ifCond .ne 9, 3) := by decide +kernel
theorem dX14_join_21 : decode cX14_join 21 = .ok (.aload_n 0, 1) := by decide +kernel
theorem dX14_join_22 : decode cX14_join 22 = .ok (.iconst 1, 1) := by decide +kernel
theorem dX14_join_23 : decode cX14_join 23 = .ok (.invokevirtual 55, 3) := by decide +kernel
theorem dX14_join_26 : decode cX14_join 26 = .ok (.ireturn, 1) := by decide +kernel
theorem dX14_join_27 : decode cX14_join 27 = .ok (.iload_n 3, 1) := by decide +kernel
theorem dX14_join_28 : decode cX14_join 28 = .ok (.ifCond .lt 15, 3) := by decide +kernel
theorem dX14_join_31 : decode cX14_join 31 = .ok (.iload_n 3, 1) := by decide +kernel
theorem dX14_join_32 : decode cX14_join 32 = .ok (.aload_n 0, 1) := by decide +kernel
theorem dX14_join_33 : decode cX14_join 33 = .ok (.iload_n 1, 1) := by decide +kernel
theorem dX14_join_34 : decode cX14_join 34 = .ok (.invokevirtual 156, 3) := by decide +kernel
theorem dX14_join_37 : decode cX14_join 37 = .ok (.iconst (-1), 1) := by decide +kernel
theorem dX14_join_38 : decode cX14_join 38 = .ok (.ixor, 1) := by decide +kernel
theorem dX14_join_39 : decode cX14_join 39 = .ok (.iand, 1) := by decide +kernel
theorem dX14_join_40 : decode cX14_join 40 = .ok (.ifCond .eq 9, 3) := by decide +kernel
theorem dX14_join_43 : decode cX14_join 43 = .ok (.aload_n 0, 1) := by decide +kernel
theorem dX14_join_44 : decode cX14_join 44 = .ok (.iconst 2, 1) := by decide +kernel
theorem dX14_join_45 : decode cX14_join 45 = .ok (.invokevirtual 55, 3) := by decide +kernel
theorem dX14_join_48 : decode cX14_join 48 = .ok (.ireturn, 1) := by decide +kernel
theorem dX14_join_49 : decode cX14_join 49 = .ok (.aload_n 0, 1) := by decide +kernel
theorem dX14_join_50 : decode cX14_join 50 = .ok (.getfield 26, 3) := by decide +kernel
theorem dX14_join_53 : decode cX14_join 53 = .ok (.iload_n 1, 1) := by decide +kernel
theorem dX14_join_54 : decode cX14_join 54 = .ok (.invokevirtual 90, 3) := by decide +kernel
theorem dX14_join_57 : decode cX14_join 57 = .ok (.checkcast 100, 3) := by decide +kernel
theorem dX14_join_60 : decode cX14_join 60 = .ok (.astore 4, 2) := by decide +kernel
theorem dX14_join_62 : decode cX14_join 62 = .ok (.aload_n 0, 1) := by decide +kernel
theorem dX14_join_63 : decode cX14_join 63 = .ok (.getfield 22, 3) := by decide +kernel
theorem dX14_join_66 : decode cX14_join 66 = .ok (.iload_n 2, 1) := by decide +kernel
theorem dX14_join_67 : decode cX14_join 67 = .ok (.invokevirtual 90, 3) := by decide +kernel
theorem dX14_join_70 : decode cX14_join 70 = .ok (.checkcast 68, 3) := by decide +kernel
theorem dX14_join_73 : decode cX14_join 73 = .ok (.astore 5, 2) := by decide +kernel
theorem dX14_join_75 : decode cX14_join 75 = .ok (.aload 4, 2) := by decide +kernel
theorem dX14_join_77 : decode cX14_join 77 = .ok (.getfield 116, 3) := by decide +kernel
theorem dX14_join_80 : decode cX14_join 80 = .ok (.ifCond .ne 16, 3) := by decide +kernel
theorem dX14_join_83 : decode cX14_join 83 = .ok (.aload 5, 2) := by decide +kernel
theorem dX14_join_85 : decode cX14_join 85 = .ok (.aload 4, 2) := by decide +kernel
theorem dX14_join_87 : decode cX14_join 87 = .ok (.getfield 103, 3) := by decide +kernel
theorem dX14_join_90 : decode cX14_join 90 = .ok (.invokevirtual 159, 3) := by decide +kernel
theorem dX14_join_93 : decode cX14_join 93 = .ok (.ifCond .ne 9, 3) := by decide +kernel
theorem dX14_join_96 : decode cX14_join 96 = .ok (.aload_n 0, 1) := by decide +kernel
theorem dX14_join_97 : decode cX14_join 97 = .ok (.iconst 3, 1) := by decide +kernel
theorem dX14_join_98 : decode cX14_join 98 = .ok (.invokevirtual 55, 3) := by decide +kernel
theorem dX14_join_101 : decode cX14_join 101 = .ok (.ireturn, 1) := by decide +kernel
theorem dX14_join_102 : decode cX14_join 102 = .ok (.aload 5, 2) := by decide +kernel
theorem dX14_join_104 : decode cX14_join 104 = .ok (.getfield 162, 3) := by decide +kernel
theorem dX14_join_107 : decode cX14_join 107 = .ok (.invokevirtual 47, 3) := by decide +kernel
theorem dX14_join_110 : decode cX14_join 110 = .ok (.istore 6, 2) := by decide +kernel
theorem dX14_join_112 : decode cX14_join 112 = .ok (.aload 4, 2) := by decide +kernel
theorem dX14_join_114 : decode cX14_join 114 = .ok (.getfield 106, 3) := by decide +kernel
theorem dX14_join_117 : decode cX14_join 117 = .ok (.ifCond .eq 48, 3) := by decide +kernel
theorem dX14_join_120 : decode cX14_join 120 = .ok (.iload 6, 2) := by decide +kernel
theorem dX14_join_122 : decode cX14_join 122 = .ok (.ifCond .le 43, 3) := by decide +kernel
theorem dX14_join_125 : decode cX14_join 125 = .ok (.aload_n 0, 1) := by decide +kernel
theorem dX14_join_126 : decode cX14_join 126 = .ok (.getfield 26, 3) := by decide +kernel
theorem dX14_join_129 : decode cX14_join 129 = .ok (.aload 5, 2) := by decide +kernel
theorem dX14_join_131 : decode cX14_join 131 = .ok (.getfield 162, 3) := by decide +kernel
theorem dX14_join_134 : decode cX14_join 134 = .ok (.iload 6, 2) := by decide +kernel
theorem dX14_join_136 : decode cX14_join 136 = .ok (.iconst 1, 1) := by decide +kernel
theorem dX14_join_137 : decode cX14_join 137 = .ok (.isub, 1) := by decide +kernel
theorem dX14_join_138 : decode cX14_join 138 = .ok (.invokevirtual 90, 3) := by decide +kernel
theorem dX14_join_141 : decode cX14_join 141 = .ok (.checkcast 165, 3) := by decide +kernel
theorem dX14_join_144 : decode cX14_join 144 = .ok (.invokevirtual 167, 3) := by decide +kernel
theorem dX14_join_147 : decode cX14_join 147 = .ok (.invokevirtual 90, 3) := by decide +kernel
theorem dX14_join_150 : decode cX14_join 150 = .ok (.checkcast 100, 3) := by decide +kernel
theorem dX14_join_153 : decode cX14_join 153 = .ok (.getfield 106, 3) := by decide +kernel
theorem dX14_join_156 : decode cX14_join 156 = .ok (.ifCond .ne 9, 3) := by decide +kernel
theorem dX14_join_159 : decode cX14_join 159 = .ok (.iinc 6 (-1), 3) := by decide +kernel
theorem dX14_join_162 : decode cX14_join 162 = .ok (.goto (-50), 3) := by decide +kernel
theorem dX14_join_165 : decode cX14_join 165 = .ok (.aload 5, 2) := by decide +kernel
theorem dX14_join_167 : decode cX14_join 167 = .ok (.getfield 162, 3) := by decide +kernel
theorem dX14_join_170 : decode cX14_join 170 = .ok (.iload 6, 2) := by decide +kernel
theorem dX14_join_172 : decode cX14_join 172 = .ok (.iload_n 1, 1) := by decide +kernel
theorem dX14_join_173 : decode cX14_join 173 = .ok (.invokestatic 170, 3) := by decide +kernel
theorem dX14_join_176 : decode cX14_join 176 = .ok (.invokevirtual 174, 3) := by decide +kernel
theorem dX14_join_179 : decode cX14_join 179 = .ok (.aload 4, 2) := by decide +kernel
theorem dX14_join_181 : decode cX14_join 181 = .ok (.iconst 1, 1) := by decide +kernel
theorem dX14_join_182 : decode cX14_join 182 = .ok (.putfield 116, 3) := by decide +kernel
theorem dX14_join_185 : decode cX14_join 185 = .ok (.aload 4, 2) := by decide +kernel
theorem dX14_join_187 : decode cX14_join 187 = .ok (.iload_n 2, 1) := by decide +kernel
theorem dX14_join_188 : decode cX14_join 188 = .ok (.putfield 177, 3) := by decide +kernel
theorem dX14_join_191 : decode cX14_join 191 = .ok (.aload 4, 2) := by decide +kernel
theorem dX14_join_193 : decode cX14_join 193 = .ok (.iload_n 3, 1) := by decide +kernel
theorem dX14_join_194 : decode cX14_join 194 = .ok (.putfield 180, 3) := by decide +kernel
theorem dX14_join_197 : decode cX14_join 197 = .ok (.iload 6, 2) := by decide +kernel
theorem dX14_join_199 : decode cX14_join 199 = .ok (.ireturn, 1) := by decide +kernel
set_option maxRecDepth 100000 in
theorem ggX14_stepOut_Jx4a65c_get_915e3 : GoodIn wsX14_stepOut wsJx4a65c_get_915e3 := wk_g rfl wm_X14_stepOut 2177 wc_Jx4a65c_get_915e3 rfl (by decide +kernel) (by decide +kernel) wq_Jx4a65c_get_915e3
set_option maxRecDepth 100000 in
theorem gX14_stepOut_Jx4a65c_get_915e3 : GoodIn wsX14_stepOut (wsV RX14 90 RJx4a65c yJx4a65c_get_915e3 wsJx4a65c_get_915e3) := goodIn_app (wk_h rfl wm_X14_stepOut [8019, 2175, 2176, 2004] (by decide +kernel) (by decide +kernel) (by decide +kernel)) ggX14_stepOut_Jx4a65c_get_915e3
set_option maxRecDepth 100000 in
theorem ggX14_stepOut_X10_place : GoodIn wsX14_stepOut wsX10_place := wk_g rfl wm_X14_stepOut 8164 wc_X10_place rfl (by decide +kernel) (by decide +kernel) wq_X10_place
set_option maxRecDepth 100000 in
theorem gX14_stepOut_X10_place : GoodIn wsX14_stepOut (wsV RX14 183 RX10 yX10_place wsX10_place) := goodIn_app (wk_h rfl wm_X14_stepOut [8161, 8162, 8163, 2022] (by decide +kernel) (by decide +kernel) (by decide +kernel)) ggX14_stepOut_X10_place
set_option maxRecDepth 100000 in
theorem ggX14_stepOut_Jx4a65c_remove_915e3 : GoodIn wsX14_stepOut wsJx4a65c_remove_915e3 := wk_g rfl wm_X14_stepOut 6173 wc_Jx4a65c_remove_915e3 rfl (by decide +kernel) (by decide +kernel) wq_Jx4a65c_remove_915e3
set_option maxRecDepth 100000 in
theorem gX14_stepOut_Jx4a65c_remove_915e3 : GoodIn wsX14_stepOut (wsV RX14 186 RJx4a65c yJx4a65c_remove_915e3 wsJx4a65c_remove_915e3) := goodIn_app (wk_h rfl wm_X14_stepOut [8173, 6171, 6172, 2004] (by decide +kernel) (by decide +kernel) (by decide +kernel)) ggX14_stepOut_Jx4a65c_remove_915e3
set_option maxRecDepth 100000 in
theorem ggX14_stepOut_Jx4a65c_size_8abf5 : GoodIn wsX14_stepOut wsJx4a65c_size_8abf5 := wk_g rfl wm_X14_stepOut 2173 wc_Jx4a65c_size_8abf5 rfl (by decide +kernel) (by decide +kernel) wq_Jx4a65c_size_8abf5
set_option maxRecDepth 100000 in
theorem gX14_stepOut_Jx4a65c_size_8abf5 : GoodIn wsX14_stepOut (wsV RX14 47 RJx4a65c yJx4a65c_size_8abf5 wsJx4a65c_size_8abf5) := goodIn_app (wk_h rfl wm_X14_stepOut [7208, 2171, 2172, 2004] (by decide +kernel) (by decide +kernel) (by decide +kernel)) ggX14_stepOut_Jx4a65c_size_8abf5
theorem dX14_stepOut_0 : decode cX14_stepOut 0 = .ok (.aload_n 0, 1) := by decide +kernel
theorem dX14_stepOut_1 : decode cX14_stepOut 1 = .ok (.getfield 26, 3) := by decide +kernel
theorem dX14_stepOut_4 : decode cX14_stepOut 4 = .ok (.iload_n 1, 1) := by decide +kernel
theorem dX14_stepOut_5 : decode cX14_stepOut 5 = .ok (.invokevirtual 90, 3) := by decide +kernel
theorem dX14_stepOut_8 : decode cX14_stepOut 8 = .ok (.checkcast 100, 3) := by decide +kernel
theorem dX14_stepOut_11 : decode cX14_stepOut 11 = .ok (.astore_n 3, 1) := by decide +kernel
theorem dX14_stepOut_12 : decode cX14_stepOut 12 = .ok (.aload_n 0, 1) := by decide +kernel
theorem dX14_stepOut_13 : decode cX14_stepOut 13 = .ok (.getfield 22, 3) := by decide +kernel
theorem dX14_stepOut_16 : decode cX14_stepOut 16 = .ok (.aload_n 3, 1) := by decide +kernel
theorem dX14_stepOut_17 : decode cX14_stepOut 17 = .ok (.getfield 177, 3) := by decide +kernel
theorem dX14_stepOut_20 : decode cX14_stepOut 20 = .ok (.invokevirtual 90, 3) := by decide +kernel
theorem dX14_stepOut_23 : decode cX14_stepOut 23 = .ok (.checkcast 68, 3) := by decide +kernel
theorem dX14_stepOut_26 : decode cX14_stepOut 26 = .ok (.astore 4, 2) := by decide +kernel
theorem dX14_stepOut_28 : decode cX14_stepOut 28 = .ok (.aload 4, 2) := by decide +kernel
theorem dX14_stepOut_30 : decode cX14_stepOut 30 = .ok (.getfield 162, 3) := by decide +kernel
theorem dX14_stepOut_33 : decode cX14_stepOut 33 = .ok (.aload 4, 2) := by decide +kernel
theorem dX14_stepOut_35 : decode cX14_stepOut 35 = .ok (.iload_n 1, 1) := by decide +kernel
theorem dX14_stepOut_36 : decode cX14_stepOut 36 = .ok (.invokevirtual 183, 3) := by decide +kernel
theorem dX14_stepOut_39 : decode cX14_stepOut 39 = .ok (.invokevirtual 186, 3) := by decide +kernel
theorem dX14_stepOut_42 : decode cX14_stepOut 42 = .ok (.pop, 1) := by decide +kernel
theorem dX14_stepOut_43 : decode cX14_stepOut 43 = .ok (.aload_n 3, 1) := by decide +kernel
theorem dX14_stepOut_44 : decode cX14_stepOut 44 = .ok (.iload_n 2, 1) := by decide +kernel
theorem dX14_stepOut_45 : decode cX14_stepOut 45 = .ok (.putfield 116, 3) := by decide +kernel
theorem dX14_stepOut_48 : decode cX14_stepOut 48 = .ok (.aload_n 3, 1) := by decide +kernel
theorem dX14_stepOut_49 : decode cX14_stepOut 49 = .ok (.iconst (-1), 1) := by decide +kernel
theorem dX14_stepOut_50 : decode cX14_stepOut 50 = .ok (.putfield 177, 3) := by decide +kernel
theorem dX14_stepOut_53 : decode cX14_stepOut 53 = .ok (.iconst 0, 1) := by decide +kernel
theorem dX14_stepOut_54 : decode cX14_stepOut 54 = .ok (.istore 5, 2) := by decide +kernel
theorem dX14_stepOut_56 : decode cX14_stepOut 56 = .ok (.iload 5, 2) := by decide +kernel
theorem dX14_stepOut_58 : decode cX14_stepOut 58 = .ok (.aload_n 0, 1) := by decide +kernel
theorem dX14_stepOut_59 : decode cX14_stepOut 59 = .ok (.getfield 29, 3) := by decide +kernel
theorem dX14_stepOut_62 : decode cX14_stepOut 62 = .ok (.invokevirtual 47, 3) := by decide +kernel
theorem dX14_stepOut_65 : decode cX14_stepOut 65 = .ok (.if_icmp .ge 51, 3) := by decide +kernel
theorem dX14_stepOut_68 : decode cX14_stepOut 68 = .ok (.iload_n 2, 1) := by decide +kernel
theorem dX14_stepOut_69 : decode cX14_stepOut 69 = .ok (.iconst 2, 1) := by decide +kernel
theorem dX14_stepOut_70 : decode cX14_stepOut 70 = .ok (.if_icmp .ne 46, 3) := by decide +kernel
theorem dX14_stepOut_73 : decode cX14_stepOut 73 = .ok (.aload_n 0, 1) := by decide +kernel
theorem dX14_stepOut_74 : decode cX14_stepOut 74 = .ok (.getfield 29, 3) := by decide +kernel
theorem dX14_stepOut_77 : decode cX14_stepOut 77 = .ok (.iload 5, 2) := by decide +kernel
theorem dX14_stepOut_79 : decode cX14_stepOut 79 = .ok (.invokevirtual 90, 3) := by decide +kernel
theorem dX14_stepOut_82 : decode cX14_stepOut 82 = .ok (.checkcast 119, 3) := by decide +kernel
theorem dX14_stepOut_85 : decode cX14_stepOut 85 = .ok (.getfield 131, 3) := by decide +kernel
theorem dX14_stepOut_88 : decode cX14_stepOut 88 = .ok (.iload_n 1, 1) := by decide +kernel
theorem dX14_stepOut_89 : decode cX14_stepOut 89 = .ok (.if_icmp .ne 21, 3) := by decide +kernel
theorem dX14_stepOut_92 : decode cX14_stepOut 92 = .ok (.aload_n 0, 1) := by decide +kernel
theorem dX14_stepOut_93 : decode cX14_stepOut 93 = .ok (.getfield 29, 3) := by decide +kernel
theorem dX14_stepOut_96 : decode cX14_stepOut 96 = .ok (.iload 5, 2) := by decide +kernel
theorem dX14_stepOut_98 : decode cX14_stepOut 98 = .ok (.invokevirtual 90, 3) := by decide +kernel
theorem dX14_stepOut_101 : decode cX14_stepOut 101 = .ok (.checkcast 119, 3) := by decide +kernel
theorem dX14_stepOut_104 : decode cX14_stepOut 104 = .ok (.sipush 999, 3) := by decide +kernel
theorem dX14_stepOut_107 : decode cX14_stepOut 107 = .ok (.putfield 131, 3) := by decide +kernel
theorem dX14_stepOut_110 : decode cX14_stepOut 110 = .ok (.iinc 5 1, 3) := by decide +kernel
theorem dX14_stepOut_113 : decode cX14_stepOut 113 = .ok (.goto (-57), 3) := by decide +kernel
theorem dX14_stepOut_116 : decode cX14_stepOut 116 = .ok (.return_, 1) := by decide +kernel
set_option maxRecDepth 100000 in
theorem ggX14_leave_X14_isSleeper : GoodIn wsX14_leave wsX14_isSleeper := wk_g rfl wm_X14_leave 8072 wc_X14_isSleeper rfl (by decide +kernel) (by decide +kernel) wq_X14_isSleeper
set_option maxRecDepth 100000 in
theorem gX14_leave_X14_isSleeper : GoodIn wsX14_leave (wsV RX14 113 RX14 yX14_isSleeper wsX14_isSleeper) := goodIn_app (wk_h rfl wm_X14_leave [8069, 8071, 1048, 2007] (by decide +kernel) (by decide +kernel) (by decide +kernel)) ggX14_leave_X14_isSleeper
set_option maxRecDepth 100000 in
theorem ggX14_leave_X14_refuse : GoodIn wsX14_leave wsX14_refuse := wk_g rfl wm_X14_leave 7199 wc_X14_refuse rfl (by decide +kernel) (by decide +kernel) wq_X14_refuse
set_option maxRecDepth 100000 in
theorem gX14_leave_X14_refuse : GoodIn wsX14_leave (wsV RX14 55 RX14 yX14_refuse wsX14_refuse) := goodIn_app (wk_h rfl wm_X14_leave [7196, 7198, 1046, 2007] (by decide +kernel) (by decide +kernel) (by decide +kernel)) ggX14_leave_X14_refuse
set_option maxRecDepth 100000 in
theorem ggX14_leave_Jx4a65c_get_915e3 : GoodIn wsX14_leave wsJx4a65c_get_915e3 := wk_g rfl wm_X14_leave 2177 wc_Jx4a65c_get_915e3 rfl (by decide +kernel) (by decide +kernel) wq_Jx4a65c_get_915e3
set_option maxRecDepth 100000 in
theorem gX14_leave_Jx4a65c_get_915e3 : GoodIn wsX14_leave (wsV RX14 90 RJx4a65c yJx4a65c_get_915e3 wsJx4a65c_get_915e3) := goodIn_app (wk_h rfl wm_X14_leave [8019, 2175, 2176, 2004] (by decide +kernel) (by decide +kernel) (by decide +kernel)) ggX14_leave_Jx4a65c_get_915e3
set_option maxRecDepth 100000 in
theorem ggX14_leave_X10_place : GoodIn wsX14_leave wsX10_place := wk_g rfl wm_X14_leave 8164 wc_X10_place rfl (by decide +kernel) (by decide +kernel) wq_X10_place
set_option maxRecDepth 100000 in
theorem gX14_leave_X10_place : GoodIn wsX14_leave (wsV RX14 183 RX10 yX10_place wsX10_place) := goodIn_app (wk_h rfl wm_X14_leave [8161, 8162, 8163, 2022] (by decide +kernel) (by decide +kernel) (by decide +kernel)) ggX14_leave_X10_place
set_option maxRecDepth 100000 in
theorem ggX14_leave_X14_stepOut : GoodIn wsX14_leave wsX14_stepOut := wk_g rfl wm_X14_leave 8172 wc_X14_stepOut rfl (by decide +kernel) (by decide +kernel) wq_X14_stepOut
set_option maxRecDepth 100000 in
theorem gX14_leave_X14_stepOut : GoodIn wsX14_leave (wsV RX14 189 RX14 yX14_stepOut wsX14_stepOut) := goodIn_app (wk_h rfl wm_X14_leave [8169, 8171, 1051, 2007] (by decide +kernel) (by decide +kernel) (by decide +kernel)) ggX14_leave_X14_stepOut
theorem dX14_leave_0 : decode cX14_leave 0 = .ok (.aload_n 0, 1) := by decide +kernel
theorem dX14_leave_1 : decode cX14_leave 1 = .ok (.iconst 0, 1) := by decide +kernel
theorem dX14_leave_2 : decode cX14_leave 2 = .ok (.putfield 40, 3) := by decide +kernel
theorem dX14_leave_5 : decode cX14_leave 5 = .ok (.aload_n 0, 1) := by decide +kernel
theorem dX14_leave_6 : decode cX14_leave 6 = .ok (.iload_n 1, 1) := by decide +kernel
theorem dX14_leave_7 : decode cX14_leave 7 = .ok (.invokevirtual 113, 3) := by decide +kernel
theorem dX14_leave_10 : decode cX14_leave 10 = .ok (.ifCond .ne 9, 3) := by decide +kernel
theorem dX14_leave_13 : decode cX14_leave 13 = .ok (.aload_n 0, 1) := by decide +kernel
theorem dX14_leave_14 : decode cX14_leave 14 = .ok (.iconst 1, 1) := by decide +kernel
theorem dX14_leave_15 : decode cX14_leave 15 = .ok (.invokevirtual 55, 3) := by decide +kernel
theorem dX14_leave_18 : decode cX14_leave 18 = .ok (.ireturn, 1) := by decide +kernel
theorem dX14_leave_19 : decode cX14_leave 19 = .ok (.aload_n 0, 1) := by decide +kernel
theorem dX14_leave_20 : decode cX14_leave 20 = .ok (.getfield 26, 3) := by decide +kernel
theorem dX14_leave_23 : decode cX14_leave 23 = .ok (.iload_n 1, 1) := by decide +kernel
theorem dX14_leave_24 : decode cX14_leave 24 = .ok (.invokevirtual 90, 3) := by decide +kernel
theorem dX14_leave_27 : decode cX14_leave 27 = .ok (.checkcast 100, 3) := by decide +kernel
theorem dX14_leave_30 : decode cX14_leave 30 = .ok (.astore_n 2, 1) := by decide +kernel
theorem dX14_leave_31 : decode cX14_leave 31 = .ok (.aload_n 2, 1) := by decide +kernel
theorem dX14_leave_32 : decode cX14_leave 32 = .ok (.getfield 116, 3) := by decide +kernel
theorem dX14_leave_35 : decode cX14_leave 35 = .ok (.iconst 1, 1) := by decide +kernel
theorem dX14_leave_36 : decode cX14_leave 36 = .ok (.if_icmp .eq 9, 3) := by decide +kernel
theorem dX14_leave_39 : decode cX14_leave 39 = .ok (.aload_n 0, 1) := by decide +kernel
theorem dX14_leave_40 : decode cX14_leave 40 = .ok (.iconst 2, 1) := by decide +kernel
theorem dX14_leave_41 : decode cX14_leave 41 = .ok (.invokevirtual 55, 3) := by decide +kernel
theorem dX14_leave_44 : decode cX14_leave 44 = .ok (.ireturn, 1) := by decide +kernel
theorem dX14_leave_45 : decode cX14_leave 45 = .ok (.aload_n 0, 1) := by decide +kernel
theorem dX14_leave_46 : decode cX14_leave 46 = .ok (.getfield 22, 3) := by decide +kernel
theorem dX14_leave_49 : decode cX14_leave 49 = .ok (.aload_n 2, 1) := by decide +kernel
theorem dX14_leave_50 : decode cX14_leave 50 = .ok (.getfield 177, 3) := by decide +kernel
theorem dX14_leave_53 : decode cX14_leave 53 = .ok (.invokevirtual 90, 3) := by decide +kernel
theorem dX14_leave_56 : decode cX14_leave 56 = .ok (.checkcast 68, 3) := by decide +kernel
theorem dX14_leave_59 : decode cX14_leave 59 = .ok (.iload_n 1, 1) := by decide +kernel
theorem dX14_leave_60 : decode cX14_leave 60 = .ok (.invokevirtual 183, 3) := by decide +kernel
theorem dX14_leave_63 : decode cX14_leave 63 = .ok (.istore_n 3, 1) := by decide +kernel
theorem dX14_leave_64 : decode cX14_leave 64 = .ok (.aload_n 0, 1) := by decide +kernel
theorem dX14_leave_65 : decode cX14_leave 65 = .ok (.iload_n 1, 1) := by decide +kernel
theorem dX14_leave_66 : decode cX14_leave 66 = .ok (.iconst 0, 1) := by decide +kernel
theorem dX14_leave_67 : decode cX14_leave 67 = .ok (.invokevirtual 189, 3) := by decide +kernel
theorem dX14_leave_70 : decode cX14_leave 70 = .ok (.iload_n 3, 1) := by decide +kernel
theorem dX14_leave_71 : decode cX14_leave 71 = .ok (.ireturn, 1) := by decide +kernel
set_option maxRecDepth 100000 in
theorem ggX14_isGoodNow_Jx4a65c_get_915e3 : GoodIn wsX14_isGoodNow wsJx4a65c_get_915e3 := wk_g rfl wm_X14_isGoodNow 2177 wc_Jx4a65c_get_915e3 rfl (by decide +kernel) (by decide +kernel) wq_Jx4a65c_get_915e3
set_option maxRecDepth 100000 in
theorem gX14_isGoodNow_Jx4a65c_get_915e3 : GoodIn wsX14_isGoodNow (wsV RX14 90 RJx4a65c yJx4a65c_get_915e3 wsJx4a65c_get_915e3) := goodIn_app (wk_h rfl wm_X14_isGoodNow [8019, 2175, 2176, 2004] (by decide +kernel) (by decide +kernel) (by decide +kernel)) ggX14_isGoodNow_Jx4a65c_get_915e3
set_option maxRecDepth 100000 in
theorem ggX14_isGoodNow_X14_right : GoodIn wsX14_isGoodNow wsX14_right := wk_g rfl wm_X14_isGoodNow 8114 wc_X14_right rfl (by decide +kernel) (by decide +kernel) wq_X14_right
set_option maxRecDepth 100000 in
theorem gX14_isGoodNow_X14_right : GoodIn wsX14_isGoodNow (va_wsS RX14 149 yX14_right wsX14_right) := goodIn_app (wk_h rfl wm_X14_isGoodNow [8112, 8113, 2007] (by decide +kernel) (by decide +kernel) (by decide +kernel)) ggX14_isGoodNow_X14_right
set_option maxRecDepth 100000 in
theorem ggX14_isGoodNow_X10_dozes : GoodIn wsX14_isGoodNow wsX10_dozes := wk_g rfl wm_X14_isGoodNow 8191 wc_X10_dozes rfl (by decide +kernel) (by decide +kernel) wq_X10_dozes
set_option maxRecDepth 100000 in
theorem gX14_isGoodNow_X10_dozes : GoodIn wsX14_isGoodNow (wsV RX14 198 RX10 yX10_dozes wsX10_dozes) := goodIn_app (wk_h rfl wm_X14_isGoodNow [8188, 8189, 8190, 2022] (by decide +kernel) (by decide +kernel) (by decide +kernel)) ggX14_isGoodNow_X10_dozes
theorem dX14_isGoodNow_0 : decode cX14_isGoodNow 0 = .ok (.aload_n 0, 1) := by decide +kernel
theorem dX14_isGoodNow_1 : decode cX14_isGoodNow 1 = .ok (.getfield 26, 3) := by decide +kernel
theorem dX14_isGoodNow_4 : decode cX14_isGoodNow 4 = .ok (.iload_n 1, 1) := by decide +kernel
theorem dX14_isGoodNow_5 : decode cX14_isGoodNow 5 = .ok (.invokevirtual 90, 3) := by decide +kernel
theorem dX14_isGoodNow_8 : decode cX14_isGoodNow 8 = .ok (.checkcast 100, 3) := by decide +kernel
theorem dX14_isGoodNow_11 : decode cX14_isGoodNow 11 = .ok (.astore_n 3, 1) := by decide +kernel
theorem dX14_isGoodNow_12 : decode cX14_isGoodNow 12 = .ok (.aload_n 3, 1) := by decide +kernel
theorem dX14_isGoodNow_13 : decode cX14_isGoodNow 13 = .ok (.getfield 146, 3) := by decide +kernel
theorem dX14_isGoodNow_16 : decode cX14_isGoodNow 16 = .ok (.iconst (-1), 1) := by decide +kernel
theorem dX14_isGoodNow_17 : decode cX14_isGoodNow 17 = .ok (.if_icmp .eq 22, 3) := by decide +kernel
theorem dX14_isGoodNow_20 : decode cX14_isGoodNow 20 = .ok (.aload_n 3, 1) := by decide +kernel
theorem dX14_isGoodNow_21 : decode cX14_isGoodNow 21 = .ok (.getfield 140, 3) := by decide +kernel
theorem dX14_isGoodNow_24 : decode cX14_isGoodNow 24 = .ok (.iload_n 2, 1) := by decide +kernel
theorem dX14_isGoodNow_25 : decode cX14_isGoodNow 25 = .ok (.if_icmp .ne 14, 3) := by decide +kernel
theorem dX14_isGoodNow_28 : decode cX14_isGoodNow 28 = .ok (.aload_n 3, 1) := by decide +kernel
theorem dX14_isGoodNow_29 : decode cX14_isGoodNow 29 = .ok (.getfield 143, 3) := by decide +kernel
theorem dX14_isGoodNow_32 : decode cX14_isGoodNow 32 = .ok (.aload_n 0, 1) := by decide +kernel
theorem dX14_isGoodNow_33 : decode cX14_isGoodNow 33 = .ok (.getfield 137, 3) := by decide +kernel
theorem dX14_isGoodNow_36 : decode cX14_isGoodNow 36 = .ok (.if_icmp .eq 5, 3) := by decide +kernel
theorem dX14_isGoodNow_39 : decode cX14_isGoodNow 39 = .ok (.iconst 0, 1) := by decide +kernel
theorem dX14_isGoodNow_40 : decode cX14_isGoodNow 40 = .ok (.ireturn, 1) := by decide +kernel
theorem dX14_isGoodNow_41 : decode cX14_isGoodNow 41 = .ok (.aload_n 0, 1) := by decide +kernel
theorem dX14_isGoodNow_42 : decode cX14_isGoodNow 42 = .ok (.getfield 22, 3) := by decide +kernel
theorem dX14_isGoodNow_45 : decode cX14_isGoodNow 45 = .ok (.iload_n 2, 1) := by decide +kernel
theorem dX14_isGoodNow_46 : decode cX14_isGoodNow 46 = .ok (.invokevirtual 90, 3) := by decide +kernel
theorem dX14_isGoodNow_49 : decode cX14_isGoodNow 49 = .ok (.checkcast 68, 3) := by decide +kernel
theorem dX14_isGoodNow_52 : decode cX14_isGoodNow 52 = .ok (.astore 4, 2) := by decide +kernel
theorem dX14_isGoodNow_54 : decode cX14_isGoodNow 54 = .ok (.aload_n 3, 1) := by decide +kernel
theorem dX14_isGoodNow_55 : decode cX14_isGoodNow 55 = .ok (.getfield 146, 3) := by decide +kernel
theorem dX14_isGoodNow_58 : decode cX14_isGoodNow 58 = .ok (.iload_n 1, 1) := by decide +kernel
theorem dX14_isGoodNow_59 : decode cX14_isGoodNow 59 = .ok (.iload_n 2, 1) := by decide +kernel
theorem dX14_isGoodNow_60 : decode cX14_isGoodNow 60 = .ok (.aload_n 0, 1) := by decide +kernel
theorem dX14_isGoodNow_61 : decode cX14_isGoodNow 61 = .ok (.getfield 137, 3) := by decide +kernel
theorem dX14_isGoodNow_64 : decode cX14_isGoodNow 64 = .ok (.invokestatic 149, 3) := by decide +kernel
theorem dX14_isGoodNow_67 : decode cX14_isGoodNow 67 = .ok (.isub, 1) := by decide +kernel
theorem dX14_isGoodNow_68 : decode cX14_isGoodNow 68 = .ok (.invokestatic 193, 3) := by decide +kernel
theorem dX14_isGoodNow_71 : decode cX14_isGoodNow 71 = .ok (.istore 5, 2) := by decide +kernel
theorem dX14_isGoodNow_73 : decode cX14_isGoodNow 73 = .ok (.aload 4, 2) := by decide +kernel
theorem dX14_isGoodNow_75 : decode cX14_isGoodNow 75 = .ok (.invokevirtual 198, 3) := by decide +kernel
theorem dX14_isGoodNow_78 : decode cX14_isGoodNow 78 = .ok (.ifCond .eq 17, 3) := by decide +kernel
theorem dX14_isGoodNow_81 : decode cX14_isGoodNow 81 = .ok (.iload 5, 2) := by decide +kernel
theorem dX14_isGoodNow_83 : decode cX14_isGoodNow 83 = .ok (.iconst 1, 1) := by decide +kernel
theorem dX14_isGoodNow_84 : decode cX14_isGoodNow 84 = .ok (.if_icmp .gt 7, 3) := by decide +kernel
theorem dX14_isGoodNow_87 : decode cX14_isGoodNow 87 = .ok (.iconst 1, 1) := by decide +kernel
theorem dX14_isGoodNow_88 : decode cX14_isGoodNow 88 = .ok (.goto 30, 3) := by decide +kernel
theorem dX14_isGoodNow_91 : decode cX14_isGoodNow 91 = .ok (.iconst 0, 1) := by decide +kernel
theorem dX14_isGoodNow_92 : decode cX14_isGoodNow 92 = .ok (.goto 26, 3) := by decide +kernel
theorem dX14_isGoodNow_95 : decode cX14_isGoodNow 95 = .ok (.iload 5, 2) := by decide +kernel
theorem dX14_isGoodNow_97 : decode cX14_isGoodNow 97 = .ok (.ifCond .ne 20, 3) := by decide +kernel
theorem dX14_isGoodNow_100 : decode cX14_isGoodNow 100 = .ok (.aload 4, 2) := by decide +kernel
theorem dX14_isGoodNow_102 : decode cX14_isGoodNow 102 = .ok (.getfield 153, 3) := by decide +kernel
theorem dX14_isGoodNow_105 : decode cX14_isGoodNow 105 = .ok (.aload_n 3, 1) := by decide +kernel
theorem dX14_isGoodNow_106 : decode cX14_isGoodNow 106 = .ok (.getfield 146, 3) := by decide +kernel
theorem dX14_isGoodNow_109 : decode cX14_isGoodNow 109 = .ok (.baload, 1) := by decide +kernel
theorem dX14_isGoodNow_110 : decode cX14_isGoodNow 110 = .ok (.ifCond .ne 7, 3) := by decide +kernel
theorem dX14_isGoodNow_113 : decode cX14_isGoodNow 113 = .ok (.iconst 1, 1) := by decide +kernel
theorem dX14_isGoodNow_114 : decode cX14_isGoodNow 114 = .ok (.goto 4, 3) := by decide +kernel
theorem dX14_isGoodNow_117 : decode cX14_isGoodNow 117 = .ok (.iconst 0, 1) := by decide +kernel
theorem dX14_isGoodNow_118 : decode cX14_isGoodNow 118 = .ok (.ireturn, 1) := by decide +kernel
set_option maxRecDepth 100000 in
theorem ggX14_comeIn_Jx4a65c_get_915e3 : GoodIn wsX14_comeIn wsJx4a65c_get_915e3 := wk_g rfl wm_X14_comeIn 2177 wc_Jx4a65c_get_915e3 rfl (by decide +kernel) (by decide +kernel) wq_Jx4a65c_get_915e3
set_option maxRecDepth 100000 in
theorem gX14_comeIn_Jx4a65c_get_915e3 : GoodIn wsX14_comeIn (wsV RX14 90 RJx4a65c yJx4a65c_get_915e3 wsJx4a65c_get_915e3) := goodIn_app (wk_h rfl wm_X14_comeIn [8019, 2175, 2176, 2004] (by decide +kernel) (by decide +kernel) (by decide +kernel)) ggX14_comeIn_Jx4a65c_get_915e3
set_option maxRecDepth 100000 in
theorem ggX14_comeIn_Jx4a65c_size_8abf5 : GoodIn wsX14_comeIn wsJx4a65c_size_8abf5 := wk_g rfl wm_X14_comeIn 2173 wc_Jx4a65c_size_8abf5 rfl (by decide +kernel) (by decide +kernel) wq_Jx4a65c_size_8abf5
set_option maxRecDepth 100000 in
theorem gX14_comeIn_Jx4a65c_size_8abf5 : GoodIn wsX14_comeIn (wsV RX14 47 RJx4a65c yJx4a65c_size_8abf5 wsJx4a65c_size_8abf5) := goodIn_app (wk_h rfl wm_X14_comeIn [7208, 2171, 2172, 2004] (by decide +kernel) (by decide +kernel) (by decide +kernel)) ggX14_comeIn_Jx4a65c_size_8abf5
set_option maxRecDepth 100000 in
theorem ggX14_comeIn_X12_isNightmare : GoodIn wsX14_comeIn wsX12_isNightmare := wk_g rfl wm_X14_comeIn 8211 wc_X12_isNightmare rfl (by decide +kernel) (by decide +kernel) wq_X12_isNightmare
set_option maxRecDepth 100000 in
theorem gX14_comeIn_X12_isNightmare : GoodIn wsX14_comeIn (wsV RX14 205 RX12 yX12_isNightmare wsX12_isNightmare) := goodIn_app (wk_h rfl wm_X14_comeIn [8208, 8209, 8210, 2028] (by decide +kernel) (by decide +kernel) (by decide +kernel)) ggX14_comeIn_X12_isNightmare
theorem dX14_comeIn_0 : decode cX14_comeIn 0 = .ok (.aload_n 0, 1) := by decide +kernel
theorem dX14_comeIn_1 : decode cX14_comeIn 1 = .ok (.getfield 26, 3) := by decide +kernel
theorem dX14_comeIn_4 : decode cX14_comeIn 4 = .ok (.iload_n 1, 1) := by decide +kernel
theorem dX14_comeIn_5 : decode cX14_comeIn 5 = .ok (.invokevirtual 90, 3) := by decide +kernel
theorem dX14_comeIn_8 : decode cX14_comeIn 8 = .ok (.checkcast 100, 3) := by decide +kernel
theorem dX14_comeIn_11 : decode cX14_comeIn 11 = .ok (.astore 4, 2) := by decide +kernel
theorem dX14_comeIn_13 : decode cX14_comeIn 13 = .ok (.aload_n 0, 1) := by decide +kernel
theorem dX14_comeIn_14 : decode cX14_comeIn 14 = .ok (.getfield 15, 3) := by decide +kernel
theorem dX14_comeIn_17 : decode cX14_comeIn 17 = .ok (.iload_n 2, 1) := by decide +kernel
theorem dX14_comeIn_18 : decode cX14_comeIn 18 = .ok (.aaload, 1) := by decide +kernel
theorem dX14_comeIn_19 : decode cX14_comeIn 19 = .ok (.astore 5, 2) := by decide +kernel
theorem dX14_comeIn_21 : decode cX14_comeIn 21 = .ok (.aload 5, 2) := by decide +kernel
theorem dX14_comeIn_23 : decode cX14_comeIn 23 = .ok (.getfield 202, 3) := by decide +kernel
theorem dX14_comeIn_26 : decode cX14_comeIn 26 = .ok (.istore 6, 2) := by decide +kernel
theorem dX14_comeIn_28 : decode cX14_comeIn 28 = .ok (.iconst 0, 1) := by decide +kernel
theorem dX14_comeIn_29 : decode cX14_comeIn 29 = .ok (.istore 7, 2) := by decide +kernel
theorem dX14_comeIn_31 : decode cX14_comeIn 31 = .ok (.iconst 0, 1) := by decide +kernel
theorem dX14_comeIn_32 : decode cX14_comeIn 32 = .ok (.istore 8, 2) := by decide +kernel
theorem dX14_comeIn_34 : decode cX14_comeIn 34 = .ok (.iload 8, 2) := by decide +kernel
theorem dX14_comeIn_36 : decode cX14_comeIn 36 = .ok (.aload_n 0, 1) := by decide +kernel
theorem dX14_comeIn_37 : decode cX14_comeIn 37 = .ok (.getfield 29, 3) := by decide +kernel
theorem dX14_comeIn_40 : decode cX14_comeIn 40 = .ok (.invokevirtual 47, 3) := by decide +kernel
theorem dX14_comeIn_43 : decode cX14_comeIn 43 = .ok (.if_icmp .ge 156, 3) := by decide +kernel
theorem dX14_comeIn_46 : decode cX14_comeIn 46 = .ok (.aload_n 0, 1) := by decide +kernel
theorem dX14_comeIn_47 : decode cX14_comeIn 47 = .ok (.getfield 29, 3) := by decide +kernel
theorem dX14_comeIn_50 : decode cX14_comeIn 50 = .ok (.iload 8, 2) := by decide +kernel
theorem dX14_comeIn_52 : decode cX14_comeIn 52 = .ok (.invokevirtual 90, 3) := by decide +kernel
theorem dX14_comeIn_55 : decode cX14_comeIn 55 = .ok (.checkcast 119, 3) := by decide +kernel
theorem dX14_comeIn_58 : decode cX14_comeIn 58 = .ok (.astore 9, 2) := by decide +kernel
theorem dX14_comeIn_60 : decode cX14_comeIn 60 = .ok (.aload 9, 2) := by decide +kernel
theorem dX14_comeIn_62 : decode cX14_comeIn 62 = .ok (.getfield 131, 3) := by decide +kernel
theorem dX14_comeIn_65 : decode cX14_comeIn 65 = .ok (.iload_n 1, 1) := by decide +kernel
theorem dX14_comeIn_66 : decode cX14_comeIn 66 = .ok (.if_icmp .ne 127, 3) := by decide +kernel
theorem dX14_comeIn_69 : decode cX14_comeIn 69 = .ok (.aload 4, 2) := by decide +kernel
theorem dX14_comeIn_71 : decode cX14_comeIn 71 = .ok (.getfield 180, 3) := by decide +kernel
theorem dX14_comeIn_74 : decode cX14_comeIn 74 = .ok (.iload 8, 2) := by decide +kernel
theorem dX14_comeIn_76 : decode cX14_comeIn 76 = .ok (.ishr, 1) := by decide +kernel
theorem dX14_comeIn_77 : decode cX14_comeIn 77 = .ok (.iconst 1, 1) := by decide +kernel
theorem dX14_comeIn_78 : decode cX14_comeIn 78 = .ok (.iand, 1) := by decide +kernel
theorem dX14_comeIn_79 : decode cX14_comeIn 79 = .ok (.ifCond .ne 6, 3) := by decide +kernel
theorem dX14_comeIn_82 : decode cX14_comeIn 82 = .ok (.goto 111, 3) := by decide +kernel
theorem dX14_comeIn_85 : decode cX14_comeIn 85 = .ok (.aload 9, 2) := by decide +kernel
theorem dX14_comeIn_87 : decode cX14_comeIn 87 = .ok (.invokevirtual 205, 3) := by decide +kernel
theorem dX14_comeIn_90 : decode cX14_comeIn 90 = .ok (.ifCond .eq 17, 3) := by decide +kernel
theorem dX14_comeIn_93 : decode cX14_comeIn 93 = .ok (.iload 6, 2) := by decide +kernel
theorem dX14_comeIn_95 : decode cX14_comeIn 95 = .ok (.aload 5, 2) := by decide +kernel
theorem dX14_comeIn_97 : decode cX14_comeIn 97 = .ok (.getfield 65, 3) := by decide +kernel
theorem dX14_comeIn_100 : decode cX14_comeIn 100 = .ok (.if_icmp .lt 7, 3) := by decide +kernel
theorem dX14_comeIn_103 : decode cX14_comeIn 103 = .ok (.iconst 1, 1) := by decide +kernel
theorem dX14_comeIn_104 : decode cX14_comeIn 104 = .ok (.goto 4, 3) := by decide +kernel
theorem dX14_comeIn_107 : decode cX14_comeIn 107 = .ok (.iconst 0, 1) := by decide +kernel
theorem dX14_comeIn_108 : decode cX14_comeIn 108 = .ok (.istore 10, 2) := by decide +kernel
theorem dX14_comeIn_110 : decode cX14_comeIn 110 = .ok (.iload 6, 2) := by decide +kernel
theorem dX14_comeIn_112 : decode cX14_comeIn 112 = .ok (.aload 9, 2) := by decide +kernel
theorem dX14_comeIn_114 : decode cX14_comeIn 114 = .ok (.invokevirtual 205, 3) := by decide +kernel
theorem dX14_comeIn_117 : decode cX14_comeIn 117 = .ok (.ifCond .eq 12, 3) := by decide +kernel
theorem dX14_comeIn_120 : decode cX14_comeIn 120 = .ok (.iload 10, 2) := by decide +kernel
theorem dX14_comeIn_122 : decode cX14_comeIn 122 = .ok (.ifCond .ne 7, 3) := by decide +kernel
theorem dX14_comeIn_125 : decode cX14_comeIn 125 = .ok (.iconst 1, 1) := by decide +kernel
theorem dX14_comeIn_126 : decode cX14_comeIn 126 = .ok (.goto 4, 3) := by decide +kernel
theorem dX14_comeIn_129 : decode cX14_comeIn 129 = .ok (.iconst 0, 1) := by decide +kernel
theorem dX14_comeIn_130 : decode cX14_comeIn 130 = .ok (.iadd, 1) := by decide +kernel
theorem dX14_comeIn_131 : decode cX14_comeIn 131 = .ok (.istore 6, 2) := by decide +kernel
theorem dX14_comeIn_133 : decode cX14_comeIn 133 = .ok (.iload 7, 2) := by decide +kernel
theorem dX14_comeIn_135 : decode cX14_comeIn 135 = .ok (.iload 10, 2) := by decide +kernel
theorem dX14_comeIn_137 : decode cX14_comeIn 137 = .ok (.ifCond .eq 7, 3) := by decide +kernel
theorem dX14_comeIn_140 : decode cX14_comeIn 140 = .ok (.iconst 0, 1) := by decide +kernel
theorem dX14_comeIn_141 : decode cX14_comeIn 141 = .ok (.goto 8, 3) := by decide +kernel
theorem dX14_comeIn_144 : decode cX14_comeIn 144 = .ok (.aload 9, 2) := by decide +kernel
theorem dX14_comeIn_146 : decode cX14_comeIn 146 = .ok (.getfield 125, 3) := by decide +kernel
theorem dX14_comeIn_149 : decode cX14_comeIn 149 = .ok (.iadd, 1) := by decide +kernel
theorem dX14_comeIn_150 : decode cX14_comeIn 150 = .ok (.istore 7, 2) := by decide +kernel
theorem dX14_comeIn_152 : decode cX14_comeIn 152 = .ok (.iload_n 3, 1) := by decide +kernel
theorem dX14_comeIn_153 : decode cX14_comeIn 153 = .ok (.ifCond .eq 21, 3) := by decide +kernel
theorem dX14_comeIn_156 : decode cX14_comeIn 156 = .ok (.iload 10, 2) := by decide +kernel
theorem dX14_comeIn_158 : decode cX14_comeIn 158 = .ok (.ifCond .eq 16, 3) := by decide +kernel
theorem dX14_comeIn_161 : decode cX14_comeIn 161 = .ok (.aload 9, 2) := by decide +kernel
theorem dX14_comeIn_163 : decode cX14_comeIn 163 = .ok (.bipush 100, 2) := by decide +kernel
theorem dX14_comeIn_165 : decode cX14_comeIn 165 = .ok (.aload 4, 2) := by decide +kernel
theorem dX14_comeIn_167 : decode cX14_comeIn 167 = .ok (.getfield 103, 3) := by decide +kernel
theorem dX14_comeIn_170 : decode cX14_comeIn 170 = .ok (.iadd, 1) := by decide +kernel
theorem dX14_comeIn_171 : decode cX14_comeIn 171 = .ok (.putfield 131, 3) := by decide +kernel
theorem dX14_comeIn_174 : decode cX14_comeIn 174 = .ok (.iload_n 3, 1) := by decide +kernel
theorem dX14_comeIn_175 : decode cX14_comeIn 175 = .ok (.ifCond .eq 18, 3) := by decide +kernel
theorem dX14_comeIn_178 : decode cX14_comeIn 178 = .ok (.aload 9, 2) := by decide +kernel
theorem dX14_comeIn_180 : decode cX14_comeIn 180 = .ok (.iload 10, 2) := by decide +kernel
theorem dX14_comeIn_182 : decode cX14_comeIn 182 = .ok (.ifCond .eq 7, 3) := by decide +kernel
theorem dX14_comeIn_185 : decode cX14_comeIn 185 = .ok (.iconst 5, 1) := by decide +kernel
theorem dX14_comeIn_186 : decode cX14_comeIn 186 = .ok (.goto 4, 3) := by decide +kernel
theorem dX14_comeIn_189 : decode cX14_comeIn 189 = .ok (.iconst 1, 1) := by decide +kernel
theorem dX14_comeIn_190 : decode cX14_comeIn 190 = .ok (.putfield 208, 3) := by decide +kernel
theorem dX14_comeIn_193 : decode cX14_comeIn 193 = .ok (.iinc 8 1, 3) := by decide +kernel
theorem dX14_comeIn_196 : decode cX14_comeIn 196 = .ok (.goto (-162), 3) := by decide +kernel
theorem dX14_comeIn_199 : decode cX14_comeIn 199 = .ok (.iload_n 3, 1) := by decide +kernel
theorem dX14_comeIn_200 : decode cX14_comeIn 200 = .ok (.ifCond .eq 10, 3) := by decide +kernel
theorem dX14_comeIn_203 : decode cX14_comeIn 203 = .ok (.aload 5, 2) := by decide +kernel
theorem dX14_comeIn_205 : decode cX14_comeIn 205 = .ok (.iload 6, 2) := by decide +kernel
theorem dX14_comeIn_207 : decode cX14_comeIn 207 = .ok (.putfield 202, 3) := by decide +kernel
theorem dX14_comeIn_210 : decode cX14_comeIn 210 = .ok (.iload 7, 2) := by decide +kernel
theorem dX14_comeIn_212 : decode cX14_comeIn 212 = .ok (.ireturn, 1) := by decide +kernel
theorem dX14_duty_0 : decode cX14_duty 0 = .ok (.iconst 0, 1) := by decide +kernel
theorem dX14_duty_1 : decode cX14_duty 1 = .ok (.iload_n 1, 1) := by decide +kernel
theorem dX14_duty_2 : decode cX14_duty 2 = .ok (.aload_n 2, 1) := by decide +kernel
theorem dX14_duty_3 : decode cX14_duty 3 = .ok (.getfield 62, 3) := by decide +kernel
theorem dX14_duty_6 : decode cX14_duty 6 = .ok (.isub, 1) := by decide +kernel
theorem dX14_duty_7 : decode cX14_duty 7 = .ok (.invokestatic 211, 3) := by decide +kernel
theorem dX14_duty_10 : decode cX14_duty 10 = .ok (.aload_n 2, 1) := by decide +kernel
theorem dX14_duty_11 : decode cX14_duty 11 = .ok (.getfield 59, 3) := by decide +kernel
theorem dX14_duty_14 : decode cX14_duty 14 = .ok (.imul, 1) := by decide +kernel
theorem dX14_duty_15 : decode cX14_duty 15 = .ok (.bipush 100, 2) := by decide +kernel
theorem dX14_duty_17 : decode cX14_duty 17 = .ok (.idiv, 1) := by decide +kernel
theorem dX14_duty_18 : decode cX14_duty 18 = .ok (.ireturn, 1) := by decide +kernel
set_option maxRecDepth 100000 in
theorem ggX14_comeThrough_Jx4a65c_get_915e3 : GoodIn wsX14_comeThrough wsJx4a65c_get_915e3 := wk_g bm_X14_comeThrough wm_X14_comeThrough 2177 wc_Jx4a65c_get_915e3 rfl (by decide +kernel) (by decide +kernel) wq_Jx4a65c_get_915e3
set_option maxRecDepth 100000 in
theorem gX14_comeThrough_Jx4a65c_get_915e3 : GoodIn wsX14_comeThrough (wsV RX14 90 RJx4a65c yJx4a65c_get_915e3 wsJx4a65c_get_915e3) := goodIn_app (wk_h bm_X14_comeThrough wm_X14_comeThrough [8019, 2175, 2176, 2004] (by decide +kernel) (by decide +kernel) (by decide +kernel)) ggX14_comeThrough_Jx4a65c_get_915e3
set_option maxRecDepth 100000 in
theorem ggX14_comeThrough_X10_beyond : GoodIn wsX14_comeThrough wsX10_beyond := wk_g bm_X14_comeThrough wm_X14_comeThrough 8199 wc_X10_beyond rfl (by decide +kernel) (by decide +kernel) wq_X10_beyond
set_option maxRecDepth 100000 in
theorem gX14_comeThrough_X10_beyond : GoodIn wsX14_comeThrough (wsV RX14 215 RX10 yX10_beyond wsX10_beyond) := goodIn_app (wk_h bm_X14_comeThrough wm_X14_comeThrough [8196, 8197, 8198, 2022] (by decide +kernel) (by decide +kernel) (by decide +kernel)) ggX14_comeThrough_X10_beyond
set_option maxRecDepth 100000 in
theorem ggX14_comeThrough_X10_dozes : GoodIn wsX14_comeThrough wsX10_dozes := wk_g bm_X14_comeThrough wm_X14_comeThrough 8191 wc_X10_dozes rfl (by decide +kernel) (by decide +kernel) wq_X10_dozes
set_option maxRecDepth 100000 in
theorem gX14_comeThrough_X10_dozes : GoodIn wsX14_comeThrough (wsV RX14 198 RX10 yX10_dozes wsX10_dozes) := goodIn_app (wk_h bm_X14_comeThrough wm_X14_comeThrough [8188, 8189, 8190, 2022] (by decide +kernel) (by decide +kernel) (by decide +kernel)) ggX14_comeThrough_X10_dozes
set_option maxRecDepth 100000 in
theorem ggX14_comeThrough_Jx4a65c_size_8abf5 : GoodIn wsX14_comeThrough wsJx4a65c_size_8abf5 := wk_g bm_X14_comeThrough wm_X14_comeThrough 2173 wc_Jx4a65c_size_8abf5 rfl (by decide +kernel) (by decide +kernel) wq_Jx4a65c_size_8abf5
set_option maxRecDepth 100000 in
theorem gX14_comeThrough_Jx4a65c_size_8abf5 : GoodIn wsX14_comeThrough (wsV RX14 47 RJx4a65c yJx4a65c_size_8abf5 wsJx4a65c_size_8abf5) := goodIn_app (wk_h bm_X14_comeThrough wm_X14_comeThrough [7208, 2171, 2172, 2004] (by decide +kernel) (by decide +kernel) (by decide +kernel)) ggX14_comeThrough_Jx4a65c_size_8abf5
set_option maxRecDepth 100000 in
theorem ggX14_comeThrough_X14_hide : GoodIn wsX14_comeThrough wsX14_hide := wk_g bm_X14_comeThrough wm_X14_comeThrough 8203 wc_X14_hide rfl (by decide +kernel) (by decide +kernel) wq_X14_hide
set_option maxRecDepth 100000 in
theorem gX14_comeThrough_X14_hide : GoodIn wsX14_comeThrough (wsV RX14 221 RX14 yX14_hide wsX14_hide) := goodIn_app (wk_h bm_X14_comeThrough wm_X14_comeThrough [8200, 8202, 1054, 2007] (by decide +kernel) (by decide +kernel) (by decide +kernel)) ggX14_comeThrough_X14_hide
set_option maxRecDepth 100000 in
theorem ggX14_comeThrough_X14_comeIn : GoodIn wsX14_comeThrough wsX14_comeIn := wk_g bm_X14_comeThrough wm_X14_comeThrough 8207 wc_X14_comeIn rfl (by decide +kernel) (by decide +kernel) wq_X14_comeIn
set_option maxRecDepth 100000 in
theorem gX14_comeThrough_X14_comeIn : GoodIn wsX14_comeThrough (wsV RX14 230 RX14 yX14_comeIn wsX14_comeIn) := goodIn_app (wk_h bm_X14_comeThrough wm_X14_comeThrough [8204, 8206, 1055, 2007] (by decide +kernel) (by decide +kernel) (by decide +kernel)) ggX14_comeThrough_X14_comeIn
set_option maxRecDepth 100000 in
theorem ggX14_comeThrough_X14_duty : GoodIn wsX14_comeThrough wsX14_duty := wk_g bm_X14_comeThrough wm_X14_comeThrough 8215 wc_X14_duty rfl (by decide +kernel) (by decide +kernel) wq_X14_duty
set_option maxRecDepth 100000 in
theorem gX14_comeThrough_X14_duty : GoodIn wsX14_comeThrough (wsV RX14 237 RX14 yX14_duty wsX14_duty) := goodIn_app (wk_h bm_X14_comeThrough wm_X14_comeThrough [8212, 8214, 1056, 2007] (by decide +kernel) (by decide +kernel) (by decide +kernel)) ggX14_comeThrough_X14_duty
theorem dX14_comeThrough_0 : decode cX14_comeThrough 0 = .ok (.aload_n 0, 1) := by decide +kernel
theorem dX14_comeThrough_1 : decode cX14_comeThrough 1 = .ok (.getfield 26, 3) := by decide +kernel
theorem dX14_comeThrough_4 : decode cX14_comeThrough 4 = .ok (.iload_n 1, 1) := by decide +kernel
theorem dX14_comeThrough_5 : decode cX14_comeThrough 5 = .ok (.invokevirtual 90, 3) := by decide +kernel
theorem dX14_comeThrough_8 : decode cX14_comeThrough 8 = .ok (.checkcast 100, 3) := by decide +kernel
theorem dX14_comeThrough_11 : decode cX14_comeThrough 11 = .ok (.astore_n 3, 1) := by decide +kernel
theorem dX14_comeThrough_12 : decode cX14_comeThrough 12 = .ok (.aload_n 2, 1) := by decide +kernel
theorem dX14_comeThrough_13 : decode cX14_comeThrough 13 = .ok (.aload_n 3, 1) := by decide +kernel
theorem dX14_comeThrough_14 : decode cX14_comeThrough 14 = .ok (.getfield 103, 3) := by decide +kernel
theorem dX14_comeThrough_17 : decode cX14_comeThrough 17 = .ok (.invokevirtual 215, 3) := by decide +kernel
theorem dX14_comeThrough_20 : decode cX14_comeThrough 20 = .ok (.istore 4, 2) := by decide +kernel
theorem dX14_comeThrough_22 : decode cX14_comeThrough 22 = .ok (.iconst 0, 1) := by decide +kernel
theorem dX14_comeThrough_23 : decode cX14_comeThrough 23 = .ok (.istore 5, 2) := by decide +kernel
theorem dX14_comeThrough_25 : decode cX14_comeThrough 25 = .ok (.aload_n 2, 1) := by decide +kernel
theorem dX14_comeThrough_26 : decode cX14_comeThrough 26 = .ok (.invokevirtual 198, 3) := by decide +kernel
theorem dX14_comeThrough_29 : decode cX14_comeThrough 29 = .ok (.ifCond .ne 52, 3) := by decide +kernel
theorem dX14_comeThrough_32 : decode cX14_comeThrough 32 = .ok (.aload_n 0, 1) := by decide +kernel
theorem dX14_comeThrough_33 : decode cX14_comeThrough 33 = .ok (.getfield 7, 3) := by decide +kernel
theorem dX14_comeThrough_36 : decode cX14_comeThrough 36 = .ok (.bipush 10, 2) := by decide +kernel
theorem dX14_comeThrough_38 : decode cX14_comeThrough 38 = .ok (.irem, 1) := by decide +kernel
theorem dX14_comeThrough_39 : decode cX14_comeThrough 39 = .ok (.aload_n 2, 1) := by decide +kernel
theorem dX14_comeThrough_40 : decode cX14_comeThrough 40 = .ok (.getfield 94, 3) := by decide +kernel
theorem dX14_comeThrough_43 : decode cX14_comeThrough 43 = .ok (.if_icmp .ge 7, 3) := by decide +kernel
theorem dX14_comeThrough_46 : decode cX14_comeThrough 46 = .ok (.iconst 1, 1) := by decide +kernel
theorem dX14_comeThrough_47 : decode cX14_comeThrough 47 = .ok (.goto 4, 3) := by decide +kernel
theorem dX14_comeThrough_50 : decode cX14_comeThrough 50 = .ok (.iconst 0, 1) := by decide +kernel
theorem dX14_comeThrough_51 : decode cX14_comeThrough 51 = .ok (.istore 5, 2) := by decide +kernel
theorem dX14_comeThrough_53 : decode cX14_comeThrough 53 = .ok (.aload_n 0, 1) := by decide +kernel
theorem dX14_comeThrough_54 : decode cX14_comeThrough 54 = .ok (.bipush 21, 2) := by decide +kernel
theorem dX14_comeThrough_56 : decode cX14_comeThrough 56 = .ok (.aload_n 0, 1) := by decide +kernel
theorem dX14_comeThrough_57 : decode cX14_comeThrough 57 = .ok (.getfield 7, 3) := by decide +kernel
theorem dX14_comeThrough_60 : decode cX14_comeThrough 60 = .ok (.imul, 1) := by decide +kernel
theorem dX14_comeThrough_61 : decode cX14_comeThrough 61 = .ok (.bipush 11, 2) := by decide +kernel
theorem dX14_comeThrough_63 : decode cX14_comeThrough 63 = .ok (.iadd, 1) := by decide +kernel
theorem dX14_comeThrough_64 : decode cX14_comeThrough 64 = .ok (.sipush 4096, 3) := by decide +kernel
theorem dX14_comeThrough_67 : decode cX14_comeThrough 67 = .ok (.irem, 1) := by decide +kernel
theorem dX14_comeThrough_68 : decode cX14_comeThrough 68 = .ok (.putfield 7, 3) := by decide +kernel
theorem dX14_comeThrough_71 : decode cX14_comeThrough 71 = .ok (.aload_n 0, 1) := by decide +kernel
theorem dX14_comeThrough_72 : decode cX14_comeThrough 72 = .ok (.dup, 1) := by decide +kernel
theorem dX14_comeThrough_73 : decode cX14_comeThrough 73 = .ok (.getfield 218, 3) := by decide +kernel
theorem dX14_comeThrough_76 : decode cX14_comeThrough 76 = .ok (.iconst 1, 1) := by decide +kernel
theorem dX14_comeThrough_77 : decode cX14_comeThrough 77 = .ok (.iadd, 1) := by decide +kernel
theorem dX14_comeThrough_78 : decode cX14_comeThrough 78 = .ok (.putfield 218, 3) := by decide +kernel
theorem dX14_comeThrough_81 : decode cX14_comeThrough 81 = .ok (.iconst 0, 1) := by decide +kernel
theorem dX14_comeThrough_82 : decode cX14_comeThrough 82 = .ok (.istore 6, 2) := by decide +kernel
theorem dX14_comeThrough_84 : decode cX14_comeThrough 84 = .ok (.iconst 0, 1) := by decide +kernel
theorem dX14_comeThrough_85 : decode cX14_comeThrough 85 = .ok (.istore 7, 2) := by decide +kernel
theorem dX14_comeThrough_87 : decode cX14_comeThrough 87 = .ok (.iload 7, 2) := by decide +kernel
theorem dX14_comeThrough_89 : decode cX14_comeThrough 89 = .ok (.aload_n 0, 1) := by decide +kernel
theorem dX14_comeThrough_90 : decode cX14_comeThrough 90 = .ok (.getfield 29, 3) := by decide +kernel
theorem dX14_comeThrough_93 : decode cX14_comeThrough 93 = .ok (.invokevirtual 47, 3) := by decide +kernel
theorem dX14_comeThrough_96 : decode cX14_comeThrough 96 = .ok (.if_icmp .ge 120, 3) := by decide +kernel
theorem dX14_comeThrough_99 : decode cX14_comeThrough 99 = .ok (.aload_n 0, 1) := by decide +kernel
theorem dX14_comeThrough_100 : decode cX14_comeThrough 100 = .ok (.getfield 29, 3) := by decide +kernel
theorem dX14_comeThrough_103 : decode cX14_comeThrough 103 = .ok (.iload 7, 2) := by decide +kernel
theorem dX14_comeThrough_105 : decode cX14_comeThrough 105 = .ok (.invokevirtual 90, 3) := by decide +kernel
theorem dX14_comeThrough_108 : decode cX14_comeThrough 108 = .ok (.checkcast 119, 3) := by decide +kernel
theorem dX14_comeThrough_111 : decode cX14_comeThrough 111 = .ok (.astore 8, 2) := by decide +kernel
theorem dX14_comeThrough_113 : decode cX14_comeThrough 113 = .ok (.aload 8, 2) := by decide +kernel
theorem dX14_comeThrough_115 : decode cX14_comeThrough 115 = .ok (.getfield 131, 3) := by decide +kernel
theorem dX14_comeThrough_118 : decode cX14_comeThrough 118 = .ok (.iload_n 1, 1) := by decide +kernel
theorem dX14_comeThrough_119 : decode cX14_comeThrough 119 = .ok (.if_icmp .ne 91, 3) := by decide +kernel
theorem dX14_comeThrough_122 : decode cX14_comeThrough 122 = .ok (.aload_n 3, 1) := by decide +kernel
theorem dX14_comeThrough_123 : decode cX14_comeThrough 123 = .ok (.getfield 180, 3) := by decide +kernel
theorem dX14_comeThrough_126 : decode cX14_comeThrough 126 = .ok (.iload 7, 2) := by decide +kernel
theorem dX14_comeThrough_128 : decode cX14_comeThrough 128 = .ok (.ishr, 1) := by decide +kernel
theorem dX14_comeThrough_129 : decode cX14_comeThrough 129 = .ok (.iconst 1, 1) := by decide +kernel
theorem dX14_comeThrough_130 : decode cX14_comeThrough 130 = .ok (.iand, 1) := by decide +kernel
theorem dX14_comeThrough_131 : decode cX14_comeThrough 131 = .ok (.iconst 1, 1) := by decide +kernel
theorem dX14_comeThrough_132 : decode cX14_comeThrough 132 = .ok (.if_icmp .ne 6, 3) := by decide +kernel
theorem dX14_comeThrough_135 : decode cX14_comeThrough 135 = .ok (.goto 75, 3) := by decide +kernel
theorem dX14_comeThrough_138 : decode cX14_comeThrough 138 = .ok (.aload_n 0, 1) := by decide +kernel
theorem dX14_comeThrough_139 : decode cX14_comeThrough 139 = .ok (.iload_n 1, 1) := by decide +kernel
theorem dX14_comeThrough_140 : decode cX14_comeThrough 140 = .ok (.aload 8, 2) := by decide +kernel
theorem dX14_comeThrough_142 : decode cX14_comeThrough 142 = .ok (.getfield 122, 3) := by decide +kernel
theorem dX14_comeThrough_145 : decode cX14_comeThrough 145 = .ok (.invokevirtual 221, 3) := by decide +kernel
theorem dX14_comeThrough_148 : decode cX14_comeThrough 148 = .ok (.aload 8, 2) := by decide +kernel
theorem dX14_comeThrough_150 : decode cX14_comeThrough 150 = .ok (.iload 5, 2) := by decide +kernel
theorem dX14_comeThrough_152 : decode cX14_comeThrough 152 = .ok (.ifCond .eq 7, 3) := by decide +kernel
theorem dX14_comeThrough_155 : decode cX14_comeThrough 155 = .ok (.iconst 3, 1) := by decide +kernel
theorem dX14_comeThrough_156 : decode cX14_comeThrough 156 = .ok (.goto 4, 3) := by decide +kernel
theorem dX14_comeThrough_159 : decode cX14_comeThrough 159 = .ok (.iconst 4, 1) := by decide +kernel
theorem dX14_comeThrough_160 : decode cX14_comeThrough 160 = .ok (.putfield 208, 3) := by decide +kernel
theorem dX14_comeThrough_163 : decode cX14_comeThrough 163 = .ok (.aload 8, 2) := by decide +kernel
theorem dX14_comeThrough_165 : decode cX14_comeThrough 165 = .ok (.iload_n 1, 1) := by decide +kernel
theorem dX14_comeThrough_166 : decode cX14_comeThrough 166 = .ok (.putfield 224, 3) := by decide +kernel
theorem dX14_comeThrough_169 : decode cX14_comeThrough 169 = .ok (.iload 5, 2) := by decide +kernel
theorem dX14_comeThrough_171 : decode cX14_comeThrough 171 = .ok (.ifCond .ne 6, 3) := by decide +kernel
theorem dX14_comeThrough_174 : decode cX14_comeThrough 174 = .ok (.goto 36, 3) := by decide +kernel
theorem dX14_comeThrough_177 : decode cX14_comeThrough 177 = .ok (.aload 8, 2) := by decide +kernel
theorem dX14_comeThrough_179 : decode cX14_comeThrough 179 = .ok (.bipush 100, 2) := by decide +kernel
theorem dX14_comeThrough_181 : decode cX14_comeThrough 181 = .ok (.iload 4, 2) := by decide +kernel
theorem dX14_comeThrough_183 : decode cX14_comeThrough 183 = .ok (.iadd, 1) := by decide +kernel
theorem dX14_comeThrough_184 : decode cX14_comeThrough 184 = .ok (.putfield 131, 3) := by decide +kernel
theorem dX14_comeThrough_187 : decode cX14_comeThrough 187 = .ok (.aload_n 0, 1) := by decide +kernel
theorem dX14_comeThrough_188 : decode cX14_comeThrough 188 = .ok (.getfield 15, 3) := by decide +kernel
theorem dX14_comeThrough_191 : decode cX14_comeThrough 191 = .ok (.iload 4, 2) := by decide +kernel
theorem dX14_comeThrough_193 : decode cX14_comeThrough 193 = .ok (.aaload, 1) := by decide +kernel
theorem dX14_comeThrough_194 : decode cX14_comeThrough 194 = .ok (.dup, 1) := by decide +kernel
theorem dX14_comeThrough_195 : decode cX14_comeThrough 195 = .ok (.getfield 227, 3) := by decide +kernel
theorem dX14_comeThrough_198 : decode cX14_comeThrough 198 = .ok (.aload 8, 2) := by decide +kernel
theorem dX14_comeThrough_200 : decode cX14_comeThrough 200 = .ok (.getfield 125, 3) := by decide +kernel
theorem dX14_comeThrough_203 : decode cX14_comeThrough 203 = .ok (.iadd, 1) := by decide +kernel
theorem dX14_comeThrough_204 : decode cX14_comeThrough 204 = .ok (.putfield 227, 3) := by decide +kernel
theorem dX14_comeThrough_207 : decode cX14_comeThrough 207 = .ok (.iinc 6 1, 3) := by decide +kernel
theorem dX14_comeThrough_210 : decode cX14_comeThrough 210 = .ok (.iinc 7 1, 3) := by decide +kernel
theorem dX14_comeThrough_213 : decode cX14_comeThrough 213 = .ok (.goto (-126), 3) := by decide +kernel
theorem dX14_comeThrough_216 : decode cX14_comeThrough 216 = .ok (.aload_n 0, 1) := by decide +kernel
theorem dX14_comeThrough_217 : decode cX14_comeThrough 217 = .ok (.iload_n 1, 1) := by decide +kernel
theorem dX14_comeThrough_218 : decode cX14_comeThrough 218 = .ok (.iload 4, 2) := by decide +kernel
theorem dX14_comeThrough_220 : decode cX14_comeThrough 220 = .ok (.iconst 1, 1) := by decide +kernel
theorem dX14_comeThrough_221 : decode cX14_comeThrough 221 = .ok (.invokevirtual 230, 3) := by decide +kernel
theorem dX14_comeThrough_224 : decode cX14_comeThrough 224 = .ok (.istore 7, 2) := by decide +kernel
theorem dX14_comeThrough_226 : decode cX14_comeThrough 226 = .ok (.aload_n 0, 1) := by decide +kernel
theorem dX14_comeThrough_227 : decode cX14_comeThrough 227 = .ok (.getfield 15, 3) := by decide +kernel
theorem dX14_comeThrough_230 : decode cX14_comeThrough 230 = .ok (.iload 4, 2) := by decide +kernel
theorem dX14_comeThrough_232 : decode cX14_comeThrough 232 = .ok (.aaload, 1) := by decide +kernel
theorem dX14_comeThrough_233 : decode cX14_comeThrough 233 = .ok (.dup, 1) := by decide +kernel
theorem dX14_comeThrough_234 : decode cX14_comeThrough 234 = .ok (.getfield 234, 3) := by decide +kernel
theorem dX14_comeThrough_237 : decode cX14_comeThrough 237 = .ok (.aload_n 0, 1) := by decide +kernel
theorem dX14_comeThrough_238 : decode cX14_comeThrough 238 = .ok (.iload 7, 2) := by decide +kernel
theorem dX14_comeThrough_240 : decode cX14_comeThrough 240 = .ok (.aload_n 0, 1) := by decide +kernel
theorem dX14_comeThrough_241 : decode cX14_comeThrough 241 = .ok (.getfield 15, 3) := by decide +kernel
theorem dX14_comeThrough_244 : decode cX14_comeThrough 244 = .ok (.iload 4, 2) := by decide +kernel
theorem dX14_comeThrough_246 : decode cX14_comeThrough 246 = .ok (.aaload, 1) := by decide +kernel
theorem dX14_comeThrough_247 : decode cX14_comeThrough 247 = .ok (.invokevirtual 237, 3) := by decide +kernel
theorem dX14_comeThrough_250 : decode cX14_comeThrough 250 = .ok (.iadd, 1) := by decide +kernel
theorem dX14_comeThrough_251 : decode cX14_comeThrough 251 = .ok (.putfield 234, 3) := by decide +kernel
theorem dX14_comeThrough_254 : decode cX14_comeThrough 254 = .ok (.iconst 0, 1) := by decide +kernel
theorem dX14_comeThrough_255 : decode cX14_comeThrough 255 = .ok (.istore 8, 2) := by decide +kernel
theorem dX14_comeThrough_257 : decode cX14_comeThrough 257 = .ok (.iload 8, 2) := by decide +kernel
theorem dX14_comeThrough_259 : decode cX14_comeThrough 259 = .ok (.aload_n 0, 1) := by decide +kernel
theorem dX14_comeThrough_260 : decode cX14_comeThrough 260 = .ok (.getfield 29, 3) := by decide +kernel
theorem dX14_comeThrough_263 : decode cX14_comeThrough 263 = .ok (.invokevirtual 47, 3) := by decide +kernel
theorem dX14_comeThrough_266 : decode cX14_comeThrough 266 = .ok (.if_icmp .ge 66, 3) := by decide +kernel
theorem dX14_comeThrough_269 : decode cX14_comeThrough 269 = .ok (.aload_n 0, 1) := by decide +kernel
theorem dX14_comeThrough_270 : decode cX14_comeThrough 270 = .ok (.getfield 29, 3) := by decide +kernel
theorem dX14_comeThrough_273 : decode cX14_comeThrough 273 = .ok (.iload 8, 2) := by decide +kernel
theorem dX14_comeThrough_275 : decode cX14_comeThrough 275 = .ok (.invokevirtual 90, 3) := by decide +kernel
theorem dX14_comeThrough_278 : decode cX14_comeThrough 278 = .ok (.checkcast 119, 3) := by decide +kernel
theorem dX14_comeThrough_281 : decode cX14_comeThrough 281 = .ok (.astore 9, 2) := by decide +kernel
theorem dX14_comeThrough_283 : decode cX14_comeThrough 283 = .ok (.aload 9, 2) := by decide +kernel
theorem dX14_comeThrough_285 : decode cX14_comeThrough 285 = .ok (.getfield 131, 3) := by decide +kernel
theorem dX14_comeThrough_288 : decode cX14_comeThrough 288 = .ok (.iload_n 1, 1) := by decide +kernel
theorem dX14_comeThrough_289 : decode cX14_comeThrough 289 = .ok (.if_icmp .ne 37, 3) := by decide +kernel
theorem dX14_comeThrough_292 : decode cX14_comeThrough 292 = .ok (.aload_n 3, 1) := by decide +kernel
theorem dX14_comeThrough_293 : decode cX14_comeThrough 293 = .ok (.getfield 180, 3) := by decide +kernel
theorem dX14_comeThrough_296 : decode cX14_comeThrough 296 = .ok (.iload 8, 2) := by decide +kernel
theorem dX14_comeThrough_298 : decode cX14_comeThrough 298 = .ok (.ishr, 1) := by decide +kernel
theorem dX14_comeThrough_299 : decode cX14_comeThrough 299 = .ok (.iconst 1, 1) := by decide +kernel
theorem dX14_comeThrough_300 : decode cX14_comeThrough 300 = .ok (.iand, 1) := by decide +kernel
theorem dX14_comeThrough_301 : decode cX14_comeThrough 301 = .ok (.iconst 1, 1) := by decide +kernel
theorem dX14_comeThrough_302 : decode cX14_comeThrough 302 = .ok (.if_icmp .ne 24, 3) := by decide +kernel
theorem dX14_comeThrough_305 : decode cX14_comeThrough 305 = .ok (.iload 7, 2) := by decide +kernel
theorem dX14_comeThrough_307 : decode cX14_comeThrough 307 = .ok (.aload_n 0, 1) := by decide +kernel
theorem dX14_comeThrough_308 : decode cX14_comeThrough 308 = .ok (.getfield 15, 3) := by decide +kernel
theorem dX14_comeThrough_311 : decode cX14_comeThrough 311 = .ok (.iload 4, 2) := by decide +kernel
theorem dX14_comeThrough_313 : decode cX14_comeThrough 313 = .ok (.aaload, 1) := by decide +kernel
theorem dX14_comeThrough_314 : decode cX14_comeThrough 314 = .ok (.getfield 62, 3) := by decide +kernel
theorem dX14_comeThrough_317 : decode cX14_comeThrough 317 = .ok (.if_icmp .gt 9, 3) := by decide +kernel
theorem dX14_comeThrough_320 : decode cX14_comeThrough 320 = .ok (.aload 9, 2) := by decide +kernel
theorem dX14_comeThrough_322 : decode cX14_comeThrough 322 = .ok (.iconst 2, 1) := by decide +kernel
theorem dX14_comeThrough_323 : decode cX14_comeThrough 323 = .ok (.putfield 208, 3) := by decide +kernel
theorem dX14_comeThrough_326 : decode cX14_comeThrough 326 = .ok (.iinc 8 1, 3) := by decide +kernel
theorem dX14_comeThrough_329 : decode cX14_comeThrough 329 = .ok (.goto (-72), 3) := by decide +kernel
theorem dX14_comeThrough_332 : decode cX14_comeThrough 332 = .ok (.aload_n 3, 1) := by decide +kernel
theorem dX14_comeThrough_333 : decode cX14_comeThrough 333 = .ok (.iload 4, 2) := by decide +kernel
theorem dX14_comeThrough_335 : decode cX14_comeThrough 335 = .ok (.putfield 103, 3) := by decide +kernel
theorem dX14_comeThrough_338 : decode cX14_comeThrough 338 = .ok (.aload_n 3, 1) := by decide +kernel
theorem dX14_comeThrough_339 : decode cX14_comeThrough 339 = .ok (.iconst (-1), 1) := by decide +kernel
theorem dX14_comeThrough_340 : decode cX14_comeThrough 340 = .ok (.putfield 146, 3) := by decide +kernel
theorem dX14_comeThrough_343 : decode cX14_comeThrough 343 = .ok (.iload 6, 2) := by decide +kernel
theorem dX14_comeThrough_345 : decode cX14_comeThrough 345 = .ok (.ireturn, 1) := by decide +kernel
set_option maxRecDepth 100000 in
theorem ggX14_hide_Jx4a65c_size_8abf5 : GoodIn wsX14_hide wsJx4a65c_size_8abf5 := wk_g rfl wm_X14_hide 2173 wc_Jx4a65c_size_8abf5 rfl (by decide +kernel) (by decide +kernel) wq_Jx4a65c_size_8abf5
set_option maxRecDepth 100000 in
theorem gX14_hide_Jx4a65c_size_8abf5 : GoodIn wsX14_hide (wsV RX14 47 RJx4a65c yJx4a65c_size_8abf5 wsJx4a65c_size_8abf5) := goodIn_app (wk_h rfl wm_X14_hide [7208, 2171, 2172, 2004] (by decide +kernel) (by decide +kernel) (by decide +kernel)) ggX14_hide_Jx4a65c_size_8abf5
set_option maxRecDepth 100000 in
theorem ggX14_hide_J6_valueOf_2dffe : GoodIn wsX14_hide wsJ6_valueOf_2dffe := wk_g rfl wm_X14_hide 8138 wc_J6_valueOf_2dffe rfl (by decide +kernel) (by decide +kernel) wq_J6_valueOf_2dffe
set_option maxRecDepth 100000 in
theorem gX14_hide_J6_valueOf_2dffe : GoodIn wsX14_hide (va_wsS RX14 170 yJ6_valueOf_2dffe wsJ6_valueOf_2dffe) := goodIn_app (wk_h rfl wm_X14_hide [8136, 8137, 2036] (by decide +kernel) (by decide +kernel) (by decide +kernel)) ggX14_hide_J6_valueOf_2dffe
set_option maxRecDepth 100000 in
theorem ggX14_hide_Jx4a65c_add_9ea2d : GoodIn wsX14_hide wsJx4a65c_add_9ea2d := wk_g rfl wm_X14_hide 4160 wc_Jx4a65c_add_9ea2d rfl (by decide +kernel) (by decide +kernel) wq_Jx4a65c_add_9ea2d
set_option maxRecDepth 100000 in
theorem gX14_hide_Jx4a65c_add_9ea2d : GoodIn wsX14_hide (wsV RX14 83 RJx4a65c yJx4a65c_add_9ea2d wsJx4a65c_add_9ea2d) := goodIn_app (wk_h rfl wm_X14_hide [8010, 4158, 4159, 2004] (by decide +kernel) (by decide +kernel) (by decide +kernel)) ggX14_hide_Jx4a65c_add_9ea2d
theorem dX14_hide_0 : decode cX14_hide 0 = .ok (.aload_n 0, 1) := by decide +kernel
theorem dX14_hide_1 : decode cX14_hide 1 = .ok (.getfield 32, 3) := by decide +kernel
theorem dX14_hide_4 : decode cX14_hide 4 = .ok (.invokevirtual 47, 3) := by decide +kernel
theorem dX14_hide_7 : decode cX14_hide 7 = .ok (.bipush 120, 2) := by decide +kernel
theorem dX14_hide_9 : decode cX14_hide 9 = .ok (.if_icmp .ne 4, 3) := by decide +kernel
theorem dX14_hide_12 : decode cX14_hide 12 = .ok (.return_, 1) := by decide +kernel
theorem dX14_hide_13 : decode cX14_hide 13 = .ok (.aload_n 0, 1) := by decide +kernel
theorem dX14_hide_14 : decode cX14_hide 14 = .ok (.getfield 32, 3) := by decide +kernel
theorem dX14_hide_17 : decode cX14_hide 17 = .ok (.iload_n 1, 1) := by decide +kernel
theorem dX14_hide_18 : decode cX14_hide 18 = .ok (.invokestatic 170, 3) := by decide +kernel
theorem dX14_hide_21 : decode cX14_hide 21 = .ok (.invokevirtual 83, 3) := by decide +kernel
theorem dX14_hide_24 : decode cX14_hide 24 = .ok (.pop, 1) := by decide +kernel
theorem dX14_hide_25 : decode cX14_hide 25 = .ok (.aload_n 0, 1) := by decide +kernel
theorem dX14_hide_26 : decode cX14_hide 26 = .ok (.getfield 32, 3) := by decide +kernel
theorem dX14_hide_29 : decode cX14_hide 29 = .ok (.iload_n 2, 1) := by decide +kernel
theorem dX14_hide_30 : decode cX14_hide 30 = .ok (.invokestatic 170, 3) := by decide +kernel
theorem dX14_hide_33 : decode cX14_hide 33 = .ok (.invokevirtual 83, 3) := by decide +kernel
theorem dX14_hide_36 : decode cX14_hide 36 = .ok (.pop, 1) := by decide +kernel
theorem dX14_hide_37 : decode cX14_hide 37 = .ok (.aload_n 0, 1) := by decide +kernel
theorem dX14_hide_38 : decode cX14_hide 38 = .ok (.getfield 32, 3) := by decide +kernel
theorem dX14_hide_41 : decode cX14_hide 41 = .ok (.aload_n 0, 1) := by decide +kernel
theorem dX14_hide_42 : decode cX14_hide 42 = .ok (.getfield 137, 3) := by decide +kernel
theorem dX14_hide_45 : decode cX14_hide 45 = .ok (.invokestatic 170, 3) := by decide +kernel
theorem dX14_hide_48 : decode cX14_hide 48 = .ok (.invokevirtual 83, 3) := by decide +kernel
theorem dX14_hide_51 : decode cX14_hide 51 = .ok (.pop, 1) := by decide +kernel
theorem dX14_hide_52 : decode cX14_hide 52 = .ok (.return_, 1) := by decide +kernel
set_option maxRecDepth 100000 in
theorem ggX14_yawn_X14_isGate : GoodIn wsX14_yawn wsX14_isGate := wk_g bm_X14_yawn wm_X14_yawn 8018 wc_X14_isGate rfl (by decide +kernel) (by decide +kernel) wq_X14_isGate
set_option maxRecDepth 100000 in
theorem gX14_yawn_X14_isGate : GoodIn wsX14_yawn (wsV RX14 87 RX14 yX14_isGate wsX14_isGate) := goodIn_app (wk_h bm_X14_yawn wm_X14_yawn [8015, 8017, 1047, 2007] (by decide +kernel) (by decide +kernel) (by decide +kernel)) ggX14_yawn_X14_isGate
set_option maxRecDepth 100000 in
theorem ggX14_yawn_X14_refuse : GoodIn wsX14_yawn wsX14_refuse := wk_g bm_X14_yawn wm_X14_yawn 7199 wc_X14_refuse rfl (by decide +kernel) (by decide +kernel) wq_X14_refuse
set_option maxRecDepth 100000 in
theorem gX14_yawn_X14_refuse : GoodIn wsX14_yawn (wsV RX14 55 RX14 yX14_refuse wsX14_refuse) := goodIn_app (wk_h bm_X14_yawn wm_X14_yawn [7196, 7198, 1046, 2007] (by decide +kernel) (by decide +kernel) (by decide +kernel)) ggX14_yawn_X14_refuse
set_option maxRecDepth 100000 in
theorem ggX14_yawn_Jx4a65c_get_915e3 : GoodIn wsX14_yawn wsJx4a65c_get_915e3 := wk_g bm_X14_yawn wm_X14_yawn 2177 wc_Jx4a65c_get_915e3 rfl (by decide +kernel) (by decide +kernel) wq_Jx4a65c_get_915e3
set_option maxRecDepth 100000 in
theorem gX14_yawn_Jx4a65c_get_915e3 : GoodIn wsX14_yawn (wsV RX14 90 RJx4a65c yJx4a65c_get_915e3 wsJx4a65c_get_915e3) := goodIn_app (wk_h bm_X14_yawn wm_X14_yawn [8019, 2175, 2176, 2004] (by decide +kernel) (by decide +kernel) (by decide +kernel)) ggX14_yawn_Jx4a65c_get_915e3
set_option maxRecDepth 100000 in
theorem ggX14_yawn_X10_isOpen : GoodIn wsX14_yawn wsX10_isOpen := wk_g bm_X14_yawn wm_X14_yawn 8181 wc_X10_isOpen rfl (by decide +kernel) (by decide +kernel) wq_X10_isOpen
set_option maxRecDepth 100000 in
theorem gX14_yawn_X10_isOpen : GoodIn wsX14_yawn (wsV RX14 244 RX10 yX10_isOpen wsX10_isOpen) := goodIn_app (wk_h bm_X14_yawn wm_X14_yawn [8178, 8179, 8180, 2022] (by decide +kernel) (by decide +kernel) (by decide +kernel)) ggX14_yawn_X10_isOpen
set_option maxRecDepth 100000 in
theorem ggX14_yawn_Jx4a65c_isEmpty_aae02 : GoodIn wsX14_yawn wsJx4a65c_isEmpty_aae02 := wk_g bm_X14_yawn wm_X14_yawn 3133 wc_Jx4a65c_isEmpty_aae02 rfl (by decide +kernel) (by decide +kernel) wq_Jx4a65c_isEmpty_aae02
set_option maxRecDepth 100000 in
theorem gX14_yawn_Jx4a65c_isEmpty_aae02 : GoodIn wsX14_yawn (wsV RX14 247 RJx4a65c yJx4a65c_isEmpty_aae02 wsJx4a65c_isEmpty_aae02) := goodIn_app (wk_h bm_X14_yawn wm_X14_yawn [8182, 3131, 3132, 2004] (by decide +kernel) (by decide +kernel) (by decide +kernel)) ggX14_yawn_Jx4a65c_isEmpty_aae02
set_option maxRecDepth 100000 in
theorem ggX14_yawn_J6_intValue_8abf5 : GoodIn wsX14_yawn wsJ6_intValue_8abf5 := wk_g bm_X14_yawn wm_X14_yawn 8135 wc_J6_intValue_8abf5 rfl (by decide +kernel) (by decide +kernel) wq_J6_intValue_8abf5
set_option maxRecDepth 100000 in
theorem gX14_yawn_J6_intValue_8abf5 : GoodIn wsX14_yawn (wsV RX14 167 RJ6 yJ6_intValue_8abf5 wsJ6_intValue_8abf5) := goodIn_app (wk_h bm_X14_yawn wm_X14_yawn [8132, 8133, 8134, 2036] (by decide +kernel) (by decide +kernel) (by decide +kernel)) ggX14_yawn_J6_intValue_8abf5
set_option maxRecDepth 100000 in
theorem ggX14_yawn_X14_stepOut : GoodIn wsX14_yawn wsX14_stepOut := wk_g bm_X14_yawn wm_X14_yawn 8172 wc_X14_stepOut rfl (by decide +kernel) (by decide +kernel) wq_X14_stepOut
set_option maxRecDepth 100000 in
theorem gX14_yawn_X14_stepOut : GoodIn wsX14_yawn (wsV RX14 189 RX14 yX14_stepOut wsX14_stepOut) := goodIn_app (wk_h bm_X14_yawn wm_X14_yawn [8169, 8171, 1051, 2007] (by decide +kernel) (by decide +kernel) (by decide +kernel)) ggX14_yawn_X14_stepOut
set_option maxRecDepth 100000 in
theorem ggX14_yawn_X14_isGoodNow : GoodIn wsX14_yawn wsX14_isGoodNow := wk_g bm_X14_yawn wm_X14_yawn 8186 wc_X14_isGoodNow rfl (by decide +kernel) (by decide +kernel) wq_X14_isGoodNow
set_option maxRecDepth 100000 in
theorem gX14_yawn_X14_isGoodNow : GoodIn wsX14_yawn (wsV RX14 253 RX14 yX14_isGoodNow wsX14_isGoodNow) := goodIn_app (wk_h bm_X14_yawn wm_X14_yawn [8183, 8185, 1052, 2007] (by decide +kernel) (by decide +kernel) (by decide +kernel)) ggX14_yawn_X14_isGoodNow
set_option maxRecDepth 100000 in
theorem ggX14_yawn_X14_comeThrough : GoodIn wsX14_yawn wsX14_comeThrough := wk_g bm_X14_yawn wm_X14_yawn 8195 wc_X14_comeThrough rfl (by decide +kernel) (by decide +kernel) wq_X14_comeThrough
set_option maxRecDepth 100000 in
theorem gX14_yawn_X14_comeThrough : GoodIn wsX14_yawn (wsV RX14 257 RX14 yX14_comeThrough wsX14_comeThrough) := goodIn_app (wk_h bm_X14_yawn wm_X14_yawn [8192, 8194, 1053, 2007] (by decide +kernel) (by decide +kernel) (by decide +kernel)) ggX14_yawn_X14_comeThrough
set_option maxRecDepth 100000 in
theorem ggX14_yawn_Jx4a65c_size_8abf5 : GoodIn wsX14_yawn wsJx4a65c_size_8abf5 := wk_g bm_X14_yawn wm_X14_yawn 2173 wc_Jx4a65c_size_8abf5 rfl (by decide +kernel) (by decide +kernel) wq_Jx4a65c_size_8abf5
set_option maxRecDepth 100000 in
theorem gX14_yawn_Jx4a65c_size_8abf5 : GoodIn wsX14_yawn (wsV RX14 47 RJx4a65c yJx4a65c_size_8abf5 wsJx4a65c_size_8abf5) := goodIn_app (wk_h bm_X14_yawn wm_X14_yawn [7208, 2171, 2172, 2004] (by decide +kernel) (by decide +kernel) (by decide +kernel)) ggX14_yawn_Jx4a65c_size_8abf5
theorem dX14_yawn_0 : decode cX14_yawn 0 = .ok (.aload_n 0, 1) := by decide +kernel
theorem dX14_yawn_1 : decode cX14_yawn 1 = .ok (.iconst 0, 1) := by decide +kernel
theorem dX14_yawn_2 : decode cX14_yawn 2 = .ok (.putfield 40, 3) := by decide +kernel
theorem dX14_yawn_5 : decode cX14_yawn 5 = .ok (.aload_n 0, 1) := by decide +kernel
theorem dX14_yawn_6 : decode cX14_yawn 6 = .ok (.iload_n 1, 1) := by decide +kernel
theorem dX14_yawn_7 : decode cX14_yawn 7 = .ok (.invokevirtual 87, 3) := by decide +kernel
theorem dX14_yawn_10 : decode cX14_yawn 10 = .ok (.ifCond .ne 9, 3) := by decide +kernel
theorem dX14_yawn_13 : decode cX14_yawn 13 = .ok (.aload_n 0, 1) := by decide +kernel
theorem dX14_yawn_14 : decode cX14_yawn 14 = .ok (.iconst 1, 1) := by decide +kernel
theorem dX14_yawn_15 : decode cX14_yawn 15 = .ok (.invokevirtual 55, 3) := by decide +kernel
theorem dX14_yawn_18 : decode cX14_yawn 18 = .ok (.ireturn, 1) := by decide +kernel
theorem dX14_yawn_19 : decode cX14_yawn 19 = .ok (.aload_n 0, 1) := by decide +kernel
theorem dX14_yawn_20 : decode cX14_yawn 20 = .ok (.getfield 22, 3) := by decide +kernel
theorem dX14_yawn_23 : decode cX14_yawn 23 = .ok (.iload_n 1, 1) := by decide +kernel
theorem dX14_yawn_24 : decode cX14_yawn 24 = .ok (.invokevirtual 90, 3) := by decide +kernel
theorem dX14_yawn_27 : decode cX14_yawn 27 = .ok (.checkcast 68, 3) := by decide +kernel
theorem dX14_yawn_30 : decode cX14_yawn 30 = .ok (.astore_n 2, 1) := by decide +kernel
theorem dX14_yawn_31 : decode cX14_yawn 31 = .ok (.aload_n 2, 1) := by decide +kernel
theorem dX14_yawn_32 : decode cX14_yawn 32 = .ok (.aload_n 0, 1) := by decide +kernel
theorem dX14_yawn_33 : decode cX14_yawn 33 = .ok (.getfield 241, 3) := by decide +kernel
theorem dX14_yawn_36 : decode cX14_yawn 36 = .ok (.invokevirtual 244, 3) := by decide +kernel
theorem dX14_yawn_39 : decode cX14_yawn 39 = .ok (.ifCond .eq 13, 3) := by decide +kernel
theorem dX14_yawn_42 : decode cX14_yawn 42 = .ok (.aload_n 2, 1) := by decide +kernel
theorem dX14_yawn_43 : decode cX14_yawn 43 = .ok (.getfield 162, 3) := by decide +kernel
theorem dX14_yawn_46 : decode cX14_yawn 46 = .ok (.invokevirtual 247, 3) := by decide +kernel
theorem dX14_yawn_49 : decode cX14_yawn 49 = .ok (.ifCond .eq 9, 3) := by decide +kernel
theorem dX14_yawn_52 : decode cX14_yawn 52 = .ok (.aload_n 0, 1) := by decide +kernel
theorem dX14_yawn_53 : decode cX14_yawn 53 = .ok (.iconst 2, 1) := by decide +kernel
theorem dX14_yawn_54 : decode cX14_yawn 54 = .ok (.invokevirtual 55, 3) := by decide +kernel
theorem dX14_yawn_57 : decode cX14_yawn 57 = .ok (.ireturn, 1) := by decide +kernel
theorem dX14_yawn_58 : decode cX14_yawn 58 = .ok (.aload_n 0, 1) := by decide +kernel
theorem dX14_yawn_59 : decode cX14_yawn 59 = .ok (.dup, 1) := by decide +kernel
theorem dX14_yawn_60 : decode cX14_yawn 60 = .ok (.getfield 250, 3) := by decide +kernel
theorem dX14_yawn_63 : decode cX14_yawn 63 = .ok (.iconst 1, 1) := by decide +kernel
theorem dX14_yawn_64 : decode cX14_yawn 64 = .ok (.iadd, 1) := by decide +kernel
theorem dX14_yawn_65 : decode cX14_yawn 65 = .ok (.putfield 250, 3) := by decide +kernel
theorem dX14_yawn_68 : decode cX14_yawn 68 = .ok (.aload_n 2, 1) := by decide +kernel
theorem dX14_yawn_69 : decode cX14_yawn 69 = .ok (.getfield 162, 3) := by decide +kernel
theorem dX14_yawn_72 : decode cX14_yawn 72 = .ok (.iconst 0, 1) := by decide +kernel
theorem dX14_yawn_73 : decode cX14_yawn 73 = .ok (.invokevirtual 90, 3) := by decide +kernel
theorem dX14_yawn_76 : decode cX14_yawn 76 = .ok (.checkcast 165, 3) := by decide +kernel
theorem dX14_yawn_79 : decode cX14_yawn 79 = .ok (.invokevirtual 167, 3) := by decide +kernel
theorem dX14_yawn_82 : decode cX14_yawn 82 = .ok (.istore_n 3, 1) := by decide +kernel
theorem dX14_yawn_83 : decode cX14_yawn 83 = .ok (.aload_n 0, 1) := by decide +kernel
theorem dX14_yawn_84 : decode cX14_yawn 84 = .ok (.iload_n 3, 1) := by decide +kernel
theorem dX14_yawn_85 : decode cX14_yawn 85 = .ok (.iconst 0, 1) := by decide +kernel
theorem dX14_yawn_86 : decode cX14_yawn 86 = .ok (.invokevirtual 189, 3) := by decide +kernel
theorem dX14_yawn_89 : decode cX14_yawn 89 = .ok (.aload_n 0, 1) := by decide +kernel
theorem dX14_yawn_90 : decode cX14_yawn 90 = .ok (.iload_n 3, 1) := by decide +kernel
theorem dX14_yawn_91 : decode cX14_yawn 91 = .ok (.iload_n 1, 1) := by decide +kernel
theorem dX14_yawn_92 : decode cX14_yawn 92 = .ok (.invokevirtual 253, 3) := by decide +kernel
theorem dX14_yawn_95 : decode cX14_yawn 95 = .ok (.ifCond .eq 12, 3) := by decide +kernel
theorem dX14_yawn_98 : decode cX14_yawn 98 = .ok (.aload_n 0, 1) := by decide +kernel
theorem dX14_yawn_99 : decode cX14_yawn 99 = .ok (.iload_n 3, 1) := by decide +kernel
theorem dX14_yawn_100 : decode cX14_yawn 100 = .ok (.aload_n 2, 1) := by decide +kernel
theorem dX14_yawn_101 : decode cX14_yawn 101 = .ok (.invokevirtual 257, 3) := by decide +kernel
theorem dX14_yawn_104 : decode cX14_yawn 104 = .ok (.goto 4, 3) := by decide +kernel
theorem dX14_yawn_107 : decode cX14_yawn 107 = .ok (.iconst (-1), 1) := by decide +kernel
theorem dX14_yawn_108 : decode cX14_yawn 108 = .ok (.istore 4, 2) := by decide +kernel
theorem dX14_yawn_110 : decode cX14_yawn 110 = .ok (.aload_n 2, 1) := by decide +kernel
theorem dX14_yawn_111 : decode cX14_yawn 111 = .ok (.getfield 162, 3) := by decide +kernel
theorem dX14_yawn_114 : decode cX14_yawn 114 = .ok (.invokevirtual 47, 3) := by decide +kernel
theorem dX14_yawn_117 : decode cX14_yawn 117 = .ok (.iconst 1, 1) := by decide +kernel
theorem dX14_yawn_118 : decode cX14_yawn 118 = .ok (.isub, 1) := by decide +kernel
theorem dX14_yawn_119 : decode cX14_yawn 119 = .ok (.istore 5, 2) := by decide +kernel
theorem dX14_yawn_121 : decode cX14_yawn 121 = .ok (.iload 5, 2) := by decide +kernel
theorem dX14_yawn_123 : decode cX14_yawn 123 = .ok (.ifCond .lt 72, 3) := by decide +kernel
theorem dX14_yawn_126 : decode cX14_yawn 126 = .ok (.aload_n 2, 1) := by decide +kernel
theorem dX14_yawn_127 : decode cX14_yawn 127 = .ok (.getfield 162, 3) := by decide +kernel
theorem dX14_yawn_130 : decode cX14_yawn 130 = .ok (.iload 5, 2) := by decide +kernel
theorem dX14_yawn_132 : decode cX14_yawn 132 = .ok (.invokevirtual 90, 3) := by decide +kernel
theorem dX14_yawn_135 : decode cX14_yawn 135 = .ok (.checkcast 165, 3) := by decide +kernel
theorem dX14_yawn_138 : decode cX14_yawn 138 = .ok (.invokevirtual 167, 3) := by decide +kernel
theorem dX14_yawn_141 : decode cX14_yawn 141 = .ok (.istore 6, 2) := by decide +kernel
theorem dX14_yawn_143 : decode cX14_yawn 143 = .ok (.aload_n 0, 1) := by decide +kernel
theorem dX14_yawn_144 : decode cX14_yawn 144 = .ok (.getfield 26, 3) := by decide +kernel
theorem dX14_yawn_147 : decode cX14_yawn 147 = .ok (.iload 6, 2) := by decide +kernel
theorem dX14_yawn_149 : decode cX14_yawn 149 = .ok (.invokevirtual 90, 3) := by decide +kernel
theorem dX14_yawn_152 : decode cX14_yawn 152 = .ok (.checkcast 100, 3) := by decide +kernel
theorem dX14_yawn_155 : decode cX14_yawn 155 = .ok (.dup, 1) := by decide +kernel
theorem dX14_yawn_156 : decode cX14_yawn 156 = .ok (.getfield 110, 3) := by decide +kernel
theorem dX14_yawn_159 : decode cX14_yawn 159 = .ok (.iconst 1, 1) := by decide +kernel
theorem dX14_yawn_160 : decode cX14_yawn 160 = .ok (.isub, 1) := by decide +kernel
theorem dX14_yawn_161 : decode cX14_yawn 161 = .ok (.putfield 110, 3) := by decide +kernel
theorem dX14_yawn_164 : decode cX14_yawn 164 = .ok (.aload_n 0, 1) := by decide +kernel
theorem dX14_yawn_165 : decode cX14_yawn 165 = .ok (.getfield 26, 3) := by decide +kernel
theorem dX14_yawn_168 : decode cX14_yawn 168 = .ok (.iload 6, 2) := by decide +kernel
theorem dX14_yawn_170 : decode cX14_yawn 170 = .ok (.invokevirtual 90, 3) := by decide +kernel
theorem dX14_yawn_173 : decode cX14_yawn 173 = .ok (.checkcast 100, 3) := by decide +kernel
theorem dX14_yawn_176 : decode cX14_yawn 176 = .ok (.getfield 110, 3) := by decide +kernel
theorem dX14_yawn_179 : decode cX14_yawn 179 = .ok (.ifCond .ne 10, 3) := by decide +kernel
theorem dX14_yawn_182 : decode cX14_yawn 182 = .ok (.aload_n 0, 1) := by decide +kernel
theorem dX14_yawn_183 : decode cX14_yawn 183 = .ok (.iload 6, 2) := by decide +kernel
theorem dX14_yawn_185 : decode cX14_yawn 185 = .ok (.iconst 2, 1) := by decide +kernel
theorem dX14_yawn_186 : decode cX14_yawn 186 = .ok (.invokevirtual 189, 3) := by decide +kernel
theorem dX14_yawn_189 : decode cX14_yawn 189 = .ok (.iinc 5 (-1), 3) := by decide +kernel
theorem dX14_yawn_192 : decode cX14_yawn 192 = .ok (.goto (-71), 3) := by decide +kernel
theorem dX14_yawn_195 : decode cX14_yawn 195 = .ok (.iload 4, 2) := by decide +kernel
theorem dX14_yawn_197 : decode cX14_yawn 197 = .ok (.ireturn, 1) := by decide +kernel
set_option maxRecDepth 100000 in
theorem ggX14_appeal_X14_isPart : GoodIn wsX14_appeal wsX14_isPart := wk_g rfl wm_X14_appeal 8107 wc_X14_isPart rfl (by decide +kernel) (by decide +kernel) wq_X14_isPart
set_option maxRecDepth 100000 in
theorem gX14_appeal_X14_isPart : GoodIn wsX14_appeal (wsV RX14 134 RX14 yX14_isPart wsX14_isPart) := goodIn_app (wk_h rfl wm_X14_appeal [8104, 8106, 1049, 2007] (by decide +kernel) (by decide +kernel) (by decide +kernel)) ggX14_appeal_X14_isPart
set_option maxRecDepth 100000 in
theorem ggX14_appeal_Jx4a65c_get_915e3 : GoodIn wsX14_appeal wsJx4a65c_get_915e3 := wk_g rfl wm_X14_appeal 2177 wc_Jx4a65c_get_915e3 rfl (by decide +kernel) (by decide +kernel) wq_Jx4a65c_get_915e3
set_option maxRecDepth 100000 in
theorem gX14_appeal_Jx4a65c_get_915e3 : GoodIn wsX14_appeal (wsV RX14 90 RJx4a65c yJx4a65c_get_915e3 wsJx4a65c_get_915e3) := goodIn_app (wk_h rfl wm_X14_appeal [8019, 2175, 2176, 2004] (by decide +kernel) (by decide +kernel) (by decide +kernel)) ggX14_appeal_Jx4a65c_get_915e3
set_option maxRecDepth 100000 in
theorem ggX14_appeal_X14_is : GoodIn wsX14_appeal wsX14_is := wk_g rfl wm_X14_appeal 7195 wc_X14_is rfl (by decide +kernel) (by decide +kernel) wq_X14_is
set_option maxRecDepth 100000 in
theorem gX14_appeal_X14_is : GoodIn wsX14_appeal (va_wsS RX14 43 yX14_is wsX14_is) := goodIn_app (wk_h rfl wm_X14_appeal [7193, 7194, 2007] (by decide +kernel) (by decide +kernel) (by decide +kernel)) ggX14_appeal_X14_is
theorem dX14_appeal_0 : decode cX14_appeal 0 = .ok (.aload_n 0, 1) := by decide +kernel
theorem dX14_appeal_1 : decode cX14_appeal 1 = .ok (.iconst 0, 1) := by decide +kernel
theorem dX14_appeal_2 : decode cX14_appeal 2 = .ok (.putfield 40, 3) := by decide +kernel
theorem dX14_appeal_5 : decode cX14_appeal 5 = .ok (.aload_n 0, 1) := by decide +kernel
theorem dX14_appeal_6 : decode cX14_appeal 6 = .ok (.iload_n 1, 1) := by decide +kernel
theorem dX14_appeal_7 : decode cX14_appeal 7 = .ok (.invokevirtual 134, 3) := by decide +kernel
theorem dX14_appeal_10 : decode cX14_appeal 10 = .ok (.ifCond .ne 11, 3) := by decide +kernel
theorem dX14_appeal_13 : decode cX14_appeal 13 = .ok (.aload_n 0, 1) := by decide +kernel
theorem dX14_appeal_14 : decode cX14_appeal 14 = .ok (.iconst 1, 1) := by decide +kernel
theorem dX14_appeal_15 : decode cX14_appeal 15 = .ok (.putfield 40, 3) := by decide +kernel
theorem dX14_appeal_18 : decode cX14_appeal 18 = .ok (.goto 50, 3) := by decide +kernel
theorem dX14_appeal_21 : decode cX14_appeal 21 = .ok (.aload_n 0, 1) := by decide +kernel
theorem dX14_appeal_22 : decode cX14_appeal 22 = .ok (.getfield 29, 3) := by decide +kernel
theorem dX14_appeal_25 : decode cX14_appeal 25 = .ok (.iload_n 1, 1) := by decide +kernel
theorem dX14_appeal_26 : decode cX14_appeal 26 = .ok (.invokevirtual 90, 3) := by decide +kernel
theorem dX14_appeal_29 : decode cX14_appeal 29 = .ok (.checkcast 119, 3) := by decide +kernel
theorem dX14_appeal_32 : decode cX14_appeal 32 = .ok (.getfield 208, 3) := by decide +kernel
theorem dX14_appeal_35 : decode cX14_appeal 35 = .ok (.iconst 3, 1) := by decide +kernel
theorem dX14_appeal_36 : decode cX14_appeal 36 = .ok (.if_icmp .ne 27, 3) := by decide +kernel
theorem dX14_appeal_39 : decode cX14_appeal 39 = .ok (.aload_n 0, 1) := by decide +kernel
theorem dX14_appeal_40 : decode cX14_appeal 40 = .ok (.getfield 29, 3) := by decide +kernel
theorem dX14_appeal_43 : decode cX14_appeal 43 = .ok (.iload_n 1, 1) := by decide +kernel
theorem dX14_appeal_44 : decode cX14_appeal 44 = .ok (.invokevirtual 90, 3) := by decide +kernel
theorem dX14_appeal_47 : decode cX14_appeal 47 = .ok (.checkcast 119, 3) := by decide +kernel
theorem dX14_appeal_50 : decode cX14_appeal 50 = .ok (.getfield 131, 3) := by decide +kernel
theorem dX14_appeal_53 : decode cX14_appeal 53 = .ok (.bipush 100, 2) := by decide +kernel
theorem dX14_appeal_55 : decode cX14_appeal 55 = .ok (.bipush 105, 2) := by decide +kernel
theorem dX14_appeal_57 : decode cX14_appeal 57 = .ok (.invokestatic 43, 3) := by decide +kernel
theorem dX14_appeal_60 : decode cX14_appeal 60 = .ok (.ifCond .ne 8, 3) := by decide +kernel
theorem dX14_appeal_63 : decode cX14_appeal 63 = .ok (.aload_n 0, 1) := by decide +kernel
theorem dX14_appeal_64 : decode cX14_appeal 64 = .ok (.iconst 2, 1) := by decide +kernel
theorem dX14_appeal_65 : decode cX14_appeal 65 = .ok (.putfield 40, 3) := by decide +kernel
theorem dX14_appeal_68 : decode cX14_appeal 68 = .ok (.aload_n 0, 1) := by decide +kernel
theorem dX14_appeal_69 : decode cX14_appeal 69 = .ok (.getfield 40, 3) := by decide +kernel
theorem dX14_appeal_72 : decode cX14_appeal 72 = .ok (.ifCond .le 5, 3) := by decide +kernel
theorem dX14_appeal_75 : decode cX14_appeal 75 = .ok (.iconst 0, 1) := by decide +kernel
theorem dX14_appeal_76 : decode cX14_appeal 76 = .ok (.ireturn, 1) := by decide +kernel
theorem dX14_appeal_77 : decode cX14_appeal 77 = .ok (.aload_n 0, 1) := by decide +kernel
theorem dX14_appeal_78 : decode cX14_appeal 78 = .ok (.getfield 29, 3) := by decide +kernel
theorem dX14_appeal_81 : decode cX14_appeal 81 = .ok (.iload_n 1, 1) := by decide +kernel
theorem dX14_appeal_82 : decode cX14_appeal 82 = .ok (.invokevirtual 90, 3) := by decide +kernel
theorem dX14_appeal_85 : decode cX14_appeal 85 = .ok (.checkcast 119, 3) := by decide +kernel
theorem dX14_appeal_88 : decode cX14_appeal 88 = .ok (.astore_n 2, 1) := by decide +kernel
theorem dX14_appeal_89 : decode cX14_appeal 89 = .ok (.aload_n 0, 1) := by decide +kernel
theorem dX14_appeal_90 : decode cX14_appeal 90 = .ok (.getfield 15, 3) := by decide +kernel
theorem dX14_appeal_93 : decode cX14_appeal 93 = .ok (.aload_n 2, 1) := by decide +kernel
theorem dX14_appeal_94 : decode cX14_appeal 94 = .ok (.getfield 131, 3) := by decide +kernel
theorem dX14_appeal_97 : decode cX14_appeal 97 = .ok (.bipush 100, 2) := by decide +kernel
theorem dX14_appeal_99 : decode cX14_appeal 99 = .ok (.isub, 1) := by decide +kernel
theorem dX14_appeal_100 : decode cX14_appeal 100 = .ok (.aaload, 1) := by decide +kernel
theorem dX14_appeal_101 : decode cX14_appeal 101 = .ok (.astore_n 3, 1) := by decide +kernel
theorem dX14_appeal_102 : decode cX14_appeal 102 = .ok (.aload_n 0, 1) := by decide +kernel
theorem dX14_appeal_103 : decode cX14_appeal 103 = .ok (.getfield 26, 3) := by decide +kernel
theorem dX14_appeal_106 : decode cX14_appeal 106 = .ok (.aload_n 2, 1) := by decide +kernel
theorem dX14_appeal_107 : decode cX14_appeal 107 = .ok (.getfield 224, 3) := by decide +kernel
theorem dX14_appeal_110 : decode cX14_appeal 110 = .ok (.invokevirtual 90, 3) := by decide +kernel
theorem dX14_appeal_113 : decode cX14_appeal 113 = .ok (.checkcast 100, 3) := by decide +kernel
theorem dX14_appeal_116 : decode cX14_appeal 116 = .ok (.astore 4, 2) := by decide +kernel
theorem dX14_appeal_118 : decode cX14_appeal 118 = .ok (.aload_n 2, 1) := by decide +kernel
theorem dX14_appeal_119 : decode cX14_appeal 119 = .ok (.getfield 125, 3) := by decide +kernel
theorem dX14_appeal_122 : decode cX14_appeal 122 = .ok (.aload_n 3, 1) := by decide +kernel
theorem dX14_appeal_123 : decode cX14_appeal 123 = .ok (.getfield 62, 3) := by decide +kernel
theorem dX14_appeal_126 : decode cX14_appeal 126 = .ok (.if_icmp .gt 26, 3) := by decide +kernel
theorem dX14_appeal_129 : decode cX14_appeal 129 = .ok (.aload 4, 2) := by decide +kernel
theorem dX14_appeal_131 : decode cX14_appeal 131 = .ok (.getfield 103, 3) := by decide +kernel
theorem dX14_appeal_134 : decode cX14_appeal 134 = .ok (.aload_n 2, 1) := by decide +kernel
theorem dX14_appeal_135 : decode cX14_appeal 135 = .ok (.getfield 131, 3) := by decide +kernel
theorem dX14_appeal_138 : decode cX14_appeal 138 = .ok (.bipush 100, 2) := by decide +kernel
theorem dX14_appeal_140 : decode cX14_appeal 140 = .ok (.isub, 1) := by decide +kernel
theorem dX14_appeal_141 : decode cX14_appeal 141 = .ok (.if_icmp .ne 11, 3) := by decide +kernel
theorem dX14_appeal_144 : decode cX14_appeal 144 = .ok (.aload 4, 2) := by decide +kernel
theorem dX14_appeal_146 : decode cX14_appeal 146 = .ok (.getfield 116, 3) := by decide +kernel
theorem dX14_appeal_149 : decode cX14_appeal 149 = .ok (.ifCond .eq 5, 3) := by decide +kernel
theorem dX14_appeal_152 : decode cX14_appeal 152 = .ok (.iconst 0, 1) := by decide +kernel
theorem dX14_appeal_153 : decode cX14_appeal 153 = .ok (.ireturn, 1) := by decide +kernel
theorem dX14_appeal_154 : decode cX14_appeal 154 = .ok (.aload_n 3, 1) := by decide +kernel
theorem dX14_appeal_155 : decode cX14_appeal 155 = .ok (.dup, 1) := by decide +kernel
theorem dX14_appeal_156 : decode cX14_appeal 156 = .ok (.getfield 227, 3) := by decide +kernel
theorem dX14_appeal_159 : decode cX14_appeal 159 = .ok (.aload_n 2, 1) := by decide +kernel
theorem dX14_appeal_160 : decode cX14_appeal 160 = .ok (.getfield 125, 3) := by decide +kernel
theorem dX14_appeal_163 : decode cX14_appeal 163 = .ok (.isub, 1) := by decide +kernel
theorem dX14_appeal_164 : decode cX14_appeal 164 = .ok (.putfield 227, 3) := by decide +kernel
theorem dX14_appeal_167 : decode cX14_appeal 167 = .ok (.aload_n 2, 1) := by decide +kernel
theorem dX14_appeal_168 : decode cX14_appeal 168 = .ok (.aload_n 2, 1) := by decide +kernel
theorem dX14_appeal_169 : decode cX14_appeal 169 = .ok (.getfield 224, 3) := by decide +kernel
theorem dX14_appeal_172 : decode cX14_appeal 172 = .ok (.putfield 131, 3) := by decide +kernel
theorem dX14_appeal_175 : decode cX14_appeal 175 = .ok (.aload_n 2, 1) := by decide +kernel
theorem dX14_appeal_176 : decode cX14_appeal 176 = .ok (.iconst 2, 1) := by decide +kernel
theorem dX14_appeal_177 : decode cX14_appeal 177 = .ok (.putfield 208, 3) := by decide +kernel
theorem dX14_appeal_180 : decode cX14_appeal 180 = .ok (.iconst 1, 1) := by decide +kernel
theorem dX14_appeal_181 : decode cX14_appeal 181 = .ok (.ireturn, 1) := by decide +kernel
set_option maxRecDepth 100000 in
theorem ggX14_pass_X14_is : GoodIn wsX14_pass wsX14_is := wk_g rfl wm_X14_pass 7195 wc_X14_is rfl (by decide +kernel) (by decide +kernel) wq_X14_is
set_option maxRecDepth 100000 in
theorem gX14_pass_X14_is : GoodIn wsX14_pass (va_wsS RX14 43 yX14_is wsX14_is) := goodIn_app (wk_h rfl wm_X14_pass [7193, 7194, 2007] (by decide +kernel) (by decide +kernel) (by decide +kernel)) ggX14_pass_X14_is
set_option maxRecDepth 100000 in
theorem ggX14_pass_X14_refuse : GoodIn wsX14_pass wsX14_refuse := wk_g rfl wm_X14_pass 7199 wc_X14_refuse rfl (by decide +kernel) (by decide +kernel) wq_X14_refuse
set_option maxRecDepth 100000 in
theorem gX14_pass_X14_refuse : GoodIn wsX14_pass (wsV RX14 55 RX14 yX14_refuse wsX14_refuse) := goodIn_app (wk_h rfl wm_X14_pass [7196, 7198, 1046, 2007] (by decide +kernel) (by decide +kernel) (by decide +kernel)) ggX14_pass_X14_refuse
set_option maxRecDepth 100000 in
theorem ggX14_pass_X14_begin : GoodIn wsX14_pass wsX14_begin := wk_g rfl wm_X14_pass 8228 wc_X14_begin rfl (by decide +kernel) (by decide +kernel) wq_X14_begin
set_option maxRecDepth 100000 in
theorem gX14_pass_X14_begin : GoodIn wsX14_pass (wsV RX14 261 RX14 yX14_begin wsX14_begin) := goodIn_app (wk_h rfl wm_X14_pass [8225, 8227, 1057, 2007] (by decide +kernel) (by decide +kernel) (by decide +kernel)) ggX14_pass_X14_begin
theorem dX14_pass_0 : decode cX14_pass 0 = .ok (.aload_n 0, 1) := by decide +kernel
theorem dX14_pass_1 : decode cX14_pass 1 = .ok (.iconst 0, 1) := by decide +kernel
theorem dX14_pass_2 : decode cX14_pass 2 = .ok (.putfield 40, 3) := by decide +kernel
theorem dX14_pass_5 : decode cX14_pass 5 = .ok (.iload_n 1, 1) := by decide +kernel
theorem dX14_pass_6 : decode cX14_pass 6 = .ok (.iconst 1, 1) := by decide +kernel
theorem dX14_pass_7 : decode cX14_pass 7 = .ok (.bipush 48, 2) := by decide +kernel
theorem dX14_pass_9 : decode cX14_pass 9 = .ok (.invokestatic 43, 3) := by decide +kernel
theorem dX14_pass_12 : decode cX14_pass 12 = .ok (.ifCond .ne 9, 3) := by decide +kernel
theorem dX14_pass_15 : decode cX14_pass 15 = .ok (.aload_n 0, 1) := by decide +kernel
theorem dX14_pass_16 : decode cX14_pass 16 = .ok (.iconst 1, 1) := by decide +kernel
theorem dX14_pass_17 : decode cX14_pass 17 = .ok (.invokevirtual 55, 3) := by decide +kernel
theorem dX14_pass_20 : decode cX14_pass 20 = .ok (.ireturn, 1) := by decide +kernel
theorem dX14_pass_21 : decode cX14_pass 21 = .ok (.aload_n 0, 1) := by decide +kernel
theorem dX14_pass_22 : decode cX14_pass 22 = .ok (.getfield 137, 3) := by decide +kernel
theorem dX14_pass_25 : decode cX14_pass 25 = .ok (.aload_n 0, 1) := by decide +kernel
theorem dX14_pass_26 : decode cX14_pass 26 = .ok (.getfield 241, 3) := by decide +kernel
theorem dX14_pass_29 : decode cX14_pass 29 = .ok (.iload_n 1, 1) := by decide +kernel
theorem dX14_pass_30 : decode cX14_pass 30 = .ok (.iadd, 1) := by decide +kernel
theorem dX14_pass_31 : decode cX14_pass 31 = .ok (.bipush 24, 2) := by decide +kernel
theorem dX14_pass_33 : decode cX14_pass 33 = .ok (.idiv, 1) := by decide +kernel
theorem dX14_pass_34 : decode cX14_pass 34 = .ok (.iadd, 1) := by decide +kernel
theorem dX14_pass_35 : decode cX14_pass 35 = .ok (.bipush 99, 2) := by decide +kernel
theorem dX14_pass_37 : decode cX14_pass 37 = .ok (.if_icmp .le 9, 3) := by decide +kernel
theorem dX14_pass_40 : decode cX14_pass 40 = .ok (.aload_n 0, 1) := by decide +kernel
theorem dX14_pass_41 : decode cX14_pass 41 = .ok (.iconst 2, 1) := by decide +kernel
theorem dX14_pass_42 : decode cX14_pass 42 = .ok (.invokevirtual 55, 3) := by decide +kernel
theorem dX14_pass_45 : decode cX14_pass 45 = .ok (.ireturn, 1) := by decide +kernel
theorem dX14_pass_46 : decode cX14_pass 46 = .ok (.iconst 0, 1) := by decide +kernel
theorem dX14_pass_47 : decode cX14_pass 47 = .ok (.istore_n 2, 1) := by decide +kernel
theorem dX14_pass_48 : decode cX14_pass 48 = .ok (.iload_n 2, 1) := by decide +kernel
theorem dX14_pass_49 : decode cX14_pass 49 = .ok (.iload_n 1, 1) := by decide +kernel
theorem dX14_pass_50 : decode cX14_pass 50 = .ok (.if_icmp .ge 13, 3) := by decide +kernel
theorem dX14_pass_53 : decode cX14_pass 53 = .ok (.aload_n 0, 1) := by decide +kernel
theorem dX14_pass_54 : decode cX14_pass 54 = .ok (.invokevirtual 261, 3) := by decide +kernel
theorem dX14_pass_57 : decode cX14_pass 57 = .ok (.iinc 2 1, 3) := by decide +kernel
theorem dX14_pass_60 : decode cX14_pass 60 = .ok (.goto (-12), 3) := by decide +kernel
theorem dX14_pass_63 : decode cX14_pass 63 = .ok (.aload_n 0, 1) := by decide +kernel
theorem dX14_pass_64 : decode cX14_pass 64 = .ok (.getfield 241, 3) := by decide +kernel
theorem dX14_pass_67 : decode cX14_pass 67 = .ok (.ireturn, 1) := by decide +kernel
set_option maxRecDepth 100000 in
theorem ggX14_begin_Jx4a65c_iterator_32c93 : GoodIn wsX14_begin wsJx4a65c_iterator_32c93 := wk_g rfl wm_X14_begin 8232 wc_Jx4a65c_iterator_32c93 rfl (by decide +kernel) (by decide +kernel) wq_Jx4a65c_iterator_32c93
set_option maxRecDepth 100000 in
theorem gX14_begin_Jx4a65c_iterator_32c93 : GoodIn wsX14_begin (wsV RX14 264 RJx4a65c yJx4a65c_iterator_32c93 wsJx4a65c_iterator_32c93) := goodIn_app (wk_h rfl wm_X14_begin [8229, 8230, 8231, 2004] (by decide +kernel) (by decide +kernel) (by decide +kernel)) ggX14_begin_Jx4a65c_iterator_32c93
set_option maxRecDepth 100000 in
theorem ggX14_begin_Jx35411_hasNext_aae02 : GoodIn wsX14_begin wsJx35411_hasNext_aae02 := wk_g rfl wm_X14_begin 9021 wc_Jx35411_hasNext_aae02 rfl (by decide +kernel) (by decide +kernel) wq_Jx35411_hasNext_aae02
set_option maxRecDepth 100000 in
theorem gX14_begin_Jx35411_hasNext_aae02_f268Jx35411 : GoodIn wsX14_begin (va_wsF RX14 268 RJx35411 ⟨"java/util/Iterator", "hasNext", "()Z"⟩ yJx35411_hasNext_aae02 wsJx35411_hasNext_aae02) := goodIn_app (wk_h rfl wm_X14_begin [9013, 9017, 9019, 2039] (by decide +kernel) (by decide +kernel) (by decide +kernel)) ggX14_begin_Jx35411_hasNext_aae02
set_option maxRecDepth 100000 in
theorem ggX14_begin_Jx35411_next_0502b : GoodIn wsX14_begin wsJx35411_next_0502b := wk_g rfl wm_X14_begin 9030 wc_Jx35411_next_0502b rfl (by decide +kernel) (by decide +kernel) wq_Jx35411_next_0502b
set_option maxRecDepth 100000 in
theorem gX14_begin_Jx35411_next_0502b_f273Jx35411 : GoodIn wsX14_begin (va_wsF RX14 273 RJx35411 ⟨"java/util/Iterator", "next", "()Ljava/lang/Object;"⟩ yJx35411_next_0502b wsJx35411_next_0502b) := goodIn_app (wk_h rfl wm_X14_begin [9023, 9026, 9028, 2039] (by decide +kernel) (by decide +kernel) (by decide +kernel)) ggX14_begin_Jx35411_next_0502b
set_option maxRecDepth 100000 in
theorem ggX14_begin_Jx4a65c_size_8abf5 : GoodIn wsX14_begin wsJx4a65c_size_8abf5 := wk_g rfl wm_X14_begin 2173 wc_Jx4a65c_size_8abf5 rfl (by decide +kernel) (by decide +kernel) wq_Jx4a65c_size_8abf5
set_option maxRecDepth 100000 in
theorem gX14_begin_Jx4a65c_size_8abf5 : GoodIn wsX14_begin (wsV RX14 47 RJx4a65c yJx4a65c_size_8abf5 wsJx4a65c_size_8abf5) := goodIn_app (wk_h rfl wm_X14_begin [7208, 2171, 2172, 2004] (by decide +kernel) (by decide +kernel) (by decide +kernel)) ggX14_begin_Jx4a65c_size_8abf5
set_option maxRecDepth 100000 in
theorem ggX14_begin_Jx4a65c_get_915e3 : GoodIn wsX14_begin wsJx4a65c_get_915e3 := wk_g rfl wm_X14_begin 2177 wc_Jx4a65c_get_915e3 rfl (by decide +kernel) (by decide +kernel) wq_Jx4a65c_get_915e3
set_option maxRecDepth 100000 in
theorem gX14_begin_Jx4a65c_get_915e3 : GoodIn wsX14_begin (wsV RX14 90 RJx4a65c yJx4a65c_get_915e3 wsJx4a65c_get_915e3) := goodIn_app (wk_h rfl wm_X14_begin [8019, 2175, 2176, 2004] (by decide +kernel) (by decide +kernel) (by decide +kernel)) ggX14_begin_Jx4a65c_get_915e3
set_option maxRecDepth 100000 in
theorem ggX14_begin_X10_has : GoodIn wsX14_begin wsX10_has := wk_g rfl wm_X14_begin 8130 wc_X10_has rfl (by decide +kernel) (by decide +kernel) wq_X10_has
set_option maxRecDepth 100000 in
theorem gX14_begin_X10_has : GoodIn wsX14_begin (wsV RX14 159 RX10 yX10_has wsX10_has) := goodIn_app (wk_h rfl wm_X14_begin [8127, 8128, 8129, 2022] (by decide +kernel) (by decide +kernel) (by decide +kernel)) ggX14_begin_X10_has
set_option maxRecDepth 100000 in
theorem ggX14_begin_X10_isOpen : GoodIn wsX14_begin wsX10_isOpen := wk_g rfl wm_X14_begin 8181 wc_X10_isOpen rfl (by decide +kernel) (by decide +kernel) wq_X10_isOpen
set_option maxRecDepth 100000 in
theorem gX14_begin_X10_isOpen : GoodIn wsX14_begin (wsV RX14 244 RX10 yX10_isOpen wsX10_isOpen) := goodIn_app (wk_h rfl wm_X14_begin [8178, 8179, 8180, 2022] (by decide +kernel) (by decide +kernel) (by decide +kernel)) ggX14_begin_X10_isOpen
theorem dX14_begin_0 : decode cX14_begin 0 = .ok (.aload_n 0, 1) := by decide +kernel
theorem dX14_begin_1 : decode cX14_begin 1 = .ok (.dup, 1) := by decide +kernel
theorem dX14_begin_2 : decode cX14_begin 2 = .ok (.getfield 241, 3) := by decide +kernel
theorem dX14_begin_5 : decode cX14_begin 5 = .ok (.iconst 1, 1) := by decide +kernel
theorem dX14_begin_6 : decode cX14_begin 6 = .ok (.iadd, 1) := by decide +kernel
theorem dX14_begin_7 : decode cX14_begin 7 = .ok (.putfield 241, 3) := by decide +kernel
theorem dX14_begin_10 : decode cX14_begin 10 = .ok (.aload_n 0, 1) := by decide +kernel
theorem dX14_begin_11 : decode cX14_begin 11 = .ok (.getfield 241, 3) := by decide +kernel
theorem dX14_begin_14 : decode cX14_begin 14 = .ok (.bipush 24, 2) := by decide +kernel
theorem dX14_begin_16 : decode cX14_begin 16 = .ok (.if_icmp .ne 104, 3) := by decide +kernel
theorem dX14_begin_19 : decode cX14_begin 19 = .ok (.aload_n 0, 1) := by decide +kernel
theorem dX14_begin_20 : decode cX14_begin 20 = .ok (.iconst 0, 1) := by decide +kernel
theorem dX14_begin_21 : decode cX14_begin 21 = .ok (.putfield 241, 3) := by decide +kernel
theorem dX14_begin_24 : decode cX14_begin 24 = .ok (.aload_n 0, 1) := by decide +kernel
theorem dX14_begin_25 : decode cX14_begin 25 = .ok (.dup, 1) := by decide +kernel
theorem dX14_begin_26 : decode cX14_begin 26 = .ok (.getfield 137, 3) := by decide +kernel
theorem dX14_begin_29 : decode cX14_begin 29 = .ok (.iconst 1, 1) := by decide +kernel
theorem dX14_begin_30 : decode cX14_begin 30 = .ok (.iadd, 1) := by decide +kernel
theorem dX14_begin_31 : decode cX14_begin 31 = .ok (.putfield 137, 3) := by decide +kernel
theorem dX14_begin_34 : decode cX14_begin 34 = .ok (.aload_n 0, 1) := by decide +kernel
theorem dX14_begin_35 : decode cX14_begin 35 = .ok (.getfield 15, 3) := by decide +kernel
theorem dX14_begin_38 : decode cX14_begin 38 = .ok (.astore_n 1, 1) := by decide +kernel
theorem dX14_begin_39 : decode cX14_begin 39 = .ok (.aload_n 1, 1) := by decide +kernel
theorem dX14_begin_40 : decode cX14_begin 40 = .ok (.arraylength, 1) := by decide +kernel
theorem dX14_begin_41 : decode cX14_begin 41 = .ok (.istore_n 2, 1) := by decide +kernel
theorem dX14_begin_42 : decode cX14_begin 42 = .ok (.iconst 0, 1) := by decide +kernel
theorem dX14_begin_43 : decode cX14_begin 43 = .ok (.istore_n 3, 1) := by decide +kernel
theorem dX14_begin_44 : decode cX14_begin 44 = .ok (.iload_n 3, 1) := by decide +kernel
theorem dX14_begin_45 : decode cX14_begin 45 = .ok (.iload_n 2, 1) := by decide +kernel
theorem dX14_begin_46 : decode cX14_begin 46 = .ok (.if_icmp .ge 20, 3) := by decide +kernel
theorem dX14_begin_49 : decode cX14_begin 49 = .ok (.aload_n 1, 1) := by decide +kernel
theorem dX14_begin_50 : decode cX14_begin 50 = .ok (.iload_n 3, 1) := by decide +kernel
theorem dX14_begin_51 : decode cX14_begin 51 = .ok (.aaload, 1) := by decide +kernel
theorem dX14_begin_52 : decode cX14_begin 52 = .ok (.astore 4, 2) := by decide +kernel
theorem dX14_begin_54 : decode cX14_begin 54 = .ok (.aload 4, 2) := by decide +kernel
theorem dX14_begin_56 : decode cX14_begin 56 = .ok (.iconst 0, 1) := by decide +kernel
theorem dX14_begin_57 : decode cX14_begin 57 = .ok (.putfield 202, 3) := by decide +kernel
theorem dX14_begin_60 : decode cX14_begin 60 = .ok (.iinc 3 1, 3) := by decide +kernel
theorem dX14_begin_63 : decode cX14_begin 63 = .ok (.goto (-19), 3) := by decide +kernel
theorem dX14_begin_66 : decode cX14_begin 66 = .ok (.aload_n 0, 1) := by decide +kernel
theorem dX14_begin_67 : decode cX14_begin 67 = .ok (.getfield 26, 3) := by decide +kernel
theorem dX14_begin_70 : decode cX14_begin 70 = .ok (.invokevirtual 264, 3) := by decide +kernel
theorem dX14_begin_73 : decode cX14_begin 73 = .ok (.astore_n 1, 1) := by decide +kernel
theorem dX14_begin_74 : decode cX14_begin 74 = .ok (.aload_n 1, 1) := by decide +kernel
theorem dX14_begin_75 : decode cX14_begin 75 = .ok (.invokeinterface 268 1, 5) := by decide +kernel
theorem dX14_begin_80 : decode cX14_begin 80 = .ok (.ifCond .eq 40, 3) := by decide +kernel
theorem dX14_begin_83 : decode cX14_begin 83 = .ok (.aload_n 1, 1) := by decide +kernel
theorem dX14_begin_84 : decode cX14_begin 84 = .ok (.invokeinterface 273 1, 5) := by decide +kernel
theorem dX14_begin_89 : decode cX14_begin 89 = .ok (.checkcast 100, 3) := by decide +kernel
theorem dX14_begin_92 : decode cX14_begin 92 = .ok (.astore_n 2, 1) := by decide +kernel
theorem dX14_begin_93 : decode cX14_begin 93 = .ok (.aload_n 2, 1) := by decide +kernel
theorem dX14_begin_94 : decode cX14_begin 94 = .ok (.getfield 146, 3) := by decide +kernel
theorem dX14_begin_97 : decode cX14_begin 97 = .ok (.iconst (-1), 1) := by decide +kernel
theorem dX14_begin_98 : decode cX14_begin 98 = .ok (.if_icmp .eq 19, 3) := by decide +kernel
theorem dX14_begin_101 : decode cX14_begin 101 = .ok (.aload_n 2, 1) := by decide +kernel
theorem dX14_begin_102 : decode cX14_begin 102 = .ok (.getfield 143, 3) := by decide +kernel
theorem dX14_begin_105 : decode cX14_begin 105 = .ok (.aload_n 0, 1) := by decide +kernel
theorem dX14_begin_106 : decode cX14_begin 106 = .ok (.getfield 137, 3) := by decide +kernel
theorem dX14_begin_109 : decode cX14_begin 109 = .ok (.if_icmp .ge 8, 3) := by decide +kernel
theorem dX14_begin_112 : decode cX14_begin 112 = .ok (.aload_n 2, 1) := by decide +kernel
theorem dX14_begin_113 : decode cX14_begin 113 = .ok (.iconst (-1), 1) := by decide +kernel
theorem dX14_begin_114 : decode cX14_begin 114 = .ok (.putfield 146, 3) := by decide +kernel
theorem dX14_begin_117 : decode cX14_begin 117 = .ok (.goto (-43), 3) := by decide +kernel
theorem dX14_begin_120 : decode cX14_begin 120 = .ok (.iconst 0, 1) := by decide +kernel
theorem dX14_begin_121 : decode cX14_begin 121 = .ok (.istore_n 1, 1) := by decide +kernel
theorem dX14_begin_122 : decode cX14_begin 122 = .ok (.iload_n 1, 1) := by decide +kernel
theorem dX14_begin_123 : decode cX14_begin 123 = .ok (.aload_n 0, 1) := by decide +kernel
theorem dX14_begin_124 : decode cX14_begin 124 = .ok (.getfield 35, 3) := by decide +kernel
theorem dX14_begin_127 : decode cX14_begin 127 = .ok (.arraylength, 1) := by decide +kernel
theorem dX14_begin_128 : decode cX14_begin 128 = .ok (.if_icmp .ge 16, 3) := by decide +kernel
theorem dX14_begin_131 : decode cX14_begin 131 = .ok (.aload_n 0, 1) := by decide +kernel
theorem dX14_begin_132 : decode cX14_begin 132 = .ok (.getfield 35, 3) := by decide +kernel
theorem dX14_begin_135 : decode cX14_begin 135 = .ok (.iload_n 1, 1) := by decide +kernel
theorem dX14_begin_136 : decode cX14_begin 136 = .ok (.iconst 0, 1) := by decide +kernel
theorem dX14_begin_137 : decode cX14_begin 137 = .ok (.bastore, 1) := by decide +kernel
theorem dX14_begin_138 : decode cX14_begin 138 = .ok (.iinc 1 1, 3) := by decide +kernel
theorem dX14_begin_141 : decode cX14_begin 141 = .ok (.goto (-19), 3) := by decide +kernel
theorem dX14_begin_144 : decode cX14_begin 144 = .ok (.iconst 0, 1) := by decide +kernel
theorem dX14_begin_145 : decode cX14_begin 145 = .ok (.istore_n 1, 1) := by decide +kernel
theorem dX14_begin_146 : decode cX14_begin 146 = .ok (.iload_n 1, 1) := by decide +kernel
theorem dX14_begin_147 : decode cX14_begin 147 = .ok (.aload_n 0, 1) := by decide +kernel
theorem dX14_begin_148 : decode cX14_begin 148 = .ok (.getfield 22, 3) := by decide +kernel
theorem dX14_begin_151 : decode cX14_begin 151 = .ok (.invokevirtual 47, 3) := by decide +kernel
theorem dX14_begin_154 : decode cX14_begin 154 = .ok (.if_icmp .ge 120, 3) := by decide +kernel
theorem dX14_begin_157 : decode cX14_begin 157 = .ok (.iconst 0, 1) := by decide +kernel
theorem dX14_begin_158 : decode cX14_begin 158 = .ok (.istore_n 2, 1) := by decide +kernel
theorem dX14_begin_159 : decode cX14_begin 159 = .ok (.iload_n 2, 1) := by decide +kernel
theorem dX14_begin_160 : decode cX14_begin 160 = .ok (.aload_n 0, 1) := by decide +kernel
theorem dX14_begin_161 : decode cX14_begin 161 = .ok (.getfield 22, 3) := by decide +kernel
theorem dX14_begin_164 : decode cX14_begin 164 = .ok (.invokevirtual 47, 3) := by decide +kernel
theorem dX14_begin_167 : decode cX14_begin 167 = .ok (.if_icmp .ge 101, 3) := by decide +kernel
theorem dX14_begin_170 : decode cX14_begin 170 = .ok (.aload_n 0, 1) := by decide +kernel
theorem dX14_begin_171 : decode cX14_begin 171 = .ok (.getfield 22, 3) := by decide +kernel
theorem dX14_begin_174 : decode cX14_begin 174 = .ok (.iload_n 1, 1) := by decide +kernel
theorem dX14_begin_175 : decode cX14_begin 175 = .ok (.invokevirtual 90, 3) := by decide +kernel
theorem dX14_begin_178 : decode cX14_begin 178 = .ok (.checkcast 68, 3) := by decide +kernel
theorem dX14_begin_181 : decode cX14_begin 181 = .ok (.astore_n 3, 1) := by decide +kernel
theorem dX14_begin_182 : decode cX14_begin 182 = .ok (.aload_n 0, 1) := by decide +kernel
theorem dX14_begin_183 : decode cX14_begin 183 = .ok (.getfield 22, 3) := by decide +kernel
theorem dX14_begin_186 : decode cX14_begin 186 = .ok (.iload_n 2, 1) := by decide +kernel
theorem dX14_begin_187 : decode cX14_begin 187 = .ok (.invokevirtual 90, 3) := by decide +kernel
theorem dX14_begin_190 : decode cX14_begin 190 = .ok (.checkcast 68, 3) := by decide +kernel
theorem dX14_begin_193 : decode cX14_begin 193 = .ok (.astore 4, 2) := by decide +kernel
theorem dX14_begin_195 : decode cX14_begin 195 = .ok (.aload_n 3, 1) := by decide +kernel
theorem dX14_begin_196 : decode cX14_begin 196 = .ok (.aload 4, 2) := by decide +kernel
theorem dX14_begin_198 : decode cX14_begin 198 = .ok (.getfield 71, 3) := by decide +kernel
theorem dX14_begin_201 : decode cX14_begin 201 = .ok (.invokevirtual 159, 3) := by decide +kernel
theorem dX14_begin_204 : decode cX14_begin 204 = .ok (.ifCond .ne 18, 3) := by decide +kernel
theorem dX14_begin_207 : decode cX14_begin 207 = .ok (.aload_n 3, 1) := by decide +kernel
theorem dX14_begin_208 : decode cX14_begin 208 = .ok (.aload 4, 2) := by decide +kernel
theorem dX14_begin_210 : decode cX14_begin 210 = .ok (.getfield 74, 3) := by decide +kernel
theorem dX14_begin_213 : decode cX14_begin 213 = .ok (.invokevirtual 159, 3) := by decide +kernel
theorem dX14_begin_216 : decode cX14_begin 216 = .ok (.ifCond .ne 6, 3) := by decide +kernel
theorem dX14_begin_219 : decode cX14_begin 219 = .ok (.goto 43, 3) := by decide +kernel
theorem dX14_begin_222 : decode cX14_begin 222 = .ok (.iconst 0, 1) := by decide +kernel
theorem dX14_begin_223 : decode cX14_begin 223 = .ok (.istore 5, 2) := by decide +kernel
theorem dX14_begin_225 : decode cX14_begin 225 = .ok (.iload 5, 2) := by decide +kernel
theorem dX14_begin_227 : decode cX14_begin 227 = .ok (.bipush 97, 2) := by decide +kernel
theorem dX14_begin_229 : decode cX14_begin 229 = .ok (.if_icmp .ge 33, 3) := by decide +kernel
theorem dX14_begin_232 : decode cX14_begin 232 = .ok (.aload 4, 2) := by decide +kernel
theorem dX14_begin_234 : decode cX14_begin 234 = .ok (.getfield 153, 3) := by decide +kernel
theorem dX14_begin_237 : decode cX14_begin 237 = .ok (.iload 5, 2) := by decide +kernel
theorem dX14_begin_239 : decode cX14_begin 239 = .ok (.baload, 1) := by decide +kernel
theorem dX14_begin_240 : decode cX14_begin 240 = .ok (.ifCond .eq 16, 3) := by decide +kernel
theorem dX14_begin_243 : decode cX14_begin 243 = .ok (.aload_n 0, 1) := by decide +kernel
theorem dX14_begin_244 : decode cX14_begin 244 = .ok (.getfield 35, 3) := by decide +kernel
theorem dX14_begin_247 : decode cX14_begin 247 = .ok (.iload_n 1, 1) := by decide +kernel
theorem dX14_begin_248 : decode cX14_begin 248 = .ok (.bipush 97, 2) := by decide +kernel
theorem dX14_begin_250 : decode cX14_begin 250 = .ok (.imul, 1) := by decide +kernel
theorem dX14_begin_251 : decode cX14_begin 251 = .ok (.iload 5, 2) := by decide +kernel
theorem dX14_begin_253 : decode cX14_begin 253 = .ok (.iadd, 1) := by decide +kernel
theorem dX14_begin_254 : decode cX14_begin 254 = .ok (.iconst 1, 1) := by decide +kernel
theorem dX14_begin_255 : decode cX14_begin 255 = .ok (.bastore, 1) := by decide +kernel
theorem dX14_begin_256 : decode cX14_begin 256 = .ok (.iinc 5 1, 3) := by decide +kernel
theorem dX14_begin_259 : decode cX14_begin 259 = .ok (.goto (-34), 3) := by decide +kernel
theorem dX14_begin_262 : decode cX14_begin 262 = .ok (.iinc 2 1, 3) := by decide +kernel
theorem dX14_begin_265 : decode cX14_begin 265 = .ok (.goto (-106), 3) := by decide +kernel
theorem dX14_begin_268 : decode cX14_begin 268 = .ok (.iinc 1 1, 3) := by decide +kernel
theorem dX14_begin_271 : decode cX14_begin 271 = .ok (.goto (-125), 3) := by decide +kernel
theorem dX14_begin_274 : decode cX14_begin 274 = .ok (.iconst 0, 1) := by decide +kernel
theorem dX14_begin_275 : decode cX14_begin 275 = .ok (.istore_n 1, 1) := by decide +kernel
theorem dX14_begin_276 : decode cX14_begin 276 = .ok (.iload_n 1, 1) := by decide +kernel
theorem dX14_begin_277 : decode cX14_begin 277 = .ok (.aload_n 0, 1) := by decide +kernel
theorem dX14_begin_278 : decode cX14_begin 278 = .ok (.getfield 22, 3) := by decide +kernel
