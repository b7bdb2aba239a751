set_option maxRecDepth 100000 in
theorem ggX8_init_Jx4a65c_init_da8c8 : GoodIn wsX8_init wsJx4a65c_init_da8c8 := wk_g rfl wm_X8_init 2055 wc_Jx4a65c_init_da8c8 rfl (by decide +kernel) (by decide +kernel) wq_Jx4a65c_init_da8c8
set_option maxRecDepth 100000 in
theorem gX8_init_Jx4a65c_init_da8c8 : GoodIn wsX8_init (wsJx4a65c_init_da8c8) := ggX8_init_Jx4a65c_init_da8c8
set_option maxRecDepth 100000 in
theorem ggX8_init_X5_init : GoodIn wsX8_init wsX5_init := wk_g rfl wm_X8_init 2084 wc_X5_init rfl (by decide +kernel) (by decide +kernel) wq_X5_init
set_option maxRecDepth 100000 in
theorem gX8_init_X5_init_n33 : GoodIn wsX8_init (wsX5_init) := ggX8_init_X5_init
set_option maxRecDepth 100000 in
theorem ggX8_init_X2_init : GoodIn wsX8_init wsX2_init := wk_g rfl wm_X8_init 2099 wc_X2_init rfl (by decide +kernel) (by decide +kernel) wq_X2_init
set_option maxRecDepth 100000 in
theorem gX8_init_X2_init : GoodIn wsX8_init (wsX2_init) := ggX8_init_X2_init
theorem dX8_init_0 : decode cX8_init 0 = .ok (.aload_n 0, 1) := by decide +kernel
theorem dX8_init_1 : decode cX8_init 1 = .ok (.invokespecial 1, 3) := by decide +kernel
theorem dX8_init_4 : decode cX8_init 4 = .ok (.aload_n 0, 1) := by decide +kernel
theorem dX8_init_5 : decode cX8_init 5 = .ok (.bipush 6, 2) := by decide +kernel
theorem dX8_init_7 : decode cX8_init 7 = .ok (.anewarray 9, 3) := by decide +kernel
theorem dX8_init_10 : decode cX8_init 10 = .ok (.putfield 11, 3) := by decide +kernel
theorem dX8_init_13 : decode cX8_init 13 = .ok (.aload_n 0, 1) := by decide +kernel
theorem dX8_init_14 : decode cX8_init 14 = .ok (.new 15, 3) := by decide +kernel
theorem dX8_init_17 : decode cX8_init 17 = .ok (.dup, 1) := by decide +kernel
theorem dX8_init_18 : decode cX8_init 18 = .ok (.invokespecial 17, 3) := by decide +kernel
theorem dX8_init_21 : decode cX8_init 21 = .ok (.putfield 18, 3) := by decide +kernel
theorem dX8_init_24 : decode cX8_init 24 = .ok (.aload_n 0, 1) := by decide +kernel
theorem dX8_init_25 : decode cX8_init 25 = .ok (.new 15, 3) := by decide +kernel
theorem dX8_init_28 : decode cX8_init 28 = .ok (.dup, 1) := by decide +kernel
theorem dX8_init_29 : decode cX8_init 29 = .ok (.invokespecial 17, 3) := by decide +kernel
theorem dX8_init_32 : decode cX8_init 32 = .ok (.putfield 22, 3) := by decide +kernel
theorem dX8_init_35 : decode cX8_init 35 = .ok (.aload_n 0, 1) := by decide +kernel
theorem dX8_init_36 : decode cX8_init 36 = .ok (.new 15, 3) := by decide +kernel
theorem dX8_init_39 : decode cX8_init 39 = .ok (.dup, 1) := by decide +kernel
theorem dX8_init_40 : decode cX8_init 40 = .ok (.invokespecial 17, 3) := by decide +kernel
theorem dX8_init_43 : decode cX8_init 43 = .ok (.putfield 25, 3) := by decide +kernel
theorem dX8_init_46 : decode cX8_init 46 = .ok (.aload_n 0, 1) := by decide +kernel
theorem dX8_init_47 : decode cX8_init 47 = .ok (.new 15, 3) := by decide +kernel
theorem dX8_init_50 : decode cX8_init 50 = .ok (.dup, 1) := by decide +kernel
theorem dX8_init_51 : decode cX8_init 51 = .ok (.invokespecial 17, 3) := by decide +kernel
theorem dX8_init_54 : decode cX8_init 54 = .ok (.putfield 28, 3) := by decide +kernel
theorem dX8_init_57 : decode cX8_init 57 = .ok (.aload_n 0, 1) := by decide +kernel
theorem dX8_init_58 : decode cX8_init 58 = .ok (.new 31, 3) := by decide +kernel
theorem dX8_init_61 : decode cX8_init 61 = .ok (.dup, 1) := by decide +kernel
theorem dX8_init_62 : decode cX8_init 62 = .ok (.invokespecial 33, 3) := by decide +kernel
theorem dX8_init_65 : decode cX8_init 65 = .ok (.putfield 34, 3) := by decide +kernel
theorem dX8_init_68 : decode cX8_init 68 = .ok (.aload_n 0, 1) := by decide +kernel
theorem dX8_init_69 : decode cX8_init 69 = .ok (.bipush 9, 2) := by decide +kernel
theorem dX8_init_71 : decode cX8_init 71 = .ok (.bipush 81, 2) := by decide +kernel
theorem dX8_init_73 : decode cX8_init 73 = .ok (.multianewarray 38 2, 4) := by decide +kernel
theorem dX8_init_77 : decode cX8_init 77 = .ok (.putfield 40, 3) := by decide +kernel
theorem dX8_init_80 : decode cX8_init 80 = .ok (.aload_n 0, 1) := by decide +kernel
theorem dX8_init_81 : decode cX8_init 81 = .ok (.bipush 6, 2) := by decide +kernel
theorem dX8_init_83 : decode cX8_init 83 = .ok (.newarray .int, 2) := by decide +kernel
theorem dX8_init_85 : decode cX8_init 85 = .ok (.putfield 43, 3) := by decide +kernel
theorem dX8_init_88 : decode cX8_init 88 = .ok (.iconst 0, 1) := by decide +kernel
theorem dX8_init_89 : decode cX8_init 89 = .ok (.istore_n 1, 1) := by decide +kernel
theorem dX8_init_90 : decode cX8_init 90 = .ok (.iload_n 1, 1) := by decide +kernel
theorem dX8_init_91 : decode cX8_init 91 = .ok (.bipush 6, 2) := by decide +kernel
theorem dX8_init_93 : decode cX8_init 93 = .ok (.if_icmp .ge 23, 3) := by decide +kernel
theorem dX8_init_96 : decode cX8_init 96 = .ok (.aload_n 0, 1) := by decide +kernel
theorem dX8_init_97 : decode cX8_init 97 = .ok (.getfield 11, 3) := by decide +kernel
theorem dX8_init_100 : decode cX8_init 100 = .ok (.iload_n 1, 1) := by decide +kernel
theorem dX8_init_101 : decode cX8_init 101 = .ok (.new 9, 3) := by decide +kernel
theorem dX8_init_104 : decode cX8_init 104 = .ok (.dup, 1) := by decide +kernel
theorem dX8_init_105 : decode cX8_init 105 = .ok (.iload_n 1, 1) := by decide +kernel
theorem dX8_init_106 : decode cX8_init 106 = .ok (.invokespecial 47, 3) := by decide +kernel
theorem dX8_init_109 : decode cX8_init 109 = .ok (.aastore, 1) := by decide +kernel
theorem dX8_init_110 : decode cX8_init 110 = .ok (.iinc 1 1, 3) := by decide +kernel
theorem dX8_init_113 : decode cX8_init 113 = .ok (.goto (-23), 3) := by decide +kernel
theorem dX8_init_116 : decode cX8_init 116 = .ok (.return_, 1) := by decide +kernel
set_option maxRecDepth 100000 in
theorem ggX8_land_X8_landNumbered : GoodIn wsX8_land wsX8_landNumbered := goodIn_ca (wk_g rfl wm_X8_land 3083 wc_X8_landNumbered rfl (by decide +kernel) (by decide +kernel) wq_X8_landNumbered) (goodIn_sub (fun _ h => List.mem_cons_of_mem _ (List.mem_append_left _ (List.mem_append_right _ h))) (by decide +kernel))
set_option maxRecDepth 100000 in
theorem gX8_land_X8_landNumbered : GoodIn wsX8_land (wsV RX8 50 RX8 yX8_landNumbered wsX8_landNumbered) := goodIn_app (wk_h rfl wm_X8_land [3080, 3082, 1009, 2001] (by decide +kernel) (by decide +kernel) (by decide +kernel)) ggX8_land_X8_landNumbered
set_option maxRecDepth 100000 in
theorem ggX8_land_X8_demandRange : GoodIn wsX8_land wsX8_demandRange := goodIn_ca (wk_g rfl wm_X8_land 4010 wc_X8_demandRange rfl (by decide +kernel) (by decide +kernel) wq_X8_demandRange) (goodIn_sub (fun _ h => List.mem_cons_of_mem _ (List.mem_append_right _ h)) (by decide +kernel))
set_option maxRecDepth 100000 in
theorem gX8_land_X8_demandRange : GoodIn wsX8_land (va_wsS RX8 54 yX8_demandRange wsX8_demandRange) := goodIn_app (wk_h rfl wm_X8_land [4008, 4009, 2001] (by decide +kernel) (by decide +kernel) (by decide +kernel)) ggX8_land_X8_demandRange
theorem dX8_land_0 : decode cX8_land 0 = .ok (.aload_n 0, 1) := by decide +kernel
theorem dX8_land_1 : decode cX8_land 1 = .ok (.iload_n 1, 1) := by decide +kernel
theorem dX8_land_2 : decode cX8_land 2 = .ok (.invokevirtual 50, 3) := by decide +kernel
theorem dX8_land_5 : decode cX8_land 5 = .ok (.astore 4, 2) := by decide +kernel
theorem dX8_land_7 : decode cX8_land 7 = .ok (.iload_n 2, 1) := by decide +kernel
theorem dX8_land_8 : decode cX8_land 8 = .ok (.iconst 0, 1) := by decide +kernel
theorem dX8_land_9 : decode cX8_land 9 = .ok (.bipush 50, 2) := by decide +kernel
theorem dX8_land_11 : decode cX8_land 11 = .ok (.invokestatic 54, 3) := by decide +kernel
theorem dX8_land_14 : decode cX8_land 14 = .ok (.iload_n 3, 1) := by decide +kernel
theorem dX8_land_15 : decode cX8_land 15 = .ok (.iconst 0, 1) := by decide +kernel
theorem dX8_land_16 : decode cX8_land 16 = .ok (.bipush 99, 2) := by decide +kernel
theorem dX8_land_18 : decode cX8_land 18 = .ok (.invokestatic 54, 3) := by decide +kernel
theorem dX8_land_21 : decode cX8_land 21 = .ok (.aload 4, 2) := by decide +kernel
theorem dX8_land_23 : decode cX8_land 23 = .ok (.getfield 58, 3) := by decide +kernel
theorem dX8_land_26 : decode cX8_land 26 = .ok (.istore 5, 2) := by decide +kernel
theorem dX8_land_28 : decode cX8_land 28 = .ok (.aload 4, 2) := by decide +kernel
theorem dX8_land_30 : decode cX8_land 30 = .ok (.iload_n 2, 1) := by decide +kernel
theorem dX8_land_31 : decode cX8_land 31 = .ok (.putfield 58, 3) := by decide +kernel
theorem dX8_land_34 : decode cX8_land 34 = .ok (.aload 4, 2) := by decide +kernel
theorem dX8_land_36 : decode cX8_land 36 = .ok (.iload_n 3, 1) := by decide +kernel
theorem dX8_land_37 : decode cX8_land 37 = .ok (.putfield 62, 3) := by decide +kernel
theorem dX8_land_40 : decode cX8_land 40 = .ok (.iload 5, 2) := by decide +kernel
theorem dX8_land_42 : decode cX8_land 42 = .ok (.ireturn, 1) := by decide +kernel
set_option maxRecDepth 100000 in
theorem ggX8_trade_X8_landNumbered : GoodIn wsX8_trade wsX8_landNumbered := goodIn_ca (wk_g rfl wm_X8_trade 3083 wc_X8_landNumbered rfl (by decide +kernel) (by decide +kernel) wq_X8_landNumbered) (goodIn_sub (fun _ h => List.mem_cons_of_mem _ (List.mem_append_right _ h)) (by decide +kernel))
set_option maxRecDepth 100000 in
theorem gX8_trade_X8_landNumbered : GoodIn wsX8_trade (wsV RX8 50 RX8 yX8_landNumbered wsX8_landNumbered) := goodIn_app (wk_h rfl wm_X8_trade [3080, 3082, 1009, 2001] (by decide +kernel) (by decide +kernel) (by decide +kernel)) ggX8_trade_X8_landNumbered
theorem dX8_trade_0 : decode cX8_trade 0 = .ok (.aload_n 0, 1) := by decide +kernel
theorem dX8_trade_1 : decode cX8_trade 1 = .ok (.iload_n 1, 1) := by decide +kernel
theorem dX8_trade_2 : decode cX8_trade 2 = .ok (.invokevirtual 50, 3) := by decide +kernel
theorem dX8_trade_5 : decode cX8_trade 5 = .ok (.astore 4, 2) := by decide +kernel
theorem dX8_trade_7 : decode cX8_trade 7 = .ok (.aload_n 0, 1) := by decide +kernel
theorem dX8_trade_8 : decode cX8_trade 8 = .ok (.iload_n 2, 1) := by decide +kernel
theorem dX8_trade_9 : decode cX8_trade 9 = .ok (.invokevirtual 50, 3) := by decide +kernel
theorem dX8_trade_12 : decode cX8_trade 12 = .ok (.astore 5, 2) := by decide +kernel
theorem dX8_trade_14 : decode cX8_trade 14 = .ok (.iload_n 1, 1) := by decide +kernel
theorem dX8_trade_15 : decode cX8_trade 15 = .ok (.iload_n 2, 1) := by decide +kernel
theorem dX8_trade_16 : decode cX8_trade 16 = .ok (.if_icmp .eq 7, 3) := by decide +kernel
theorem dX8_trade_19 : decode cX8_trade 19 = .ok (.iload_n 3, 1) := by decide +kernel
theorem dX8_trade_20 : decode cX8_trade 20 = .ok (.ifCond .ge 13, 3) := by decide +kernel
theorem dX8_trade_23 : decode cX8_trade 23 = .ok (.new 65, 3) := by decide +kernel
theorem dX8_trade_26 : decode cX8_trade 26 = .ok (.dup, 1) := by decide +kernel
theorem dX8_trade_27 : decode cX8_trade 27 = .ok (.ldc 67, 2) := by decide +kernel
theorem dX8_trade_29 : decode cX8_trade 29 = .ok (.invokespecial 69, 3) := by decide +kernel
theorem dX8_trade_32 : decode cX8_trade 32 = .ok (.athrow, 1) := by decide +kernel
theorem dX8_trade_33 : decode cX8_trade 33 = .ok (.aload 4, 2) := by decide +kernel
theorem dX8_trade_35 : decode cX8_trade 35 = .ok (.getfield 72, 3) := by decide +kernel
theorem dX8_trade_38 : decode cX8_trade 38 = .ok (.iload_n 3, 1) := by decide +kernel
theorem dX8_trade_39 : decode cX8_trade 39 = .ok (.if_icmp .lt 15, 3) := by decide +kernel
theorem dX8_trade_42 : decode cX8_trade 42 = .ok (.aload 5, 2) := by decide +kernel
theorem dX8_trade_44 : decode cX8_trade 44 = .ok (.getfield 72, 3) := by decide +kernel
theorem dX8_trade_47 : decode cX8_trade 47 = .ok (.iload_n 3, 1) := by decide +kernel
theorem dX8_trade_48 : decode cX8_trade 48 = .ok (.iadd, 1) := by decide +kernel
theorem dX8_trade_49 : decode cX8_trade 49 = .ok (.bipush 30, 2) := by decide +kernel
theorem dX8_trade_51 : decode cX8_trade 51 = .ok (.if_icmp .le 13, 3) := by decide +kernel
theorem dX8_trade_54 : decode cX8_trade 54 = .ok (.new 75, 3) := by decide +kernel
theorem dX8_trade_57 : decode cX8_trade 57 = .ok (.dup, 1) := by decide +kernel
theorem dX8_trade_58 : decode cX8_trade 58 = .ok (.ldc 77, 2) := by decide +kernel
theorem dX8_trade_60 : decode cX8_trade 60 = .ok (.invokespecial 79, 3) := by decide +kernel
theorem dX8_trade_63 : decode cX8_trade 63 = .ok (.athrow, 1) := by decide +kernel
theorem dX8_trade_64 : decode cX8_trade 64 = .ok (.aload 4, 2) := by decide +kernel
theorem dX8_trade_66 : decode cX8_trade 66 = .ok (.dup, 1) := by decide +kernel
theorem dX8_trade_67 : decode cX8_trade 67 = .ok (.getfield 72, 3) := by decide +kernel
theorem dX8_trade_70 : decode cX8_trade 70 = .ok (.iload_n 3, 1) := by decide +kernel
theorem dX8_trade_71 : decode cX8_trade 71 = .ok (.isub, 1) := by decide +kernel
theorem dX8_trade_72 : decode cX8_trade 72 = .ok (.putfield 72, 3) := by decide +kernel
theorem dX8_trade_75 : decode cX8_trade 75 = .ok (.aload 5, 2) := by decide +kernel
theorem dX8_trade_77 : decode cX8_trade 77 = .ok (.dup, 1) := by decide +kernel
theorem dX8_trade_78 : decode cX8_trade 78 = .ok (.getfield 72, 3) := by decide +kernel
theorem dX8_trade_81 : decode cX8_trade 81 = .ok (.iload_n 3, 1) := by decide +kernel
theorem dX8_trade_82 : decode cX8_trade 82 = .ok (.iadd, 1) := by decide +kernel
theorem dX8_trade_83 : decode cX8_trade 83 = .ok (.putfield 72, 3) := by decide +kernel
theorem dX8_trade_86 : decode cX8_trade 86 = .ok (.aload 5, 2) := by decide +kernel
theorem dX8_trade_88 : decode cX8_trade 88 = .ok (.getfield 72, 3) := by decide +kernel
theorem dX8_trade_91 : decode cX8_trade 91 = .ok (.ireturn, 1) := by decide +kernel
set_option maxRecDepth 100000 in
theorem ggX8_gate_X8_landNumbered : GoodIn wsX8_gate wsX8_landNumbered := goodIn_ca (wk_g rfl wm_X8_gate 3083 wc_X8_landNumbered rfl (by decide +kernel) (by decide +kernel) wq_X8_landNumbered) (goodIn_sub (fun _ h => List.mem_cons_of_mem _ (List.mem_append_right _ h)) (by decide +kernel))
set_option maxRecDepth 100000 in
theorem gX8_gate_X8_landNumbered : GoodIn wsX8_gate (wsV RX8 50 RX8 yX8_landNumbered wsX8_landNumbered) := goodIn_app (wk_h rfl wm_X8_gate [3080, 3082, 1009, 2001] (by decide +kernel) (by decide +kernel) (by decide +kernel)) ggX8_gate_X8_landNumbered
set_option maxRecDepth 100000 in
theorem ggX8_gate_X8_demandRange : GoodIn wsX8_gate wsX8_demandRange := goodIn_ca (wk_g rfl wm_X8_gate 4010 wc_X8_demandRange rfl (by decide +kernel) (by decide +kernel) wq_X8_demandRange) (goodIn_sub (fun _ h => List.mem_cons_of_mem _ (List.mem_append_left _ (List.mem_append_left _ (List.mem_append_right _ h)))) (by decide +kernel))
set_option maxRecDepth 100000 in
theorem gX8_gate_X8_demandRange : GoodIn wsX8_gate (va_wsS RX8 54 yX8_demandRange wsX8_demandRange) := goodIn_app (wk_h rfl wm_X8_gate [4008, 4009, 2001] (by decide +kernel) (by decide +kernel) (by decide +kernel)) ggX8_gate_X8_demandRange
set_option maxRecDepth 100000 in
theorem ggX8_gate_Jx4a65c_size_8abf5 : GoodIn wsX8_gate wsJx4a65c_size_8abf5 := wk_g rfl wm_X8_gate 2173 wc_Jx4a65c_size_8abf5 rfl (by decide +kernel) (by decide +kernel) wq_Jx4a65c_size_8abf5
set_option maxRecDepth 100000 in
theorem gX8_gate_Jx4a65c_size_8abf5 : GoodIn wsX8_gate (wsV RX8 82 RJx4a65c yJx4a65c_size_8abf5 wsJx4a65c_size_8abf5) := goodIn_app (wk_h rfl wm_X8_gate [2170, 2171, 2172, 2004] (by decide +kernel) (by decide +kernel) (by decide +kernel)) ggX8_gate_Jx4a65c_size_8abf5
set_option maxRecDepth 100000 in
theorem ggX8_gate_X0_init : GoodIn wsX8_gate wsX0_init := wk_g rfl wm_X8_gate 4101 wc_X0_init rfl (by decide +kernel) (by decide +kernel) wq_X0_init
set_option maxRecDepth 100000 in
theorem gX8_gate_X0_init : GoodIn wsX8_gate (wsX0_init) := ggX8_gate_X0_init
set_option maxRecDepth 100000 in
theorem ggX8_gate_Jx4a65c_add_9ea2d : GoodIn wsX8_gate wsJx4a65c_add_9ea2d := wk_g rfl wm_X8_gate 4160 wc_Jx4a65c_add_9ea2d rfl (by decide +kernel) (by decide +kernel) wq_Jx4a65c_add_9ea2d
set_option maxRecDepth 100000 in
theorem gX8_gate_Jx4a65c_add_9ea2d : GoodIn wsX8_gate (wsV RX8 93 RJx4a65c yJx4a65c_add_9ea2d wsJx4a65c_add_9ea2d) := goodIn_app (wk_h rfl wm_X8_gate [4157, 4158, 4159, 2004] (by decide +kernel) (by decide +kernel) (by decide +kernel)) ggX8_gate_Jx4a65c_add_9ea2d
theorem dX8_gate_0 : decode cX8_gate 0 = .ok (.aload_n 0, 1) := by decide +kernel
theorem dX8_gate_1 : decode cX8_gate 1 = .ok (.iload_n 1, 1) := by decide +kernel
theorem dX8_gate_2 : decode cX8_gate 2 = .ok (.invokevirtual 50, 3) := by decide +kernel
theorem dX8_gate_5 : decode cX8_gate 5 = .ok (.astore 5, 2) := by decide +kernel
theorem dX8_gate_7 : decode cX8_gate 7 = .ok (.aload_n 0, 1) := by decide +kernel
theorem dX8_gate_8 : decode cX8_gate 8 = .ok (.iload_n 2, 1) := by decide +kernel
theorem dX8_gate_9 : decode cX8_gate 9 = .ok (.invokevirtual 50, 3) := by decide +kernel
theorem dX8_gate_12 : decode cX8_gate 12 = .ok (.astore 6, 2) := by decide +kernel
theorem dX8_gate_14 : decode cX8_gate 14 = .ok (.iload_n 1, 1) := by decide +kernel
theorem dX8_gate_15 : decode cX8_gate 15 = .ok (.iload_n 2, 1) := by decide +kernel
theorem dX8_gate_16 : decode cX8_gate 16 = .ok (.if_icmp .ne 13, 3) := by decide +kernel
theorem dX8_gate_19 : decode cX8_gate 19 = .ok (.new 65, 3) := by decide +kernel
theorem dX8_gate_22 : decode cX8_gate 22 = .ok (.dup, 1) := by decide +kernel
theorem dX8_gate_23 : decode cX8_gate 23 = .ok (.ldc 80, 2) := by decide +kernel
theorem dX8_gate_25 : decode cX8_gate 25 = .ok (.invokespecial 69, 3) := by decide +kernel
theorem dX8_gate_28 : decode cX8_gate 28 = .ok (.athrow, 1) := by decide +kernel
theorem dX8_gate_29 : decode cX8_gate 29 = .ok (.iload_n 3, 1) := by decide +kernel
theorem dX8_gate_30 : decode cX8_gate 30 = .ok (.iconst 0, 1) := by decide +kernel
theorem dX8_gate_31 : decode cX8_gate 31 = .ok (.bipush 23, 2) := by decide +kernel
theorem dX8_gate_33 : decode cX8_gate 33 = .ok (.invokestatic 54, 3) := by decide +kernel
theorem dX8_gate_36 : decode cX8_gate 36 = .ok (.iload 4, 2) := by decide +kernel
theorem dX8_gate_38 : decode cX8_gate 38 = .ok (.iconst 1, 1) := by decide +kernel
theorem dX8_gate_39 : decode cX8_gate 39 = .ok (.bipush 24, 2) := by decide +kernel
theorem dX8_gate_41 : decode cX8_gate 41 = .ok (.invokestatic 54, 3) := by decide +kernel
theorem dX8_gate_44 : decode cX8_gate 44 = .ok (.aload_n 0, 1) := by decide +kernel
theorem dX8_gate_45 : decode cX8_gate 45 = .ok (.getfield 18, 3) := by decide +kernel
theorem dX8_gate_48 : decode cX8_gate 48 = .ok (.invokevirtual 82, 3) := by decide +kernel
theorem dX8_gate_51 : decode cX8_gate 51 = .ok (.bipush 8, 2) := by decide +kernel
theorem dX8_gate_53 : decode cX8_gate 53 = .ok (.if_icmp .lt 13, 3) := by decide +kernel
theorem dX8_gate_56 : decode cX8_gate 56 = .ok (.new 75, 3) := by decide +kernel
theorem dX8_gate_59 : decode cX8_gate 59 = .ok (.dup, 1) := by decide +kernel
theorem dX8_gate_60 : decode cX8_gate 60 = .ok (.ldc 86, 2) := by decide +kernel
theorem dX8_gate_62 : decode cX8_gate 62 = .ok (.invokespecial 79, 3) := by decide +kernel
theorem dX8_gate_65 : decode cX8_gate 65 = .ok (.athrow, 1) := by decide +kernel
theorem dX8_gate_66 : decode cX8_gate 66 = .ok (.new 88, 3) := by decide +kernel
theorem dX8_gate_69 : decode cX8_gate 69 = .ok (.dup, 1) := by decide +kernel
theorem dX8_gate_70 : decode cX8_gate 70 = .ok (.aload_n 0, 1) := by decide +kernel
theorem dX8_gate_71 : decode cX8_gate 71 = .ok (.getfield 18, 3) := by decide +kernel
theorem dX8_gate_74 : decode cX8_gate 74 = .ok (.invokevirtual 82, 3) := by decide +kernel
theorem dX8_gate_77 : decode cX8_gate 77 = .ok (.aload 5, 2) := by decide +kernel
theorem dX8_gate_79 : decode cX8_gate 79 = .ok (.aload 6, 2) := by decide +kernel
theorem dX8_gate_81 : decode cX8_gate 81 = .ok (.iload_n 3, 1) := by decide +kernel
theorem dX8_gate_82 : decode cX8_gate 82 = .ok (.iload 4, 2) := by decide +kernel
theorem dX8_gate_84 : decode cX8_gate 84 = .ok (.invokespecial 90, 3) := by decide +kernel
theorem dX8_gate_87 : decode cX8_gate 87 = .ok (.astore 7, 2) := by decide +kernel
theorem dX8_gate_89 : decode cX8_gate 89 = .ok (.aload_n 0, 1) := by decide +kernel
theorem dX8_gate_90 : decode cX8_gate 90 = .ok (.getfield 18, 3) := by decide +kernel
theorem dX8_gate_93 : decode cX8_gate 93 = .ok (.aload 7, 2) := by decide +kernel
theorem dX8_gate_95 : decode cX8_gate 95 = .ok (.invokevirtual 93, 3) := by decide +kernel
theorem dX8_gate_98 : decode cX8_gate 98 = .ok (.pop, 1) := by decide +kernel
theorem dX8_gate_99 : decode cX8_gate 99 = .ok (.aload 7, 2) := by decide +kernel
theorem dX8_gate_101 : decode cX8_gate 101 = .ok (.getfield 97, 3) := by decide +kernel
theorem dX8_gate_104 : decode cX8_gate 104 = .ok (.ireturn, 1) := by decide +kernel
set_option maxRecDepth 100000 in
theorem ggX8_odds_X8_gateNumbered : GoodIn wsX8_odds wsX8_gateNumbered := goodIn_ca (wk_g rfl wm_X8_odds 3120 wc_X8_gateNumbered rfl (by decide +kernel) (by decide +kernel) wq_X8_gateNumbered) (goodIn_sub (fun _ h => List.mem_cons_of_mem _ (List.mem_append_left _ (List.mem_append_right _ h))) (by decide +kernel))
set_option maxRecDepth 100000 in
theorem gX8_odds_X8_gateNumbered : GoodIn wsX8_odds (wsV RX8 100 RX8 yX8_gateNumbered wsX8_gateNumbered) := goodIn_app (wk_h rfl wm_X8_odds [3117, 3119, 1013, 2001] (by decide +kernel) (by decide +kernel) (by decide +kernel)) ggX8_odds_X8_gateNumbered
set_option maxRecDepth 100000 in
theorem ggX8_odds_X8_demandRange : GoodIn wsX8_odds wsX8_demandRange := goodIn_ca (wk_g rfl wm_X8_odds 4010 wc_X8_demandRange rfl (by decide +kernel) (by decide +kernel) wq_X8_demandRange) (goodIn_sub (fun _ h => List.mem_cons_of_mem _ (List.mem_append_right _ h)) (by decide +kernel))
set_option maxRecDepth 100000 in
theorem gX8_odds_X8_demandRange : GoodIn wsX8_odds (va_wsS RX8 54 yX8_demandRange wsX8_demandRange) := goodIn_app (wk_h rfl wm_X8_odds [4008, 4009, 2001] (by decide +kernel) (by decide +kernel) (by decide +kernel)) ggX8_odds_X8_demandRange
theorem dX8_odds_0 : decode cX8_odds 0 = .ok (.aload_n 0, 1) := by decide +kernel
theorem dX8_odds_1 : decode cX8_odds 1 = .ok (.iload_n 1, 1) := by decide +kernel
theorem dX8_odds_2 : decode cX8_odds 2 = .ok (.invokevirtual 100, 3) := by decide +kernel
theorem dX8_odds_5 : decode cX8_odds 5 = .ok (.astore_n 3, 1) := by decide +kernel
theorem dX8_odds_6 : decode cX8_odds 6 = .ok (.iload_n 2, 1) := by decide +kernel
theorem dX8_odds_7 : decode cX8_odds 7 = .ok (.iconst 0, 1) := by decide +kernel
theorem dX8_odds_8 : decode cX8_odds 8 = .ok (.bipush 10, 2) := by decide +kernel
theorem dX8_odds_10 : decode cX8_odds 10 = .ok (.invokestatic 54, 3) := by decide +kernel
theorem dX8_odds_13 : decode cX8_odds 13 = .ok (.aload_n 3, 1) := by decide +kernel
theorem dX8_odds_14 : decode cX8_odds 14 = .ok (.getfield 104, 3) := by decide +kernel
theorem dX8_odds_17 : decode cX8_odds 17 = .ok (.istore 4, 2) := by decide +kernel
theorem dX8_odds_19 : decode cX8_odds 19 = .ok (.aload_n 3, 1) := by decide +kernel
theorem dX8_odds_20 : decode cX8_odds 20 = .ok (.iload_n 2, 1) := by decide +kernel
theorem dX8_odds_21 : decode cX8_odds 21 = .ok (.putfield 104, 3) := by decide +kernel
theorem dX8_odds_24 : decode cX8_odds 24 = .ok (.iload 4, 2) := by decide +kernel
theorem dX8_odds_26 : decode cX8_odds 26 = .ok (.ireturn, 1) := by decide +kernel
set_option maxRecDepth 100000 in
theorem ggX8_relieve_X8_gateNumbered : GoodIn wsX8_relieve wsX8_gateNumbered := goodIn_ca (wk_g rfl wm_X8_relieve 3120 wc_X8_gateNumbered rfl (by decide +kernel) (by decide +kernel) wq_X8_gateNumbered) (goodIn_sub (fun _ h => List.mem_cons_of_mem _ (List.mem_append_right _ h)) (by decide +kernel))
set_option maxRecDepth 100000 in
theorem gX8_relieve_X8_gateNumbered : GoodIn wsX8_relieve (wsV RX8 100 RX8 yX8_gateNumbered wsX8_gateNumbered) := goodIn_app (wk_h rfl wm_X8_relieve [3117, 3119, 1013, 2001] (by decide +kernel) (by decide +kernel) (by decide +kernel)) ggX8_relieve_X8_gateNumbered
theorem dX8_relieve_0 : decode cX8_relieve 0 = .ok (.aload_n 0, 1) := by decide +kernel
theorem dX8_relieve_1 : decode cX8_relieve 1 = .ok (.iload_n 1, 1) := by decide +kernel
theorem dX8_relieve_2 : decode cX8_relieve 2 = .ok (.invokevirtual 100, 3) := by decide +kernel
theorem dX8_relieve_5 : decode cX8_relieve 5 = .ok (.astore_n 2, 1) := by decide +kernel
theorem dX8_relieve_6 : decode cX8_relieve 6 = .ok (.aload_n 2, 1) := by decide +kernel
theorem dX8_relieve_7 : decode cX8_relieve 7 = .ok (.getfield 107, 3) := by decide +kernel
theorem dX8_relieve_10 : decode cX8_relieve 10 = .ok (.istore_n 3, 1) := by decide +kernel
theorem dX8_relieve_11 : decode cX8_relieve 11 = .ok (.aload_n 2, 1) := by decide +kernel
theorem dX8_relieve_12 : decode cX8_relieve 12 = .ok (.iconst 0, 1) := by decide +kernel
theorem dX8_relieve_13 : decode cX8_relieve 13 = .ok (.putfield 107, 3) := by decide +kernel
theorem dX8_relieve_16 : decode cX8_relieve 16 = .ok (.iload_n 3, 1) := by decide +kernel
theorem dX8_relieve_17 : decode cX8_relieve 17 = .ok (.ireturn, 1) := by decide +kernel
set_option maxRecDepth 100000 in
theorem ggX8_sleeper_X8_landNumbered : GoodIn wsX8_sleeper wsX8_landNumbered := goodIn_ca (wk_g rfl wm_X8_sleeper 3083 wc_X8_landNumbered rfl (by decide +kernel) (by decide +kernel) wq_X8_landNumbered) (goodIn_sub (fun _ h => List.mem_cons_of_mem _ (List.mem_append_left _ (List.mem_append_right _ h))) (by decide +kernel))
set_option maxRecDepth 100000 in
theorem gX8_sleeper_X8_landNumbered : GoodIn wsX8_sleeper (wsV RX8 50 RX8 yX8_landNumbered wsX8_landNumbered) := goodIn_app (wk_h rfl wm_X8_sleeper [3080, 3082, 1009, 2001] (by decide +kernel) (by decide +kernel) (by decide +kernel)) ggX8_sleeper_X8_landNumbered
set_option maxRecDepth 100000 in
theorem ggX8_sleeper_X8_demandRange : GoodIn wsX8_sleeper wsX8_demandRange := goodIn_ca (wk_g rfl wm_X8_sleeper 4010 wc_X8_demandRange rfl (by decide +kernel) (by decide +kernel) wq_X8_demandRange) (goodIn_sub (fun _ h => List.mem_cons_of_mem _ (List.mem_append_right _ h)) (by decide +kernel))
set_option maxRecDepth 100000 in
theorem gX8_sleeper_X8_demandRange : GoodIn wsX8_sleeper (va_wsS RX8 54 yX8_demandRange wsX8_demandRange) := goodIn_app (wk_h rfl wm_X8_sleeper [4008, 4009, 2001] (by decide +kernel) (by decide +kernel) (by decide +kernel)) ggX8_sleeper_X8_demandRange
set_option maxRecDepth 100000 in
theorem ggX8_sleeper_Jx4a65c_size_8abf5 : GoodIn wsX8_sleeper wsJx4a65c_size_8abf5 := wk_g rfl wm_X8_sleeper 2173 wc_Jx4a65c_size_8abf5 rfl (by decide +kernel) (by decide +kernel) wq_Jx4a65c_size_8abf5
set_option maxRecDepth 100000 in
theorem gX8_sleeper_Jx4a65c_size_8abf5 : GoodIn wsX8_sleeper (wsV RX8 82 RJx4a65c yJx4a65c_size_8abf5 wsJx4a65c_size_8abf5) := goodIn_app (wk_h rfl wm_X8_sleeper [2170, 2171, 2172, 2004] (by decide +kernel) (by decide +kernel) (by decide +kernel)) ggX8_sleeper_Jx4a65c_size_8abf5
set_option maxRecDepth 100000 in
theorem ggX8_sleeper_X6_init : GoodIn wsX8_sleeper wsX6_init := wk_g rfl wm_X8_sleeper 5008 wc_X6_init rfl (by decide +kernel) (by decide +kernel) wq_X6_init
set_option maxRecDepth 100000 in
theorem gX8_sleeper_X6_init : GoodIn wsX8_sleeper (wsX6_init) := ggX8_sleeper_X6_init
set_option maxRecDepth 100000 in
theorem ggX8_sleeper_Jx4a65c_add_9ea2d : GoodIn wsX8_sleeper wsJx4a65c_add_9ea2d := wk_g rfl wm_X8_sleeper 4160 wc_Jx4a65c_add_9ea2d rfl (by decide +kernel) (by decide +kernel) wq_Jx4a65c_add_9ea2d
set_option maxRecDepth 100000 in
theorem gX8_sleeper_Jx4a65c_add_9ea2d : GoodIn wsX8_sleeper (wsV RX8 93 RJx4a65c yJx4a65c_add_9ea2d wsJx4a65c_add_9ea2d) := goodIn_app (wk_h rfl wm_X8_sleeper [4157, 4158, 4159, 2004] (by decide +kernel) (by decide +kernel) (by decide +kernel)) ggX8_sleeper_Jx4a65c_add_9ea2d
theorem dX8_sleeper_0 : decode cX8_sleeper 0 = .ok (.aload_n 0, 1) := by decide +kernel
theorem dX8_sleeper_1 : decode cX8_sleeper 1 = .ok (.iload_n 1, 1) := by decide +kernel
theorem dX8_sleeper_2 : decode cX8_sleeper 2 = .ok (.invokevirtual 50, 3) := by decide +kernel
theorem dX8_sleeper_5 : decode cX8_sleeper 5 = .ok (.astore 4, 2) := by decide +kernel
theorem dX8_sleeper_7 : decode cX8_sleeper 7 = .ok (.iload_n 3, 1) := by decide +kernel
theorem dX8_sleeper_8 : decode cX8_sleeper 8 = .ok (.iconst 1, 1) := by decide +kernel
theorem dX8_sleeper_9 : decode cX8_sleeper 9 = .ok (.bipush 9, 2) := by decide +kernel
theorem dX8_sleeper_11 : decode cX8_sleeper 11 = .ok (.invokestatic 54, 3) := by decide +kernel
theorem dX8_sleeper_14 : decode cX8_sleeper 14 = .ok (.aload_n 0, 1) := by decide +kernel
theorem dX8_sleeper_15 : decode cX8_sleeper 15 = .ok (.getfield 22, 3) := by decide +kernel
theorem dX8_sleeper_18 : decode cX8_sleeper 18 = .ok (.invokevirtual 82, 3) := by decide +kernel
theorem dX8_sleeper_21 : decode cX8_sleeper 21 = .ok (.bipush 12, 2) := by decide +kernel
theorem dX8_sleeper_23 : decode cX8_sleeper 23 = .ok (.if_icmp .lt 13, 3) := by decide +kernel
theorem dX8_sleeper_26 : decode cX8_sleeper 26 = .ok (.new 75, 3) := by decide +kernel
theorem dX8_sleeper_29 : decode cX8_sleeper 29 = .ok (.dup, 1) := by decide +kernel
theorem dX8_sleeper_30 : decode cX8_sleeper 30 = .ok (.ldc 110, 2) := by decide +kernel
theorem dX8_sleeper_32 : decode cX8_sleeper 32 = .ok (.invokespecial 79, 3) := by decide +kernel
theorem dX8_sleeper_35 : decode cX8_sleeper 35 = .ok (.athrow, 1) := by decide +kernel
theorem dX8_sleeper_36 : decode cX8_sleeper 36 = .ok (.new 112, 3) := by decide +kernel
theorem dX8_sleeper_39 : decode cX8_sleeper 39 = .ok (.dup, 1) := by decide +kernel
theorem dX8_sleeper_40 : decode cX8_sleeper 40 = .ok (.aload_n 0, 1) := by decide +kernel
theorem dX8_sleeper_41 : decode cX8_sleeper 41 = .ok (.getfield 22, 3) := by decide +kernel
theorem dX8_sleeper_44 : decode cX8_sleeper 44 = .ok (.invokevirtual 82, 3) := by decide +kernel
theorem dX8_sleeper_47 : decode cX8_sleeper 47 = .ok (.aload 4, 2) := by decide +kernel
theorem dX8_sleeper_49 : decode cX8_sleeper 49 = .ok (.iload_n 2, 1) := by decide +kernel
theorem dX8_sleeper_50 : decode cX8_sleeper 50 = .ok (.iload_n 3, 1) := by decide +kernel
theorem dX8_sleeper_51 : decode cX8_sleeper 51 = .ok (.invokespecial 114, 3) := by decide +kernel
theorem dX8_sleeper_54 : decode cX8_sleeper 54 = .ok (.astore 5, 2) := by decide +kernel
theorem dX8_sleeper_56 : decode cX8_sleeper 56 = .ok (.aload_n 0, 1) := by decide +kernel
theorem dX8_sleeper_57 : decode cX8_sleeper 57 = .ok (.getfield 22, 3) := by decide +kernel
theorem dX8_sleeper_60 : decode cX8_sleeper 60 = .ok (.aload 5, 2) := by decide +kernel
theorem dX8_sleeper_62 : decode cX8_sleeper 62 = .ok (.invokevirtual 93, 3) := by decide +kernel
theorem dX8_sleeper_65 : decode cX8_sleeper 65 = .ok (.pop, 1) := by decide +kernel
theorem dX8_sleeper_66 : decode cX8_sleeper 66 = .ok (.aload 5, 2) := by decide +kernel
theorem dX8_sleeper_68 : decode cX8_sleeper 68 = .ok (.getfield 117, 3) := by decide +kernel
theorem dX8_sleeper_71 : decode cX8_sleeper 71 = .ok (.ireturn, 1) := by decide +kernel
set_option maxRecDepth 100000 in
theorem ggX8_part_X8_sleeperNumbered : GoodIn wsX8_part wsX8_sleeperNumbered := goodIn_ca (wk_g rfl wm_X8_part 3203 wc_X8_sleeperNumbered rfl (by decide +kernel) (by decide +kernel) wq_X8_sleeperNumbered) (goodIn_sub (fun _ h => List.mem_cons_of_mem _ (List.mem_append_left _ (List.mem_append_right _ h))) (by decide +kernel))
set_option maxRecDepth 100000 in
theorem gX8_part_X8_sleeperNumbered : GoodIn wsX8_part (wsV RX8 118 RX8 yX8_sleeperNumbered wsX8_sleeperNumbered) := goodIn_app (wk_h rfl wm_X8_part [3200, 3202, 1018, 2001] (by decide +kernel) (by decide +kernel) (by decide +kernel)) ggX8_part_X8_sleeperNumbered
set_option maxRecDepth 100000 in
theorem ggX8_part_X8_demandRange : GoodIn wsX8_part wsX8_demandRange := goodIn_ca (wk_g rfl wm_X8_part 4010 wc_X8_demandRange rfl (by decide +kernel) (by decide +kernel) wq_X8_demandRange) (goodIn_sub (fun _ h => List.mem_cons_of_mem _ (List.mem_append_right _ h)) (by decide +kernel))
set_option maxRecDepth 100000 in
theorem gX8_part_X8_demandRange : GoodIn wsX8_part (va_wsS RX8 54 yX8_demandRange wsX8_demandRange) := goodIn_app (wk_h rfl wm_X8_part [4008, 4009, 2001] (by decide +kernel) (by decide +kernel) (by decide +kernel)) ggX8_part_X8_demandRange
set_option maxRecDepth 100000 in
theorem ggX8_part_Jx4a65c_size_8abf5 : GoodIn wsX8_part wsJx4a65c_size_8abf5 := wk_g rfl wm_X8_part 2173 wc_Jx4a65c_size_8abf5 rfl (by decide +kernel) (by decide +kernel) wq_Jx4a65c_size_8abf5
set_option maxRecDepth 100000 in
theorem gX8_part_Jx4a65c_size_8abf5 : GoodIn wsX8_part (wsV RX8 82 RJx4a65c yJx4a65c_size_8abf5 wsJx4a65c_size_8abf5) := goodIn_app (wk_h rfl wm_X8_part [2170, 2171, 2172, 2004] (by decide +kernel) (by decide +kernel) (by decide +kernel)) ggX8_part_Jx4a65c_size_8abf5
set_option maxRecDepth 100000 in
theorem ggX8_part_X3_init : GoodIn wsX8_part wsX3_init := wk_g rfl wm_X8_part 5059 wc_X3_init rfl (by decide +kernel) (by decide +kernel) wq_X3_init
set_option maxRecDepth 100000 in
theorem gX8_part_X3_init : GoodIn wsX8_part (wsX3_init) := ggX8_part_X3_init
set_option maxRecDepth 100000 in
theorem ggX8_part_Jx4a65c_add_9ea2d : GoodIn wsX8_part wsJx4a65c_add_9ea2d := wk_g rfl wm_X8_part 4160 wc_Jx4a65c_add_9ea2d rfl (by decide +kernel) (by decide +kernel) wq_Jx4a65c_add_9ea2d
set_option maxRecDepth 100000 in
theorem gX8_part_Jx4a65c_add_9ea2d : GoodIn wsX8_part (wsV RX8 93 RJx4a65c yJx4a65c_add_9ea2d wsJx4a65c_add_9ea2d) := goodIn_app (wk_h rfl wm_X8_part [4157, 4158, 4159, 2004] (by decide +kernel) (by decide +kernel) (by decide +kernel)) ggX8_part_Jx4a65c_add_9ea2d
theorem dX8_part_0 : decode cX8_part 0 = .ok (.aload_n 0, 1) := by decide +kernel
theorem dX8_part_1 : decode cX8_part 1 = .ok (.iload_n 1, 1) := by decide +kernel
theorem dX8_part_2 : decode cX8_part 2 = .ok (.invokevirtual 118, 3) := by decide +kernel
theorem dX8_part_5 : decode cX8_part 5 = .ok (.astore 5, 2) := by decide +kernel
theorem dX8_part_7 : decode cX8_part 7 = .ok (.iload_n 2, 1) := by decide +kernel
theorem dX8_part_8 : decode cX8_part 8 = .ok (.iconst 0, 1) := by decide +kernel
theorem dX8_part_9 : decode cX8_part 9 = .ok (.bipush 7, 2) := by decide +kernel
theorem dX8_part_11 : decode cX8_part 11 = .ok (.invokestatic 54, 3) := by decide +kernel
theorem dX8_part_14 : decode cX8_part 14 = .ok (.iload_n 3, 1) := by decide +kernel
theorem dX8_part_15 : decode cX8_part 15 = .ok (.iconst 0, 1) := by decide +kernel
theorem dX8_part_16 : decode cX8_part 16 = .ok (.bipush 99, 2) := by decide +kernel
theorem dX8_part_18 : decode cX8_part 18 = .ok (.invokestatic 54, 3) := by decide +kernel
theorem dX8_part_21 : decode cX8_part 21 = .ok (.iload 4, 2) := by decide +kernel
theorem dX8_part_23 : decode cX8_part 23 = .ok (.iconst 0, 1) := by decide +kernel
theorem dX8_part_24 : decode cX8_part 24 = .ok (.bipush 9, 2) := by decide +kernel
theorem dX8_part_26 : decode cX8_part 26 = .ok (.invokestatic 54, 3) := by decide +kernel
theorem dX8_part_29 : decode cX8_part 29 = .ok (.aload_n 0, 1) := by decide +kernel
theorem dX8_part_30 : decode cX8_part 30 = .ok (.getfield 25, 3) := by decide +kernel
theorem dX8_part_33 : decode cX8_part 33 = .ok (.invokevirtual 82, 3) := by decide +kernel
theorem dX8_part_36 : decode cX8_part 36 = .ok (.bipush 24, 2) := by decide +kernel
theorem dX8_part_38 : decode cX8_part 38 = .ok (.if_icmp .ge 11, 3) := by decide +kernel
theorem dX8_part_41 : decode cX8_part 41 = .ok (.aload 5, 2) := by decide +kernel
theorem dX8_part_43 : decode cX8_part 43 = .ok (.getfield 122, 3) := by decide +kernel
theorem dX8_part_46 : decode cX8_part 46 = .ok (.ifCond .eq 13, 3) := by decide +kernel
theorem dX8_part_49 : decode cX8_part 49 = .ok (.new 75, 3) := by decide +kernel
theorem dX8_part_52 : decode cX8_part 52 = .ok (.dup, 1) := by decide +kernel
theorem dX8_part_53 : decode cX8_part 53 = .ok (.ldc 125, 2) := by decide +kernel
theorem dX8_part_55 : decode cX8_part 55 = .ok (.invokespecial 79, 3) := by decide +kernel
theorem dX8_part_58 : decode cX8_part 58 = .ok (.athrow, 1) := by decide +kernel
theorem dX8_part_59 : decode cX8_part 59 = .ok (.new 127, 3) := by decide +kernel
theorem dX8_part_62 : decode cX8_part 62 = .ok (.dup, 1) := by decide +kernel
theorem dX8_part_63 : decode cX8_part 63 = .ok (.aload_n 0, 1) := by decide +kernel
theorem dX8_part_64 : decode cX8_part 64 = .ok (.getfield 25, 3) := by decide +kernel
theorem dX8_part_67 : decode cX8_part 67 = .ok (.invokevirtual 82, 3) := by decide +kernel
theorem dX8_part_70 : decode cX8_part 70 = .ok (.aload 5, 2) := by decide +kernel
theorem dX8_part_72 : decode cX8_part 72 = .ok (.iload_n 2, 1) := by decide +kernel
theorem dX8_part_73 : decode cX8_part 73 = .ok (.iload_n 3, 1) := by decide +kernel
theorem dX8_part_74 : decode cX8_part 74 = .ok (.iload 4, 2) := by decide +kernel
theorem dX8_part_76 : decode cX8_part 76 = .ok (.invokespecial 129, 3) := by decide +kernel
theorem dX8_part_79 : decode cX8_part 79 = .ok (.astore 6, 2) := by decide +kernel
theorem dX8_part_81 : decode cX8_part 81 = .ok (.aload_n 0, 1) := by decide +kernel
theorem dX8_part_82 : decode cX8_part 82 = .ok (.getfield 25, 3) := by decide +kernel
theorem dX8_part_85 : decode cX8_part 85 = .ok (.aload 6, 2) := by decide +kernel
theorem dX8_part_87 : decode cX8_part 87 = .ok (.invokevirtual 93, 3) := by decide +kernel
theorem dX8_part_90 : decode cX8_part 90 = .ok (.pop, 1) := by decide +kernel
theorem dX8_part_91 : decode cX8_part 91 = .ok (.aload 6, 2) := by decide +kernel
theorem dX8_part_93 : decode cX8_part 93 = .ok (.getfield 132, 3) := by decide +kernel
theorem dX8_part_96 : decode cX8_part 96 = .ok (.ireturn, 1) := by decide +kernel
set_option maxRecDepth 100000 in
theorem ggX8_give_X8_partNumbered : GoodIn wsX8_give wsX8_partNumbered := goodIn_ca (wk_g rfl wm_X8_give 3229 wc_X8_partNumbered rfl (by decide +kernel) (by decide +kernel) wq_X8_partNumbered) (goodIn_sub (fun _ h => List.mem_cons_of_mem _ (List.mem_append_right _ h)) (by decide +kernel))
set_option maxRecDepth 100000 in
theorem gX8_give_X8_partNumbered : GoodIn wsX8_give (wsV RX8 133 RX8 yX8_partNumbered wsX8_partNumbered) := goodIn_app (wk_h rfl wm_X8_give [3226, 3228, 1022, 2001] (by decide +kernel) (by decide +kernel) (by decide +kernel)) ggX8_give_X8_partNumbered
set_option maxRecDepth 100000 in
theorem ggX8_give_X8_sleeperNumbered : GoodIn wsX8_give wsX8_sleeperNumbered := goodIn_ca (wk_g rfl wm_X8_give 3203 wc_X8_sleeperNumbered rfl (by decide +kernel) (by decide +kernel) wq_X8_sleeperNumbered) (goodIn_sub (fun _ h => List.mem_cons_of_mem _ (List.mem_append_right _ h)) (by decide +kernel))
set_option maxRecDepth 100000 in
theorem gX8_give_X8_sleeperNumbered : GoodIn wsX8_give (wsV RX8 118 RX8 yX8_sleeperNumbered wsX8_sleeperNumbered) := goodIn_app (wk_h rfl wm_X8_give [3200, 3202, 1018, 2001] (by decide +kernel) (by decide +kernel) (by decide +kernel)) ggX8_give_X8_sleeperNumbered
theorem dX8_give_0 : decode cX8_give 0 = .ok (.aload_n 0, 1) := by decide +kernel
theorem dX8_give_1 : decode cX8_give 1 = .ok (.iload_n 1, 1) := by decide +kernel
theorem dX8_give_2 : decode cX8_give 2 = .ok (.invokevirtual 133, 3) := by decide +kernel
theorem dX8_give_5 : decode cX8_give 5 = .ok (.astore_n 3, 1) := by decide +kernel
theorem dX8_give_6 : decode cX8_give 6 = .ok (.aload_n 0, 1) := by decide +kernel
theorem dX8_give_7 : decode cX8_give 7 = .ok (.iload_n 2, 1) := by decide +kernel
theorem dX8_give_8 : decode cX8_give 8 = .ok (.invokevirtual 118, 3) := by decide +kernel
theorem dX8_give_11 : decode cX8_give 11 = .ok (.astore 4, 2) := by decide +kernel
theorem dX8_give_13 : decode cX8_give 13 = .ok (.aload_n 3, 1) := by decide +kernel
theorem dX8_give_14 : decode cX8_give 14 = .ok (.getfield 137, 3) := by decide +kernel
theorem dX8_give_17 : decode cX8_give 17 = .ok (.astore 5, 2) := by decide +kernel
theorem dX8_give_19 : decode cX8_give 19 = .ok (.aload 5, 2) := by decide +kernel
theorem dX8_give_21 : decode cX8_give 21 = .ok (.ifnull 10, 3) := by decide +kernel
theorem dX8_give_24 : decode cX8_give 24 = .ok (.aload 5, 2) := by decide +kernel
theorem dX8_give_26 : decode cX8_give 26 = .ok (.aload 4, 2) := by decide +kernel
theorem dX8_give_28 : decode cX8_give 28 = .ok (.if_acmp .ne 13, 3) := by decide +kernel
theorem dX8_give_31 : decode cX8_give 31 = .ok (.new 75, 3) := by decide +kernel
theorem dX8_give_34 : decode cX8_give 34 = .ok (.dup, 1) := by decide +kernel
theorem dX8_give_35 : decode cX8_give 35 = .ok (.ldc 141, 2) := by decide +kernel
theorem dX8_give_37 : decode cX8_give 37 = .ok (.invokespecial 79, 3) := by decide +kernel
theorem dX8_give_40 : decode cX8_give 40 = .ok (.athrow, 1) := by decide +kernel
theorem dX8_give_41 : decode cX8_give 41 = .ok (.aload 5, 2) := by decide +kernel
theorem dX8_give_43 : decode cX8_give 43 = .ok (.getfield 143, 3) := by decide +kernel
theorem dX8_give_46 : decode cX8_give 46 = .ok (.aload 4, 2) := by decide +kernel
theorem dX8_give_48 : decode cX8_give 48 = .ok (.getfield 143, 3) := by decide +kernel
theorem dX8_give_51 : decode cX8_give 51 = .ok (.if_acmp .ne 19, 3) := by decide +kernel
theorem dX8_give_54 : decode cX8_give 54 = .ok (.aload 5, 2) := by decide +kernel
theorem dX8_give_56 : decode cX8_give 56 = .ok (.getfield 122, 3) := by decide +kernel
theorem dX8_give_59 : decode cX8_give 59 = .ok (.ifCond .ne 11, 3) := by decide +kernel
theorem dX8_give_62 : decode cX8_give 62 = .ok (.aload 4, 2) := by decide +kernel
theorem dX8_give_64 : decode cX8_give 64 = .ok (.getfield 122, 3) := by decide +kernel
theorem dX8_give_67 : decode cX8_give 67 = .ok (.ifCond .eq 13, 3) := by decide +kernel
theorem dX8_give_70 : decode cX8_give 70 = .ok (.new 75, 3) := by decide +kernel
theorem dX8_give_73 : decode cX8_give 73 = .ok (.dup, 1) := by decide +kernel
theorem dX8_give_74 : decode cX8_give 74 = .ok (.ldc 147, 2) := by decide +kernel
theorem dX8_give_76 : decode cX8_give 76 = .ok (.invokespecial 79, 3) := by decide +kernel
theorem dX8_give_79 : decode cX8_give 79 = .ok (.athrow, 1) := by decide +kernel
theorem dX8_give_80 : decode cX8_give 80 = .ok (.aload_n 3, 1) := by decide +kernel
theorem dX8_give_81 : decode cX8_give 81 = .ok (.aload 4, 2) := by decide +kernel
theorem dX8_give_83 : decode cX8_give 83 = .ok (.putfield 137, 3) := by decide +kernel
theorem dX8_give_86 : decode cX8_give 86 = .ok (.aload 5, 2) := by decide +kernel
theorem dX8_give_88 : decode cX8_give 88 = .ok (.getfield 117, 3) := by decide +kernel
theorem dX8_give_91 : decode cX8_give 91 = .ok (.ireturn, 1) := by decide +kernel
set_option maxRecDepth 100000 in
theorem ggX8_sing_X8_sleeperNumbered : GoodIn wsX8_sing wsX8_sleeperNumbered := goodIn_ca (wk_g rfl wm_X8_sing 3203 wc_X8_sleeperNumbered rfl (by decide +kernel) (by decide +kernel) wq_X8_sleeperNumbered) (goodIn_sub (fun _ h => List.mem_cons_of_mem _ (List.mem_append_left _ (List.mem_append_right _ h))) (by decide +kernel))
set_option maxRecDepth 100000 in
theorem gX8_sing_X8_sleeperNumbered : GoodIn wsX8_sing (wsV RX8 118 RX8 yX8_sleeperNumbered wsX8_sleeperNumbered) := goodIn_app (wk_h rfl wm_X8_sing [3200, 3202, 1018, 2001] (by decide +kernel) (by decide +kernel) (by decide +kernel)) ggX8_sing_X8_sleeperNumbered
set_option maxRecDepth 100000 in
theorem ggX8_sing_X8_gateNumbered : GoodIn wsX8_sing wsX8_gateNumbered := goodIn_ca (wk_g rfl wm_X8_sing 3120 wc_X8_gateNumbered rfl (by decide +kernel) (by decide +kernel) wq_X8_gateNumbered) (goodIn_sub (fun _ h => List.mem_cons_of_mem _ (List.mem_append_left _ (List.mem_append_right _ h))) (by decide +kernel))
set_option maxRecDepth 100000 in
theorem gX8_sing_X8_gateNumbered : GoodIn wsX8_sing (wsV RX8 100 RX8 yX8_gateNumbered wsX8_gateNumbered) := goodIn_app (wk_h rfl wm_X8_sing [3117, 3119, 1013, 2001] (by decide +kernel) (by decide +kernel) (by decide +kernel)) ggX8_sing_X8_gateNumbered
set_option maxRecDepth 100000 in
theorem ggX8_sing_X8_demandRange : GoodIn wsX8_sing wsX8_demandRange := goodIn_ca (wk_g rfl wm_X8_sing 4010 wc_X8_demandRange rfl (by decide +kernel) (by decide +kernel) wq_X8_demandRange) (goodIn_sub (fun _ h => List.mem_cons_of_mem _ (List.mem_append_right _ h)) (by decide +kernel))
set_option maxRecDepth 100000 in
theorem gX8_sing_X8_demandRange : GoodIn wsX8_sing (va_wsS RX8 54 yX8_demandRange wsX8_demandRange) := goodIn_app (wk_h rfl wm_X8_sing [4008, 4009, 2001] (by decide +kernel) (by decide +kernel) (by decide +kernel)) ggX8_sing_X8_demandRange
set_option maxRecDepth 100000 in
theorem ggX8_sing_X4_init : GoodIn wsX8_sing wsX4_init := wk_g rfl wm_X8_sing 5113 wc_X4_init rfl (by decide +kernel) (by decide +kernel) wq_X4_init
set_option maxRecDepth 100000 in
theorem gX8_sing_X4_init : GoodIn wsX8_sing (wsX4_init) := ggX8_sing_X4_init
set_option maxRecDepth 100000 in
theorem ggX8_sing_X8_rightVerse : GoodIn wsX8_sing wsX8_rightVerse := wk_g rfl wm_X8_sing 3167 wc_X8_rightVerse rfl (by decide +kernel) (by decide +kernel) wq_X8_rightVerse
set_option maxRecDepth 100000 in
theorem gX8_sing_X8_rightVerse : GoodIn wsX8_sing (va_wsS RX8 161 yX8_rightVerse wsX8_rightVerse) := goodIn_app (wk_h rfl wm_X8_sing [3165, 3166, 2001] (by decide +kernel) (by decide +kernel) (by decide +kernel)) ggX8_sing_X8_rightVerse
theorem dX8_sing_0 : decode cX8_sing 0 = .ok (.aload_n 0, 1) := by decide +kernel
theorem dX8_sing_1 : decode cX8_sing 1 = .ok (.iload_n 1, 1) := by decide +kernel
theorem dX8_sing_2 : decode cX8_sing 2 = .ok (.invokevirtual 118, 3) := by decide +kernel
theorem dX8_sing_5 : decode cX8_sing 5 = .ok (.astore 5, 2) := by decide +kernel
theorem dX8_sing_7 : decode cX8_sing 7 = .ok (.aload_n 0, 1) := by decide +kernel
theorem dX8_sing_8 : decode cX8_sing 8 = .ok (.iload_n 2, 1) := by decide +kernel
theorem dX8_sing_9 : decode cX8_sing 9 = .ok (.invokevirtual 100, 3) := by decide +kernel
theorem dX8_sing_12 : decode cX8_sing 12 = .ok (.astore 6, 2) := by decide +kernel
theorem dX8_sing_14 : decode cX8_sing 14 = .ok (.iload_n 3, 1) := by decide +kernel
theorem dX8_sing_15 : decode cX8_sing 15 = .ok (.aload_n 0, 1) := by decide +kernel
theorem dX8_sing_16 : decode cX8_sing 16 = .ok (.getfield 149, 3) := by decide +kernel
theorem dX8_sing_19 : decode cX8_sing 19 = .ok (.bipush 99, 2) := by decide +kernel
theorem dX8_sing_21 : decode cX8_sing 21 = .ok (.invokestatic 54, 3) := by decide +kernel
theorem dX8_sing_24 : decode cX8_sing 24 = .ok (.iload 4, 2) := by decide +kernel
theorem dX8_sing_26 : decode cX8_sing 26 = .ok (.iconst 0, 1) := by decide +kernel
theorem dX8_sing_27 : decode cX8_sing 27 = .ok (.bipush 96, 2) := by decide +kernel
theorem dX8_sing_29 : decode cX8_sing 29 = .ok (.invokestatic 54, 3) := by decide +kernel
theorem dX8_sing_32 : decode cX8_sing 32 = .ok (.aload 5, 2) := by decide +kernel
theorem dX8_sing_34 : decode cX8_sing 34 = .ok (.new 152, 3) := by decide +kernel
theorem dX8_sing_37 : decode cX8_sing 37 = .ok (.dup, 1) := by decide +kernel
theorem dX8_sing_38 : decode cX8_sing 38 = .ok (.aload 6, 2) := by decide +kernel
theorem dX8_sing_40 : decode cX8_sing 40 = .ok (.iload_n 3, 1) := by decide +kernel
theorem dX8_sing_41 : decode cX8_sing 41 = .ok (.iload 4, 2) := by decide +kernel
theorem dX8_sing_43 : decode cX8_sing 43 = .ok (.invokespecial 154, 3) := by decide +kernel
theorem dX8_sing_46 : decode cX8_sing 46 = .ok (.putfield 157, 3) := by decide +kernel
theorem dX8_sing_49 : decode cX8_sing 49 = .ok (.aload 5, 2) := by decide +kernel
theorem dX8_sing_51 : decode cX8_sing 51 = .ok (.aload 6, 2) := by decide +kernel
theorem dX8_sing_53 : decode cX8_sing 53 = .ok (.iload_n 3, 1) := by decide +kernel
theorem dX8_sing_54 : decode cX8_sing 54 = .ok (.invokestatic 161, 3) := by decide +kernel
theorem dX8_sing_57 : decode cX8_sing 57 = .ok (.ireturn, 1) := by decide +kernel
set_option maxRecDepth 100000 in
theorem ggX8_revoke_X8_gateNumbered : GoodIn wsX8_revoke wsX8_gateNumbered := goodIn_ca (wk_g rfl wm_X8_revoke 3120 wc_X8_gateNumbered rfl (by decide +kernel) (by decide +kernel) wq_X8_gateNumbered) (goodIn_sub (fun _ h => List.mem_cons_of_mem _ (List.mem_append_left _ (List.mem_append_right _ h))) (by decide +kernel))
set_option maxRecDepth 100000 in
theorem gX8_revoke_X8_gateNumbered : GoodIn wsX8_revoke (wsV RX8 100 RX8 yX8_gateNumbered wsX8_gateNumbered) := goodIn_app (wk_h rfl wm_X8_revoke [3117, 3119, 1013, 2001] (by decide +kernel) (by decide +kernel) (by decide +kernel)) ggX8_revoke_X8_gateNumbered
set_option maxRecDepth 100000 in
theorem ggX8_revoke_X8_demandRange : GoodIn wsX8_revoke wsX8_demandRange := goodIn_ca (wk_g rfl wm_X8_revoke 4010 wc_X8_demandRange rfl (by decide +kernel) (by decide +kernel) wq_X8_demandRange) (goodIn_sub (fun _ h => List.mem_cons_of_mem _ (List.mem_append_right _ h)) (by decide +kernel))
set_option maxRecDepth 100000 in
theorem gX8_revoke_X8_demandRange : GoodIn wsX8_revoke (va_wsS RX8 54 yX8_demandRange wsX8_demandRange) := goodIn_app (wk_h rfl wm_X8_revoke [4008, 4009, 2001] (by decide +kernel) (by decide +kernel) (by decide +kernel)) ggX8_revoke_X8_demandRange
set_option maxRecDepth 100000 in
theorem ggX8_revoke_X7_has : GoodIn wsX8_revoke wsX7_has := wk_g rfl wm_X8_revoke 3174 wc_X7_has rfl (by decide +kernel) (by decide +kernel) wq_X7_has
set_option maxRecDepth 100000 in
theorem gX8_revoke_X7_has : GoodIn wsX8_revoke (wsV RX8 169 RX7 yX7_has wsX7_has) := goodIn_app (wk_h rfl wm_X8_revoke [3171, 3172, 3173, 2017] (by decide +kernel) (by decide +kernel) (by decide +kernel)) ggX8_revoke_X7_has
set_option maxRecDepth 100000 in
theorem ggX8_revoke_X7_put : GoodIn wsX8_revoke wsX7_put := wk_g rfl wm_X8_revoke 5138 wc_X7_put rfl (by decide +kernel) (by decide +kernel) wq_X7_put
set_option maxRecDepth 100000 in
theorem gX8_revoke_X7_put : GoodIn wsX8_revoke (wsV RX8 175 RX7 yX7_put wsX7_put) := goodIn_app (wk_h rfl wm_X8_revoke [5135, 5136, 5137, 2017] (by decide +kernel) (by decide +kernel) (by decide +kernel)) ggX8_revoke_X7_put
theorem dX8_revoke_0 : decode cX8_revoke 0 = .ok (.aload_n 0, 1) := by decide +kernel
theorem dX8_revoke_1 : decode cX8_revoke 1 = .ok (.iload_n 1, 1) := by decide +kernel
theorem dX8_revoke_2 : decode cX8_revoke 2 = .ok (.invokevirtual 100, 3) := by decide +kernel
theorem dX8_revoke_5 : decode cX8_revoke 5 = .ok (.astore_n 3, 1) := by decide +kernel
theorem dX8_revoke_6 : decode cX8_revoke 6 = .ok (.iload_n 2, 1) := by decide +kernel
theorem dX8_revoke_7 : decode cX8_revoke 7 = .ok (.iconst 0, 1) := by decide +kernel
theorem dX8_revoke_8 : decode cX8_revoke 8 = .ok (.bipush 96, 2) := by decide +kernel
theorem dX8_revoke_10 : decode cX8_revoke 10 = .ok (.invokestatic 54, 3) := by decide +kernel
theorem dX8_revoke_13 : decode cX8_revoke 13 = .ok (.aload_n 3, 1) := by decide +kernel
theorem dX8_revoke_14 : decode cX8_revoke 14 = .ok (.getfield 165, 3) := by decide +kernel
theorem dX8_revoke_17 : decode cX8_revoke 17 = .ok (.iload_n 2, 1) := by decide +kernel
theorem dX8_revoke_18 : decode cX8_revoke 18 = .ok (.invokevirtual 169, 3) := by decide +kernel
theorem dX8_revoke_21 : decode cX8_revoke 21 = .ok (.ifCond .ne 7, 3) := by decide +kernel
theorem dX8_revoke_24 : decode cX8_revoke 24 = .ok (.iconst 1, 1) := by decide +kernel
theorem dX8_revoke_25 : decode cX8_revoke 25 = .ok (.goto 4, 3) := by decide +kernel
theorem dX8_revoke_28 : decode cX8_revoke 28 = .ok (.iconst 0, 1) := by decide +kernel
theorem dX8_revoke_29 : decode cX8_revoke 29 = .ok (.istore 4, 2) := by decide +kernel
theorem dX8_revoke_31 : decode cX8_revoke 31 = .ok (.aload_n 3, 1) := by decide +kernel
theorem dX8_revoke_32 : decode cX8_revoke 32 = .ok (.getfield 165, 3) := by decide +kernel
theorem dX8_revoke_35 : decode cX8_revoke 35 = .ok (.iload_n 2, 1) := by decide +kernel
theorem dX8_revoke_36 : decode cX8_revoke 36 = .ok (.invokevirtual 175, 3) := by decide +kernel
theorem dX8_revoke_39 : decode cX8_revoke 39 = .ok (.iload 4, 2) := by decide +kernel
theorem dX8_revoke_41 : decode cX8_revoke 41 = .ok (.ireturn, 1) := by decide +kernel
set_option maxRecDepth 100000 in
theorem ggX8_join_X8_sleeperNumbered : GoodIn wsX8_join wsX8_sleeperNumbered := goodIn_ca (wk_g bm_X8_join wm_X8_join 3203 wc_X8_sleeperNumbered rfl (by decide +kernel) (by decide +kernel) wq_X8_sleeperNumbered) (goodIn_sub (fun _ h => List.mem_cons_of_mem _ (List.mem_append_right _ h)) (by decide +kernel))
set_option maxRecDepth 100000 in
theorem gX8_join_X8_sleeperNumbered : GoodIn wsX8_join (wsV RX8 118 RX8 yX8_sleeperNumbered wsX8_sleeperNumbered) := goodIn_app (wk_h bm_X8_join wm_X8_join [3200, 3202, 1018, 2001] (by decide +kernel) (by decide +kernel) (by decide +kernel)) ggX8_join_X8_sleeperNumbered
set_option maxRecDepth 100000 in
theorem ggX8_join_X8_gateNumbered : GoodIn wsX8_join wsX8_gateNumbered := goodIn_ca (wk_g bm_X8_join wm_X8_join 3120 wc_X8_gateNumbered rfl (by decide +kernel) (by decide +kernel) wq_X8_gateNumbered) (goodIn_sub (fun _ h => List.mem_cons_of_mem _ (List.mem_append_right _ h)) (by decide +kernel))
set_option maxRecDepth 100000 in
theorem gX8_join_X8_gateNumbered : GoodIn wsX8_join (wsV RX8 100 RX8 yX8_gateNumbered wsX8_gateNumbered) := goodIn_app (wk_h bm_X8_join wm_X8_join [3117, 3119, 1013, 2001] (by decide +kernel) (by decide +kernel) (by decide +kernel)) ggX8_join_X8_gateNumbered
set_option maxRecDepth 100000 in
theorem ggX8_join_X8_headOf : GoodIn wsX8_join wsX8_headOf := wk_g bm_X8_join wm_X8_join 2207 wc_X8_headOf rfl (by decide +kernel) (by decide +kernel) wq_X8_headOf
set_option maxRecDepth 100000 in
theorem gX8_join_X8_headOf : GoodIn wsX8_join (wsV RX8 178 RX8 yX8_headOf wsX8_headOf) := goodIn_app (wk_h bm_X8_join wm_X8_join [2204, 2206, 1002, 2001] (by decide +kernel) (by decide +kernel) (by decide +kernel)) ggX8_join_X8_headOf
set_option maxRecDepth 100000 in
theorem ggX8_join_X0_isAt : GoodIn wsX8_join wsX0_isAt := wk_g bm_X8_join wm_X8_join 2203 wc_X0_isAt rfl (by decide +kernel) (by decide +kernel) wq_X0_isAt
set_option maxRecDepth 100000 in
theorem gX8_join_X0_isAt : GoodIn wsX8_join (wsV RX8 184 RX0 yX0_isAt wsX0_isAt) := goodIn_app (wk_h bm_X8_join wm_X8_join [2200, 2201, 2202, 2016] (by decide +kernel) (by decide +kernel) (by decide +kernel)) ggX8_join_X0_isAt
set_option maxRecDepth 100000 in
theorem ggX8_join_X0_babiesInLine : GoodIn wsX8_join wsX0_babiesInLine := wk_g bm_X8_join wm_X8_join 5151 wc_X0_babiesInLine rfl (by decide +kernel) (by decide +kernel) wq_X0_babiesInLine
set_option maxRecDepth 100000 in
theorem gX8_join_X0_babiesInLine : GoodIn wsX8_join (wsV RX8 194 RX0 yX0_babiesInLine wsX0_babiesInLine) := goodIn_app (wk_h bm_X8_join wm_X8_join [5148, 5149, 5150, 2016] (by decide +kernel) (by decide +kernel) (by decide +kernel)) ggX8_join_X0_babiesInLine
set_option maxRecDepth 100000 in
theorem ggX8_join_Jx4a65c_size_8abf5 : GoodIn wsX8_join wsJx4a65c_size_8abf5 := wk_g bm_X8_join wm_X8_join 2173 wc_Jx4a65c_size_8abf5 rfl (by decide +kernel) (by decide +kernel) wq_Jx4a65c_size_8abf5
set_option maxRecDepth 100000 in
theorem gX8_join_Jx4a65c_size_8abf5 : GoodIn wsX8_join (wsV RX8 82 RJx4a65c yJx4a65c_size_8abf5 wsJx4a65c_size_8abf5) := goodIn_app (wk_h bm_X8_join wm_X8_join [2170, 2171, 2172, 2004] (by decide +kernel) (by decide +kernel) (by decide +kernel)) ggX8_join_Jx4a65c_size_8abf5
set_option maxRecDepth 100000 in
theorem ggX8_join_Jx4a65c_add_7a177 : GoodIn wsX8_join wsJx4a65c_add_7a177 := wk_g bm_X8_join wm_X8_join 5155 wc_Jx4a65c_add_7a177 rfl (by decide +kernel) (by decide +kernel) wq_Jx4a65c_add_7a177
set_option maxRecDepth 100000 in
theorem gX8_join_Jx4a65c_add_7a177 : GoodIn wsX8_join (wsV RX8 200 RJx4a65c yJx4a65c_add_7a177 wsJx4a65c_add_7a177) := goodIn_app (wk_h bm_X8_join wm_X8_join [5152, 5153, 5154, 2004] (by decide +kernel) (by decide +kernel) (by decide +kernel)) ggX8_join_Jx4a65c_add_7a177
set_option maxRecDepth 100000 in
theorem ggX8_join_X6_standAt : GoodIn wsX8_join wsX6_standAt := wk_g bm_X8_join wm_X8_join 6161 wc_X6_standAt rfl (by decide +kernel) (by decide +kernel) wq_X6_standAt
set_option maxRecDepth 100000 in
theorem gX8_join_X6_standAt : GoodIn wsX8_join (wsV RX8 203 RX6 yX6_standAt wsX6_standAt) := goodIn_app (wk_h bm_X8_join wm_X8_join [6158, 6159, 6160, 2025] (by decide +kernel) (by decide +kernel) (by decide +kernel)) ggX8_join_X6_standAt
theorem dX8_join_0 : decode cX8_join 0 = .ok (.aload_n 0, 1) := by decide +kernel
theorem dX8_join_1 : decode cX8_join 1 = .ok (.iload_n 1, 1) := by decide +kernel
theorem dX8_join_2 : decode cX8_join 2 = .ok (.invokevirtual 118, 3) := by decide +kernel
theorem dX8_join_5 : decode cX8_join 5 = .ok (.astore 4, 2) := by decide +kernel
theorem dX8_join_7 : decode cX8_join 7 = .ok (.aload_n 0, 1) := by decide +kernel
theorem dX8_join_8 : decode cX8_join 8 = .ok (.iload_n 2, 1) := by decide +kernel
theorem dX8_join_9 : decode cX8_join 9 = .ok (.invokevirtual 100, 3) := by decide +kernel
theorem dX8_join_12 : decode cX8_join 12 = .ok (.astore 5, 2) := by decide +kernel
theorem dX8_join_14 : decode cX8_join 14 = .ok (.iload_n 3, 1) := by decide +kernel
theorem dX8_join_15 : decode cX8_join 15 = .ok (.ifCond .lt 16, 3) := by decide +kernel
theorem dX8_join_18 : decode cX8_join 18 = .ok (.iload_n 3, 1) := by decide +kernel
theorem dX8_join_19 : decode cX8_join 19 = .ok (.aload_n 0, 1) := by decide +kernel
theorem dX8_join_20 : decode cX8_join 20 = .ok (.aload 4, 2) := by decide +kernel
theorem dX8_join_22 : decode cX8_join 22 = .ok (.invokevirtual 178, 3) := by decide +kernel
theorem dX8_join_25 : decode cX8_join 25 = .ok (.iconst (-1), 1) := by decide +kernel
theorem dX8_join_26 : decode cX8_join 26 = .ok (.ixor, 1) := by decide +kernel
theorem dX8_join_27 : decode cX8_join 27 = .ok (.iand, 1) := by decide +kernel
theorem dX8_join_28 : decode cX8_join 28 = .ok (.ifCond .eq 13, 3) := by decide +kernel
theorem dX8_join_31 : decode cX8_join 31 = .ok (.new 65, 3) := by decide +kernel
theorem dX8_join_34 : decode cX8_join 34 = .ok (.dup, 1) := by decide +kernel
theorem dX8_join_35 : decode cX8_join 35 = .ok (.ldc 182, 2) := by decide +kernel
theorem dX8_join_37 : decode cX8_join 37 = .ok (.invokespecial 69, 3) := by decide +kernel
theorem dX8_join_40 : decode cX8_join 40 = .ok (.athrow, 1) := by decide +kernel
theorem dX8_join_41 : decode cX8_join 41 = .ok (.aload 4, 2) := by decide +kernel
theorem dX8_join_43 : decode cX8_join 43 = .ok (.getfield 122, 3) := by decide +kernel
theorem dX8_join_46 : decode cX8_join 46 = .ok (.ifCond .ne 16, 3) := by decide +kernel
theorem dX8_join_49 : decode cX8_join 49 = .ok (.aload 5, 2) := by decide +kernel
theorem dX8_join_51 : decode cX8_join 51 = .ok (.aload 4, 2) := by decide +kernel
theorem dX8_join_53 : decode cX8_join 53 = .ok (.getfield 143, 3) := by decide +kernel
theorem dX8_join_56 : decode cX8_join 56 = .ok (.invokevirtual 184, 3) := by decide +kernel
theorem dX8_join_59 : decode cX8_join 59 = .ok (.ifCond .ne 13, 3) := by decide +kernel
theorem dX8_join_62 : decode cX8_join 62 = .ok (.new 75, 3) := by decide +kernel
theorem dX8_join_65 : decode cX8_join 65 = .ok (.dup, 1) := by decide +kernel
theorem dX8_join_66 : decode cX8_join 66 = .ok (.ldc 188, 2) := by decide +kernel
theorem dX8_join_68 : decode cX8_join 68 = .ok (.invokespecial 79, 3) := by decide +kernel
theorem dX8_join_71 : decode cX8_join 71 = .ok (.athrow, 1) := by decide +kernel
theorem dX8_join_72 : decode cX8_join 72 = .ok (.aload 4, 2) := by decide +kernel
theorem dX8_join_74 : decode cX8_join 74 = .ok (.getfield 190, 3) := by decide +kernel
theorem dX8_join_77 : decode cX8_join 77 = .ok (.ifCond .eq 11, 3) := by decide +kernel
theorem dX8_join_80 : decode cX8_join 80 = .ok (.aload 5, 2) := by decide +kernel
theorem dX8_join_82 : decode cX8_join 82 = .ok (.invokevirtual 194, 3) := by decide +kernel
theorem dX8_join_85 : decode cX8_join 85 = .ok (.goto 11, 3) := by decide +kernel
theorem dX8_join_88 : decode cX8_join 88 = .ok (.aload 5, 2) := by decide +kernel
theorem dX8_join_90 : decode cX8_join 90 = .ok (.getfield 197, 3) := by decide +kernel
theorem dX8_join_93 : decode cX8_join 93 = .ok (.invokevirtual 82, 3) := by decide +kernel
theorem dX8_join_96 : decode cX8_join 96 = .ok (.istore 6, 2) := by decide +kernel
theorem dX8_join_98 : decode cX8_join 98 = .ok (.aload 5, 2) := by decide +kernel
theorem dX8_join_100 : decode cX8_join 100 = .ok (.getfield 197, 3) := by decide +kernel
theorem dX8_join_103 : decode cX8_join 103 = .ok (.iload 6, 2) := by decide +kernel
theorem dX8_join_105 : decode cX8_join 105 = .ok (.aload 4, 2) := by decide +kernel
theorem dX8_join_107 : decode cX8_join 107 = .ok (.invokevirtual 200, 3) := by decide +kernel
theorem dX8_join_110 : decode cX8_join 110 = .ok (.aload 4, 2) := by decide +kernel
theorem dX8_join_112 : decode cX8_join 112 = .ok (.aload 5, 2) := by decide +kernel
theorem dX8_join_114 : decode cX8_join 114 = .ok (.iload_n 3, 1) := by decide +kernel
theorem dX8_join_115 : decode cX8_join 115 = .ok (.invokevirtual 203, 3) := by decide +kernel
theorem dX8_join_118 : decode cX8_join 118 = .ok (.iload 6, 2) := by decide +kernel
theorem dX8_join_120 : decode cX8_join 120 = .ok (.ireturn, 1) := by decide +kernel
set_option maxRecDepth 100000 in
theorem ggX8_leave_X8_sleeperNumbered : GoodIn wsX8_leave wsX8_sleeperNumbered := goodIn_ca (wk_g rfl wm_X8_leave 3203 wc_X8_sleeperNumbered rfl (by decide +kernel) (by decide +kernel) wq_X8_sleeperNumbered) (goodIn_sub (fun _ h => List.mem_cons_of_mem _ (List.mem_append_right _ h)) (by decide +kernel))
set_option maxRecDepth 100000 in
theorem gX8_leave_X8_sleeperNumbered : GoodIn wsX8_leave (wsV RX8 118 RX8 yX8_sleeperNumbered wsX8_sleeperNumbered) := goodIn_app (wk_h rfl wm_X8_leave [3200, 3202, 1018, 2001] (by decide +kernel) (by decide +kernel) (by decide +kernel)) ggX8_leave_X8_sleeperNumbered
set_option maxRecDepth 100000 in
theorem ggX8_leave_X8_placeOf : GoodIn wsX8_leave wsX8_placeOf := wk_g rfl wm_X8_leave 3207 wc_X8_placeOf rfl (by decide +kernel) (by decide +kernel) wq_X8_placeOf
set_option maxRecDepth 100000 in
theorem gX8_leave_X8_placeOf : GoodIn wsX8_leave (va_wsS RX8 207 yX8_placeOf wsX8_placeOf) := goodIn_app (wk_h rfl wm_X8_leave [3205, 3206, 2001] (by decide +kernel) (by decide +kernel) (by decide +kernel)) ggX8_leave_X8_placeOf
set_option maxRecDepth 100000 in
theorem ggX8_leave_Jx4a65c_remove_915e3 : GoodIn wsX8_leave wsJx4a65c_remove_915e3 := wk_g rfl wm_X8_leave 6173 wc_Jx4a65c_remove_915e3 rfl (by decide +kernel) (by decide +kernel) wq_Jx4a65c_remove_915e3
set_option maxRecDepth 100000 in
theorem gX8_leave_Jx4a65c_remove_915e3 : GoodIn wsX8_leave (wsV RX8 216 RJx4a65c yJx4a65c_remove_915e3 wsJx4a65c_remove_915e3) := goodIn_app (wk_h rfl wm_X8_leave [6170, 6171, 6172, 2004] (by decide +kernel) (by decide +kernel) (by decide +kernel)) ggX8_leave_Jx4a65c_remove_915e3
set_option maxRecDepth 100000 in
theorem ggX8_leave_X6_stepOut : GoodIn wsX8_leave wsX6_stepOut := wk_g rfl wm_X8_leave 6181 wc_X6_stepOut rfl (by decide +kernel) (by decide +kernel) wq_X6_stepOut
set_option maxRecDepth 100000 in
theorem gX8_leave_X6_stepOut : GoodIn wsX8_leave (wsV RX8 220 RX6 yX6_stepOut wsX6_stepOut) := goodIn_app (wk_h rfl wm_X8_leave [6178, 6179, 6180, 2025] (by decide +kernel) (by decide +kernel) (by decide +kernel)) ggX8_leave_X6_stepOut
theorem dX8_leave_0 : decode cX8_leave 0 = .ok (.aload_n 0, 1) := by decide +kernel
theorem dX8_leave_1 : decode cX8_leave 1 = .ok (.iload_n 1, 1) := by decide +kernel
theorem dX8_leave_2 : decode cX8_leave 2 = .ok (.invokevirtual 118, 3) := by decide +kernel
theorem dX8_leave_5 : decode cX8_leave 5 = .ok (.astore_n 2, 1) := by decide +kernel
theorem dX8_leave_6 : decode cX8_leave 6 = .ok (.aload_n 2, 1) := by decide +kernel
theorem dX8_leave_7 : decode cX8_leave 7 = .ok (.invokestatic 207, 3) := by decide +kernel
theorem dX8_leave_10 : decode cX8_leave 10 = .ok (.istore_n 3, 1) := by decide +kernel
theorem dX8_leave_11 : decode cX8_leave 11 = .ok (.aload_n 2, 1) := by decide +kernel
theorem dX8_leave_12 : decode cX8_leave 12 = .ok (.getfield 210, 3) := by decide +kernel
theorem dX8_leave_15 : decode cX8_leave 15 = .ok (.ifnull 8, 3) := by decide +kernel
theorem dX8_leave_18 : decode cX8_leave 18 = .ok (.iload_n 3, 1) := by decide +kernel
theorem dX8_leave_19 : decode cX8_leave 19 = .ok (.iconst (-1), 1) := by decide +kernel
theorem dX8_leave_20 : decode cX8_leave 20 = .ok (.if_icmp .ne 13, 3) := by decide +kernel
theorem dX8_leave_23 : decode cX8_leave 23 = .ok (.new 75, 3) := by decide +kernel
theorem dX8_leave_26 : decode cX8_leave 26 = .ok (.dup, 1) := by decide +kernel
theorem dX8_leave_27 : decode cX8_leave 27 = .ok (.ldc 214, 2) := by decide +kernel
theorem dX8_leave_29 : decode cX8_leave 29 = .ok (.invokespecial 79, 3) := by decide +kernel
theorem dX8_leave_32 : decode cX8_leave 32 = .ok (.athrow, 1) := by decide +kernel
theorem dX8_leave_33 : decode cX8_leave 33 = .ok (.aload_n 2, 1) := by decide +kernel
theorem dX8_leave_34 : decode cX8_leave 34 = .ok (.getfield 210, 3) := by decide +kernel
theorem dX8_leave_37 : decode cX8_leave 37 = .ok (.getfield 197, 3) := by decide +kernel
theorem dX8_leave_40 : decode cX8_leave 40 = .ok (.iload_n 3, 1) := by decide +kernel
theorem dX8_leave_41 : decode cX8_leave 41 = .ok (.invokevirtual 216, 3) := by decide +kernel
theorem dX8_leave_44 : decode cX8_leave 44 = .ok (.pop, 1) := by decide +kernel
theorem dX8_leave_45 : decode cX8_leave 45 = .ok (.aload_n 2, 1) := by decide +kernel
theorem dX8_leave_46 : decode cX8_leave 46 = .ok (.iconst 0, 1) := by decide +kernel
theorem dX8_leave_47 : decode cX8_leave 47 = .ok (.invokevirtual 220, 3) := by decide +kernel
theorem dX8_leave_50 : decode cX8_leave 50 = .ok (.iload_n 3, 1) := by decide +kernel
theorem dX8_leave_51 : decode cX8_leave 51 = .ok (.ireturn, 1) := by decide +kernel
set_option maxRecDepth 100000 in
theorem ggX8_yawn_X8_gateNumbered : GoodIn wsX8_yawn wsX8_gateNumbered := goodIn_ca (wk_g bm_X8_yawn wm_X8_yawn 3120 wc_X8_gateNumbered rfl (by decide +kernel) (by decide +kernel) wq_X8_gateNumbered) (goodIn_sub (fun _ h => List.mem_cons_of_mem _ (List.mem_append_right _ h)) (by decide +kernel))
set_option maxRecDepth 100000 in
theorem gX8_yawn_X8_gateNumbered : GoodIn wsX8_yawn (wsV RX8 100 RX8 yX8_gateNumbered wsX8_gateNumbered) := goodIn_app (wk_h bm_X8_yawn wm_X8_yawn [3117, 3119, 1013, 2001] (by decide +kernel) (by decide +kernel) (by decide +kernel)) ggX8_yawn_X8_gateNumbered
set_option maxRecDepth 100000 in
theorem ggX8_yawn_X0_isOpenAt : GoodIn wsX8_yawn wsX0_isOpenAt := wk_g bm_X8_yawn wm_X8_yawn 3125 wc_X0_isOpenAt rfl (by decide +kernel) (by decide +kernel) wq_X0_isOpenAt
set_option maxRecDepth 100000 in
theorem gX8_yawn_X0_isOpenAt : GoodIn wsX8_yawn (wsV RX8 226 RX0 yX0_isOpenAt wsX0_isOpenAt) := goodIn_app (wk_h bm_X8_yawn wm_X8_yawn [3122, 3123, 3124, 2016] (by decide +kernel) (by decide +kernel) (by decide +kernel)) ggX8_yawn_X0_isOpenAt
set_option maxRecDepth 100000 in
theorem ggX8_yawn_Jx4a65c_isEmpty_aae02 : GoodIn wsX8_yawn wsJx4a65c_isEmpty_aae02 := wk_g bm_X8_yawn wm_X8_yawn 3133 wc_Jx4a65c_isEmpty_aae02 rfl (by decide +kernel) (by decide +kernel) wq_Jx4a65c_isEmpty_aae02
set_option maxRecDepth 100000 in
theorem gX8_yawn_Jx4a65c_isEmpty_aae02 : GoodIn wsX8_yawn (wsV RX8 229 RJx4a65c yJx4a65c_isEmpty_aae02 wsJx4a65c_isEmpty_aae02) := goodIn_app (wk_h bm_X8_yawn wm_X8_yawn [3130, 3131, 3132, 2004] (by decide +kernel) (by decide +kernel) (by decide +kernel)) ggX8_yawn_Jx4a65c_isEmpty_aae02
set_option maxRecDepth 100000 in
theorem ggX8_yawn_Jx4a65c_get_915e3 : GoodIn wsX8_yawn wsJx4a65c_get_915e3 := wk_g bm_X8_yawn wm_X8_yawn 2177 wc_Jx4a65c_get_915e3 rfl (by decide +kernel) (by decide +kernel) wq_Jx4a65c_get_915e3
set_option maxRecDepth 100000 in
theorem gX8_yawn_Jx4a65c_get_915e3 : GoodIn wsX8_yawn (wsV RX8 238 RJx4a65c yJx4a65c_get_915e3 wsJx4a65c_get_915e3) := goodIn_app (wk_h bm_X8_yawn wm_X8_yawn [2174, 2175, 2176, 2004] (by decide +kernel) (by decide +kernel) (by decide +kernel)) ggX8_yawn_Jx4a65c_get_915e3
set_option maxRecDepth 100000 in
theorem ggX8_yawn_Jx4a65c_remove_915e3 : GoodIn wsX8_yawn wsJx4a65c_remove_915e3 := wk_g bm_X8_yawn wm_X8_yawn 6173 wc_Jx4a65c_remove_915e3 rfl (by decide +kernel) (by decide +kernel) wq_Jx4a65c_remove_915e3
set_option maxRecDepth 100000 in
theorem gX8_yawn_Jx4a65c_remove_915e3 : GoodIn wsX8_yawn (wsV RX8 216 RJx4a65c yJx4a65c_remove_915e3 wsJx4a65c_remove_915e3) := goodIn_app (wk_h bm_X8_yawn wm_X8_yawn [6170, 6171, 6172, 2004] (by decide +kernel) (by decide +kernel) (by decide +kernel)) ggX8_yawn_Jx4a65c_remove_915e3
set_option maxRecDepth 100000 in
theorem ggX8_yawn_X8_passIsGood : GoodIn wsX8_yawn wsX8_passIsGood := wk_g bm_X8_yawn wm_X8_yawn 3164 wc_X8_passIsGood rfl (by decide +kernel) (by decide +kernel) wq_X8_passIsGood
set_option maxRecDepth 100000 in
theorem gX8_yawn_X8_passIsGood : GoodIn wsX8_yawn (wsV RX8 241 RX8 yX8_passIsGood wsX8_passIsGood) := goodIn_app (wk_h bm_X8_yawn wm_X8_yawn [3161, 3163, 1015, 2001] (by decide +kernel) (by decide +kernel) (by decide +kernel)) ggX8_yawn_X8_passIsGood
set_option maxRecDepth 100000 in
theorem ggX8_yawn_X8_comeThrough : GoodIn wsX8_yawn wsX8_comeThrough := wk_g bm_X8_yawn wm_X8_yawn 6193 wc_X8_comeThrough rfl (by decide +kernel) (by decide +kernel) wq_X8_comeThrough
set_option maxRecDepth 100000 in
theorem gX8_yawn_X8_comeThrough : GoodIn wsX8_yawn (wsV RX8 245 RX8 yX8_comeThrough wsX8_comeThrough) := goodIn_app (wk_h bm_X8_yawn wm_X8_yawn [6190, 6192, 1036, 2001] (by decide +kernel) (by decide +kernel) (by decide +kernel)) ggX8_yawn_X8_comeThrough
set_option maxRecDepth 100000 in
theorem ggX8_yawn_X6_stepOut : GoodIn wsX8_yawn wsX6_stepOut := wk_g bm_X8_yawn wm_X8_yawn 6181 wc_X6_stepOut rfl (by decide +kernel) (by decide +kernel) wq_X6_stepOut
set_option maxRecDepth 100000 in
theorem gX8_yawn_X6_stepOut : GoodIn wsX8_yawn (wsV RX8 220 RX6 yX6_stepOut wsX6_stepOut) := goodIn_app (wk_h bm_X8_yawn wm_X8_yawn [6178, 6179, 6180, 2025] (by decide +kernel) (by decide +kernel) (by decide +kernel)) ggX8_yawn_X6_stepOut
set_option maxRecDepth 100000 in
theorem ggX8_yawn_X8_tireThoseWhoStand : GoodIn wsX8_yawn wsX8_tireThoseWhoStand := wk_g bm_X8_yawn wm_X8_yawn 6235 wc_X8_tireThoseWhoStand rfl (by decide +kernel) (by decide +kernel) wq_X8_tireThoseWhoStand
set_option maxRecDepth 100000 in
theorem gX8_yawn_X8_tireThoseWhoStand : GoodIn wsX8_yawn (wsV RX8 249 RX8 yX8_tireThoseWhoStand wsX8_tireThoseWhoStand) := goodIn_app (wk_h bm_X8_yawn wm_X8_yawn [6232, 6234, 1040, 2001] (by decide +kernel) (by decide +kernel) (by decide +kernel)) ggX8_yawn_X8_tireThoseWhoStand
theorem dX8_yawn_0 : decode cX8_yawn 0 = .ok (.aload_n 0, 1) := by decide +kernel
theorem dX8_yawn_1 : decode cX8_yawn 1 = .ok (.iload_n 1, 1) := by decide +kernel
theorem dX8_yawn_2 : decode cX8_yawn 2 = .ok (.invokevirtual 100, 3) := by decide +kernel
theorem dX8_yawn_5 : decode cX8_yawn 5 = .ok (.astore_n 2, 1) := by decide +kernel
theorem dX8_yawn_6 : decode cX8_yawn 6 = .ok (.aload_n 2, 1) := by decide +kernel
theorem dX8_yawn_7 : decode cX8_yawn 7 = .ok (.aload_n 0, 1) := by decide +kernel
theorem dX8_yawn_8 : decode cX8_yawn 8 = .ok (.getfield 223, 3) := by decide +kernel
theorem dX8_yawn_11 : decode cX8_yawn 11 = .ok (.invokevirtual 226, 3) := by decide +kernel
theorem dX8_yawn_14 : decode cX8_yawn 14 = .ok (.ifCond .eq 13, 3) := by decide +kernel
theorem dX8_yawn_17 : decode cX8_yawn 17 = .ok (.aload_n 2, 1) := by decide +kernel
theorem dX8_yawn_18 : decode cX8_yawn 18 = .ok (.getfield 197, 3) := by decide +kernel
theorem dX8_yawn_21 : decode cX8_yawn 21 = .ok (.invokevirtual 229, 3) := by decide +kernel
theorem dX8_yawn_24 : decode cX8_yawn 24 = .ok (.ifCond .eq 13, 3) := by decide +kernel
theorem dX8_yawn_27 : decode cX8_yawn 27 = .ok (.new 75, 3) := by decide +kernel
theorem dX8_yawn_30 : decode cX8_yawn 30 = .ok (.dup, 1) := by decide +kernel
theorem dX8_yawn_31 : decode cX8_yawn 31 = .ok (.ldc 233, 2) := by decide +kernel
theorem dX8_yawn_33 : decode cX8_yawn 33 = .ok (.invokespecial 79, 3) := by decide +kernel
theorem dX8_yawn_36 : decode cX8_yawn 36 = .ok (.athrow, 1) := by decide +kernel
theorem dX8_yawn_37 : decode cX8_yawn 37 = .ok (.aload_n 0, 1) := by decide +kernel
theorem dX8_yawn_38 : decode cX8_yawn 38 = .ok (.dup, 1) := by decide +kernel
theorem dX8_yawn_39 : decode cX8_yawn 39 = .ok (.getfield 235, 3) := by decide +kernel
theorem dX8_yawn_42 : decode cX8_yawn 42 = .ok (.iconst 1, 1) := by decide +kernel
theorem dX8_yawn_43 : decode cX8_yawn 43 = .ok (.iadd, 1) := by decide +kernel
theorem dX8_yawn_44 : decode cX8_yawn 44 = .ok (.putfield 235, 3) := by decide +kernel
theorem dX8_yawn_47 : decode cX8_yawn 47 = .ok (.aload_n 2, 1) := by decide +kernel
theorem dX8_yawn_48 : decode cX8_yawn 48 = .ok (.getfield 197, 3) := by decide +kernel
theorem dX8_yawn_51 : decode cX8_yawn 51 = .ok (.iconst 0, 1) := by decide +kernel
theorem dX8_yawn_52 : decode cX8_yawn 52 = .ok (.invokevirtual 238, 3) := by decide +kernel
theorem dX8_yawn_55 : decode cX8_yawn 55 = .ok (.checkcast 112, 3) := by decide +kernel
theorem dX8_yawn_58 : decode cX8_yawn 58 = .ok (.astore_n 3, 1) := by decide +kernel
theorem dX8_yawn_59 : decode cX8_yawn 59 = .ok (.aload_n 2, 1) := by decide +kernel
theorem dX8_yawn_60 : decode cX8_yawn 60 = .ok (.getfield 197, 3) := by decide +kernel
theorem dX8_yawn_63 : decode cX8_yawn 63 = .ok (.iconst 0, 1) := by decide +kernel
theorem dX8_yawn_64 : decode cX8_yawn 64 = .ok (.invokevirtual 216, 3) := by decide +kernel
theorem dX8_yawn_67 : decode cX8_yawn 67 = .ok (.pop, 1) := by decide +kernel
theorem dX8_yawn_68 : decode cX8_yawn 68 = .ok (.aload_n 0, 1) := by decide +kernel
theorem dX8_yawn_69 : decode cX8_yawn 69 = .ok (.aload_n 3, 1) := by decide +kernel
theorem dX8_yawn_70 : decode cX8_yawn 70 = .ok (.aload_n 2, 1) := by decide +kernel
theorem dX8_yawn_71 : decode cX8_yawn 71 = .ok (.invokevirtual 241, 3) := by decide +kernel
theorem dX8_yawn_74 : decode cX8_yawn 74 = .ok (.ifCond .eq 12, 3) := by decide +kernel
theorem dX8_yawn_77 : decode cX8_yawn 77 = .ok (.aload_n 0, 1) := by decide +kernel
theorem dX8_yawn_78 : decode cX8_yawn 78 = .ok (.aload_n 3, 1) := by decide +kernel
theorem dX8_yawn_79 : decode cX8_yawn 79 = .ok (.aload_n 2, 1) := by decide +kernel
theorem dX8_yawn_80 : decode cX8_yawn 80 = .ok (.invokevirtual 245, 3) := by decide +kernel
theorem dX8_yawn_83 : decode cX8_yawn 83 = .ok (.goto 4, 3) := by decide +kernel
theorem dX8_yawn_86 : decode cX8_yawn 86 = .ok (.iconst (-1), 1) := by decide +kernel
theorem dX8_yawn_87 : decode cX8_yawn 87 = .ok (.istore 4, 2) := by decide +kernel
theorem dX8_yawn_89 : decode cX8_yawn 89 = .ok (.aload_n 3, 1) := by decide +kernel
theorem dX8_yawn_90 : decode cX8_yawn 90 = .ok (.iconst 0, 1) := by decide +kernel
theorem dX8_yawn_91 : decode cX8_yawn 91 = .ok (.invokevirtual 220, 3) := by decide +kernel
theorem dX8_yawn_94 : decode cX8_yawn 94 = .ok (.aload_n 0, 1) := by decide +kernel
theorem dX8_yawn_95 : decode cX8_yawn 95 = .ok (.aload_n 2, 1) := by decide +kernel
theorem dX8_yawn_96 : decode cX8_yawn 96 = .ok (.invokevirtual 249, 3) := by decide +kernel
theorem dX8_yawn_99 : decode cX8_yawn 99 = .ok (.iload 4, 2) := by decide +kernel
theorem dX8_yawn_101 : decode cX8_yawn 101 = .ok (.ireturn, 1) := by decide +kernel
set_option maxRecDepth 100000 in
theorem ggX8_appeal_X8_partNumbered : GoodIn wsX8_appeal wsX8_partNumbered := goodIn_ca (wk_g rfl wm_X8_appeal 3229 wc_X8_partNumbered rfl (by decide +kernel) (by decide +kernel) wq_X8_partNumbered) (goodIn_sub (fun _ h => List.mem_cons_of_mem _ (List.mem_append_right _ h)) (by decide +kernel))
set_option maxRecDepth 100000 in
theorem gX8_appeal_X8_partNumbered : GoodIn wsX8_appeal (wsV RX8 133 RX8 yX8_partNumbered wsX8_partNumbered) := goodIn_app (wk_h rfl wm_X8_appeal [3226, 3228, 1022, 2001] (by decide +kernel) (by decide +kernel) (by decide +kernel)) ggX8_appeal_X8_partNumbered
theorem dX8_appeal_0 : decode cX8_appeal 0 = .ok (.aload_n 0, 1) := by decide +kernel
theorem dX8_appeal_1 : decode cX8_appeal 1 = .ok (.iload_n 1, 1) := by decide +kernel
theorem dX8_appeal_2 : decode cX8_appeal 2 = .ok (.invokevirtual 133, 3) := by decide +kernel
theorem dX8_appeal_5 : decode cX8_appeal 5 = .ok (.astore_n 2, 1) := by decide +kernel
theorem dX8_appeal_6 : decode cX8_appeal 6 = .ok (.aload_n 2, 1) := by decide +kernel
theorem dX8_appeal_7 : decode cX8_appeal 7 = .ok (.getfield 253, 3) := by decide +kernel
theorem dX8_appeal_10 : decode cX8_appeal 10 = .ok (.astore_n 3, 1) := by decide +kernel
theorem dX8_appeal_11 : decode cX8_appeal 11 = .ok (.aload_n 2, 1) := by decide +kernel
theorem dX8_appeal_12 : decode cX8_appeal 12 = .ok (.getfield 256, 3) := by decide +kernel
theorem dX8_appeal_15 : decode cX8_appeal 15 = .ok (.astore 4, 2) := by decide +kernel
theorem dX8_appeal_17 : decode cX8_appeal 17 = .ok (.aload_n 2, 1) := by decide +kernel
theorem dX8_appeal_18 : decode cX8_appeal 18 = .ok (.getfield 259, 3) := by decide +kernel
theorem dX8_appeal_21 : decode cX8_appeal 21 = .ok (.iconst 3, 1) := by decide +kernel
theorem dX8_appeal_22 : decode cX8_appeal 22 = .ok (.if_icmp .ne 12, 3) := by decide +kernel
theorem dX8_appeal_25 : decode cX8_appeal 25 = .ok (.aload_n 3, 1) := by decide +kernel
theorem dX8_appeal_26 : decode cX8_appeal 26 = .ok (.ifnull 8, 3) := by decide +kernel
theorem dX8_appeal_29 : decode cX8_appeal 29 = .ok (.aload 4, 2) := by decide +kernel
theorem dX8_appeal_31 : decode cX8_appeal 31 = .ok (.ifnonnull 14, 3) := by decide +kernel
theorem dX8_appeal_34 : decode cX8_appeal 34 = .ok (.new 75, 3) := by decide +kernel
theorem dX8_appeal_37 : decode cX8_appeal 37 = .ok (.dup, 1) := by decide +kernel
theorem dX8_appeal_38 : decode cX8_appeal 38 = .ok (.ldc_w 262, 3) := by decide +kernel
theorem dX8_appeal_41 : decode cX8_appeal 41 = .ok (.invokespecial 79, 3) := by decide +kernel
theorem dX8_appeal_44 : decode cX8_appeal 44 = .ok (.athrow, 1) := by decide +kernel
theorem dX8_appeal_45 : decode cX8_appeal 45 = .ok (.aload_n 2, 1) := by decide +kernel
theorem dX8_appeal_46 : decode cX8_appeal 46 = .ok (.getfield 264, 3) := by decide +kernel
theorem dX8_appeal_49 : decode cX8_appeal 49 = .ok (.aload_n 3, 1) := by decide +kernel
theorem dX8_appeal_50 : decode cX8_appeal 50 = .ok (.getfield 62, 3) := by decide +kernel
theorem dX8_appeal_53 : decode cX8_appeal 53 = .ok (.if_icmp .gt 20, 3) := by decide +kernel
theorem dX8_appeal_56 : decode cX8_appeal 56 = .ok (.aload 4, 2) := by decide +kernel
theorem dX8_appeal_58 : decode cX8_appeal 58 = .ok (.getfield 143, 3) := by decide +kernel
theorem dX8_appeal_61 : decode cX8_appeal 61 = .ok (.aload_n 3, 1) := by decide +kernel
theorem dX8_appeal_62 : decode cX8_appeal 62 = .ok (.if_acmp .ne 11, 3) := by decide +kernel
theorem dX8_appeal_65 : decode cX8_appeal 65 = .ok (.aload 4, 2) := by decide +kernel
theorem dX8_appeal_67 : decode cX8_appeal 67 = .ok (.getfield 122, 3) := by decide +kernel
theorem dX8_appeal_70 : decode cX8_appeal 70 = .ok (.ifCond .eq 5, 3) := by decide +kernel
theorem dX8_appeal_73 : decode cX8_appeal 73 = .ok (.iconst 0, 1) := by decide +kernel
theorem dX8_appeal_74 : decode cX8_appeal 74 = .ok (.ireturn, 1) := by decide +kernel
theorem dX8_appeal_75 : decode cX8_appeal 75 = .ok (.aload_n 2, 1) := by decide +kernel
theorem dX8_appeal_76 : decode cX8_appeal 76 = .ok (.aconst_null, 1) := by decide +kernel
theorem dX8_appeal_77 : decode cX8_appeal 77 = .ok (.putfield 253, 3) := by decide +kernel
theorem dX8_appeal_80 : decode cX8_appeal 80 = .ok (.aload_n 2, 1) := by decide +kernel
theorem dX8_appeal_81 : decode cX8_appeal 81 = .ok (.aload 4, 2) := by decide +kernel
theorem dX8_appeal_83 : decode cX8_appeal 83 = .ok (.putfield 137, 3) := by decide +kernel
theorem dX8_appeal_86 : decode cX8_appeal 86 = .ok (.aload_n 2, 1) := by decide +kernel
theorem dX8_appeal_87 : decode cX8_appeal 87 = .ok (.iconst 2, 1) := by decide +kernel
theorem dX8_appeal_88 : decode cX8_appeal 88 = .ok (.putfield 259, 3) := by decide +kernel
theorem dX8_appeal_91 : decode cX8_appeal 91 = .ok (.aload_n 3, 1) := by decide +kernel
theorem dX8_appeal_92 : decode cX8_appeal 92 = .ok (.dup, 1) := by decide +kernel
theorem dX8_appeal_93 : decode cX8_appeal 93 = .ok (.getfield 267, 3) := by decide +kernel
theorem dX8_appeal_96 : decode cX8_appeal 96 = .ok (.aload_n 2, 1) := by decide +kernel
theorem dX8_appeal_97 : decode cX8_appeal 97 = .ok (.getfield 264, 3) := by decide +kernel
theorem dX8_appeal_100 : decode cX8_appeal 100 = .ok (.isub, 1) := by decide +kernel
theorem dX8_appeal_101 : decode cX8_appeal 101 = .ok (.putfield 267, 3) := by decide +kernel
theorem dX8_appeal_104 : decode cX8_appeal 104 = .ok (.iconst 1, 1) := by decide +kernel
theorem dX8_appeal_105 : decode cX8_appeal 105 = .ok (.ireturn, 1) := by decide +kernel
set_option maxRecDepth 100000 in
theorem ggX8_pass_X8_demandRange : GoodIn wsX8_pass wsX8_demandRange := goodIn_ca (wk_g rfl wm_X8_pass 4010 wc_X8_demandRange rfl (by decide +kernel) (by decide +kernel) wq_X8_demandRange) (goodIn_sub (fun _ h => List.mem_cons_of_mem _ (List.mem_append_right _ h)) (by decide +kernel))
set_option maxRecDepth 100000 in
theorem gX8_pass_X8_demandRange : GoodIn wsX8_pass (va_wsS RX8 54 yX8_demandRange wsX8_demandRange) := goodIn_app (wk_h rfl wm_X8_pass [4008, 4009, 2001] (by decide +kernel) (by decide +kernel) (by decide +kernel)) ggX8_pass_X8_demandRange
set_option maxRecDepth 100000 in
theorem ggX8_pass_X8_beginHour : GoodIn wsX8_pass wsX8_beginHour := wk_g rfl wm_X8_pass 7019 wc_X8_beginHour rfl (by decide +kernel) (by decide +kernel) wq_X8_beginHour
set_option maxRecDepth 100000 in
theorem gX8_pass_X8_beginHour : GoodIn wsX8_pass (wsV RX8 272 RX8 yX8_beginHour wsX8_beginHour) := goodIn_app (wk_h rfl wm_X8_pass [7016, 7018, 1042, 2001] (by decide +kernel) (by decide +kernel) (by decide +kernel)) ggX8_pass_X8_beginHour
theorem dX8_pass_0 : decode cX8_pass 0 = .ok (.iload_n 1, 1) := by decide +kernel
theorem dX8_pass_1 : decode cX8_pass 1 = .ok (.iconst 1, 1) := by decide +kernel
theorem dX8_pass_2 : decode cX8_pass 2 = .ok (.bipush 48, 2) := by decide +kernel
theorem dX8_pass_4 : decode cX8_pass 4 = .ok (.invokestatic 54, 3) := by decide +kernel
theorem dX8_pass_7 : decode cX8_pass 7 = .ok (.aload_n 0, 1) := by decide +kernel
theorem dX8_pass_8 : decode cX8_pass 8 = .ok (.getfield 149, 3) := by decide +kernel
theorem dX8_pass_11 : decode cX8_pass 11 = .ok (.aload_n 0, 1) := by decide +kernel
theorem dX8_pass_12 : decode cX8_pass 12 = .ok (.getfield 223, 3) := by decide +kernel
theorem dX8_pass_15 : decode cX8_pass 15 = .ok (.iload_n 1, 1) := by decide +kernel
theorem dX8_pass_16 : decode cX8_pass 16 = .ok (.iadd, 1) := by decide +kernel
theorem dX8_pass_17 : decode cX8_pass 17 = .ok (.bipush 24, 2) := by decide +kernel
theorem dX8_pass_19 : decode cX8_pass 19 = .ok (.idiv, 1) := by decide +kernel
theorem dX8_pass_20 : decode cX8_pass 20 = .ok (.iadd, 1) := by decide +kernel
theorem dX8_pass_21 : decode cX8_pass 21 = .ok (.bipush 99, 2) := by decide +kernel
theorem dX8_pass_23 : decode cX8_pass 23 = .ok (.if_icmp .le 14, 3) := by decide +kernel
theorem dX8_pass_26 : decode cX8_pass 26 = .ok (.new 75, 3) := by decide +kernel
theorem dX8_pass_29 : decode cX8_pass 29 = .ok (.dup, 1) := by decide +kernel
theorem dX8_pass_30 : decode cX8_pass 30 = .ok (.ldc_w 270, 3) := by decide +kernel
theorem dX8_pass_33 : decode cX8_pass 33 = .ok (.invokespecial 79, 3) := by decide +kernel
theorem dX8_pass_36 : decode cX8_pass 36 = .ok (.athrow, 1) := by decide +kernel
theorem dX8_pass_37 : decode cX8_pass 37 = .ok (.iconst 0, 1) := by decide +kernel
theorem dX8_pass_38 : decode cX8_pass 38 = .ok (.istore_n 2, 1) := by decide +kernel
theorem dX8_pass_39 : decode cX8_pass 39 = .ok (.iload_n 2, 1) := by decide +kernel
theorem dX8_pass_40 : decode cX8_pass 40 = .ok (.iload_n 1, 1) := by decide +kernel
theorem dX8_pass_41 : decode cX8_pass 41 = .ok (.if_icmp .ge 13, 3) := by decide +kernel
theorem dX8_pass_44 : decode cX8_pass 44 = .ok (.aload_n 0, 1) := by decide +kernel
theorem dX8_pass_45 : decode cX8_pass 45 = .ok (.invokevirtual 272, 3) := by decide +kernel
theorem dX8_pass_48 : decode cX8_pass 48 = .ok (.iinc 2 1, 3) := by decide +kernel
theorem dX8_pass_51 : decode cX8_pass 51 = .ok (.goto (-12), 3) := by decide +kernel
theorem dX8_pass_54 : decode cX8_pass 54 = .ok (.aload_n 0, 1) := by decide +kernel
theorem dX8_pass_55 : decode cX8_pass 55 = .ok (.getfield 223, 3) := by decide +kernel
theorem dX8_pass_58 : decode cX8_pass 58 = .ok (.ireturn, 1) := by decide +kernel
set_option maxRecDepth 100000 in
theorem ggX8_ofLand_X8_landNumbered : GoodIn wsX8_ofLand wsX8_landNumbered := goodIn_ca (wk_g rfl wm_X8_ofLand 3083 wc_X8_landNumbered rfl (by decide +kernel) (by decide +kernel) wq_X8_landNumbered) (goodIn_sub (fun _ h => List.mem_cons_of_mem _ (List.mem_append_right _ h)) (by decide +kernel))
set_option maxRecDepth 100000 in
theorem gX8_ofLand_X8_landNumbered : GoodIn wsX8_ofLand (wsV RX8 50 RX8 yX8_landNumbered wsX8_landNumbered) := goodIn_app (wk_h rfl wm_X8_ofLand [3080, 3082, 1009, 2001] (by decide +kernel) (by decide +kernel) (by decide +kernel)) ggX8_ofLand_X8_landNumbered
set_option maxRecDepth 100000 in
theorem ggX8_ofLand_X8_partsInStore : GoodIn wsX8_ofLand wsX8_partsInStore := wk_g rfl wm_X8_ofLand 3103 wc_X8_partsInStore rfl (by decide +kernel) (by decide +kernel) wq_X8_partsInStore
set_option maxRecDepth 100000 in
theorem gX8_ofLand_X8_partsInStore : GoodIn wsX8_ofLand (wsV RX8 281 RX8 yX8_partsInStore wsX8_partsInStore) := goodIn_app (wk_h rfl wm_X8_ofLand [3100, 3102, 1010, 2001] (by decide +kernel) (by decide +kernel) (by decide +kernel)) ggX8_ofLand_X8_partsInStore
set_option maxRecDepth 100000 in
theorem ggX8_ofLand_X8_sleepersIn : GoodIn wsX8_ofLand wsX8_sleepersIn := wk_g rfl wm_X8_ofLand 3107 wc_X8_sleepersIn rfl (by decide +kernel) (by decide +kernel) wq_X8_sleepersIn
set_option maxRecDepth 100000 in
theorem gX8_ofLand_X8_sleepersIn : GoodIn wsX8_ofLand (wsV RX8 285 RX8 yX8_sleepersIn wsX8_sleepersIn) := goodIn_app (wk_h rfl wm_X8_ofLand [3104, 3106, 1011, 2001] (by decide +kernel) (by decide +kernel) (by decide +kernel)) ggX8_ofLand_X8_sleepersIn
set_option maxRecDepth 100000 in
theorem ggX8_ofLand_X8_wholeDreams : GoodIn wsX8_ofLand wsX8_wholeDreams := wk_g rfl wm_X8_ofLand 3111 wc_X8_wholeDreams rfl (by decide +kernel) (by decide +kernel) wq_X8_wholeDreams
set_option maxRecDepth 100000 in
theorem gX8_ofLand_X8_wholeDreams : GoodIn wsX8_ofLand (wsV RX8 288 RX8 yX8_wholeDreams wsX8_wholeDreams) := goodIn_app (wk_h rfl wm_X8_ofLand [3108, 3110, 1012, 2001] (by decide +kernel) (by decide +kernel) (by decide +kernel)) ggX8_ofLand_X8_wholeDreams
theorem dX8_ofLand_0 : decode cX8_ofLand 0 = .ok (.aload_n 0, 1) := by decide +kernel
theorem dX8_ofLand_1 : decode cX8_ofLand 1 = .ok (.iload_n 1, 1) := by decide +kernel
theorem dX8_ofLand_2 : decode cX8_ofLand 2 = .ok (.invokevirtual 50, 3) := by decide +kernel
theorem dX8_ofLand_5 : decode cX8_ofLand 5 = .ok (.astore_n 3, 1) := by decide +kernel
theorem dX8_ofLand_6 : decode cX8_ofLand 6 = .ok (.iload_n 2, 1) := by decide +kernel
theorem dX8_ofLand_7 : decode cX8_ofLand 7 = .ok (.tableswitch 97 0 8 #[49, 54, 59, 64, 69, 74, 79, 85, 91], 49) := by decide +kernel
theorem dX8_ofLand_56 : decode cX8_ofLand 56 = .ok (.aload_n 3, 1) := by decide +kernel
theorem dX8_ofLand_57 : decode cX8_ofLand 57 = .ok (.getfield 58, 3) := by decide +kernel
theorem dX8_ofLand_60 : decode cX8_ofLand 60 = .ok (.ireturn, 1) := by decide +kernel
theorem dX8_ofLand_61 : decode cX8_ofLand 61 = .ok (.aload_n 3, 1) := by decide +kernel
theorem dX8_ofLand_62 : decode cX8_ofLand 62 = .ok (.getfield 62, 3) := by decide +kernel
theorem dX8_ofLand_65 : decode cX8_ofLand 65 = .ok (.ireturn, 1) := by decide +kernel
theorem dX8_ofLand_66 : decode cX8_ofLand 66 = .ok (.aload_n 3, 1) := by decide +kernel
theorem dX8_ofLand_67 : decode cX8_ofLand 67 = .ok (.getfield 72, 3) := by decide +kernel
theorem dX8_ofLand_70 : decode cX8_ofLand 70 = .ok (.ireturn, 1) := by decide +kernel
theorem dX8_ofLand_71 : decode cX8_ofLand 71 = .ok (.aload_n 3, 1) := by decide +kernel
theorem dX8_ofLand_72 : decode cX8_ofLand 72 = .ok (.getfield 275, 3) := by decide +kernel
theorem dX8_ofLand_75 : decode cX8_ofLand 75 = .ok (.ireturn, 1) := by decide +kernel
theorem dX8_ofLand_76 : decode cX8_ofLand 76 = .ok (.aload_n 3, 1) := by decide +kernel
theorem dX8_ofLand_77 : decode cX8_ofLand 77 = .ok (.getfield 278, 3) := by decide +kernel
theorem dX8_ofLand_80 : decode cX8_ofLand 80 = .ok (.ireturn, 1) := by decide +kernel
theorem dX8_ofLand_81 : decode cX8_ofLand 81 = .ok (.aload_n 3, 1) := by decide +kernel
theorem dX8_ofLand_82 : decode cX8_ofLand 82 = .ok (.getfield 267, 3) := by decide +kernel
theorem dX8_ofLand_85 : decode cX8_ofLand 85 = .ok (.ireturn, 1) := by decide +kernel
theorem dX8_ofLand_86 : decode cX8_ofLand 86 = .ok (.aload_n 0, 1) := by decide +kernel
theorem dX8_ofLand_87 : decode cX8_ofLand 87 = .ok (.aload_n 3, 1) := by decide +kernel
theorem dX8_ofLand_88 : decode cX8_ofLand 88 = .ok (.invokevirtual 281, 3) := by decide +kernel
theorem dX8_ofLand_91 : decode cX8_ofLand 91 = .ok (.ireturn, 1) := by decide +kernel
theorem dX8_ofLand_92 : decode cX8_ofLand 92 = .ok (.aload_n 0, 1) := by decide +kernel
theorem dX8_ofLand_93 : decode cX8_ofLand 93 = .ok (.aload_n 3, 1) := by decide +kernel
theorem dX8_ofLand_94 : decode cX8_ofLand 94 = .ok (.invokevirtual 285, 3) := by decide +kernel
theorem dX8_ofLand_97 : decode cX8_ofLand 97 = .ok (.ireturn, 1) := by decide +kernel
theorem dX8_ofLand_98 : decode cX8_ofLand 98 = .ok (.aload_n 0, 1) := by decide +kernel
theorem dX8_ofLand_99 : decode cX8_ofLand 99 = .ok (.aload_n 3, 1) := by decide +kernel
theorem dX8_ofLand_100 : decode cX8_ofLand 100 = .ok (.invokevirtual 288, 3) := by decide +kernel
theorem dX8_ofLand_103 : decode cX8_ofLand 103 = .ok (.ireturn, 1) := by decide +kernel
theorem dX8_ofLand_104 : decode cX8_ofLand 104 = .ok (.new 65, 3) := by decide +kernel
theorem dX8_ofLand_107 : decode cX8_ofLand 107 = .ok (.dup, 1) := by decide +kernel
theorem dX8_ofLand_108 : decode cX8_ofLand 108 = .ok (.ldc_w 291, 3) := by decide +kernel
theorem dX8_ofLand_111 : decode cX8_ofLand 111 = .ok (.invokespecial 69, 3) := by decide +kernel
theorem dX8_ofLand_114 : decode cX8_ofLand 114 = .ok (.athrow, 1) := by decide +kernel
set_option maxRecDepth 100000 in
theorem ggX8_ofGate_X8_gateNumbered : GoodIn wsX8_ofGate wsX8_gateNumbered := goodIn_ca (wk_g rfl wm_X8_ofGate 3120 wc_X8_gateNumbered rfl (by decide +kernel) (by decide +kernel) wq_X8_gateNumbered) (goodIn_sub (fun _ h => List.mem_cons_of_mem _ (List.mem_append_right _ h)) (by decide +kernel))
set_option maxRecDepth 100000 in
theorem gX8_ofGate_X8_gateNumbered : GoodIn wsX8_ofGate (wsV RX8 100 RX8 yX8_gateNumbered wsX8_gateNumbered) := goodIn_app (wk_h rfl wm_X8_ofGate [3117, 3119, 1013, 2001] (by decide +kernel) (by decide +kernel) (by decide +kernel)) ggX8_ofGate_X8_gateNumbered
set_option maxRecDepth 100000 in
theorem ggX8_ofGate_X0_isOpenAt : GoodIn wsX8_ofGate wsX0_isOpenAt := wk_g rfl wm_X8_ofGate 3125 wc_X0_isOpenAt rfl (by decide +kernel) (by decide +kernel) wq_X0_isOpenAt
set_option maxRecDepth 100000 in
theorem gX8_ofGate_X0_isOpenAt : GoodIn wsX8_ofGate (wsV RX8 226 RX0 yX0_isOpenAt wsX0_isOpenAt) := goodIn_app (wk_h rfl wm_X8_ofGate [3122, 3123, 3124, 2016] (by decide +kernel) (by decide +kernel) (by decide +kernel)) ggX8_ofGate_X0_isOpenAt
set_option maxRecDepth 100000 in
theorem ggX8_ofGate_X0_dozes : GoodIn wsX8_ofGate wsX0_dozes := wk_g rfl wm_X8_ofGate 3129 wc_X0_dozes rfl (by decide +kernel) (by decide +kernel) wq_X0_dozes
set_option maxRecDepth 100000 in
theorem gX8_ofGate_X0_dozes : GoodIn wsX8_ofGate (wsV RX8 300 RX0 yX0_dozes wsX0_dozes) := goodIn_app (wk_h rfl wm_X8_ofGate [3126, 3127, 3128, 2016] (by decide +kernel) (by decide +kernel) (by decide +kernel)) ggX8_ofGate_X0_dozes
set_option maxRecDepth 100000 in
theorem ggX8_ofGate_Jx4a65c_size_8abf5 : GoodIn wsX8_ofGate wsJx4a65c_size_8abf5 := wk_g rfl wm_X8_ofGate 2173 wc_Jx4a65c_size_8abf5 rfl (by decide +kernel) (by decide +kernel) wq_Jx4a65c_size_8abf5
set_option maxRecDepth 100000 in
theorem gX8_ofGate_Jx4a65c_size_8abf5 : GoodIn wsX8_ofGate (wsV RX8 82 RJx4a65c yJx4a65c_size_8abf5 wsJx4a65c_size_8abf5) := goodIn_app (wk_h rfl wm_X8_ofGate [2170, 2171, 2172, 2004] (by decide +kernel) (by decide +kernel) (by decide +kernel)) ggX8_ofGate_Jx4a65c_size_8abf5
set_option maxRecDepth 100000 in
theorem ggX8_ofGate_Jx4a65c_isEmpty_aae02 : GoodIn wsX8_ofGate wsJx4a65c_isEmpty_aae02 := wk_g rfl wm_X8_ofGate 3133 wc_Jx4a65c_isEmpty_aae02 rfl (by decide +kernel) (by decide +kernel) wq_Jx4a65c_isEmpty_aae02
set_option maxRecDepth 100000 in
theorem gX8_ofGate_Jx4a65c_isEmpty_aae02 : GoodIn wsX8_ofGate (wsV RX8 229 RJx4a65c yJx4a65c_isEmpty_aae02 wsJx4a65c_isEmpty_aae02) := goodIn_app (wk_h rfl wm_X8_ofGate [3130, 3131, 3132, 2004] (by decide +kernel) (by decide +kernel) (by decide +kernel)) ggX8_ofGate_Jx4a65c_isEmpty_aae02
set_option maxRecDepth 100000 in
theorem ggX8_ofGate_Jx4a65c_get_915e3 : GoodIn wsX8_ofGate wsJx4a65c_get_915e3 := wk_g rfl wm_X8_ofGate 2177 wc_Jx4a65c_get_915e3 rfl (by decide +kernel) (by decide +kernel) wq_Jx4a65c_get_915e3
set_option maxRecDepth 100000 in
theorem gX8_ofGate_Jx4a65c_get_915e3 : GoodIn wsX8_ofGate (wsV RX8 238 RJx4a65c yJx4a65c_get_915e3 wsJx4a65c_get_915e3) := goodIn_app (wk_h rfl wm_X8_ofGate [2174, 2175, 2176, 2004] (by decide +kernel) (by decide +kernel) (by decide +kernel)) ggX8_ofGate_Jx4a65c_get_915e3
set_option maxRecDepth 100000 in
theorem ggX8_ofGate_X8_hiddenWorth : GoodIn wsX8_ofGate wsX8_hiddenWorth := wk_g rfl wm_X8_ofGate 3137 wc_X8_hiddenWorth rfl (by decide +kernel) (by decide +kernel) wq_X8_hiddenWorth
set_option maxRecDepth 100000 in
theorem gX8_ofGate_X8_hiddenWorth : GoodIn wsX8_ofGate (wsV RX8 303 RX8 yX8_hiddenWorth wsX8_hiddenWorth) := goodIn_app (wk_h rfl wm_X8_ofGate [3134, 3136, 1014, 2001] (by decide +kernel) (by decide +kernel) (by decide +kernel)) ggX8_ofGate_X8_hiddenWorth
set_option maxRecDepth 100000 in
theorem ggX8_ofGate_X7_size : GoodIn wsX8_ofGate wsX7_size := wk_g rfl wm_X8_ofGate 3149 wc_X7_size rfl (by decide +kernel) (by decide +kernel) wq_X7_size
set_option maxRecDepth 100000 in
theorem gX8_ofGate_X7_size : GoodIn wsX8_ofGate (wsV RX8 307 RX7 yX7_size wsX7_size) := goodIn_app (wk_h rfl wm_X8_ofGate [3146, 3147, 3148, 2017] (by decide +kernel) (by decide +kernel) (by decide +kernel)) ggX8_ofGate_X7_size
theorem dX8_ofGate_0 : decode cX8_ofGate 0 = .ok (.aload_n 0, 1) := by decide +kernel
theorem dX8_ofGate_1 : decode cX8_ofGate 1 = .ok (.iload_n 1, 1) := by decide +kernel
theorem dX8_ofGate_2 : decode cX8_ofGate 2 = .ok (.invokevirtual 100, 3) := by decide +kernel
theorem dX8_ofGate_5 : decode cX8_ofGate 5 = .ok (.astore_n 3, 1) := by decide +kernel
theorem dX8_ofGate_6 : decode cX8_ofGate 6 = .ok (.iload_n 2, 1) := by decide +kernel
theorem dX8_ofGate_7 : decode cX8_ofGate 7 = .ok (.tableswitch 160 0 9 #[53, 61, 69, 86, 91, 96, 109, 117, 146, 152], 53) := by decide +kernel
theorem dX8_ofGate_60 : decode cX8_ofGate 60 = .ok (.aload_n 3, 1) := by decide +kernel
theorem dX8_ofGate_61 : decode cX8_ofGate 61 = .ok (.getfield 293, 3) := by decide +kernel
theorem dX8_ofGate_64 : decode cX8_ofGate 64 = .ok (.getfield 296, 3) := by decide +kernel
theorem dX8_ofGate_67 : decode cX8_ofGate 67 = .ok (.ireturn, 1) := by decide +kernel
theorem dX8_ofGate_68 : decode cX8_ofGate 68 = .ok (.aload_n 3, 1) := by decide +kernel
theorem dX8_ofGate_69 : decode cX8_ofGate 69 = .ok (.getfield 297, 3) := by decide +kernel
theorem dX8_ofGate_72 : decode cX8_ofGate 72 = .ok (.getfield 296, 3) := by decide +kernel
theorem dX8_ofGate_75 : decode cX8_ofGate 75 = .ok (.ireturn, 1) := by decide +kernel
theorem dX8_ofGate_76 : decode cX8_ofGate 76 = .ok (.aload_n 3, 1) := by decide +kernel
theorem dX8_ofGate_77 : decode cX8_ofGate 77 = .ok (.aload_n 0, 1) := by decide +kernel
theorem dX8_ofGate_78 : decode cX8_ofGate 78 = .ok (.getfield 223, 3) := by decide +kernel
theorem dX8_ofGate_81 : decode cX8_ofGate 81 = .ok (.invokevirtual 226, 3) := by decide +kernel
theorem dX8_ofGate_84 : decode cX8_ofGate 84 = .ok (.ifCond .eq 7, 3) := by decide +kernel
theorem dX8_ofGate_87 : decode cX8_ofGate 87 = .ok (.iconst 1, 1) := by decide +kernel
theorem dX8_ofGate_88 : decode cX8_ofGate 88 = .ok (.goto 4, 3) := by decide +kernel
theorem dX8_ofGate_91 : decode cX8_ofGate 91 = .ok (.iconst 0, 1) := by decide +kernel
theorem dX8_ofGate_92 : decode cX8_ofGate 92 = .ok (.ireturn, 1) := by decide +kernel
theorem dX8_ofGate_93 : decode cX8_ofGate 93 = .ok (.aload_n 3, 1) := by decide +kernel
theorem dX8_ofGate_94 : decode cX8_ofGate 94 = .ok (.getfield 104, 3) := by decide +kernel
theorem dX8_ofGate_97 : decode cX8_ofGate 97 = .ok (.ireturn, 1) := by decide +kernel
theorem dX8_ofGate_98 : decode cX8_ofGate 98 = .ok (.aload_n 3, 1) := by decide +kernel
theorem dX8_ofGate_99 : decode cX8_ofGate 99 = .ok (.getfield 107, 3) := by decide +kernel
theorem dX8_ofGate_102 : decode cX8_ofGate 102 = .ok (.ireturn, 1) := by decide +kernel
theorem dX8_ofGate_103 : decode cX8_ofGate 103 = .ok (.aload_n 3, 1) := by decide +kernel
theorem dX8_ofGate_104 : decode cX8_ofGate 104 = .ok (.invokevirtual 300, 3) := by decide +kernel
theorem dX8_ofGate_107 : decode cX8_ofGate 107 = .ok (.ifCond .eq 7, 3) := by decide +kernel
theorem dX8_ofGate_110 : decode cX8_ofGate 110 = .ok (.iconst 1, 1) := by decide +kernel
theorem dX8_ofGate_111 : decode cX8_ofGate 111 = .ok (.goto 4, 3) := by decide +kernel
theorem dX8_ofGate_114 : decode cX8_ofGate 114 = .ok (.iconst 0, 1) := by decide +kernel
theorem dX8_ofGate_115 : decode cX8_ofGate 115 = .ok (.ireturn, 1) := by decide +kernel
theorem dX8_ofGate_116 : decode cX8_ofGate 116 = .ok (.aload_n 3, 1) := by decide +kernel
theorem dX8_ofGate_117 : decode cX8_ofGate 117 = .ok (.getfield 197, 3) := by decide +kernel
theorem dX8_ofGate_120 : decode cX8_ofGate 120 = .ok (.invokevirtual 82, 3) := by decide +kernel
theorem dX8_ofGate_123 : decode cX8_ofGate 123 = .ok (.ireturn, 1) := by decide +kernel
theorem dX8_ofGate_124 : decode cX8_ofGate 124 = .ok (.aload_n 3, 1) := by decide +kernel
theorem dX8_ofGate_125 : decode cX8_ofGate 125 = .ok (.getfield 197, 3) := by decide +kernel
theorem dX8_ofGate_128 : decode cX8_ofGate 128 = .ok (.invokevirtual 229, 3) := by decide +kernel
theorem dX8_ofGate_131 : decode cX8_ofGate 131 = .ok (.ifCond .eq 7, 3) := by decide +kernel
theorem dX8_ofGate_134 : decode cX8_ofGate 134 = .ok (.iconst (-1), 1) := by decide +kernel
theorem dX8_ofGate_135 : decode cX8_ofGate 135 = .ok (.goto 17, 3) := by decide +kernel
theorem dX8_ofGate_138 : decode cX8_ofGate 138 = .ok (.aload_n 3, 1) := by decide +kernel
theorem dX8_ofGate_139 : decode cX8_ofGate 139 = .ok (.getfield 197, 3) := by decide +kernel
theorem dX8_ofGate_142 : decode cX8_ofGate 142 = .ok (.iconst 0, 1) := by decide +kernel
theorem dX8_ofGate_143 : decode cX8_ofGate 143 = .ok (.invokevirtual 238, 3) := by decide +kernel
theorem dX8_ofGate_146 : decode cX8_ofGate 146 = .ok (.checkcast 112, 3) := by decide +kernel
theorem dX8_ofGate_149 : decode cX8_ofGate 149 = .ok (.getfield 117, 3) := by decide +kernel
theorem dX8_ofGate_152 : decode cX8_ofGate 152 = .ok (.ireturn, 1) := by decide +kernel
theorem dX8_ofGate_153 : decode cX8_ofGate 153 = .ok (.aload_n 0, 1) := by decide +kernel
theorem dX8_ofGate_154 : decode cX8_ofGate 154 = .ok (.aload_n 3, 1) := by decide +kernel
theorem dX8_ofGate_155 : decode cX8_ofGate 155 = .ok (.invokevirtual 303, 3) := by decide +kernel
theorem dX8_ofGate_158 : decode cX8_ofGate 158 = .ok (.ireturn, 1) := by decide +kernel
theorem dX8_ofGate_159 : decode cX8_ofGate 159 = .ok (.aload_n 3, 1) := by decide +kernel
theorem dX8_ofGate_160 : decode cX8_ofGate 160 = .ok (.getfield 165, 3) := by decide +kernel
theorem dX8_ofGate_163 : decode cX8_ofGate 163 = .ok (.invokevirtual 307, 3) := by decide +kernel
theorem dX8_ofGate_166 : decode cX8_ofGate 166 = .ok (.ireturn, 1) := by decide +kernel
theorem dX8_ofGate_167 : decode cX8_ofGate 167 = .ok (.new 65, 3) := by decide +kernel
theorem dX8_ofGate_170 : decode cX8_ofGate 170 = .ok (.dup, 1) := by decide +kernel
theorem dX8_ofGate_171 : decode cX8_ofGate 171 = .ok (.ldc_w 308, 3) := by decide +kernel
theorem dX8_ofGate_174 : decode cX8_ofGate 174 = .ok (.invokespecial 69, 3) := by decide +kernel
theorem dX8_ofGate_177 : decode cX8_ofGate 177 = .ok (.athrow, 1) := by decide +kernel
set_option maxRecDepth 100000 in
theorem ggX8_ofSleeper_X8_sleeperNumbered : GoodIn wsX8_ofSleeper wsX8_sleeperNumbered := goodIn_ca (wk_g rfl wm_X8_ofSleeper 3203 wc_X8_sleeperNumbered rfl (by decide +kernel) (by decide +kernel) wq_X8_sleeperNumbered) (goodIn_sub (fun _ h => List.mem_cons_of_mem _ (List.mem_append_right _ h)) (by decide +kernel))
set_option maxRecDepth 100000 in
theorem gX8_ofSleeper_X8_sleeperNumbered : GoodIn wsX8_ofSleeper (wsV RX8 118 RX8 yX8_sleeperNumbered wsX8_sleeperNumbered) := goodIn_app (wk_h rfl wm_X8_ofSleeper [3200, 3202, 1018, 2001] (by decide +kernel) (by decide +kernel) (by decide +kernel)) ggX8_ofSleeper_X8_sleeperNumbered
set_option maxRecDepth 100000 in
theorem ggX8_ofSleeper_X8_placeOf : GoodIn wsX8_ofSleeper wsX8_placeOf := wk_g rfl wm_X8_ofSleeper 3207 wc_X8_placeOf rfl (by decide +kernel) (by decide +kernel) wq_X8_placeOf
set_option maxRecDepth 100000 in
theorem gX8_ofSleeper_X8_placeOf : GoodIn wsX8_ofSleeper (va_wsS RX8 207 yX8_placeOf wsX8_placeOf) := goodIn_app (wk_h rfl wm_X8_ofSleeper [3205, 3206, 2001] (by decide +kernel) (by decide +kernel) (by decide +kernel)) ggX8_ofSleeper_X8_placeOf
set_option maxRecDepth 100000 in
theorem ggX8_ofSleeper_X8_headOf : GoodIn wsX8_ofSleeper wsX8_headOf := wk_g rfl wm_X8_ofSleeper 2207 wc_X8_headOf rfl (by decide +kernel) (by decide +kernel) wq_X8_headOf
set_option maxRecDepth 100000 in
theorem gX8_ofSleeper_X8_headOf : GoodIn wsX8_ofSleeper (wsV RX8 178 RX8 yX8_headOf wsX8_headOf) := goodIn_app (wk_h rfl wm_X8_ofSleeper [2204, 2206, 1002, 2001] (by decide +kernel) (by decide +kernel) (by decide +kernel)) ggX8_ofSleeper_X8_headOf
set_option maxRecDepth 100000 in
theorem ggX8_ofSleeper_X8_ringOf : GoodIn wsX8_ofSleeper wsX8_ringOf := wk_g rfl wm_X8_ofSleeper 3211 wc_X8_ringOf rfl (by decide +kernel) (by decide +kernel) wq_X8_ringOf
set_option maxRecDepth 100000 in
theorem gX8_ofSleeper_X8_ringOf : GoodIn wsX8_ofSleeper (wsV RX8 316 RX8 yX8_ringOf wsX8_ringOf) := goodIn_app (wk_h rfl wm_X8_ofSleeper [3208, 3210, 1019, 2001] (by decide +kernel) (by decide +kernel) (by decide +kernel)) ggX8_ofSleeper_X8_ringOf
set_option maxRecDepth 100000 in
theorem ggX8_ofSleeper_X8_hidingsOf : GoodIn wsX8_ofSleeper wsX8_hidingsOf := wk_g rfl wm_X8_ofSleeper 3219 wc_X8_hidingsOf rfl (by decide +kernel) (by decide +kernel) wq_X8_hidingsOf
set_option maxRecDepth 100000 in
theorem gX8_ofSleeper_X8_hidingsOf : GoodIn wsX8_ofSleeper (wsV RX8 319 RX8 yX8_hidingsOf wsX8_hidingsOf) := goodIn_app (wk_h rfl wm_X8_ofSleeper [3216, 3218, 1021, 2001] (by decide +kernel) (by decide +kernel) (by decide +kernel)) ggX8_ofSleeper_X8_hidingsOf
theorem dX8_ofSleeper_0 : decode cX8_ofSleeper 0 = .ok (.aload_n 0, 1) := by decide +kernel
theorem dX8_ofSleeper_1 : decode cX8_ofSleeper 1 = .ok (.iload_n 1, 1) := by decide +kernel
theorem dX8_ofSleeper_2 : decode cX8_ofSleeper 2 = .ok (.invokevirtual 118, 3) := by decide +kernel
theorem dX8_ofSleeper_5 : decode cX8_ofSleeper 5 = .ok (.astore_n 3, 1) := by decide +kernel
theorem dX8_ofSleeper_6 : decode cX8_ofSleeper 6 = .ok (.iload_n 2, 1) := by decide +kernel
theorem dX8_ofSleeper_7 : decode cX8_ofSleeper 7 = .ok (.tableswitch 128 0 8 #[49, 57, 62, 67, 86, 91, 97, 116, 122], 49) := by decide +kernel
theorem dX8_ofSleeper_56 : decode cX8_ofSleeper 56 = .ok (.aload_n 3, 1) := by decide +kernel
theorem dX8_ofSleeper_57 : decode cX8_ofSleeper 57 = .ok (.getfield 143, 3) := by decide +kernel
theorem dX8_ofSleeper_60 : decode cX8_ofSleeper 60 = .ok (.getfield 296, 3) := by decide +kernel
theorem dX8_ofSleeper_63 : decode cX8_ofSleeper 63 = .ok (.ireturn, 1) := by decide +kernel
theorem dX8_ofSleeper_64 : decode cX8_ofSleeper 64 = .ok (.aload_n 3, 1) := by decide +kernel
theorem dX8_ofSleeper_65 : decode cX8_ofSleeper 65 = .ok (.getfield 310, 3) := by decide +kernel
theorem dX8_ofSleeper_68 : decode cX8_ofSleeper 68 = .ok (.ireturn, 1) := by decide +kernel
theorem dX8_ofSleeper_69 : decode cX8_ofSleeper 69 = .ok (.aload_n 3, 1) := by decide +kernel
theorem dX8_ofSleeper_70 : decode cX8_ofSleeper 70 = .ok (.getfield 122, 3) := by decide +kernel
theorem dX8_ofSleeper_73 : decode cX8_ofSleeper 73 = .ok (.ireturn, 1) := by decide +kernel
theorem dX8_ofSleeper_74 : decode cX8_ofSleeper 74 = .ok (.aload_n 3, 1) := by decide +kernel
theorem dX8_ofSleeper_75 : decode cX8_ofSleeper 75 = .ok (.getfield 210, 3) := by decide +kernel
theorem dX8_ofSleeper_78 : decode cX8_ofSleeper 78 = .ok (.ifnonnull 7, 3) := by decide +kernel
theorem dX8_ofSleeper_81 : decode cX8_ofSleeper 81 = .ok (.iconst (-1), 1) := by decide +kernel
theorem dX8_ofSleeper_82 : decode cX8_ofSleeper 82 = .ok (.goto 10, 3) := by decide +kernel
theorem dX8_ofSleeper_85 : decode cX8_ofSleeper 85 = .ok (.aload_n 3, 1) := by decide +kernel
theorem dX8_ofSleeper_86 : decode cX8_ofSleeper 86 = .ok (.getfield 210, 3) := by decide +kernel
theorem dX8_ofSleeper_89 : decode cX8_ofSleeper 89 = .ok (.getfield 97, 3) := by decide +kernel
theorem dX8_ofSleeper_92 : decode cX8_ofSleeper 92 = .ok (.ireturn, 1) := by decide +kernel
theorem dX8_ofSleeper_93 : decode cX8_ofSleeper 93 = .ok (.aload_n 3, 1) := by decide +kernel
theorem dX8_ofSleeper_94 : decode cX8_ofSleeper 94 = .ok (.invokestatic 207, 3) := by decide +kernel
theorem dX8_ofSleeper_97 : decode cX8_ofSleeper 97 = .ok (.ireturn, 1) := by decide +kernel
theorem dX8_ofSleeper_98 : decode cX8_ofSleeper 98 = .ok (.aload_n 0, 1) := by decide +kernel
theorem dX8_ofSleeper_99 : decode cX8_ofSleeper 99 = .ok (.aload_n 3, 1) := by decide +kernel
theorem dX8_ofSleeper_100 : decode cX8_ofSleeper 100 = .ok (.invokevirtual 178, 3) := by decide +kernel
theorem dX8_ofSleeper_103 : decode cX8_ofSleeper 103 = .ok (.ireturn, 1) := by decide +kernel
theorem dX8_ofSleeper_104 : decode cX8_ofSleeper 104 = .ok (.aload_n 3, 1) := by decide +kernel
theorem dX8_ofSleeper_105 : decode cX8_ofSleeper 105 = .ok (.getfield 157, 3) := by decide +kernel
theorem dX8_ofSleeper_108 : decode cX8_ofSleeper 108 = .ok (.ifnonnull 7, 3) := by decide +kernel
theorem dX8_ofSleeper_111 : decode cX8_ofSleeper 111 = .ok (.iconst (-1), 1) := by decide +kernel
theorem dX8_ofSleeper_112 : decode cX8_ofSleeper 112 = .ok (.goto 10, 3) := by decide +kernel
theorem dX8_ofSleeper_115 : decode cX8_ofSleeper 115 = .ok (.aload_n 3, 1) := by decide +kernel
theorem dX8_ofSleeper_116 : decode cX8_ofSleeper 116 = .ok (.getfield 157, 3) := by decide +kernel
theorem dX8_ofSleeper_119 : decode cX8_ofSleeper 119 = .ok (.getfield 313, 3) := by decide +kernel
theorem dX8_ofSleeper_122 : decode cX8_ofSleeper 122 = .ok (.ireturn, 1) := by decide +kernel
theorem dX8_ofSleeper_123 : decode cX8_ofSleeper 123 = .ok (.aload_n 0, 1) := by decide +kernel
theorem dX8_ofSleeper_124 : decode cX8_ofSleeper 124 = .ok (.aload_n 3, 1) := by decide +kernel
theorem dX8_ofSleeper_125 : decode cX8_ofSleeper 125 = .ok (.invokevirtual 316, 3) := by decide +kernel
theorem dX8_ofSleeper_128 : decode cX8_ofSleeper 128 = .ok (.ireturn, 1) := by decide +kernel
theorem dX8_ofSleeper_129 : decode cX8_ofSleeper 129 = .ok (.aload_n 0, 1) := by decide +kernel
theorem dX8_ofSleeper_130 : decode cX8_ofSleeper 130 = .ok (.aload_n 3, 1) := by decide +kernel
theorem dX8_ofSleeper_131 : decode cX8_ofSleeper 131 = .ok (.invokevirtual 319, 3) := by decide +kernel
theorem dX8_ofSleeper_134 : decode cX8_ofSleeper 134 = .ok (.ireturn, 1) := by decide +kernel
theorem dX8_ofSleeper_135 : decode cX8_ofSleeper 135 = .ok (.new 65, 3) := by decide +kernel
theorem dX8_ofSleeper_138 : decode cX8_ofSleeper 138 = .ok (.dup, 1) := by decide +kernel
theorem dX8_ofSleeper_139 : decode cX8_ofSleeper 139 = .ok (.ldc_w 322, 3) := by decide +kernel
theorem dX8_ofSleeper_142 : decode cX8_ofSleeper 142 = .ok (.invokespecial 69, 3) := by decide +kernel
theorem dX8_ofSleeper_145 : decode cX8_ofSleeper 145 = .ok (.athrow, 1) := by decide +kernel
set_option maxRecDepth 100000 in
theorem ggX8_ofPart_X8_partNumbered : GoodIn wsX8_ofPart wsX8_partNumbered := goodIn_ca (wk_g rfl wm_X8_ofPart 3229 wc_X8_partNumbered rfl (by decide +kernel) (by decide +kernel) wq_X8_partNumbered) (goodIn_sub (fun _ h => List.mem_cons_of_mem _ (List.mem_append_right _ h)) (by decide +kernel))
set_option maxRecDepth 100000 in
theorem gX8_ofPart_X8_partNumbered : GoodIn wsX8_ofPart (wsV RX8 133 RX8 yX8_partNumbered wsX8_partNumbered) := goodIn_app (wk_h rfl wm_X8_ofPart [3226, 3228, 1022, 2001] (by decide +kernel) (by decide +kernel) (by decide +kernel)) ggX8_ofPart_X8_partNumbered
set_option maxRecDepth 100000 in
theorem ggX8_ofPart_X3_whereabouts : GoodIn wsX8_ofPart wsX3_whereabouts := wk_g rfl wm_X8_ofPart 2239 wc_X3_whereabouts rfl (by decide +kernel) (by decide +kernel) wq_X3_whereabouts
set_option maxRecDepth 100000 in
theorem gX8_ofPart_X3_whereabouts : GoodIn wsX8_ofPart (wsV RX8 330 RX3 yX3_whereabouts wsX3_whereabouts) := goodIn_app (wk_h rfl wm_X8_ofPart [2236, 2237, 2238, 2027] (by decide +kernel) (by decide +kernel) (by decide +kernel)) ggX8_ofPart_X3_whereabouts
theorem dX8_ofPart_0 : decode cX8_ofPart 0 = .ok (.aload_n 0, 1) := by decide +kernel
theorem dX8_ofPart_1 : decode cX8_ofPart 1 = .ok (.iload_n 1, 1) := by decide +kernel
theorem dX8_ofPart_2 : decode cX8_ofPart 2 = .ok (.invokevirtual 133, 3) := by decide +kernel
theorem dX8_ofPart_5 : decode cX8_ofPart 5 = .ok (.astore_n 3, 1) := by decide +kernel
theorem dX8_ofPart_6 : decode cX8_ofPart 6 = .ok (.iload_n 2, 1) := by decide +kernel
theorem dX8_ofPart_7 : decode cX8_ofPart 7 = .ok (.tableswitch 95 0 5 #[37, 42, 47, 52, 57, 76], 37) := by decide +kernel
theorem dX8_ofPart_44 : decode cX8_ofPart 44 = .ok (.aload_n 3, 1) := by decide +kernel
theorem dX8_ofPart_45 : decode cX8_ofPart 45 = .ok (.getfield 324, 3) := by decide +kernel
theorem dX8_ofPart_48 : decode cX8_ofPart 48 = .ok (.ireturn, 1) := by decide +kernel
theorem dX8_ofPart_49 : decode cX8_ofPart 49 = .ok (.aload_n 3, 1) := by decide +kernel
theorem dX8_ofPart_50 : decode cX8_ofPart 50 = .ok (.getfield 264, 3) := by decide +kernel
theorem dX8_ofPart_53 : decode cX8_ofPart 53 = .ok (.ireturn, 1) := by decide +kernel
theorem dX8_ofPart_54 : decode cX8_ofPart 54 = .ok (.aload_n 3, 1) := by decide +kernel
theorem dX8_ofPart_55 : decode cX8_ofPart 55 = .ok (.getfield 327, 3) := by decide +kernel
theorem dX8_ofPart_58 : decode cX8_ofPart 58 = .ok (.ireturn, 1) := by decide +kernel
theorem dX8_ofPart_59 : decode cX8_ofPart 59 = .ok (.aload_n 3, 1) := by decide +kernel
theorem dX8_ofPart_60 : decode cX8_ofPart 60 = .ok (.getfield 259, 3) := by decide +kernel
theorem dX8_ofPart_63 : decode cX8_ofPart 63 = .ok (.ireturn, 1) := by decide +kernel
theorem dX8_ofPart_64 : decode cX8_ofPart 64 = .ok (.aload_n 3, 1) := by decide +kernel
theorem dX8_ofPart_65 : decode cX8_ofPart 65 = .ok (.invokevirtual 330, 3) := by decide +kernel
theorem dX8_ofPart_68 : decode cX8_ofPart 68 = .ok (.ifnonnull 7, 3) := by decide +kernel
theorem dX8_ofPart_71 : decode cX8_ofPart 71 = .ok (.iconst (-1), 1) := by decide +kernel
theorem dX8_ofPart_72 : decode cX8_ofPart 72 = .ok (.goto 10, 3) := by decide +kernel
theorem dX8_ofPart_75 : decode cX8_ofPart 75 = .ok (.aload_n 3, 1) := by decide +kernel
theorem dX8_ofPart_76 : decode cX8_ofPart 76 = .ok (.invokevirtual 330, 3) := by decide +kernel
theorem dX8_ofPart_79 : decode cX8_ofPart 79 = .ok (.getfield 296, 3) := by decide +kernel
theorem dX8_ofPart_82 : decode cX8_ofPart 82 = .ok (.ireturn, 1) := by decide +kernel
theorem dX8_ofPart_83 : decode cX8_ofPart 83 = .ok (.aload_n 3, 1) := by decide +kernel
theorem dX8_ofPart_84 : decode cX8_ofPart 84 = .ok (.getfield 137, 3) := by decide +kernel
theorem dX8_ofPart_87 : decode cX8_ofPart 87 = .ok (.ifnonnull 7, 3) := by decide +kernel
theorem dX8_ofPart_90 : decode cX8_ofPart 90 = .ok (.iconst (-1), 1) := by decide +kernel
theorem dX8_ofPart_91 : decode cX8_ofPart 91 = .ok (.goto 10, 3) := by decide +kernel
theorem dX8_ofPart_94 : decode cX8_ofPart 94 = .ok (.aload_n 3, 1) := by decide +kernel
theorem dX8_ofPart_95 : decode cX8_ofPart 95 = .ok (.getfield 137, 3) := by decide +kernel
theorem dX8_ofPart_98 : decode cX8_ofPart 98 = .ok (.getfield 117, 3) := by decide +kernel
theorem dX8_ofPart_101 : decode cX8_ofPart 101 = .ok (.ireturn, 1) := by decide +kernel
theorem dX8_ofPart_102 : decode cX8_ofPart 102 = .ok (.new 65, 3) := by decide +kernel
theorem dX8_ofPart_105 : decode cX8_ofPart 105 = .ok (.dup, 1) := by decide +kernel
theorem dX8_ofPart_106 : decode cX8_ofPart 106 = .ok (.ldc_w 334, 3) := by decide +kernel
theorem dX8_ofPart_109 : decode cX8_ofPart 109 = .ok (.invokespecial 69, 3) := by decide +kernel
theorem dX8_ofPart_112 : decode cX8_ofPart 112 = .ok (.athrow, 1) := by decide +kernel
set_option maxRecDepth 100000 in
theorem ggX8_isGood_X8_sleeperNumbered : GoodIn wsX8_isGood wsX8_sleeperNumbered := goodIn_ca (wk_g rfl wm_X8_isGood 3203 wc_X8_sleeperNumbered rfl (by decide +kernel) (by decide +kernel) wq_X8_sleeperNumbered) (goodIn_sub (fun _ h => List.mem_cons_of_mem _ (List.mem_append_right _ h)) (by decide +kernel))
set_option maxRecDepth 100000 in
theorem gX8_isGood_X8_sleeperNumbered : GoodIn wsX8_isGood (wsV RX8 118 RX8 yX8_sleeperNumbered wsX8_sleeperNumbered) := goodIn_app (wk_h rfl wm_X8_isGood [3200, 3202, 1018, 2001] (by decide +kernel) (by decide +kernel) (by decide +kernel)) ggX8_isGood_X8_sleeperNumbered
set_option maxRecDepth 100000 in
theorem ggX8_isGood_X8_gateNumbered : GoodIn wsX8_isGood wsX8_gateNumbered := goodIn_ca (wk_g rfl wm_X8_isGood 3120 wc_X8_gateNumbered rfl (by decide +kernel) (by decide +kernel) wq_X8_gateNumbered) (goodIn_sub (fun _ h => List.mem_cons_of_mem _ (List.mem_append_right _ h)) (by decide +kernel))
set_option maxRecDepth 100000 in
theorem gX8_isGood_X8_gateNumbered : GoodIn wsX8_isGood (wsV RX8 100 RX8 yX8_gateNumbered wsX8_gateNumbered) := goodIn_app (wk_h rfl wm_X8_isGood [3117, 3119, 1013, 2001] (by decide +kernel) (by decide +kernel) (by decide +kernel)) ggX8_isGood_X8_gateNumbered
set_option maxRecDepth 100000 in
theorem ggX8_isGood_X8_passIsGood : GoodIn wsX8_isGood wsX8_passIsGood := wk_g rfl wm_X8_isGood 3164 wc_X8_passIsGood rfl (by decide +kernel) (by decide +kernel) wq_X8_passIsGood
set_option maxRecDepth 100000 in
theorem gX8_isGood_X8_passIsGood : GoodIn wsX8_isGood (wsV RX8 241 RX8 yX8_passIsGood wsX8_passIsGood) := goodIn_app (wk_h rfl wm_X8_isGood [3161, 3163, 1015, 2001] (by decide +kernel) (by decide +kernel) (by decide +kernel)) ggX8_isGood_X8_passIsGood
theorem dX8_isGood_0 : decode cX8_isGood 0 = .ok (.aload_n 0, 1) := by decide +kernel
theorem dX8_isGood_1 : decode cX8_isGood 1 = .ok (.iload_n 1, 1) := by decide +kernel
theorem dX8_isGood_2 : decode cX8_isGood 2 = .ok (.invokevirtual 118, 3) := by decide +kernel
theorem dX8_isGood_5 : decode cX8_isGood 5 = .ok (.astore_n 3, 1) := by decide +kernel
theorem dX8_isGood_6 : decode cX8_isGood 6 = .ok (.aload_n 0, 1) := by decide +kernel
theorem dX8_isGood_7 : decode cX8_isGood 7 = .ok (.aload_n 3, 1) := by decide +kernel
theorem dX8_isGood_8 : decode cX8_isGood 8 = .ok (.aload_n 0, 1) := by decide +kernel
theorem dX8_isGood_9 : decode cX8_isGood 9 = .ok (.iload_n 2, 1) := by decide +kernel
theorem dX8_isGood_10 : decode cX8_isGood 10 = .ok (.invokevirtual 100, 3) := by decide +kernel
theorem dX8_isGood_13 : decode cX8_isGood 13 = .ok (.invokevirtual 241, 3) := by decide +kernel
theorem dX8_isGood_16 : decode cX8_isGood 16 = .ok (.ireturn, 1) := by decide +kernel
set_option maxRecDepth 100000 in
theorem ggX8_queue_X8_gateNumbered : GoodIn wsX8_queue wsX8_gateNumbered := goodIn_ca (wk_g bm_X8_queue wm_X8_queue 3120 wc_X8_gateNumbered rfl (by decide +kernel) (by decide +kernel) wq_X8_gateNumbered) (goodIn_sub (fun _ h => List.mem_cons_of_mem _ (List.mem_append_right _ h)) (by decide +kernel))
set_option maxRecDepth 100000 in
theorem gX8_queue_X8_gateNumbered : GoodIn wsX8_queue (wsV RX8 100 RX8 yX8_gateNumbered wsX8_gateNumbered) := goodIn_app (wk_h bm_X8_queue wm_X8_queue [3117, 3119, 1013, 2001] (by decide +kernel) (by decide +kernel) (by decide +kernel)) ggX8_queue_X8_gateNumbered
set_option maxRecDepth 100000 in
theorem ggX8_queue_Jx4a65c_isEmpty_aae02 : GoodIn wsX8_queue wsJx4a65c_isEmpty_aae02 := wk_g bm_X8_queue wm_X8_queue 3133 wc_Jx4a65c_isEmpty_aae02 rfl (by decide +kernel) (by decide +kernel) wq_Jx4a65c_isEmpty_aae02
set_option maxRecDepth 100000 in
theorem gX8_queue_Jx4a65c_isEmpty_aae02 : GoodIn wsX8_queue (wsV RX8 229 RJx4a65c yJx4a65c_isEmpty_aae02 wsJx4a65c_isEmpty_aae02) := goodIn_app (wk_h bm_X8_queue wm_X8_queue [3130, 3131, 3132, 2004] (by decide +kernel) (by decide +kernel) (by decide +kernel)) ggX8_queue_Jx4a65c_isEmpty_aae02
set_option maxRecDepth 100000 in
theorem ggX8_queue_J4_init_da8c8 : GoodIn wsX8_queue wsJ4_init_da8c8 := wk_g bm_X8_queue wm_X8_queue 5169 wc_J4_init_da8c8 rfl (by decide +kernel) (by decide +kernel) wq_J4_init_da8c8
set_option maxRecDepth 100000 in
theorem gX8_queue_J4_init_da8c8 : GoodIn wsX8_queue (wsJ4_init_da8c8) := ggX8_queue_J4_init_da8c8
set_option maxRecDepth 100000 in
theorem ggX8_queue_Jx4a65c_size_8abf5 : GoodIn wsX8_queue wsJx4a65c_size_8abf5 := wk_g bm_X8_queue wm_X8_queue 2173 wc_Jx4a65c_size_8abf5 rfl (by decide +kernel) (by decide +kernel) wq_Jx4a65c_size_8abf5
set_option maxRecDepth 100000 in
theorem gX8_queue_Jx4a65c_size_8abf5 : GoodIn wsX8_queue (wsV RX8 82 RJx4a65c yJx4a65c_size_8abf5 wsJx4a65c_size_8abf5) := goodIn_app (wk_h bm_X8_queue wm_X8_queue [2170, 2171, 2172, 2004] (by decide +kernel) (by decide +kernel) (by decide +kernel)) ggX8_queue_Jx4a65c_size_8abf5
set_option maxRecDepth 100000 in
theorem ggX8_queue_Jx4a65c_get_915e3 : GoodIn wsX8_queue wsJx4a65c_get_915e3 := wk_g bm_X8_queue wm_X8_queue 2177 wc_Jx4a65c_get_915e3 rfl (by decide +kernel) (by decide +kernel) wq_Jx4a65c_get_915e3
set_option maxRecDepth 100000 in
theorem gX8_queue_Jx4a65c_get_915e3 : GoodIn wsX8_queue (wsV RX8 238 RJx4a65c yJx4a65c_get_915e3 wsJx4a65c_get_915e3) := goodIn_app (wk_h bm_X8_queue wm_X8_queue [2174, 2175, 2176, 2004] (by decide +kernel) (by decide +kernel) (by decide +kernel)) ggX8_queue_Jx4a65c_get_915e3
set_option maxRecDepth 100000 in
theorem ggX8_queue_J4_append_cf468 : GoodIn wsX8_queue wsJ4_append_cf468 := wk_g bm_X8_queue wm_X8_queue 7068 wc_J4_append_cf468 rfl (by decide +kernel) (by decide +kernel) wq_J4_append_cf468
set_option maxRecDepth 100000 in
theorem gX8_queue_J4_append_cf468 : GoodIn wsX8_queue (wsV RX8 341 RJ4 yJ4_append_cf468 wsJ4_append_cf468) := goodIn_app (wk_h bm_X8_queue wm_X8_queue [7065, 7066, 7067, 2031] (by decide +kernel) (by decide +kernel) (by decide +kernel)) ggX8_queue_J4_append_cf468
set_option maxRecDepth 100000 in
theorem ggX8_queue_J4_append_bf812 : GoodIn wsX8_queue wsJ4_append_bf812 := wk_g bm_X8_queue wm_X8_queue 6065 wc_J4_append_bf812 rfl (by decide +kernel) (by decide +kernel) wq_J4_append_bf812
set_option maxRecDepth 100000 in
theorem gX8_queue_J4_append_bf812 : GoodIn wsX8_queue (wsV RX8 345 RJ4 yJ4_append_bf812 wsJ4_append_bf812) := goodIn_app (wk_h bm_X8_queue wm_X8_queue [7085, 6063, 6064, 2031] (by decide +kernel) (by decide +kernel) (by decide +kernel)) ggX8_queue_J4_append_bf812
set_option maxRecDepth 100000 in
theorem ggX8_queue_J4_toString_0e30d : GoodIn wsX8_queue wsJ4_toString_0e30d := wk_g bm_X8_queue wm_X8_queue 6091 wc_J4_toString_0e30d rfl (by decide +kernel) (by decide +kernel) wq_J4_toString_0e30d
set_option maxRecDepth 100000 in
theorem gX8_queue_J4_toString_0e30d : GoodIn wsX8_queue (wsV RX8 348 RJ4 yJ4_toString_0e30d wsJ4_toString_0e30d) := goodIn_app (wk_h bm_X8_queue wm_X8_queue [7086, 6089, 6090, 2031] (by decide +kernel) (by decide +kernel) (by decide +kernel)) ggX8_queue_J4_toString_0e30d
theorem dX8_queue_0 : decode cX8_queue 0 = .ok (.aload_n 0, 1) := by decide +kernel
theorem dX8_queue_1 : decode cX8_queue 1 = .ok (.iload_n 1, 1) := by decide +kernel
theorem dX8_queue_2 : decode cX8_queue 2 = .ok (.invokevirtual 100, 3) := by decide +kernel
theorem dX8_queue_5 : decode cX8_queue 5 = .ok (.astore_n 2, 1) := by decide +kernel
theorem dX8_queue_6 : decode cX8_queue 6 = .ok (.aload_n 2, 1) := by decide +kernel
theorem dX8_queue_7 : decode cX8_queue 7 = .ok (.getfield 197, 3) := by decide +kernel
theorem dX8_queue_10 : decode cX8_queue 10 = .ok (.invokevirtual 229, 3) := by decide +kernel
theorem dX8_queue_13 : decode cX8_queue 13 = .ok (.ifCond .eq 7, 3) := by decide +kernel
theorem dX8_queue_16 : decode cX8_queue 16 = .ok (.ldc_w 336, 3) := by decide +kernel
theorem dX8_queue_19 : decode cX8_queue 19 = .ok (.areturn, 1) := by decide +kernel
theorem dX8_queue_20 : decode cX8_queue 20 = .ok (.new 338, 3) := by decide +kernel
theorem dX8_queue_23 : decode cX8_queue 23 = .ok (.dup, 1) := by decide +kernel
theorem dX8_queue_24 : decode cX8_queue 24 = .ok (.invokespecial 340, 3) := by decide +kernel
theorem dX8_queue_27 : decode cX8_queue 27 = .ok (.astore_n 3, 1) := by decide +kernel
theorem dX8_queue_28 : decode cX8_queue 28 = .ok (.iconst 0, 1) := by decide +kernel
theorem dX8_queue_29 : decode cX8_queue 29 = .ok (.istore 4, 2) := by decide +kernel
theorem dX8_queue_31 : decode cX8_queue 31 = .ok (.iload 4, 2) := by decide +kernel
theorem dX8_queue_33 : decode cX8_queue 33 = .ok (.aload_n 2, 1) := by decide +kernel
theorem dX8_queue_34 : decode cX8_queue 34 = .ok (.getfield 197, 3) := by decide +kernel
theorem dX8_queue_37 : decode cX8_queue 37 = .ok (.invokevirtual 82, 3) := by decide +kernel
theorem dX8_queue_40 : decode cX8_queue 40 = .ok (.if_icmp .ge 60, 3) := by decide +kernel
theorem dX8_queue_43 : decode cX8_queue 43 = .ok (.aload_n 2, 1) := by decide +kernel
theorem dX8_queue_44 : decode cX8_queue 44 = .ok (.getfield 197, 3) := by decide +kernel
theorem dX8_queue_47 : decode cX8_queue 47 = .ok (.iload 4, 2) := by decide +kernel
theorem dX8_queue_49 : decode cX8_queue 49 = .ok (.invokevirtual 238, 3) := by decide +kernel
theorem dX8_queue_52 : decode cX8_queue 52 = .ok (.checkcast 112, 3) := by decide +kernel
theorem dX8_queue_55 : decode cX8_queue 55 = .ok (.astore 5, 2) := by decide +kernel
theorem dX8_queue_57 : decode cX8_queue 57 = .ok (.iload 4, 2) := by decide +kernel
theorem dX8_queue_59 : decode cX8_queue 59 = .ok (.ifCond .le 10, 3) := by decide +kernel
theorem dX8_queue_62 : decode cX8_queue 62 = .ok (.aload_n 3, 1) := by decide +kernel
theorem dX8_queue_63 : decode cX8_queue 63 = .ok (.bipush 32, 2) := by decide +kernel
theorem dX8_queue_65 : decode cX8_queue 65 = .ok (.invokevirtual 341, 3) := by decide +kernel
theorem dX8_queue_68 : decode cX8_queue 68 = .ok (.pop, 1) := by decide +kernel
theorem dX8_queue_69 : decode cX8_queue 69 = .ok (.aload_n 3, 1) := by decide +kernel
theorem dX8_queue_70 : decode cX8_queue 70 = .ok (.aload 5, 2) := by decide +kernel
theorem dX8_queue_72 : decode cX8_queue 72 = .ok (.getfield 117, 3) := by decide +kernel
theorem dX8_queue_75 : decode cX8_queue 75 = .ok (.invokevirtual 345, 3) := by decide +kernel
theorem dX8_queue_78 : decode cX8_queue 78 = .ok (.pop, 1) := by decide +kernel
theorem dX8_queue_79 : decode cX8_queue 79 = .ok (.aload 5, 2) := by decide +kernel
theorem dX8_queue_81 : decode cX8_queue 81 = .ok (.getfield 190, 3) := by decide +kernel
theorem dX8_queue_84 : decode cX8_queue 84 = .ok (.ifCond .eq 10, 3) := by decide +kernel
theorem dX8_queue_87 : decode cX8_queue 87 = .ok (.aload_n 3, 1) := by decide +kernel
theorem dX8_queue_88 : decode cX8_queue 88 = .ok (.bipush 98, 2) := by decide +kernel
theorem dX8_queue_90 : decode cX8_queue 90 = .ok (.invokevirtual 341, 3) := by decide +kernel
theorem dX8_queue_93 : decode cX8_queue 93 = .ok (.pop, 1) := by decide +kernel
theorem dX8_queue_94 : decode cX8_queue 94 = .ok (.iinc 4 1, 3) := by decide +kernel
theorem dX8_queue_97 : decode cX8_queue 97 = .ok (.goto (-66), 3) := by decide +kernel
theorem dX8_queue_100 : decode cX8_queue 100 = .ok (.aload_n 3, 1) := by decide +kernel
theorem dX8_queue_101 : decode cX8_queue 101 = .ok (.invokevirtual 348, 3) := by decide +kernel
theorem dX8_queue_104 : decode cX8_queue 104 = .ok (.areturn, 1) := by decide +kernel
set_option maxRecDepth 100000 in
theorem ggX8_night_Jx4a65c_size_8abf5 : GoodIn wsX8_night wsJx4a65c_size_8abf5 := wk_g rfl wm_X8_night 2173 wc_Jx4a65c_size_8abf5 rfl (by decide +kernel) (by decide +kernel) wq_Jx4a65c_size_8abf5
set_option maxRecDepth 100000 in
theorem gX8_night_Jx4a65c_size_8abf5 : GoodIn wsX8_night (wsV RX8 82 RJx4a65c yJx4a65c_size_8abf5 wsJx4a65c_size_8abf5) := goodIn_app (wk_h rfl wm_X8_night [2170, 2171, 2172, 2004] (by decide +kernel) (by decide +kernel) (by decide +kernel)) ggX8_night_Jx4a65c_size_8abf5
set_option maxRecDepth 100000 in
theorem ggX8_night_X8_awakeOnes : GoodIn wsX8_night wsX8_awakeOnes := wk_g rfl wm_X8_night 2227 wc_X8_awakeOnes rfl (by decide +kernel) (by decide +kernel) wq_X8_awakeOnes
set_option maxRecDepth 100000 in
theorem gX8_night_X8_awakeOnes : GoodIn wsX8_night (wsV RX8 352 RX8 yX8_awakeOnes wsX8_awakeOnes) := goodIn_app (wk_h rfl wm_X8_night [2224, 2226, 1003, 2001] (by decide +kernel) (by decide +kernel) (by decide +kernel)) ggX8_night_X8_awakeOnes
set_option maxRecDepth 100000 in
theorem ggX8_night_X8_partsOfFate : GoodIn wsX8_night wsX8_partsOfFate := wk_g rfl wm_X8_night 2231 wc_X8_partsOfFate rfl (by decide +kernel) (by decide +kernel) wq_X8_partsOfFate
set_option maxRecDepth 100000 in
theorem gX8_night_X8_partsOfFate : GoodIn wsX8_night (wsV RX8 355 RX8 yX8_partsOfFate wsX8_partsOfFate) := goodIn_app (wk_h rfl wm_X8_night [2228, 2230, 1004, 2001] (by decide +kernel) (by decide +kernel) (by decide +kernel)) ggX8_night_X8_partsOfFate
set_option maxRecDepth 100000 in
theorem ggX8_night_X8_goneParts : GoodIn wsX8_night wsX8_goneParts := wk_g rfl wm_X8_night 2235 wc_X8_goneParts rfl (by decide +kernel) (by decide +kernel) wq_X8_goneParts
set_option maxRecDepth 100000 in
theorem gX8_night_X8_goneParts : GoodIn wsX8_night (wsV RX8 359 RX8 yX8_goneParts wsX8_goneParts) := goodIn_app (wk_h rfl wm_X8_night [2232, 2234, 1005, 2001] (by decide +kernel) (by decide +kernel) (by decide +kernel)) ggX8_night_X8_goneParts
set_option maxRecDepth 100000 in
theorem ggX8_night_X8_dutiesOfAll : GoodIn wsX8_night wsX8_dutiesOfAll := wk_g rfl wm_X8_night 3003 wc_X8_dutiesOfAll rfl (by decide +kernel) (by decide +kernel) wq_X8_dutiesOfAll
set_option maxRecDepth 100000 in
theorem gX8_night_X8_dutiesOfAll : GoodIn wsX8_night (wsV RX8 365 RX8 yX8_dutiesOfAll wsX8_dutiesOfAll) := goodIn_app (wk_h rfl wm_X8_night [3000, 3002, 1006, 2001] (by decide +kernel) (by decide +kernel) (by decide +kernel)) ggX8_night_X8_dutiesOfAll
set_option maxRecDepth 100000 in
theorem ggX8_night_X8_finesOfAll : GoodIn wsX8_night wsX8_finesOfAll := wk_g rfl wm_X8_night 3007 wc_X8_finesOfAll rfl (by decide +kernel) (by decide +kernel) wq_X8_finesOfAll
set_option maxRecDepth 100000 in
theorem gX8_night_X8_finesOfAll : GoodIn wsX8_night (wsV RX8 368 RX8 yX8_finesOfAll wsX8_finesOfAll) := goodIn_app (wk_h rfl wm_X8_night [3004, 3006, 1007, 2001] (by decide +kernel) (by decide +kernel) (by decide +kernel)) ggX8_night_X8_finesOfAll
theorem dX8_night_0 : decode cX8_night 0 = .ok (.iload_n 1, 1) := by decide +kernel
theorem dX8_night_1 : decode cX8_night 1 = .ok (.tableswitch 188 0 16 #[83, 88, 93, 101, 109, 114, 122, 128, 134, 140, 146, 152, 157, 165, 173, 178, 183], 83) := by decide +kernel
theorem dX8_night_84 : decode cX8_night 84 = .ok (.aload_n 0, 1) := by decide +kernel
theorem dX8_night_85 : decode cX8_night 85 = .ok (.getfield 149, 3) := by decide +kernel
theorem dX8_night_88 : decode cX8_night 88 = .ok (.ireturn, 1) := by decide +kernel
theorem dX8_night_89 : decode cX8_night 89 = .ok (.aload_n 0, 1) := by decide +kernel
theorem dX8_night_90 : decode cX8_night 90 = .ok (.getfield 223, 3) := by decide +kernel
theorem dX8_night_93 : decode cX8_night 93 = .ok (.ireturn, 1) := by decide +kernel
theorem dX8_night_94 : decode cX8_night 94 = .ok (.aload_n 0, 1) := by decide +kernel
theorem dX8_night_95 : decode cX8_night 95 = .ok (.getfield 18, 3) := by decide +kernel
theorem dX8_night_98 : decode cX8_night 98 = .ok (.invokevirtual 82, 3) := by decide +kernel
theorem dX8_night_101 : decode cX8_night 101 = .ok (.ireturn, 1) := by decide +kernel
theorem dX8_night_102 : decode cX8_night 102 = .ok (.aload_n 0, 1) := by decide +kernel
theorem dX8_night_103 : decode cX8_night 103 = .ok (.getfield 22, 3) := by decide +kernel
theorem dX8_night_106 : decode cX8_night 106 = .ok (.invokevirtual 82, 3) := by decide +kernel
theorem dX8_night_109 : decode cX8_night 109 = .ok (.ireturn, 1) := by decide +kernel
theorem dX8_night_110 : decode cX8_night 110 = .ok (.aload_n 0, 1) := by decide +kernel
theorem dX8_night_111 : decode cX8_night 111 = .ok (.invokevirtual 352, 3) := by decide +kernel
theorem dX8_night_114 : decode cX8_night 114 = .ok (.ireturn, 1) := by decide +kernel
theorem dX8_night_115 : decode cX8_night 115 = .ok (.aload_n 0, 1) := by decide +kernel
theorem dX8_night_116 : decode cX8_night 116 = .ok (.getfield 25, 3) := by decide +kernel
theorem dX8_night_119 : decode cX8_night 119 = .ok (.invokevirtual 82, 3) := by decide +kernel
theorem dX8_night_122 : decode cX8_night 122 = .ok (.ireturn, 1) := by decide +kernel
theorem dX8_night_123 : decode cX8_night 123 = .ok (.aload_n 0, 1) := by decide +kernel
theorem dX8_night_124 : decode cX8_night 124 = .ok (.iconst 1, 1) := by decide +kernel
theorem dX8_night_125 : decode cX8_night 125 = .ok (.invokevirtual 355, 3) := by decide +kernel
theorem dX8_night_128 : decode cX8_night 128 = .ok (.ireturn, 1) := by decide +kernel
theorem dX8_night_129 : decode cX8_night 129 = .ok (.aload_n 0, 1) := by decide +kernel
theorem dX8_night_130 : decode cX8_night 130 = .ok (.iconst 2, 1) := by decide +kernel
theorem dX8_night_131 : decode cX8_night 131 = .ok (.invokevirtual 355, 3) := by decide +kernel
theorem dX8_night_134 : decode cX8_night 134 = .ok (.ireturn, 1) := by decide +kernel
theorem dX8_night_135 : decode cX8_night 135 = .ok (.aload_n 0, 1) := by decide +kernel
theorem dX8_night_136 : decode cX8_night 136 = .ok (.iconst 3, 1) := by decide +kernel
theorem dX8_night_137 : decode cX8_night 137 = .ok (.invokevirtual 355, 3) := by decide +kernel
theorem dX8_night_140 : decode cX8_night 140 = .ok (.ireturn, 1) := by decide +kernel
theorem dX8_night_141 : decode cX8_night 141 = .ok (.aload_n 0, 1) := by decide +kernel
theorem dX8_night_142 : decode cX8_night 142 = .ok (.iconst 4, 1) := by decide +kernel
theorem dX8_night_143 : decode cX8_night 143 = .ok (.invokevirtual 355, 3) := by decide +kernel
theorem dX8_night_146 : decode cX8_night 146 = .ok (.ireturn, 1) := by decide +kernel
theorem dX8_night_147 : decode cX8_night 147 = .ok (.aload_n 0, 1) := by decide +kernel
theorem dX8_night_148 : decode cX8_night 148 = .ok (.iconst 5, 1) := by decide +kernel
theorem dX8_night_149 : decode cX8_night 149 = .ok (.invokevirtual 355, 3) := by decide +kernel
theorem dX8_night_152 : decode cX8_night 152 = .ok (.ireturn, 1) := by decide +kernel
theorem dX8_night_153 : decode cX8_night 153 = .ok (.aload_n 0, 1) := by decide +kernel
theorem dX8_night_154 : decode cX8_night 154 = .ok (.invokevirtual 359, 3) := by decide +kernel
theorem dX8_night_157 : decode cX8_night 157 = .ok (.ireturn, 1) := by decide +kernel
theorem dX8_night_158 : decode cX8_night 158 = .ok (.aload_n 0, 1) := by decide +kernel
theorem dX8_night_159 : decode cX8_night 159 = .ok (.getfield 28, 3) := by decide +kernel
theorem dX8_night_162 : decode cX8_night 162 = .ok (.invokevirtual 82, 3) := by decide +kernel
theorem dX8_night_165 : decode cX8_night 165 = .ok (.ireturn, 1) := by decide +kernel
theorem dX8_night_166 : decode cX8_night 166 = .ok (.aload_n 0, 1) := by decide +kernel
theorem dX8_night_167 : decode cX8_night 167 = .ok (.getfield 34, 3) := by decide +kernel
theorem dX8_night_170 : decode cX8_night 170 = .ok (.getfield 362, 3) := by decide +kernel
theorem dX8_night_173 : decode cX8_night 173 = .ok (.ireturn, 1) := by decide +kernel
theorem dX8_night_174 : decode cX8_night 174 = .ok (.aload_n 0, 1) := by decide +kernel
theorem dX8_night_175 : decode cX8_night 175 = .ok (.getfield 235, 3) := by decide +kernel
theorem dX8_night_178 : decode cX8_night 178 = .ok (.ireturn, 1) := by decide +kernel
theorem dX8_night_179 : decode cX8_night 179 = .ok (.aload_n 0, 1) := by decide +kernel
theorem dX8_night_180 : decode cX8_night 180 = .ok (.invokevirtual 365, 3) := by decide +kernel
theorem dX8_night_183 : decode cX8_night 183 = .ok (.ireturn, 1) := by decide +kernel
theorem dX8_night_184 : decode cX8_night 184 = .ok (.aload_n 0, 1) := by decide +kernel
theorem dX8_night_185 : decode cX8_night 185 = .ok (.invokevirtual 368, 3) := by decide +kernel
theorem dX8_night_188 : decode cX8_night 188 = .ok (.ireturn, 1) := by decide +kernel
theorem dX8_night_189 : decode cX8_night 189 = .ok (.new 65, 3) := by decide +kernel
theorem dX8_night_192 : decode cX8_night 192 = .ok (.dup, 1) := by decide +kernel
theorem dX8_night_193 : decode cX8_night 193 = .ok (.ldc_w 371, 3) := by decide +kernel
theorem dX8_night_196 : decode cX8_night 196 = .ok (.invokespecial 69, 3) := by decide +kernel
theorem dX8_night_199 : decode cX8_night 199 = .ok (.athrow, 1) := by decide +kernel
set_option maxRecDepth 100000 in
theorem ggX8_way_X8_landNumbered : GoodIn wsX8_way wsX8_landNumbered := goodIn_ca (wk_g rfl wm_X8_way 3083 wc_X8_landNumbered rfl (by decide +kernel) (by decide +kernel) wq_X8_landNumbered) (goodIn_sub (fun _ h => List.mem_cons_of_mem _ (List.mem_append_right _ h)) (by decide +kernel))
set_option maxRecDepth 100000 in
theorem gX8_way_X8_landNumbered : GoodIn wsX8_way (wsV RX8 50 RX8 yX8_landNumbered wsX8_landNumbered) := goodIn_app (wk_h rfl wm_X8_way [3080, 3082, 1009, 2001] (by decide +kernel) (by decide +kernel) (by decide +kernel)) ggX8_way_X8_landNumbered
set_option maxRecDepth 100000 in
theorem ggX8_way_X8_findArrivals : GoodIn wsX8_way wsX8_findArrivals := wk_g rfl wm_X8_way 3239 wc_X8_findArrivals rfl (by decide +kernel) (by decide +kernel) wq_X8_findArrivals
set_option maxRecDepth 100000 in
theorem gX8_way_X8_findArrivals : GoodIn wsX8_way (wsV RX8 373 RX8 yX8_findArrivals wsX8_findArrivals) := goodIn_app (wk_h rfl wm_X8_way [3236, 3238, 1023, 2001] (by decide +kernel) (by decide +kernel) (by decide +kernel)) ggX8_way_X8_findArrivals
theorem dX8_way_0 : decode cX8_way 0 = .ok (.aload_n 0, 1) := by decide +kernel
theorem dX8_way_1 : decode cX8_way 1 = .ok (.iload_n 1, 1) := by decide +kernel
theorem dX8_way_2 : decode cX8_way 2 = .ok (.invokevirtual 50, 3) := by decide +kernel
theorem dX8_way_5 : decode cX8_way 5 = .ok (.astore_n 3, 1) := by decide +kernel
theorem dX8_way_6 : decode cX8_way 6 = .ok (.aload_n 0, 1) := by decide +kernel
theorem dX8_way_7 : decode cX8_way 7 = .ok (.iload_n 2, 1) := by decide +kernel
theorem dX8_way_8 : decode cX8_way 8 = .ok (.invokevirtual 50, 3) := by decide +kernel
theorem dX8_way_11 : decode cX8_way 11 = .ok (.astore 4, 2) := by decide +kernel
theorem dX8_way_13 : decode cX8_way 13 = .ok (.aload_n 0, 1) := by decide +kernel
theorem dX8_way_14 : decode cX8_way 14 = .ok (.aload_n 3, 1) := by decide +kernel
theorem dX8_way_15 : decode cX8_way 15 = .ok (.invokevirtual 373, 3) := by decide +kernel
theorem dX8_way_18 : decode cX8_way 18 = .ok (.aload_n 0, 1) := by decide +kernel
theorem dX8_way_19 : decode cX8_way 19 = .ok (.getfield 43, 3) := by decide +kernel
theorem dX8_way_22 : decode cX8_way 22 = .ok (.aload 4, 2) := by decide +kernel
theorem dX8_way_24 : decode cX8_way 24 = .ok (.getfield 296, 3) := by decide +kernel
theorem dX8_way_27 : decode cX8_way 27 = .ok (.iaload, 1) := by decide +kernel
theorem dX8_way_28 : decode cX8_way 28 = .ok (.ireturn, 1) := by decide +kernel
set_option maxRecDepth 100000 in
theorem ggX8_plan_X8_gateNumbered : GoodIn wsX8_plan wsX8_gateNumbered := goodIn_ca (wk_g rfl wm_X8_plan 3120 wc_X8_gateNumbered rfl (by decide +kernel) (by decide +kernel) wq_X8_gateNumbered) (goodIn_sub (fun _ h => List.mem_cons_of_mem _ (List.mem_append_left _ (List.mem_append_right _ h))) (by decide +kernel))
set_option maxRecDepth 100000 in
theorem gX8_plan_X8_gateNumbered : GoodIn wsX8_plan (wsV RX8 100 RX8 yX8_gateNumbered wsX8_gateNumbered) := goodIn_app (wk_h rfl wm_X8_plan [3117, 3119, 1013, 2001] (by decide +kernel) (by decide +kernel) (by decide +kernel)) ggX8_plan_X8_gateNumbered
set_option maxRecDepth 100000 in
theorem ggX8_plan_X8_demandRange : GoodIn wsX8_plan wsX8_demandRange := goodIn_ca (wk_g rfl wm_X8_plan 4010 wc_X8_demandRange rfl (by decide +kernel) (by decide +kernel) wq_X8_demandRange) (goodIn_sub (fun _ h => List.mem_cons_of_mem _ (List.mem_append_right _ h)) (by decide +kernel))
set_option maxRecDepth 100000 in
theorem gX8_plan_X8_demandRange : GoodIn wsX8_plan (va_wsS RX8 54 yX8_demandRange wsX8_demandRange) := goodIn_app (wk_h rfl wm_X8_plan [4008, 4009, 2001] (by decide +kernel) (by decide +kernel) (by decide +kernel)) ggX8_plan_X8_demandRange
set_option maxRecDepth 100000 in
theorem ggX8_plan_X8_findMostCaught : GoodIn wsX8_plan wsX8_findMostCaught := wk_g rfl wm_X8_plan 4015 wc_X8_findMostCaught rfl (by decide +kernel) (by decide +kernel) wq_X8_findMostCaught
set_option maxRecDepth 100000 in
theorem gX8_plan_X8_findMostCaught : GoodIn wsX8_plan (wsV RX8 377 RX8 yX8_findMostCaught wsX8_findMostCaught) := goodIn_app (wk_h rfl wm_X8_plan [4012, 4014, 1025, 2001] (by decide +kernel) (by decide +kernel) (by decide +kernel)) ggX8_plan_X8_findMostCaught
set_option maxRecDepth 100000 in
theorem ggX8_plan_X8_leastSum : GoodIn wsX8_plan wsX8_leastSum := wk_g rfl wm_X8_plan 4032 wc_X8_leastSum rfl (by decide +kernel) (by decide +kernel) wq_X8_leastSum
set_option maxRecDepth 100000 in
theorem gX8_plan_X8_leastSum : GoodIn wsX8_plan (wsV RX8 380 RX8 yX8_leastSum wsX8_leastSum) := goodIn_app (wk_h rfl wm_X8_plan [4029, 4031, 1027, 2001] (by decide +kernel) (by decide +kernel) (by decide +kernel)) ggX8_plan_X8_leastSum
set_option maxRecDepth 100000 in
theorem ggX8_plan_X8_plannedOdds : GoodIn wsX8_plan wsX8_plannedOdds := wk_g rfl wm_X8_plan 4036 wc_X8_plannedOdds rfl (by decide +kernel) (by decide +kernel) wq_X8_plannedOdds
set_option maxRecDepth 100000 in
theorem gX8_plan_X8_plannedOdds : GoodIn wsX8_plan (wsV RX8 383 RX8 yX8_plannedOdds wsX8_plannedOdds) := goodIn_app (wk_h rfl wm_X8_plan [4033, 4035, 1028, 2001] (by decide +kernel) (by decide +kernel) (by decide +kernel)) ggX8_plan_X8_plannedOdds
theorem dX8_plan_0 : decode cX8_plan 0 = .ok (.iload_n 2, 1) := by decide +kernel
theorem dX8_plan_1 : decode cX8_plan 1 = .ok (.iconst (-1), 1) := by decide +kernel
theorem dX8_plan_2 : decode cX8_plan 2 = .ok (.if_icmp .eq 9, 3) := by decide +kernel
theorem dX8_plan_5 : decode cX8_plan 5 = .ok (.aload_n 0, 1) := by decide +kernel
theorem dX8_plan_6 : decode cX8_plan 6 = .ok (.iload_n 2, 1) := by decide +kernel
theorem dX8_plan_7 : decode cX8_plan 7 = .ok (.invokevirtual 100, 3) := by decide +kernel
theorem dX8_plan_10 : decode cX8_plan 10 = .ok (.pop, 1) := by decide +kernel
theorem dX8_plan_11 : decode cX8_plan 11 = .ok (.iload_n 1, 1) := by decide +kernel
theorem dX8_plan_12 : decode cX8_plan 12 = .ok (.iconst 0, 1) := by decide +kernel
theorem dX8_plan_13 : decode cX8_plan 13 = .ok (.sipush 2000, 3) := by decide +kernel
theorem dX8_plan_16 : decode cX8_plan 16 = .ok (.invokestatic 54, 3) := by decide +kernel
theorem dX8_plan_19 : decode cX8_plan 19 = .ok (.aload_n 0, 1) := by decide +kernel
theorem dX8_plan_20 : decode cX8_plan 20 = .ok (.invokevirtual 377, 3) := by decide +kernel
theorem dX8_plan_23 : decode cX8_plan 23 = .ok (.aload_n 0, 1) := by decide +kernel
theorem dX8_plan_24 : decode cX8_plan 24 = .ok (.iload_n 1, 1) := by decide +kernel
theorem dX8_plan_25 : decode cX8_plan 25 = .ok (.invokevirtual 380, 3) := by decide +kernel
theorem dX8_plan_28 : decode cX8_plan 28 = .ok (.istore_n 3, 1) := by decide +kernel
theorem dX8_plan_29 : decode cX8_plan 29 = .ok (.iload_n 3, 1) := by decide +kernel
theorem dX8_plan_30 : decode cX8_plan 30 = .ok (.iconst (-1), 1) := by decide +kernel
theorem dX8_plan_31 : decode cX8_plan 31 = .ok (.if_icmp .eq 8, 3) := by decide +kernel
theorem dX8_plan_34 : decode cX8_plan 34 = .ok (.iload_n 2, 1) := by decide +kernel
theorem dX8_plan_35 : decode cX8_plan 35 = .ok (.iconst (-1), 1) := by decide +kernel
theorem dX8_plan_36 : decode cX8_plan 36 = .ok (.if_icmp .ne 7, 3) := by decide +kernel
theorem dX8_plan_39 : decode cX8_plan 39 = .ok (.iload_n 3, 1) := by decide +kernel
theorem dX8_plan_40 : decode cX8_plan 40 = .ok (.goto 10, 3) := by decide +kernel
theorem dX8_plan_43 : decode cX8_plan 43 = .ok (.aload_n 0, 1) := by decide +kernel
theorem dX8_plan_44 : decode cX8_plan 44 = .ok (.iload_n 1, 1) := by decide +kernel
theorem dX8_plan_45 : decode cX8_plan 45 = .ok (.iload_n 3, 1) := by decide +kernel
theorem dX8_plan_46 : decode cX8_plan 46 = .ok (.iload_n 2, 1) := by decide +kernel
theorem dX8_plan_47 : decode cX8_plan 47 = .ok (.invokevirtual 383, 3) := by decide +kernel
theorem dX8_plan_50 : decode cX8_plan 50 = .ok (.ireturn, 1) := by decide +kernel
set_option maxRecDepth 100000 in
theorem ggX8_wouldPay_X8_gateNumbered : GoodIn wsX8_wouldPay wsX8_gateNumbered := goodIn_ca (wk_g bm_X8_wouldPay wm_X8_wouldPay 3120 wc_X8_gateNumbered rfl (by decide +kernel) (by decide +kernel) wq_X8_gateNumbered) (goodIn_sub (fun _ h => List.mem_cons_of_mem _ (List.mem_append_right _ h)) (by decide +kernel))
set_option maxRecDepth 100000 in
theorem gX8_wouldPay_X8_gateNumbered : GoodIn wsX8_wouldPay (wsV RX8 100 RX8 yX8_gateNumbered wsX8_gateNumbered) := goodIn_app (wk_h bm_X8_wouldPay wm_X8_wouldPay [3117, 3119, 1013, 2001] (by decide +kernel) (by decide +kernel) (by decide +kernel)) ggX8_wouldPay_X8_gateNumbered
set_option maxRecDepth 100000 in
theorem ggX8_wouldPay_Jx4a65c_isEmpty_aae02 : GoodIn wsX8_wouldPay wsJx4a65c_isEmpty_aae02 := wk_g bm_X8_wouldPay wm_X8_wouldPay 3133 wc_Jx4a65c_isEmpty_aae02 rfl (by decide +kernel) (by decide +kernel) wq_Jx4a65c_isEmpty_aae02
set_option maxRecDepth 100000 in
theorem gX8_wouldPay_Jx4a65c_isEmpty_aae02 : GoodIn wsX8_wouldPay (wsV RX8 229 RJx4a65c yJx4a65c_isEmpty_aae02 wsJx4a65c_isEmpty_aae02) := goodIn_app (wk_h bm_X8_wouldPay wm_X8_wouldPay [3130, 3131, 3132, 2004] (by decide +kernel) (by decide +kernel) (by decide +kernel)) ggX8_wouldPay_Jx4a65c_isEmpty_aae02
set_option maxRecDepth 100000 in
theorem ggX8_wouldPay_Jx4a65c_get_915e3 : GoodIn wsX8_wouldPay wsJx4a65c_get_915e3 := wk_g bm_X8_wouldPay wm_X8_wouldPay 2177 wc_Jx4a65c_get_915e3 rfl (by decide +kernel) (by decide +kernel) wq_Jx4a65c_get_915e3
set_option maxRecDepth 100000 in
theorem gX8_wouldPay_Jx4a65c_get_915e3 : GoodIn wsX8_wouldPay (wsV RX8 238 RJx4a65c yJx4a65c_get_915e3 wsJx4a65c_get_915e3) := goodIn_app (wk_h bm_X8_wouldPay wm_X8_wouldPay [2174, 2175, 2176, 2004] (by decide +kernel) (by decide +kernel) (by decide +kernel)) ggX8_wouldPay_Jx4a65c_get_915e3
set_option maxRecDepth 100000 in
theorem ggX8_wouldPay_X8_passIsGood : GoodIn wsX8_wouldPay wsX8_passIsGood := wk_g bm_X8_wouldPay wm_X8_wouldPay 3164 wc_X8_passIsGood rfl (by decide +kernel) (by decide +kernel) wq_X8_passIsGood
set_option maxRecDepth 100000 in
theorem gX8_wouldPay_X8_passIsGood : GoodIn wsX8_wouldPay (wsV RX8 241 RX8 yX8_passIsGood wsX8_passIsGood) := goodIn_app (wk_h bm_X8_wouldPay wm_X8_wouldPay [3161, 3163, 1015, 2001] (by decide +kernel) (by decide +kernel) (by decide +kernel)) ggX8_wouldPay_X8_passIsGood
set_option maxRecDepth 100000 in
theorem ggX8_wouldPay_X0_across : GoodIn wsX8_wouldPay wsX0_across := wk_g bm_X8_wouldPay wm_X8_wouldPay 3178 wc_X0_across rfl (by decide +kernel) (by decide +kernel) wq_X0_across
set_option maxRecDepth 100000 in
theorem gX8_wouldPay_X0_across : GoodIn wsX8_wouldPay (wsV RX8 387 RX0 yX0_across wsX0_across) := goodIn_app (wk_h bm_X8_wouldPay wm_X8_wouldPay [3175, 3176, 3177, 2016] (by decide +kernel) (by decide +kernel) (by decide +kernel)) ggX8_wouldPay_X0_across
set_option maxRecDepth 100000 in
theorem ggX8_wouldPay_X8_partsThatComeIn : GoodIn wsX8_wouldPay wsX8_partsThatComeIn := wk_g bm_X8_wouldPay wm_X8_wouldPay 3182 wc_X8_partsThatComeIn rfl (by decide +kernel) (by decide +kernel) wq_X8_partsThatComeIn
set_option maxRecDepth 100000 in
theorem gX8_wouldPay_X8_partsThatComeIn : GoodIn wsX8_wouldPay (wsV RX8 391 RX8 yX8_partsThatComeIn wsX8_partsThatComeIn) := goodIn_app (wk_h bm_X8_wouldPay wm_X8_wouldPay [3179, 3181, 1016, 2001] (by decide +kernel) (by decide +kernel) (by decide +kernel)) ggX8_wouldPay_X8_partsThatComeIn
set_option maxRecDepth 100000 in
theorem ggX8_wouldPay_X8_worthOf : GoodIn wsX8_wouldPay wsX8_worthOf := wk_g bm_X8_wouldPay wm_X8_wouldPay 3191 wc_X8_worthOf rfl (by decide +kernel) (by decide +kernel) wq_X8_worthOf
set_option maxRecDepth 100000 in
theorem gX8_wouldPay_X8_worthOf : GoodIn wsX8_wouldPay (wsV RX8 395 RX8 yX8_worthOf wsX8_worthOf) := goodIn_app (wk_h bm_X8_wouldPay wm_X8_wouldPay [3188, 3190, 1017, 2001] (by decide +kernel) (by decide +kernel) (by decide +kernel)) ggX8_wouldPay_X8_worthOf
set_option maxRecDepth 100000 in
theorem ggX8_wouldPay_X2_dutyOn : GoodIn wsX8_wouldPay wsX2_dutyOn := wk_g bm_X8_wouldPay wm_X8_wouldPay 3195 wc_X2_dutyOn rfl (by decide +kernel) (by decide +kernel) wq_X2_dutyOn
set_option maxRecDepth 100000 in
theorem gX8_wouldPay_X2_dutyOn : GoodIn wsX8_wouldPay (wsV RX8 398 RX2 yX2_dutyOn wsX2_dutyOn) := goodIn_app (wk_h bm_X8_wouldPay wm_X8_wouldPay [3192, 3193, 3194, 2006] (by decide +kernel) (by decide +kernel) (by decide +kernel)) ggX8_wouldPay_X2_dutyOn
theorem dX8_wouldPay_0 : decode cX8_wouldPay 0 = .ok (.aload_n 0, 1) := by decide +kernel
theorem dX8_wouldPay_1 : decode cX8_wouldPay 1 = .ok (.iload_n 1, 1) := by decide +kernel
theorem dX8_wouldPay_2 : decode cX8_wouldPay 2 = .ok (.invokevirtual 100, 3) := by decide +kernel
theorem dX8_wouldPay_5 : decode cX8_wouldPay 5 = .ok (.astore_n 2, 1) := by decide +kernel
theorem dX8_wouldPay_6 : decode cX8_wouldPay 6 = .ok (.aload_n 2, 1) := by decide +kernel
theorem dX8_wouldPay_7 : decode cX8_wouldPay 7 = .ok (.getfield 197, 3) := by decide +kernel
theorem dX8_wouldPay_10 : decode cX8_wouldPay 10 = .ok (.invokevirtual 229, 3) := by decide +kernel
theorem dX8_wouldPay_13 : decode cX8_wouldPay 13 = .ok (.ifCond .eq 5, 3) := by decide +kernel
theorem dX8_wouldPay_16 : decode cX8_wouldPay 16 = .ok (.iconst 0, 1) := by decide +kernel
theorem dX8_wouldPay_17 : decode cX8_wouldPay 17 = .ok (.ireturn, 1) := by decide +kernel
theorem dX8_wouldPay_18 : decode cX8_wouldPay 18 = .ok (.aload_n 2, 1) := by decide +kernel
theorem dX8_wouldPay_19 : decode cX8_wouldPay 19 = .ok (.getfield 197, 3) := by decide +kernel
theorem dX8_wouldPay_22 : decode cX8_wouldPay 22 = .ok (.iconst 0, 1) := by decide +kernel
theorem dX8_wouldPay_23 : decode cX8_wouldPay 23 = .ok (.invokevirtual 238, 3) := by decide +kernel
theorem dX8_wouldPay_26 : decode cX8_wouldPay 26 = .ok (.checkcast 112, 3) := by decide +kernel
theorem dX8_wouldPay_29 : decode cX8_wouldPay 29 = .ok (.astore_n 3, 1) := by decide +kernel
theorem dX8_wouldPay_30 : decode cX8_wouldPay 30 = .ok (.aload_n 0, 1) := by decide +kernel
theorem dX8_wouldPay_31 : decode cX8_wouldPay 31 = .ok (.aload_n 3, 1) := by decide +kernel
theorem dX8_wouldPay_32 : decode cX8_wouldPay 32 = .ok (.aload_n 2, 1) := by decide +kernel
theorem dX8_wouldPay_33 : decode cX8_wouldPay 33 = .ok (.invokevirtual 241, 3) := by decide +kernel
theorem dX8_wouldPay_36 : decode cX8_wouldPay 36 = .ok (.ifCond .ne 5, 3) := by decide +kernel
theorem dX8_wouldPay_39 : decode cX8_wouldPay 39 = .ok (.iconst 0, 1) := by decide +kernel
theorem dX8_wouldPay_40 : decode cX8_wouldPay 40 = .ok (.ireturn, 1) := by decide +kernel
theorem dX8_wouldPay_41 : decode cX8_wouldPay 41 = .ok (.aload_n 2, 1) := by decide +kernel
theorem dX8_wouldPay_42 : decode cX8_wouldPay 42 = .ok (.aload_n 3, 1) := by decide +kernel
theorem dX8_wouldPay_43 : decode cX8_wouldPay 43 = .ok (.getfield 143, 3) := by decide +kernel
theorem dX8_wouldPay_46 : decode cX8_wouldPay 46 = .ok (.invokevirtual 387, 3) := by decide +kernel
theorem dX8_wouldPay_49 : decode cX8_wouldPay 49 = .ok (.astore 4, 2) := by decide +kernel
theorem dX8_wouldPay_51 : decode cX8_wouldPay 51 = .ok (.aload 4, 2) := by decide +kernel
theorem dX8_wouldPay_53 : decode cX8_wouldPay 53 = .ok (.aload_n 0, 1) := by decide +kernel
theorem dX8_wouldPay_54 : decode cX8_wouldPay 54 = .ok (.aload_n 0, 1) := by decide +kernel
theorem dX8_wouldPay_55 : decode cX8_wouldPay 55 = .ok (.aload_n 3, 1) := by decide +kernel
theorem dX8_wouldPay_56 : decode cX8_wouldPay 56 = .ok (.aload 4, 2) := by decide +kernel
theorem dX8_wouldPay_58 : decode cX8_wouldPay 58 = .ok (.invokevirtual 391, 3) := by decide +kernel
theorem dX8_wouldPay_61 : decode cX8_wouldPay 61 = .ok (.invokevirtual 395, 3) := by decide +kernel
theorem dX8_wouldPay_64 : decode cX8_wouldPay 64 = .ok (.invokevirtual 398, 3) := by decide +kernel
theorem dX8_wouldPay_67 : decode cX8_wouldPay 67 = .ok (.ireturn, 1) := by decide +kernel
set_option maxRecDepth 100000 in
theorem ggX8_isSound_X8_quotasOfAll : GoodIn wsX8_isSound wsX8_quotasOfAll := wk_g rfl wm_X8_isSound 2169 wc_X8_quotasOfAll rfl (by decide +kernel) (by decide +kernel) wq_X8_quotasOfAll
set_option maxRecDepth 100000 in
theorem gX8_isSound_X8_quotasOfAll : GoodIn wsX8_isSound (wsV RX8 401 RX8 yX8_quotasOfAll wsX8_quotasOfAll) := goodIn_app (wk_h rfl wm_X8_isSound [2166, 2168, 1000, 2001] (by decide +kernel) (by decide +kernel) (by decide +kernel)) ggX8_isSound_X8_quotasOfAll
set_option maxRecDepth 100000 in
theorem ggX8_isSound_Jx4a65c_size_8abf5 : GoodIn wsX8_isSound wsJx4a65c_size_8abf5 := wk_g rfl wm_X8_isSound 2173 wc_Jx4a65c_size_8abf5 rfl (by decide +kernel) (by decide +kernel) wq_Jx4a65c_size_8abf5
set_option maxRecDepth 100000 in
theorem gX8_isSound_Jx4a65c_size_8abf5 : GoodIn wsX8_isSound (wsV RX8 82 RJx4a65c yJx4a65c_size_8abf5 wsJx4a65c_size_8abf5) := goodIn_app (wk_h rfl wm_X8_isSound [2170, 2171, 2172, 2004] (by decide +kernel) (by decide +kernel) (by decide +kernel)) ggX8_isSound_Jx4a65c_size_8abf5
set_option maxRecDepth 100000 in
theorem ggX8_isSound_Jx4a65c_get_915e3 : GoodIn wsX8_isSound wsJx4a65c_get_915e3 := wk_g rfl wm_X8_isSound 2177 wc_Jx4a65c_get_915e3 rfl (by decide +kernel) (by decide +kernel) wq_Jx4a65c_get_915e3
set_option maxRecDepth 100000 in
theorem gX8_isSound_Jx4a65c_get_915e3 : GoodIn wsX8_isSound (wsV RX8 238 RJx4a65c yJx4a65c_get_915e3 wsJx4a65c_get_915e3) := goodIn_app (wk_h rfl wm_X8_isSound [2174, 2175, 2176, 2004] (by decide +kernel) (by decide +kernel) (by decide +kernel)) ggX8_isSound_Jx4a65c_get_915e3
set_option maxRecDepth 100000 in
theorem ggX8_isSound_X8_sleeperIsSound : GoodIn wsX8_isSound wsX8_sleeperIsSound := wk_g rfl wm_X8_isSound 2192 wc_X8_sleeperIsSound rfl (by decide +kernel) (by decide +kernel) wq_X8_sleeperIsSound
set_option maxRecDepth 100000 in
theorem gX8_isSound_X8_sleeperIsSound : GoodIn wsX8_isSound (wsV RX8 404 RX8 yX8_sleeperIsSound wsX8_sleeperIsSound) := goodIn_app (wk_h rfl wm_X8_isSound [2189, 2191, 1001, 2001] (by decide +kernel) (by decide +kernel) (by decide +kernel)) ggX8_isSound_X8_sleeperIsSound
set_option maxRecDepth 100000 in
theorem ggX8_isSound_X0_babiesAreAhead : GoodIn wsX8_isSound wsX0_babiesAreAhead := wk_g rfl wm_X8_isSound 2212 wc_X0_babiesAreAhead rfl (by decide +kernel) (by decide +kernel) wq_X0_babiesAreAhead
set_option maxRecDepth 100000 in
theorem gX8_isSound_X0_babiesAreAhead : GoodIn wsX8_isSound (wsV RX8 408 RX0 yX0_babiesAreAhead wsX0_babiesAreAhead) := goodIn_app (wk_h rfl wm_X8_isSound [2209, 2210, 2211, 2016] (by decide +kernel) (by decide +kernel) (by decide +kernel)) ggX8_isSound_X0_babiesAreAhead
theorem dX8_isSound_0 : decode cX8_isSound 0 = .ok (.aload_n 0, 1) := by decide +kernel
theorem dX8_isSound_1 : decode cX8_isSound 1 = .ok (.invokevirtual 401, 3) := by decide +kernel
theorem dX8_isSound_4 : decode cX8_isSound 4 = .ok (.bipush 30, 2) := by decide +kernel
theorem dX8_isSound_6 : decode cX8_isSound 6 = .ok (.if_icmp .ne 15, 3) := by decide +kernel
theorem dX8_isSound_9 : decode cX8_isSound 9 = .ok (.aload_n 0, 1) := by decide +kernel
theorem dX8_isSound_10 : decode cX8_isSound 10 = .ok (.getfield 28, 3) := by decide +kernel
theorem dX8_isSound_13 : decode cX8_isSound 13 = .ok (.invokevirtual 82, 3) := by decide +kernel
theorem dX8_isSound_16 : decode cX8_isSound 16 = .ok (.bipush 40, 2) := by decide +kernel
theorem dX8_isSound_18 : decode cX8_isSound 18 = .ok (.if_icmp .le 5, 3) := by decide +kernel
theorem dX8_isSound_21 : decode cX8_isSound 21 = .ok (.iconst 0, 1) := by decide +kernel
theorem dX8_isSound_22 : decode cX8_isSound 22 = .ok (.ireturn, 1) := by decide +kernel
theorem dX8_isSound_23 : decode cX8_isSound 23 = .ok (.iconst 0, 1) := by decide +kernel
theorem dX8_isSound_24 : decode cX8_isSound 24 = .ok (.istore_n 1, 1) := by decide +kernel
theorem dX8_isSound_25 : decode cX8_isSound 25 = .ok (.iload_n 1, 1) := by decide +kernel
theorem dX8_isSound_26 : decode cX8_isSound 26 = .ok (.aload_n 0, 1) := by decide +kernel
theorem dX8_isSound_27 : decode cX8_isSound 27 = .ok (.getfield 22, 3) := by decide +kernel
theorem dX8_isSound_30 : decode cX8_isSound 30 = .ok (.invokevirtual 82, 3) := by decide +kernel
theorem dX8_isSound_33 : decode cX8_isSound 33 = .ok (.if_icmp .ge 29, 3) := by decide +kernel
theorem dX8_isSound_36 : decode cX8_isSound 36 = .ok (.aload_n 0, 1) := by decide +kernel
theorem dX8_isSound_37 : decode cX8_isSound 37 = .ok (.aload_n 0, 1) := by decide +kernel
theorem dX8_isSound_38 : decode cX8_isSound 38 = .ok (.getfield 22, 3) := by decide +kernel
theorem dX8_isSound_41 : decode cX8_isSound 41 = .ok (.iload_n 1, 1) := by decide +kernel
theorem dX8_isSound_42 : decode cX8_isSound 42 = .ok (.invokevirtual 238, 3) := by decide +kernel
theorem dX8_isSound_45 : decode cX8_isSound 45 = .ok (.checkcast 112, 3) := by decide +kernel
theorem dX8_isSound_48 : decode cX8_isSound 48 = .ok (.invokevirtual 404, 3) := by decide +kernel
theorem dX8_isSound_51 : decode cX8_isSound 51 = .ok (.ifCond .ne 5, 3) := by decide +kernel
theorem dX8_isSound_54 : decode cX8_isSound 54 = .ok (.iconst 0, 1) := by decide +kernel
theorem dX8_isSound_55 : decode cX8_isSound 55 = .ok (.ireturn, 1) := by decide +kernel
theorem dX8_isSound_56 : decode cX8_isSound 56 = .ok (.iinc 1 1, 3) := by decide +kernel
theorem dX8_isSound_59 : decode cX8_isSound 59 = .ok (.goto (-34), 3) := by decide +kernel
theorem dX8_isSound_62 : decode cX8_isSound 62 = .ok (.iconst 0, 1) := by decide +kernel
theorem dX8_isSound_63 : decode cX8_isSound 63 = .ok (.istore_n 1, 1) := by decide +kernel
theorem dX8_isSound_64 : decode cX8_isSound 64 = .ok (.iload_n 1, 1) := by decide +kernel
theorem dX8_isSound_65 : decode cX8_isSound 65 = .ok (.aload_n 0, 1) := by decide +kernel
theorem dX8_isSound_66 : decode cX8_isSound 66 = .ok (.getfield 18, 3) := by decide +kernel
theorem dX8_isSound_69 : decode cX8_isSound 69 = .ok (.invokevirtual 82, 3) := by decide +kernel
theorem dX8_isSound_72 : decode cX8_isSound 72 = .ok (.if_icmp .ge 28, 3) := by decide +kernel
theorem dX8_isSound_75 : decode cX8_isSound 75 = .ok (.aload_n 0, 1) := by decide +kernel
theorem dX8_isSound_76 : decode cX8_isSound 76 = .ok (.getfield 18, 3) := by decide +kernel
theorem dX8_isSound_79 : decode cX8_isSound 79 = .ok (.iload_n 1, 1) := by decide +kernel
theorem dX8_isSound_80 : decode cX8_isSound 80 = .ok (.invokevirtual 238, 3) := by decide +kernel
theorem dX8_isSound_83 : decode cX8_isSound 83 = .ok (.checkcast 88, 3) := by decide +kernel
theorem dX8_isSound_86 : decode cX8_isSound 86 = .ok (.invokevirtual 408, 3) := by decide +kernel
theorem dX8_isSound_89 : decode cX8_isSound 89 = .ok (.ifCond .ne 5, 3) := by decide +kernel
theorem dX8_isSound_92 : decode cX8_isSound 92 = .ok (.iconst 0, 1) := by decide +kernel
theorem dX8_isSound_93 : decode cX8_isSound 93 = .ok (.ireturn, 1) := by decide +kernel
theorem dX8_isSound_94 : decode cX8_isSound 94 = .ok (.iinc 1 1, 3) := by decide +kernel
theorem dX8_isSound_97 : decode cX8_isSound 97 = .ok (.goto (-33), 3) := by decide +kernel
theorem dX8_isSound_100 : decode cX8_isSound 100 = .ok (.iconst 1, 1) := by decide +kernel
theorem dX8_isSound_101 : decode cX8_isSound 101 = .ok (.ireturn, 1) := by decide +kernel
set_option maxRecDepth 100000 in
theorem ggX8_digest_X8_night : GoodIn wsX8_digest wsX8_night := goodIn_ca (wk_g bm_X8_digest wm_X8_digest 2223 wc_X8_night rfl (by decide +kernel) (by decide +kernel) wq_X8_night) (goodIn_sub (fun _ h => List.mem_cons_of_mem _ (List.mem_append_left _ (List.mem_append_right _ h))) (by decide +kernel))
set_option maxRecDepth 100000 in
theorem gX8_digest_X8_night : GoodIn wsX8_digest (wsV RX8 415 RX8 yX8_night wsX8_night) := goodIn_app (wk_h bm_X8_digest wm_X8_digest [2220, 2221, 2222, 2001] (by decide +kernel) (by decide +kernel) (by decide +kernel)) ggX8_digest_X8_night
set_option maxRecDepth 100000 in
theorem ggX8_digest_X8_ofLand : GoodIn wsX8_digest wsX8_ofLand := goodIn_ca (goodIn_ca (wk_g bm_X8_digest wm_X8_digest 3079 wc_X8_ofLand rfl (by decide +kernel) (by decide +kernel) wq_X8_ofLand) (goodIn_sub (fun _ h => List.mem_cons_of_mem _ (List.mem_append_left _ (List.mem_append_right _ h))) (by decide +kernel))) (goodIn_sub (fun _ h => List.mem_cons_of_mem _ (List.mem_append_right _ h)) (by decide +kernel))
set_option maxRecDepth 100000 in
theorem gX8_digest_X8_ofLand : GoodIn wsX8_digest (wsV RX8 417 RX8 yX8_ofLand wsX8_ofLand) := goodIn_app (wk_h bm_X8_digest wm_X8_digest [3076, 3077, 3078, 2001] (by decide +kernel) (by decide +kernel) (by decide +kernel)) ggX8_digest_X8_ofLand
set_option maxRecDepth 100000 in
theorem ggX8_digest_Jx4a65c_size_8abf5 : GoodIn wsX8_digest wsJx4a65c_size_8abf5 := wk_g bm_X8_digest wm_X8_digest 2173 wc_Jx4a65c_size_8abf5 rfl (by decide +kernel) (by decide +kernel) wq_Jx4a65c_size_8abf5
set_option maxRecDepth 100000 in
theorem gX8_digest_Jx4a65c_size_8abf5 : GoodIn wsX8_digest (wsV RX8 82 RJx4a65c yJx4a65c_size_8abf5 wsJx4a65c_size_8abf5) := goodIn_app (wk_h bm_X8_digest wm_X8_digest [2170, 2171, 2172, 2004] (by decide +kernel) (by decide +kernel) (by decide +kernel)) ggX8_digest_Jx4a65c_size_8abf5
set_option maxRecDepth 100000 in
theorem ggX8_digest_X8_ofGate : GoodIn wsX8_digest wsX8_ofGate := goodIn_ca (goodIn_ca (wk_g bm_X8_digest wm_X8_digest 3116 wc_X8_ofGate rfl (by decide +kernel) (by decide +kernel) wq_X8_ofGate) (goodIn_sub (fun _ h => List.mem_cons_of_mem _ (List.mem_append_left _ (List.mem_append_right _ h))) (by decide +kernel))) (goodIn_sub (fun _ h => List.mem_cons_of_mem _ (List.mem_append_right _ h)) (by decide +kernel))
set_option maxRecDepth 100000 in
theorem gX8_digest_X8_ofGate : GoodIn wsX8_digest (wsV RX8 421 RX8 yX8_ofGate wsX8_ofGate) := goodIn_app (wk_h bm_X8_digest wm_X8_digest [3113, 3114, 3115, 2001] (by decide +kernel) (by decide +kernel) (by decide +kernel)) ggX8_digest_X8_ofGate
set_option maxRecDepth 100000 in
theorem ggX8_digest_X8_wouldPay : GoodIn wsX8_digest wsX8_wouldPay := goodIn_ca (wk_g bm_X8_digest wm_X8_digest 3160 wc_X8_wouldPay rfl (by decide +kernel) (by decide +kernel) wq_X8_wouldPay) (goodIn_sub (fun _ h => List.mem_cons_of_mem _ (List.mem_append_right _ h)) (by decide +kernel))
set_option maxRecDepth 100000 in
theorem gX8_digest_X8_wouldPay : GoodIn wsX8_digest (wsV RX8 424 RX8 yX8_wouldPay wsX8_wouldPay) := goodIn_app (wk_h bm_X8_digest wm_X8_digest [3157, 3158, 3159, 2001] (by decide +kernel) (by decide +kernel) (by decide +kernel)) ggX8_digest_X8_wouldPay
set_option maxRecDepth 100000 in
theorem ggX8_digest_X8_ofSleeper : GoodIn wsX8_digest wsX8_ofSleeper := goodIn_ca (goodIn_ca (wk_g bm_X8_digest wm_X8_digest 3199 wc_X8_ofSleeper rfl (by decide +kernel) (by decide +kernel) wq_X8_ofSleeper) (goodIn_sub (fun _ h => List.mem_cons_of_mem _ (List.mem_append_left _ (List.mem_append_right _ h))) (by decide +kernel))) (goodIn_sub (fun _ h => List.mem_cons_of_mem _ (List.mem_append_right _ h)) (by decide +kernel))
set_option maxRecDepth 100000 in
theorem gX8_digest_X8_ofSleeper : GoodIn wsX8_digest (wsV RX8 427 RX8 yX8_ofSleeper wsX8_ofSleeper) := goodIn_app (wk_h bm_X8_digest wm_X8_digest [3196, 3197, 3198, 2001] (by decide +kernel) (by decide +kernel) (by decide +kernel)) ggX8_digest_X8_ofSleeper
set_option maxRecDepth 100000 in
theorem ggX8_digest_X8_ofPart : GoodIn wsX8_digest wsX8_ofPart := goodIn_ca (goodIn_ca (wk_g bm_X8_digest wm_X8_digest 3225 wc_X8_ofPart rfl (by decide +kernel) (by decide +kernel) wq_X8_ofPart) (goodIn_sub (fun _ h => List.mem_cons_of_mem _ (List.mem_append_left _ (List.mem_append_right _ h))) (by decide +kernel))) (goodIn_sub (fun _ h => List.mem_cons_of_mem _ (List.mem_append_right _ h)) (by decide +kernel))
set_option maxRecDepth 100000 in
theorem gX8_digest_X8_ofPart : GoodIn wsX8_digest (wsV RX8 430 RX8 yX8_ofPart wsX8_ofPart) := goodIn_app (wk_h bm_X8_digest wm_X8_digest [3222, 3223, 3224, 2001] (by decide +kernel) (by decide +kernel) (by decide +kernel)) ggX8_digest_X8_ofPart
set_option maxRecDepth 100000 in
theorem ggX8_digest_X8_way : GoodIn wsX8_digest wsX8_way := goodIn_ca (wk_g bm_X8_digest wm_X8_digest 3235 wc_X8_way rfl (by decide +kernel) (by decide +kernel) wq_X8_way) (goodIn_sub (fun _ h => List.mem_cons_of_mem _ (List.mem_append_right _ h)) (by decide +kernel))
set_option maxRecDepth 100000 in
theorem gX8_digest_X8_way : GoodIn wsX8_digest (wsV RX8 433 RX8 yX8_way wsX8_way) := goodIn_app (wk_h bm_X8_digest wm_X8_digest [3232, 3233, 3234, 2001] (by decide +kernel) (by decide +kernel) (by decide +kernel)) ggX8_digest_X8_way
set_option maxRecDepth 100000 in
theorem ggX8_digest_X8_plan : GoodIn wsX8_digest wsX8_plan := goodIn_ca (goodIn_ca (wk_g bm_X8_digest wm_X8_digest 4007 wc_X8_plan rfl (by decide +kernel) (by decide +kernel) wq_X8_plan) (goodIn_sub (fun _ h => List.mem_cons_of_mem _ (List.mem_append_right _ h)) (by decide +kernel))) (goodIn_sub (fun _ h => List.mem_cons_of_mem _ (List.mem_append_left _ (List.mem_append_right _ h))) (by decide +kernel))
set_option maxRecDepth 100000 in
theorem gX8_digest_X8_plan : GoodIn wsX8_digest (wsV RX8 436 RX8 yX8_plan wsX8_plan) := goodIn_app (wk_h bm_X8_digest wm_X8_digest [4004, 4005, 4006, 2001] (by decide +kernel) (by decide +kernel) (by decide +kernel)) ggX8_digest_X8_plan
set_option maxRecDepth 100000 in
theorem ggX8_digest_X8_isSound : GoodIn wsX8_digest wsX8_isSound := wk_g bm_X8_digest wm_X8_digest 2165 wc_X8_isSound rfl (by decide +kernel) (by decide +kernel) wq_X8_isSound
set_option maxRecDepth 100000 in
theorem gX8_digest_X8_isSound : GoodIn wsX8_digest (wsV RX8 439 RX8 yX8_isSound wsX8_isSound) := goodIn_app (wk_h bm_X8_digest wm_X8_digest [4041, 2163, 2164, 2001] (by decide +kernel) (by decide +kernel) (by decide +kernel)) ggX8_digest_X8_isSound
theorem dX8_digest_0 : decode cX8_digest 0 = .ok (.ldc2_w 411, 3) := by decide +kernel
theorem dX8_digest_3 : decode cX8_digest 3 = .ok (.lstore_n 1, 1) := by decide +kernel
theorem dX8_digest_4 : decode cX8_digest 4 = .ok (.iconst 0, 1) := by decide +kernel
theorem dX8_digest_5 : decode cX8_digest 5 = .ok (.istore_n 3, 1) := by decide +kernel
theorem dX8_digest_6 : decode cX8_digest 6 = .ok (.iload_n 3, 1) := by decide +kernel
theorem dX8_digest_7 : decode cX8_digest 7 = .ok (.bipush 16, 2) := by decide +kernel
theorem dX8_digest_9 : decode cX8_digest 9 = .ok (.if_icmp .gt 22, 3) := by decide +kernel
theorem dX8_digest_12 : decode cX8_digest 12 = .ok (.lload_n 1, 1) := by decide +kernel
theorem dX8_digest_13 : decode cX8_digest 13 = .ok (.ldc2_w 413, 3) := by decide +kernel
theorem dX8_digest_16 : decode cX8_digest 16 = .ok (.lmul, 1) := by decide +kernel
theorem dX8_digest_17 : decode cX8_digest 17 = .ok (.aload_n 0, 1) := by decide +kernel
theorem dX8_digest_18 : decode cX8_digest 18 = .ok (.iload_n 3, 1) := by decide +kernel
theorem dX8_digest_19 : decode cX8_digest 19 = .ok (.invokevirtual 415, 3) := by decide +kernel
theorem dX8_digest_22 : decode cX8_digest 22 = .ok (.i2l, 1) := by decide +kernel
theorem dX8_digest_23 : decode cX8_digest 23 = .ok (.ladd, 1) := by decide +kernel
theorem dX8_digest_24 : decode cX8_digest 24 = .ok (.lstore_n 1, 1) := by decide +kernel
theorem dX8_digest_25 : decode cX8_digest 25 = .ok (.iinc 3 1, 3) := by decide +kernel
theorem dX8_digest_28 : decode cX8_digest 28 = .ok (.goto (-22), 3) := by decide +kernel
theorem dX8_digest_31 : decode cX8_digest 31 = .ok (.iconst 0, 1) := by decide +kernel
theorem dX8_digest_32 : decode cX8_digest 32 = .ok (.istore_n 3, 1) := by decide +kernel
theorem dX8_digest_33 : decode cX8_digest 33 = .ok (.iload_n 3, 1) := by decide +kernel
theorem dX8_digest_34 : decode cX8_digest 34 = .ok (.bipush 6, 2) := by decide +kernel
theorem dX8_digest_36 : decode cX8_digest 36 = .ok (.if_icmp .ge 40, 3) := by decide +kernel
theorem dX8_digest_39 : decode cX8_digest 39 = .ok (.iconst 0, 1) := by decide +kernel
theorem dX8_digest_40 : decode cX8_digest 40 = .ok (.istore 4, 2) := by decide +kernel
theorem dX8_digest_42 : decode cX8_digest 42 = .ok (.iload 4, 2) := by decide +kernel
theorem dX8_digest_44 : decode cX8_digest 44 = .ok (.bipush 8, 2) := by decide +kernel
theorem dX8_digest_46 : decode cX8_digest 46 = .ok (.if_icmp .gt 24, 3) := by decide +kernel
theorem dX8_digest_49 : decode cX8_digest 49 = .ok (.lload_n 1, 1) := by decide +kernel
theorem dX8_digest_50 : decode cX8_digest 50 = .ok (.ldc2_w 413, 3) := by decide +kernel
theorem dX8_digest_53 : decode cX8_digest 53 = .ok (.lmul, 1) := by decide +kernel
theorem dX8_digest_54 : decode cX8_digest 54 = .ok (.aload_n 0, 1) := by decide +kernel
theorem dX8_digest_55 : decode cX8_digest 55 = .ok (.iload_n 3, 1) := by decide +kernel
theorem dX8_digest_56 : decode cX8_digest 56 = .ok (.iload 4, 2) := by decide +kernel
theorem dX8_digest_58 : decode cX8_digest 58 = .ok (.invokevirtual 417, 3) := by decide +kernel
theorem dX8_digest_61 : decode cX8_digest 61 = .ok (.i2l, 1) := by decide +kernel
theorem dX8_digest_62 : decode cX8_digest 62 = .ok (.ladd, 1) := by decide +kernel
theorem dX8_digest_63 : decode cX8_digest 63 = .ok (.lstore_n 1, 1) := by decide +kernel
theorem dX8_digest_64 : decode cX8_digest 64 = .ok (.iinc 4 1, 3) := by decide +kernel
theorem dX8_digest_67 : decode cX8_digest 67 = .ok (.goto (-25), 3) := by decide +kernel
theorem dX8_digest_70 : decode cX8_digest 70 = .ok (.iinc 3 1, 3) := by decide +kernel
theorem dX8_digest_73 : decode cX8_digest 73 = .ok (.goto (-40), 3) := by decide +kernel
theorem dX8_digest_76 : decode cX8_digest 76 = .ok (.iconst 0, 1) := by decide +kernel
theorem dX8_digest_77 : decode cX8_digest 77 = .ok (.istore_n 3, 1) := by decide +kernel
theorem dX8_digest_78 : decode cX8_digest 78 = .ok (.iload_n 3, 1) := by decide +kernel
theorem dX8_digest_79 : decode cX8_digest 79 = .ok (.aload_n 0, 1) := by decide +kernel
theorem dX8_digest_80 : decode cX8_digest 80 = .ok (.getfield 18, 3) := by decide +kernel
theorem dX8_digest_83 : decode cX8_digest 83 = .ok (.invokevirtual 82, 3) := by decide +kernel
theorem dX8_digest_86 : decode cX8_digest 86 = .ok (.if_icmp .ge 53, 3) := by decide +kernel
theorem dX8_digest_89 : decode cX8_digest 89 = .ok (.iconst 2, 1) := by decide +kernel
theorem dX8_digest_90 : decode cX8_digest 90 = .ok (.istore 4, 2) := by decide +kernel
theorem dX8_digest_92 : decode cX8_digest 92 = .ok (.iload 4, 2) := by decide +kernel
theorem dX8_digest_94 : decode cX8_digest 94 = .ok (.bipush 9, 2) := by decide +kernel
theorem dX8_digest_96 : decode cX8_digest 96 = .ok (.if_icmp .gt 24, 3) := by decide +kernel
theorem dX8_digest_99 : decode cX8_digest 99 = .ok (.lload_n 1, 1) := by decide +kernel
theorem dX8_digest_100 : decode cX8_digest 100 = .ok (.ldc2_w 413, 3) := by decide +kernel
theorem dX8_digest_103 : decode cX8_digest 103 = .ok (.lmul, 1) := by decide +kernel
theorem dX8_digest_104 : decode cX8_digest 104 = .ok (.aload_n 0, 1) := by decide +kernel
theorem dX8_digest_105 : decode cX8_digest 105 = .ok (.iload_n 3, 1) := by decide +kernel
theorem dX8_digest_106 : decode cX8_digest 106 = .ok (.iload 4, 2) := by decide +kernel
theorem dX8_digest_108 : decode cX8_digest 108 = .ok (.invokevirtual 421, 3) := by decide +kernel
theorem dX8_digest_111 : decode cX8_digest 111 = .ok (.i2l, 1) := by decide +kernel
theorem dX8_digest_112 : decode cX8_digest 112 = .ok (.ladd, 1) := by decide +kernel
theorem dX8_digest_113 : decode cX8_digest 113 = .ok (.lstore_n 1, 1) := by decide +kernel
theorem dX8_digest_114 : decode cX8_digest 114 = .ok (.iinc 4 1, 3) := by decide +kernel
theorem dX8_digest_117 : decode cX8_digest 117 = .ok (.goto (-25), 3) := by decide +kernel
theorem dX8_digest_120 : decode cX8_digest 120 = .ok (.lload_n 1, 1) := by decide +kernel
theorem dX8_digest_121 : decode cX8_digest 121 = .ok (.ldc2_w 413, 3) := by decide +kernel
theorem dX8_digest_124 : decode cX8_digest 124 = .ok (.lmul, 1) := by decide +kernel
theorem dX8_digest_125 : decode cX8_digest 125 = .ok (.aload_n 0, 1) := by decide +kernel
theorem dX8_digest_126 : decode cX8_digest 126 = .ok (.iload_n 3, 1) := by decide +kernel
theorem dX8_digest_127 : decode cX8_digest 127 = .ok (.invokevirtual 424, 3) := by decide +kernel
theorem dX8_digest_130 : decode cX8_digest 130 = .ok (.i2l, 1) := by decide +kernel
theorem dX8_digest_131 : decode cX8_digest 131 = .ok (.ladd, 1) := by decide +kernel
theorem dX8_digest_132 : decode cX8_digest 132 = .ok (.lstore_n 1, 1) := by decide +kernel
theorem dX8_digest_133 : decode cX8_digest 133 = .ok (.iinc 3 1, 3) := by decide +kernel
theorem dX8_digest_136 : decode cX8_digest 136 = .ok (.goto (-58), 3) := by decide +kernel
theorem dX8_digest_139 : decode cX8_digest 139 = .ok (.iconst 0, 1) := by decide +kernel
theorem dX8_digest_140 : decode cX8_digest 140 = .ok (.istore_n 3, 1) := by decide +kernel
theorem dX8_digest_141 : decode cX8_digest 141 = .ok (.iload_n 3, 1) := by decide +kernel
theorem dX8_digest_142 : decode cX8_digest 142 = .ok (.aload_n 0, 1) := by decide +kernel
theorem dX8_digest_143 : decode cX8_digest 143 = .ok (.getfield 22, 3) := by decide +kernel
theorem dX8_digest_146 : decode cX8_digest 146 = .ok (.invokevirtual 82, 3) := by decide +kernel
theorem dX8_digest_149 : decode cX8_digest 149 = .ok (.if_icmp .ge 40, 3) := by decide +kernel
theorem dX8_digest_152 : decode cX8_digest 152 = .ok (.iconst 0, 1) := by decide +kernel
theorem dX8_digest_153 : decode cX8_digest 153 = .ok (.istore 4, 2) := by decide +kernel
theorem dX8_digest_155 : decode cX8_digest 155 = .ok (.iload 4, 2) := by decide +kernel
theorem dX8_digest_157 : decode cX8_digest 157 = .ok (.bipush 8, 2) := by decide +kernel
theorem dX8_digest_159 : decode cX8_digest 159 = .ok (.if_icmp .gt 24, 3) := by decide +kernel
theorem dX8_digest_162 : decode cX8_digest 162 = .ok (.lload_n 1, 1) := by decide +kernel
theorem dX8_digest_163 : decode cX8_digest 163 = .ok (.ldc2_w 413, 3) := by decide +kernel
theorem dX8_digest_166 : decode cX8_digest 166 = .ok (.lmul, 1) := by decide +kernel
theorem dX8_digest_167 : decode cX8_digest 167 = .ok (.aload_n 0, 1) := by decide +kernel
theorem dX8_digest_168 : decode cX8_digest 168 = .ok (.iload_n 3, 1) := by decide +kernel
theorem dX8_digest_169 : decode cX8_digest 169 = .ok (.iload 4, 2) := by decide +kernel
theorem dX8_digest_171 : decode cX8_digest 171 = .ok (.invokevirtual 427, 3) := by decide +kernel
theorem dX8_digest_174 : decode cX8_digest 174 = .ok (.i2l, 1) := by decide +kernel
theorem dX8_digest_175 : decode cX8_digest 175 = .ok (.ladd, 1) := by decide +kernel
theorem dX8_digest_176 : decode cX8_digest 176 = .ok (.lstore_n 1, 1) := by decide +kernel
theorem dX8_digest_177 : decode cX8_digest 177 = .ok (.iinc 4 1, 3) := by decide +kernel
theorem dX8_digest_180 : decode cX8_digest 180 = .ok (.goto (-25), 3) := by decide +kernel
theorem dX8_digest_183 : decode cX8_digest 183 = .ok (.iinc 3 1, 3) := by decide +kernel
theorem dX8_digest_186 : decode cX8_digest 186 = .ok (.goto (-45), 3) := by decide +kernel
theorem dX8_digest_189 : decode cX8_digest 189 = .ok (.iconst 0, 1) := by decide +kernel
theorem dX8_digest_190 : decode cX8_digest 190 = .ok (.istore_n 3, 1) := by decide +kernel
theorem dX8_digest_191 : decode cX8_digest 191 = .ok (.iload_n 3, 1) := by decide +kernel
theorem dX8_digest_192 : decode cX8_digest 192 = .ok (.aload_n 0, 1) := by decide +kernel
theorem dX8_digest_193 : decode cX8_digest 193 = .ok (.getfield 25, 3) := by decide +kernel
theorem dX8_digest_196 : decode cX8_digest 196 = .ok (.invokevirtual 82, 3) := by decide +kernel
theorem dX8_digest_199 : decode cX8_digest 199 = .ok (.if_icmp .ge 39, 3) := by decide +kernel
theorem dX8_digest_202 : decode cX8_digest 202 = .ok (.iconst 3, 1) := by decide +kernel
theorem dX8_digest_203 : decode cX8_digest 203 = .ok (.istore 4, 2) := by decide +kernel
theorem dX8_digest_205 : decode cX8_digest 205 = .ok (.iload 4, 2) := by decide +kernel
theorem dX8_digest_207 : decode cX8_digest 207 = .ok (.iconst 5, 1) := by decide +kernel
theorem dX8_digest_208 : decode cX8_digest 208 = .ok (.if_icmp .gt 24, 3) := by decide +kernel
theorem dX8_digest_211 : decode cX8_digest 211 = .ok (.lload_n 1, 1) := by decide +kernel
theorem dX8_digest_212 : decode cX8_digest 212 = .ok (.ldc2_w 413, 3) := by decide +kernel
theorem dX8_digest_215 : decode cX8_digest 215 = .ok (.lmul, 1) := by decide +kernel
theorem dX8_digest_216 : decode cX8_digest 216 = .ok (.aload_n 0, 1) := by decide +kernel
theorem dX8_digest_217 : decode cX8_digest 217 = .ok (.iload_n 3, 1) := by decide +kernel
theorem dX8_digest_218 : decode cX8_digest 218 = .ok (.iload 4, 2) := by decide +kernel
theorem dX8_digest_220 : decode cX8_digest 220 = .ok (.invokevirtual 430, 3) := by decide +kernel
theorem dX8_digest_223 : decode cX8_digest 223 = .ok (.i2l, 1) := by decide +kernel
theorem dX8_digest_224 : decode cX8_digest 224 = .ok (.ladd, 1) := by decide +kernel
theorem dX8_digest_225 : decode cX8_digest 225 = .ok (.lstore_n 1, 1) := by decide +kernel
theorem dX8_digest_226 : decode cX8_digest 226 = .ok (.iinc 4 1, 3) := by decide +kernel
theorem dX8_digest_229 : decode cX8_digest 229 = .ok (.goto (-24), 3) := by decide +kernel
theorem dX8_digest_232 : decode cX8_digest 232 = .ok (.iinc 3 1, 3) := by decide +kernel
theorem dX8_digest_235 : decode cX8_digest 235 = .ok (.goto (-44), 3) := by decide +kernel
theorem dX8_digest_238 : decode cX8_digest 238 = .ok (.iconst 0, 1) := by decide +kernel
theorem dX8_digest_239 : decode cX8_digest 239 = .ok (.istore_n 3, 1) := by decide +kernel
theorem dX8_digest_240 : decode cX8_digest 240 = .ok (.iload_n 3, 1) := by decide +kernel
theorem dX8_digest_241 : decode cX8_digest 241 = .ok (.bipush 6, 2) := by decide +kernel
theorem dX8_digest_243 : decode cX8_digest 243 = .ok (.if_icmp .ge 23, 3) := by decide +kernel
theorem dX8_digest_246 : decode cX8_digest 246 = .ok (.lload_n 1, 1) := by decide +kernel
theorem dX8_digest_247 : decode cX8_digest 247 = .ok (.ldc2_w 413, 3) := by decide +kernel
theorem dX8_digest_250 : decode cX8_digest 250 = .ok (.lmul, 1) := by decide +kernel
theorem dX8_digest_251 : decode cX8_digest 251 = .ok (.aload_n 0, 1) := by decide +kernel
theorem dX8_digest_252 : decode cX8_digest 252 = .ok (.iconst 0, 1) := by decide +kernel
theorem dX8_digest_253 : decode cX8_digest 253 = .ok (.iload_n 3, 1) := by decide +kernel
theorem dX8_digest_254 : decode cX8_digest 254 = .ok (.invokevirtual 433, 3) := by decide +kernel
theorem dX8_digest_257 : decode cX8_digest 257 = .ok (.i2l, 1) := by decide +kernel
theorem dX8_digest_258 : decode cX8_digest 258 = .ok (.ladd, 1) := by decide +kernel
theorem dX8_digest_259 : decode cX8_digest 259 = .ok (.lstore_n 1, 1) := by decide +kernel
theorem dX8_digest_260 : decode cX8_digest 260 = .ok (.iinc 3 1, 3) := by decide +kernel
theorem dX8_digest_263 : decode cX8_digest 263 = .ok (.goto (-23), 3) := by decide +kernel
theorem dX8_digest_266 : decode cX8_digest 266 = .ok (.lload_n 1, 1) := by decide +kernel
theorem dX8_digest_267 : decode cX8_digest 267 = .ok (.ldc2_w 413, 3) := by decide +kernel
theorem dX8_digest_270 : decode cX8_digest 270 = .ok (.lmul, 1) := by decide +kernel
theorem dX8_digest_271 : decode cX8_digest 271 = .ok (.aload_n 0, 1) := by decide +kernel
theorem dX8_digest_272 : decode cX8_digest 272 = .ok (.bipush 20, 2) := by decide +kernel
theorem dX8_digest_274 : decode cX8_digest 274 = .ok (.iconst (-1), 1) := by decide +kernel
theorem dX8_digest_275 : decode cX8_digest 275 = .ok (.invokevirtual 436, 3) := by decide +kernel
theorem dX8_digest_278 : decode cX8_digest 278 = .ok (.i2l, 1) := by decide +kernel
theorem dX8_digest_279 : decode cX8_digest 279 = .ok (.ladd, 1) := by decide +kernel
theorem dX8_digest_280 : decode cX8_digest 280 = .ok (.lstore_n 1, 1) := by decide +kernel
theorem dX8_digest_281 : decode cX8_digest 281 = .ok (.lload_n 1, 1) := by decide +kernel
theorem dX8_digest_282 : decode cX8_digest 282 = .ok (.ldc2_w 413, 3) := by decide +kernel
theorem dX8_digest_285 : decode cX8_digest 285 = .ok (.lmul, 1) := by decide +kernel
theorem dX8_digest_286 : decode cX8_digest 286 = .ok (.aload_n 0, 1) := by decide +kernel
theorem dX8_digest_287 : decode cX8_digest 287 = .ok (.invokevirtual 439, 3) := by decide +kernel
theorem dX8_digest_290 : decode cX8_digest 290 = .ok (.ifCond .eq 7, 3) := by decide +kernel
theorem dX8_digest_293 : decode cX8_digest 293 = .ok (.iconst 1, 1) := by decide +kernel
theorem dX8_digest_294 : decode cX8_digest 294 = .ok (.goto 4, 3) := by decide +kernel
theorem dX8_digest_297 : decode cX8_digest 297 = .ok (.iconst 0, 1) := by decide +kernel
theorem dX8_digest_298 : decode cX8_digest 298 = .ok (.i2l, 1) := by decide +kernel
theorem dX8_digest_299 : decode cX8_digest 299 = .ok (.ladd, 1) := by decide +kernel
theorem dX8_digest_300 : decode cX8_digest 300 = .ok (.lreturn, 1) := by decide +kernel
theorem dX8_landNumbered_0 : decode cX8_landNumbered 0 = .ok (.iload_n 1, 1) := by decide +kernel
theorem dX8_landNumbered_1 : decode cX8_landNumbered 1 = .ok (.ifCond .lt 9, 3) := by decide +kernel
theorem dX8_landNumbered_4 : decode cX8_landNumbered 4 = .ok (.iload_n 1, 1) := by decide +kernel
theorem dX8_landNumbered_5 : decode cX8_landNumbered 5 = .ok (.bipush 6, 2) := by decide +kernel
theorem dX8_landNumbered_7 : decode cX8_landNumbered 7 = .ok (.if_icmp .lt 14, 3) := by decide +kernel
theorem dX8_landNumbered_10 : decode cX8_landNumbered 10 = .ok (.new 442, 3) := by decide +kernel
theorem dX8_landNumbered_13 : decode cX8_landNumbered 13 = .ok (.dup, 1) := by decide +kernel
theorem dX8_landNumbered_14 : decode cX8_landNumbered 14 = .ok (.ldc_w 444, 3) := by decide +kernel
theorem dX8_landNumbered_17 : decode cX8_landNumbered 17 = .ok (.invokespecial 446, 3) := by decide +kernel
theorem dX8_landNumbered_20 : decode cX8_landNumbered 20 = .ok (.athrow, 1) := by decide +kernel
theorem dX8_landNumbered_21 : decode cX8_landNumbered 21 = .ok (.aload_n 0, 1) := by decide +kernel
theorem dX8_landNumbered_22 : decode cX8_landNumbered 22 = .ok (.getfield 11, 3) := by decide +kernel
theorem dX8_landNumbered_25 : decode cX8_landNumbered 25 = .ok (.iload_n 1, 1) := by decide +kernel
theorem dX8_landNumbered_26 : decode cX8_landNumbered 26 = .ok (.aaload, 1) := by decide +kernel
theorem dX8_landNumbered_27 : decode cX8_landNumbered 27 = .ok (.areturn, 1) := by decide +kernel
set_option maxRecDepth 100000 in
theorem ggX8_gateNumbered_Jx4a65c_size_8abf5 : GoodIn wsX8_gateNumbered wsJx4a65c_size_8abf5 := wk_g rfl wm_X8_gateNumbered 2173 wc_Jx4a65c_size_8abf5 rfl (by decide +kernel) (by decide +kernel) wq_Jx4a65c_size_8abf5
set_option maxRecDepth 100000 in
theorem gX8_gateNumbered_Jx4a65c_size_8abf5 : GoodIn wsX8_gateNumbered (wsV RX8 82 RJx4a65c yJx4a65c_size_8abf5 wsJx4a65c_size_8abf5) := goodIn_app (wk_h rfl wm_X8_gateNumbered [2170, 2171, 2172, 2004] (by decide +kernel) (by decide +kernel) (by decide +kernel)) ggX8_gateNumbered_Jx4a65c_size_8abf5
set_option maxRecDepth 100000 in
theorem ggX8_gateNumbered_Jx4a65c_get_915e3 : GoodIn wsX8_gateNumbered wsJx4a65c_get_915e3 := wk_g rfl wm_X8_gateNumbered 2177 wc_Jx4a65c_get_915e3 rfl (by decide +kernel) (by decide +kernel) wq_Jx4a65c_get_915e3
set_option maxRecDepth 100000 in
theorem gX8_gateNumbered_Jx4a65c_get_915e3 : GoodIn wsX8_gateNumbered (wsV RX8 238 RJx4a65c yJx4a65c_get_915e3 wsJx4a65c_get_915e3) := goodIn_app (wk_h rfl wm_X8_gateNumbered [2174, 2175, 2176, 2004] (by decide +kernel) (by decide +kernel) (by decide +kernel)) ggX8_gateNumbered_Jx4a65c_get_915e3
theorem dX8_gateNumbered_0 : decode cX8_gateNumbered 0 = .ok (.iload_n 1, 1) := by decide +kernel
theorem dX8_gateNumbered_1 : decode cX8_gateNumbered 1 = .ok (.ifCond .lt 14, 3) := by decide +kernel
theorem dX8_gateNumbered_4 : decode cX8_gateNumbered 4 = .ok (.iload_n 1, 1) := by decide +kernel
theorem dX8_gateNumbered_5 : decode cX8_gateNumbered 5 = .ok (.aload_n 0, 1) := by decide +kernel
theorem dX8_gateNumbered_6 : decode cX8_gateNumbered 6 = .ok (.getfield 18, 3) := by decide +kernel
theorem dX8_gateNumbered_9 : decode cX8_gateNumbered 9 = .ok (.invokevirtual 82, 3) := by decide +kernel
theorem dX8_gateNumbered_12 : decode cX8_gateNumbered 12 = .ok (.if_icmp .lt 14, 3) := by decide +kernel
theorem dX8_gateNumbered_15 : decode cX8_gateNumbered 15 = .ok (.new 442, 3) := by decide +kernel
theorem dX8_gateNumbered_18 : decode cX8_gateNumbered 18 = .ok (.dup, 1) := by decide +kernel
theorem dX8_gateNumbered_19 : decode cX8_gateNumbered 19 = .ok (.ldc_w 447, 3) := by decide +kernel
theorem dX8_gateNumbered_22 : decode cX8_gateNumbered 22 = .ok (.invokespecial 446, 3) := by decide +kernel
theorem dX8_gateNumbered_25 : decode cX8_gateNumbered 25 = .ok (.athrow, 1) := by decide +kernel
theorem dX8_gateNumbered_26 : decode cX8_gateNumbered 26 = .ok (.aload_n 0, 1) := by decide +kernel
theorem dX8_gateNumbered_27 : decode cX8_gateNumbered 27 = .ok (.getfield 18, 3) := by decide +kernel
theorem dX8_gateNumbered_30 : decode cX8_gateNumbered 30 = .ok (.iload_n 1, 1) := by decide +kernel
theorem dX8_gateNumbered_31 : decode cX8_gateNumbered 31 = .ok (.invokevirtual 238, 3) := by decide +kernel
theorem dX8_gateNumbered_34 : decode cX8_gateNumbered 34 = .ok (.checkcast 88, 3) := by decide +kernel
theorem dX8_gateNumbered_37 : decode cX8_gateNumbered 37 = .ok (.areturn, 1) := by decide +kernel
set_option maxRecDepth 100000 in
theorem ggX8_sleeperNumbered_Jx4a65c_size_8abf5 : GoodIn wsX8_sleeperNumbered wsJx4a65c_size_8abf5 := wk_g rfl wm_X8_sleeperNumbered 2173 wc_Jx4a65c_size_8abf5 rfl (by decide +kernel) (by decide +kernel) wq_Jx4a65c_size_8abf5
set_option maxRecDepth 100000 in
theorem gX8_sleeperNumbered_Jx4a65c_size_8abf5 : GoodIn wsX8_sleeperNumbered (wsV RX8 82 RJx4a65c yJx4a65c_size_8abf5 wsJx4a65c_size_8abf5) := goodIn_app (wk_h rfl wm_X8_sleeperNumbered [2170, 2171, 2172, 2004] (by decide +kernel) (by decide +kernel) (by decide +kernel)) ggX8_sleeperNumbered_Jx4a65c_size_8abf5
set_option maxRecDepth 100000 in
theorem ggX8_sleeperNumbered_Jx4a65c_get_915e3 : GoodIn wsX8_sleeperNumbered wsJx4a65c_get_915e3 := wk_g rfl wm_X8_sleeperNumbered 2177 wc_Jx4a65c_get_915e3 rfl (by decide +kernel) (by decide +kernel) wq_Jx4a65c_get_915e3
set_option maxRecDepth 100000 in
theorem gX8_sleeperNumbered_Jx4a65c_get_915e3 : GoodIn wsX8_sleeperNumbered (wsV RX8 238 RJx4a65c yJx4a65c_get_915e3 wsJx4a65c_get_915e3) := goodIn_app (wk_h rfl wm_X8_sleeperNumbered [2174, 2175, 2176, 2004] (by decide +kernel) (by decide +kernel) (by decide +kernel)) ggX8_sleeperNumbered_Jx4a65c_get_915e3
theorem dX8_sleeperNumbered_0 : decode cX8_sleeperNumbered 0 = .ok (.iload_n 1, 1) := by decide +kernel
theorem dX8_sleeperNumbered_1 : decode cX8_sleeperNumbered 1 = .ok (.ifCond .lt 14, 3) := by decide +kernel
theorem dX8_sleeperNumbered_4 : decode cX8_sleeperNumbered 4 = .ok (.iload_n 1, 1) := by decide +kernel
theorem dX8_sleeperNumbered_5 : decode cX8_sleeperNumbered 5 = .ok (.aload_n 0, 1) := by decide +kernel
theorem dX8_sleeperNumbered_6 : decode cX8_sleeperNumbered 6 = .ok (.getfield 22, 3) := by decide +kernel
theorem dX8_sleeperNumbered_9 : decode cX8_sleeperNumbered 9 = .ok (.invokevirtual 82, 3) := by decide +kernel
theorem dX8_sleeperNumbered_12 : decode cX8_sleeperNumbered 12 = .ok (.if_icmp .lt 14, 3) := by decide +kernel
theorem dX8_sleeperNumbered_15 : decode cX8_sleeperNumbered 15 = .ok (.new 442, 3) := by decide +kernel
theorem dX8_sleeperNumbered_18 : decode cX8_sleeperNumbered 18 = .ok (.dup, 1) := by decide +kernel
theorem dX8_sleeperNumbered_19 : decode cX8_sleeperNumbered 19 = .ok (.ldc_w 449, 3) := by decide +kernel
theorem dX8_sleeperNumbered_22 : decode cX8_sleeperNumbered 22 = .ok (.invokespecial 446, 3) := by decide +kernel
theorem dX8_sleeperNumbered_25 : decode cX8_sleeperNumbered 25 = .ok (.athrow, 1) := by decide +kernel
theorem dX8_sleeperNumbered_26 : decode cX8_sleeperNumbered 26 = .ok (.aload_n 0, 1) := by decide +kernel
theorem dX8_sleeperNumbered_27 : decode cX8_sleeperNumbered 27 = .ok (.getfield 22, 3) := by decide +kernel
theorem dX8_sleeperNumbered_30 : decode cX8_sleeperNumbered 30 = .ok (.iload_n 1, 1) := by decide +kernel
theorem dX8_sleeperNumbered_31 : decode cX8_sleeperNumbered 31 = .ok (.invokevirtual 238, 3) := by decide +kernel
theorem dX8_sleeperNumbered_34 : decode cX8_sleeperNumbered 34 = .ok (.checkcast 112, 3) := by decide +kernel
theorem dX8_sleeperNumbered_37 : decode cX8_sleeperNumbered 37 = .ok (.areturn, 1) := by decide +kernel
set_option maxRecDepth 100000 in
theorem ggX8_partNumbered_Jx4a65c_size_8abf5 : GoodIn wsX8_partNumbered wsJx4a65c_size_8abf5 := wk_g rfl wm_X8_partNumbered 2173 wc_Jx4a65c_size_8abf5 rfl (by decide +kernel) (by decide +kernel) wq_Jx4a65c_size_8abf5
set_option maxRecDepth 100000 in
theorem gX8_partNumbered_Jx4a65c_size_8abf5 : GoodIn wsX8_partNumbered (wsV RX8 82 RJx4a65c yJx4a65c_size_8abf5 wsJx4a65c_size_8abf5) := goodIn_app (wk_h rfl wm_X8_partNumbered [2170, 2171, 2172, 2004] (by decide +kernel) (by decide +kernel) (by decide +kernel)) ggX8_partNumbered_Jx4a65c_size_8abf5
set_option maxRecDepth 100000 in
theorem ggX8_partNumbered_Jx4a65c_get_915e3 : GoodIn wsX8_partNumbered wsJx4a65c_get_915e3 := wk_g rfl wm_X8_partNumbered 2177 wc_Jx4a65c_get_915e3 rfl (by decide +kernel) (by decide +kernel) wq_Jx4a65c_get_915e3
set_option maxRecDepth 100000 in
theorem gX8_partNumbered_Jx4a65c_get_915e3 : GoodIn wsX8_partNumbered (wsV RX8 238 RJx4a65c yJx4a65c_get_915e3 wsJx4a65c_get_915e3) := goodIn_app (wk_h rfl wm_X8_partNumbered [2174, 2175, 2176, 2004] (by decide +kernel) (by decide +kernel) (by decide +kernel)) ggX8_partNumbered_Jx4a65c_get_915e3
theorem dX8_partNumbered_0 : decode cX8_partNumbered 0 = .ok (.iload_n 1, 1) := by decide +kernel
theorem dX8_partNumbered_1 : decode cX8_partNumbered 1 = .ok (.ifCond .lt 14, 3) := by decide +kernel
theorem dX8_partNumbered_4 : decode cX8_partNumbered 4 = .ok (.iload_n 1, 1) := by decide +kernel
theorem dX8_partNumbered_5 : decode cX8_partNumbered 5 = .ok (.aload_n 0, 1) := by decide +kernel
theorem dX8_partNumbered_6 : decode cX8_partNumbered 6 = .ok (.getfield 25, 3) := by decide +kernel
theorem dX8_partNumbered_9 : decode cX8_partNumbered 9 = .ok (.invokevirtual 82, 3) := by decide +kernel
theorem dX8_partNumbered_12 : decode cX8_partNumbered 12 = .ok (.if_icmp .lt 14, 3) := by decide +kernel
theorem dX8_partNumbered_15 : decode cX8_partNumbered 15 = .ok (.new 442, 3) := by decide +kernel
theorem dX8_partNumbered_18 : decode cX8_partNumbered 18 = .ok (.dup, 1) := by decide +kernel
theorem dX8_partNumbered_19 : decode cX8_partNumbered 19 = .ok (.ldc_w 451, 3) := by decide +kernel
theorem dX8_partNumbered_22 : decode cX8_partNumbered 22 = .ok (.invokespecial 446, 3) := by decide +kernel
theorem dX8_partNumbered_25 : decode cX8_partNumbered 25 = .ok (.athrow, 1) := by decide +kernel
theorem dX8_partNumbered_26 : decode cX8_partNumbered 26 = .ok (.aload_n 0, 1) := by decide +kernel
theorem dX8_partNumbered_27 : decode cX8_partNumbered 27 = .ok (.getfield 25, 3) := by decide +kernel
theorem dX8_partNumbered_30 : decode cX8_partNumbered 30 = .ok (.iload_n 1, 1) := by decide +kernel
theorem dX8_partNumbered_31 : decode cX8_partNumbered 31 = .ok (.invokevirtual 238, 3) := by decide +kernel
theorem dX8_partNumbered_34 : decode cX8_partNumbered 34 = .ok (.checkcast 127, 3) := by decide +kernel
theorem dX8_partNumbered_37 : decode cX8_partNumbered 37 = .ok (.areturn, 1) := by decide +kernel
theorem dX8_demandRange_0 : decode cX8_demandRange 0 = .ok (.iload_n 0, 1) := by decide +kernel
theorem dX8_demandRange_1 : decode cX8_demandRange 1 = .ok (.iload_n 1, 1) := by decide +kernel
theorem dX8_demandRange_2 : decode cX8_demandRange 2 = .ok (.if_icmp .lt 8, 3) := by decide +kernel
theorem dX8_demandRange_5 : decode cX8_demandRange 5 = .ok (.iload_n 0, 1) := by decide +kernel
theorem dX8_demandRange_6 : decode cX8_demandRange 6 = .ok (.iload_n 2, 1) := by decide +kernel
theorem dX8_demandRange_7 : decode cX8_demandRange 7 = .ok (.if_icmp .le 14, 3) := by decide +kernel
theorem dX8_demandRange_10 : decode cX8_demandRange 10 = .ok (.new 65, 3) := by decide +kernel
theorem dX8_demandRange_13 : decode cX8_demandRange 13 = .ok (.dup, 1) := by decide +kernel
theorem dX8_demandRange_14 : decode cX8_demandRange 14 = .ok (.ldc_w 453, 3) := by decide +kernel
theorem dX8_demandRange_17 : decode cX8_demandRange 17 = .ok (.invokespecial 69, 3) := by decide +kernel
theorem dX8_demandRange_20 : decode cX8_demandRange 20 = .ok (.athrow, 1) := by decide +kernel
theorem dX8_demandRange_21 : decode cX8_demandRange 21 = .ok (.return_, 1) := by decide +kernel
theorem dX8_rightVerse_0 : decode cX8_rightVerse 0 = .ok (.bipush 13, 2) := by decide +kernel
theorem dX8_rightVerse_2 : decode cX8_rightVerse 2 = .ok (.aload_n 0, 1) := by decide +kernel
theorem dX8_rightVerse_3 : decode cX8_rightVerse 3 = .ok (.getfield 117, 3) := by decide +kernel
theorem dX8_rightVerse_6 : decode cX8_rightVerse 6 = .ok (.imul, 1) := by decide +kernel
theorem dX8_rightVerse_7 : decode cX8_rightVerse 7 = .ok (.bipush 29, 2) := by decide +kernel
theorem dX8_rightVerse_9 : decode cX8_rightVerse 9 = .ok (.aload_n 1, 1) := by decide +kernel
theorem dX8_rightVerse_10 : decode cX8_rightVerse 10 = .ok (.getfield 97, 3) := by decide +kernel
theorem dX8_rightVerse_13 : decode cX8_rightVerse 13 = .ok (.imul, 1) := by decide +kernel
theorem dX8_rightVerse_14 : decode cX8_rightVerse 14 = .ok (.iadd, 1) := by decide +kernel
theorem dX8_rightVerse_15 : decode cX8_rightVerse 15 = .ok (.bipush 7, 2) := by decide +kernel
theorem dX8_rightVerse_17 : decode cX8_rightVerse 17 = .ok (.iload_n 2, 1) := by decide +kernel
theorem dX8_rightVerse_18 : decode cX8_rightVerse 18 = .ok (.imul, 1) := by decide +kernel
theorem dX8_rightVerse_19 : decode cX8_rightVerse 19 = .ok (.iadd, 1) := by decide +kernel
theorem dX8_rightVerse_20 : decode cX8_rightVerse 20 = .ok (.bipush 97, 2) := by decide +kernel
theorem dX8_rightVerse_22 : decode cX8_rightVerse 22 = .ok (.irem, 1) := by decide +kernel
theorem dX8_rightVerse_23 : decode cX8_rightVerse 23 = .ok (.ireturn, 1) := by decide +kernel
set_option maxRecDepth 100000 in
theorem ggX8_passIsGood_X8_rightVerse : GoodIn wsX8_passIsGood wsX8_rightVerse := wk_g rfl wm_X8_passIsGood 3167 wc_X8_rightVerse rfl (by decide +kernel) (by decide +kernel) wq_X8_rightVerse
set_option maxRecDepth 100000 in
theorem gX8_passIsGood_X8_rightVerse : GoodIn wsX8_passIsGood (va_wsS RX8 161 yX8_rightVerse wsX8_rightVerse) := goodIn_app (wk_h rfl wm_X8_passIsGood [3165, 3166, 2001] (by decide +kernel) (by decide +kernel) (by decide +kernel)) ggX8_passIsGood_X8_rightVerse
set_option maxRecDepth 100000 in
theorem ggX8_passIsGood_X0_dozes : GoodIn wsX8_passIsGood wsX0_dozes := wk_g rfl wm_X8_passIsGood 3129 wc_X0_dozes rfl (by decide +kernel) (by decide +kernel) wq_X0_dozes
set_option maxRecDepth 100000 in
theorem gX8_passIsGood_X0_dozes : GoodIn wsX8_passIsGood (wsV RX8 300 RX0 yX0_dozes wsX0_dozes) := goodIn_app (wk_h rfl wm_X8_passIsGood [3126, 3127, 3128, 2016] (by decide +kernel) (by decide +kernel) (by decide +kernel)) ggX8_passIsGood_X0_dozes
set_option maxRecDepth 100000 in
theorem ggX8_passIsGood_X7_has : GoodIn wsX8_passIsGood wsX7_has := wk_g rfl wm_X8_passIsGood 3174 wc_X7_has rfl (by decide +kernel) (by decide +kernel) wq_X7_has
set_option maxRecDepth 100000 in
theorem gX8_passIsGood_X7_has : GoodIn wsX8_passIsGood (wsV RX8 169 RX7 yX7_has wsX7_has) := goodIn_app (wk_h rfl wm_X8_passIsGood [3171, 3172, 3173, 2017] (by decide +kernel) (by decide +kernel) (by decide +kernel)) ggX8_passIsGood_X7_has
theorem dX8_passIsGood_0 : decode cX8_passIsGood 0 = .ok (.aload_n 1, 1) := by decide +kernel
theorem dX8_passIsGood_1 : decode cX8_passIsGood 1 = .ok (.getfield 157, 3) := by decide +kernel
theorem dX8_passIsGood_4 : decode cX8_passIsGood 4 = .ok (.astore_n 3, 1) := by decide +kernel
theorem dX8_passIsGood_5 : decode cX8_passIsGood 5 = .ok (.aload_n 3, 1) := by decide +kernel
theorem dX8_passIsGood_6 : decode cX8_passIsGood 6 = .ok (.ifnull 22, 3) := by decide +kernel
theorem dX8_passIsGood_9 : decode cX8_passIsGood 9 = .ok (.aload_n 3, 1) := by decide +kernel
theorem dX8_passIsGood_10 : decode cX8_passIsGood 10 = .ok (.getfield 455, 3) := by decide +kernel
theorem dX8_passIsGood_13 : decode cX8_passIsGood 13 = .ok (.aload_n 2, 1) := by decide +kernel
theorem dX8_passIsGood_14 : decode cX8_passIsGood 14 = .ok (.if_acmp .ne 14, 3) := by decide +kernel
theorem dX8_passIsGood_17 : decode cX8_passIsGood 17 = .ok (.aload_n 3, 1) := by decide +kernel
theorem dX8_passIsGood_18 : decode cX8_passIsGood 18 = .ok (.getfield 456, 3) := by decide +kernel
theorem dX8_passIsGood_21 : decode cX8_passIsGood 21 = .ok (.aload_n 0, 1) := by decide +kernel
theorem dX8_passIsGood_22 : decode cX8_passIsGood 22 = .ok (.getfield 149, 3) := by decide +kernel
theorem dX8_passIsGood_25 : decode cX8_passIsGood 25 = .ok (.if_icmp .eq 5, 3) := by decide +kernel
theorem dX8_passIsGood_28 : decode cX8_passIsGood 28 = .ok (.iconst 0, 1) := by decide +kernel
theorem dX8_passIsGood_29 : decode cX8_passIsGood 29 = .ok (.ireturn, 1) := by decide +kernel
theorem dX8_passIsGood_30 : decode cX8_passIsGood 30 = .ok (.aload_n 3, 1) := by decide +kernel
theorem dX8_passIsGood_31 : decode cX8_passIsGood 31 = .ok (.getfield 313, 3) := by decide +kernel
theorem dX8_passIsGood_34 : decode cX8_passIsGood 34 = .ok (.aload_n 1, 1) := by decide +kernel
theorem dX8_passIsGood_35 : decode cX8_passIsGood 35 = .ok (.aload_n 2, 1) := by decide +kernel
theorem dX8_passIsGood_36 : decode cX8_passIsGood 36 = .ok (.aload_n 0, 1) := by decide +kernel
theorem dX8_passIsGood_37 : decode cX8_passIsGood 37 = .ok (.getfield 149, 3) := by decide +kernel
theorem dX8_passIsGood_40 : decode cX8_passIsGood 40 = .ok (.invokestatic 161, 3) := by decide +kernel
theorem dX8_passIsGood_43 : decode cX8_passIsGood 43 = .ok (.isub, 1) := by decide +kernel
theorem dX8_passIsGood_44 : decode cX8_passIsGood 44 = .ok (.invokestatic 457, 3) := by decide +kernel
theorem dX8_passIsGood_47 : decode cX8_passIsGood 47 = .ok (.istore 4, 2) := by decide +kernel
theorem dX8_passIsGood_49 : decode cX8_passIsGood 49 = .ok (.aload_n 2, 1) := by decide +kernel
theorem dX8_passIsGood_50 : decode cX8_passIsGood 50 = .ok (.invokevirtual 300, 3) := by decide +kernel
theorem dX8_passIsGood_53 : decode cX8_passIsGood 53 = .ok (.ifCond .eq 17, 3) := by decide +kernel
theorem dX8_passIsGood_56 : decode cX8_passIsGood 56 = .ok (.iload 4, 2) := by decide +kernel
theorem dX8_passIsGood_58 : decode cX8_passIsGood 58 = .ok (.iconst 1, 1) := by decide +kernel
theorem dX8_passIsGood_59 : decode cX8_passIsGood 59 = .ok (.if_icmp .gt 7, 3) := by decide +kernel
theorem dX8_passIsGood_62 : decode cX8_passIsGood 62 = .ok (.iconst 1, 1) := by decide +kernel
theorem dX8_passIsGood_63 : decode cX8_passIsGood 63 = .ok (.goto 31, 3) := by decide +kernel
theorem dX8_passIsGood_66 : decode cX8_passIsGood 66 = .ok (.iconst 0, 1) := by decide +kernel
theorem dX8_passIsGood_67 : decode cX8_passIsGood 67 = .ok (.goto 27, 3) := by decide +kernel
theorem dX8_passIsGood_70 : decode cX8_passIsGood 70 = .ok (.iload 4, 2) := by decide +kernel
theorem dX8_passIsGood_72 : decode cX8_passIsGood 72 = .ok (.ifCond .ne 21, 3) := by decide +kernel
theorem dX8_passIsGood_75 : decode cX8_passIsGood 75 = .ok (.aload_n 2, 1) := by decide +kernel
theorem dX8_passIsGood_76 : decode cX8_passIsGood 76 = .ok (.getfield 165, 3) := by decide +kernel
theorem dX8_passIsGood_79 : decode cX8_passIsGood 79 = .ok (.aload_n 3, 1) := by decide +kernel
theorem dX8_passIsGood_80 : decode cX8_passIsGood 80 = .ok (.getfield 313, 3) := by decide +kernel
theorem dX8_passIsGood_83 : decode cX8_passIsGood 83 = .ok (.invokevirtual 169, 3) := by decide +kernel
theorem dX8_passIsGood_86 : decode cX8_passIsGood 86 = .ok (.ifCond .ne 7, 3) := by decide +kernel
theorem dX8_passIsGood_89 : decode cX8_passIsGood 89 = .ok (.iconst 1, 1) := by decide +kernel
theorem dX8_passIsGood_90 : decode cX8_passIsGood 90 = .ok (.goto 4, 3) := by decide +kernel
theorem dX8_passIsGood_93 : decode cX8_passIsGood 93 = .ok (.iconst 0, 1) := by decide +kernel
theorem dX8_passIsGood_94 : decode cX8_passIsGood 94 = .ok (.ireturn, 1) := by decide +kernel
set_option maxRecDepth 100000 in
theorem ggX8_comeThrough_X0_across : GoodIn wsX8_comeThrough wsX0_across := wk_g bm_X8_comeThrough wm_X8_comeThrough 3178 wc_X0_across rfl (by decide +kernel) (by decide +kernel) wq_X0_across
set_option maxRecDepth 100000 in
theorem gX8_comeThrough_X0_across : GoodIn wsX8_comeThrough (wsV RX8 387 RX0 yX0_across wsX0_across) := goodIn_app (wk_h bm_X8_comeThrough wm_X8_comeThrough [3175, 3176, 3177, 2016] (by decide +kernel) (by decide +kernel) (by decide +kernel)) ggX8_comeThrough_X0_across
set_option maxRecDepth 100000 in
theorem ggX8_comeThrough_X0_dozes : GoodIn wsX8_comeThrough wsX0_dozes := wk_g bm_X8_comeThrough wm_X8_comeThrough 3129 wc_X0_dozes rfl (by decide +kernel) (by decide +kernel) wq_X0_dozes
set_option maxRecDepth 100000 in
theorem gX8_comeThrough_X0_dozes : GoodIn wsX8_comeThrough (wsV RX8 300 RX0 yX0_dozes wsX0_dozes) := goodIn_app (wk_h bm_X8_comeThrough wm_X8_comeThrough [3126, 3127, 3128, 2016] (by decide +kernel) (by decide +kernel) (by decide +kernel)) ggX8_comeThrough_X0_dozes
set_option maxRecDepth 100000 in
theorem ggX8_comeThrough_X5_draw : GoodIn wsX8_comeThrough wsX5_draw := wk_g bm_X8_comeThrough wm_X8_comeThrough 6197 wc_X5_draw rfl (by decide +kernel) (by decide +kernel) wq_X5_draw
set_option maxRecDepth 100000 in
theorem gX8_comeThrough_X5_draw : GoodIn wsX8_comeThrough (wsV RX8 462 RX5 yX5_draw wsX5_draw) := goodIn_app (wk_h bm_X8_comeThrough wm_X8_comeThrough [6194, 6195, 6196, 2005] (by decide +kernel) (by decide +kernel) (by decide +kernel)) ggX8_comeThrough_X5_draw
set_option maxRecDepth 100000 in
theorem ggX8_comeThrough_X8_bringHidden : GoodIn wsX8_comeThrough wsX8_bringHidden := wk_g bm_X8_comeThrough wm_X8_comeThrough 6201 wc_X8_bringHidden rfl (by decide +kernel) (by decide +kernel) wq_X8_bringHidden
set_option maxRecDepth 100000 in
theorem gX8_comeThrough_X8_bringHidden : GoodIn wsX8_comeThrough (wsV RX8 465 RX8 yX8_bringHidden wsX8_bringHidden) := goodIn_app (wk_h bm_X8_comeThrough wm_X8_comeThrough [6198, 6200, 1037, 2001] (by decide +kernel) (by decide +kernel) (by decide +kernel)) ggX8_comeThrough_X8_bringHidden
set_option maxRecDepth 100000 in
theorem ggX8_comeThrough_X8_bringDeclared : GoodIn wsX8_comeThrough wsX8_bringDeclared := wk_g bm_X8_comeThrough wm_X8_comeThrough 6231 wc_X8_bringDeclared rfl (by decide +kernel) (by decide +kernel) wq_X8_bringDeclared
set_option maxRecDepth 100000 in
theorem gX8_comeThrough_X8_bringDeclared : GoodIn wsX8_comeThrough (wsV RX8 469 RX8 yX8_bringDeclared wsX8_bringDeclared) := goodIn_app (wk_h bm_X8_comeThrough wm_X8_comeThrough [6228, 6230, 1039, 2001] (by decide +kernel) (by decide +kernel) (by decide +kernel)) ggX8_comeThrough_X8_bringDeclared
theorem dX8_comeThrough_0 : decode cX8_comeThrough 0 = .ok (.aload_n 2, 1) := by decide +kernel
theorem dX8_comeThrough_1 : decode cX8_comeThrough 1 = .ok (.aload_n 1, 1) := by decide +kernel
theorem dX8_comeThrough_2 : decode cX8_comeThrough 2 = .ok (.getfield 143, 3) := by decide +kernel
theorem dX8_comeThrough_5 : decode cX8_comeThrough 5 = .ok (.invokevirtual 387, 3) := by decide +kernel
theorem dX8_comeThrough_8 : decode cX8_comeThrough 8 = .ok (.astore_n 3, 1) := by decide +kernel
theorem dX8_comeThrough_9 : decode cX8_comeThrough 9 = .ok (.aload_n 2, 1) := by decide +kernel
theorem dX8_comeThrough_10 : decode cX8_comeThrough 10 = .ok (.invokevirtual 300, 3) := by decide +kernel
theorem dX8_comeThrough_13 : decode cX8_comeThrough 13 = .ok (.ifCond .ne 24, 3) := by decide +kernel
theorem dX8_comeThrough_16 : decode cX8_comeThrough 16 = .ok (.aload_n 0, 1) := by decide +kernel
theorem dX8_comeThrough_17 : decode cX8_comeThrough 17 = .ok (.getfield 34, 3) := by decide +kernel
theorem dX8_comeThrough_20 : decode cX8_comeThrough 20 = .ok (.invokevirtual 462, 3) := by decide +kernel
theorem dX8_comeThrough_23 : decode cX8_comeThrough 23 = .ok (.bipush 10, 2) := by decide +kernel
theorem dX8_comeThrough_25 : decode cX8_comeThrough 25 = .ok (.irem, 1) := by decide +kernel
theorem dX8_comeThrough_26 : decode cX8_comeThrough 26 = .ok (.aload_n 2, 1) := by decide +kernel
theorem dX8_comeThrough_27 : decode cX8_comeThrough 27 = .ok (.getfield 104, 3) := by decide +kernel
theorem dX8_comeThrough_30 : decode cX8_comeThrough 30 = .ok (.if_icmp .ge 7, 3) := by decide +kernel
theorem dX8_comeThrough_33 : decode cX8_comeThrough 33 = .ok (.iconst 1, 1) := by decide +kernel
theorem dX8_comeThrough_34 : decode cX8_comeThrough 34 = .ok (.goto 4, 3) := by decide +kernel
theorem dX8_comeThrough_37 : decode cX8_comeThrough 37 = .ok (.iconst 0, 1) := by decide +kernel
theorem dX8_comeThrough_38 : decode cX8_comeThrough 38 = .ok (.istore 4, 2) := by decide +kernel
theorem dX8_comeThrough_40 : decode cX8_comeThrough 40 = .ok (.aload_n 0, 1) := by decide +kernel
