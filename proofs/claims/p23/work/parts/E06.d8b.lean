theorem dX8_comeThrough_41 : decode cX8_comeThrough 41 = .ok (.aload_n 1, 1) := by decide +kernel
theorem dX8_comeThrough_42 : decode cX8_comeThrough 42 = .ok (.aload_n 3, 1) := by decide +kernel
theorem dX8_comeThrough_43 : decode cX8_comeThrough 43 = .ok (.iload 4, 2) := by decide +kernel
theorem dX8_comeThrough_45 : decode cX8_comeThrough 45 = .ok (.invokevirtual 465, 3) := by decide +kernel
theorem dX8_comeThrough_48 : decode cX8_comeThrough 48 = .ok (.istore 5, 2) := by decide +kernel
theorem dX8_comeThrough_50 : decode cX8_comeThrough 50 = .ok (.aload_n 0, 1) := by decide +kernel
theorem dX8_comeThrough_51 : decode cX8_comeThrough 51 = .ok (.aload_n 1, 1) := by decide +kernel
theorem dX8_comeThrough_52 : decode cX8_comeThrough 52 = .ok (.aload_n 3, 1) := by decide +kernel
theorem dX8_comeThrough_53 : decode cX8_comeThrough 53 = .ok (.invokevirtual 469, 3) := by decide +kernel
theorem dX8_comeThrough_56 : decode cX8_comeThrough 56 = .ok (.aload_n 1, 1) := by decide +kernel
theorem dX8_comeThrough_57 : decode cX8_comeThrough 57 = .ok (.aload_n 3, 1) := by decide +kernel
theorem dX8_comeThrough_58 : decode cX8_comeThrough 58 = .ok (.putfield 143, 3) := by decide +kernel
theorem dX8_comeThrough_61 : decode cX8_comeThrough 61 = .ok (.aload_n 1, 1) := by decide +kernel
theorem dX8_comeThrough_62 : decode cX8_comeThrough 62 = .ok (.aconst_null, 1) := by decide +kernel
theorem dX8_comeThrough_63 : decode cX8_comeThrough 63 = .ok (.putfield 157, 3) := by decide +kernel
theorem dX8_comeThrough_66 : decode cX8_comeThrough 66 = .ok (.iload 5, 2) := by decide +kernel
theorem dX8_comeThrough_68 : decode cX8_comeThrough 68 = .ok (.ireturn, 1) := by decide +kernel
set_option maxRecDepth 100000 in
theorem ggX8_bringHidden_Jx4a65c_size_8abf5 : GoodIn wsX8_bringHidden wsJx4a65c_size_8abf5 := wk_g bm_X8_bringHidden wm_X8_bringHidden 2173 wc_Jx4a65c_size_8abf5 rfl (by decide +kernel) (by decide +kernel) wq_Jx4a65c_size_8abf5
set_option maxRecDepth 100000 in
theorem gX8_bringHidden_Jx4a65c_size_8abf5 : GoodIn wsX8_bringHidden (wsV RX8 82 RJx4a65c yJx4a65c_size_8abf5 wsJx4a65c_size_8abf5) := goodIn_app (wk_h bm_X8_bringHidden wm_X8_bringHidden [2170, 2171, 2172, 2004] (by decide +kernel) (by decide +kernel) (by decide +kernel)) ggX8_bringHidden_Jx4a65c_size_8abf5
set_option maxRecDepth 100000 in
theorem ggX8_bringHidden_Jx4a65c_get_915e3 : GoodIn wsX8_bringHidden wsJx4a65c_get_915e3 := wk_g bm_X8_bringHidden wm_X8_bringHidden 2177 wc_Jx4a65c_get_915e3 rfl (by decide +kernel) (by decide +kernel) wq_Jx4a65c_get_915e3
set_option maxRecDepth 100000 in
theorem gX8_bringHidden_Jx4a65c_get_915e3 : GoodIn wsX8_bringHidden (wsV RX8 238 RJx4a65c yJx4a65c_get_915e3 wsJx4a65c_get_915e3) := goodIn_app (wk_h bm_X8_bringHidden wm_X8_bringHidden [2174, 2175, 2176, 2004] (by decide +kernel) (by decide +kernel) (by decide +kernel)) ggX8_bringHidden_Jx4a65c_get_915e3
set_option maxRecDepth 100000 in
theorem ggX8_bringHidden_X3_isHidden : GoodIn wsX8_bringHidden wsX3_isHidden := wk_g bm_X8_bringHidden wm_X8_bringHidden 3141 wc_X3_isHidden rfl (by decide +kernel) (by decide +kernel) wq_X3_isHidden
set_option maxRecDepth 100000 in
theorem gX8_bringHidden_X3_isHidden : GoodIn wsX8_bringHidden (wsV RX8 473 RX3 yX3_isHidden wsX3_isHidden) := goodIn_app (wk_h bm_X8_bringHidden wm_X8_bringHidden [3138, 3139, 3140, 2027] (by decide +kernel) (by decide +kernel) (by decide +kernel)) ggX8_bringHidden_X3_isHidden
set_option maxRecDepth 100000 in
theorem ggX8_bringHidden_X8_keepHiding : GoodIn wsX8_bringHidden wsX8_keepHiding := wk_g bm_X8_bringHidden wm_X8_bringHidden 6205 wc_X8_keepHiding rfl (by decide +kernel) (by decide +kernel) wq_X8_keepHiding
set_option maxRecDepth 100000 in
theorem gX8_bringHidden_X8_keepHiding : GoodIn wsX8_bringHidden (wsV RX8 476 RX8 yX8_keepHiding wsX8_keepHiding) := goodIn_app (wk_h bm_X8_bringHidden wm_X8_bringHidden [6202, 6204, 1038, 2001] (by decide +kernel) (by decide +kernel) (by decide +kernel)) ggX8_bringHidden_X8_keepHiding
set_option maxRecDepth 100000 in
theorem ggX8_bringHidden_X3_putInStore : GoodIn wsX8_bringHidden wsX3_putInStore := wk_g bm_X8_bringHidden wm_X8_bringHidden 6227 wc_X3_putInStore rfl (by decide +kernel) (by decide +kernel) wq_X3_putInStore
set_option maxRecDepth 100000 in
theorem gX8_bringHidden_X3_putInStore : GoodIn wsX8_bringHidden (wsV RX8 480 RX3 yX3_putInStore wsX3_putInStore) := goodIn_app (wk_h bm_X8_bringHidden wm_X8_bringHidden [6224, 6225, 6226, 2027] (by decide +kernel) (by decide +kernel) (by decide +kernel)) ggX8_bringHidden_X3_putInStore
theorem dX8_bringHidden_0 : decode cX8_bringHidden 0 = .ok (.iconst 0, 1) := by decide +kernel
theorem dX8_bringHidden_1 : decode cX8_bringHidden 1 = .ok (.istore 4, 2) := by decide +kernel
theorem dX8_bringHidden_3 : decode cX8_bringHidden 3 = .ok (.iconst 0, 1) := by decide +kernel
theorem dX8_bringHidden_4 : decode cX8_bringHidden 4 = .ok (.istore 5, 2) := by decide +kernel
theorem dX8_bringHidden_6 : decode cX8_bringHidden 6 = .ok (.iload 5, 2) := by decide +kernel
theorem dX8_bringHidden_8 : decode cX8_bringHidden 8 = .ok (.aload_n 0, 1) := by decide +kernel
theorem dX8_bringHidden_9 : decode cX8_bringHidden 9 = .ok (.getfield 25, 3) := by decide +kernel
theorem dX8_bringHidden_12 : decode cX8_bringHidden 12 = .ok (.invokevirtual 82, 3) := by decide +kernel
theorem dX8_bringHidden_15 : decode cX8_bringHidden 15 = .ok (.if_icmp .ge 96, 3) := by decide +kernel
theorem dX8_bringHidden_18 : decode cX8_bringHidden 18 = .ok (.aload_n 0, 1) := by decide +kernel
theorem dX8_bringHidden_19 : decode cX8_bringHidden 19 = .ok (.getfield 25, 3) := by decide +kernel
theorem dX8_bringHidden_22 : decode cX8_bringHidden 22 = .ok (.iload 5, 2) := by decide +kernel
theorem dX8_bringHidden_24 : decode cX8_bringHidden 24 = .ok (.invokevirtual 238, 3) := by decide +kernel
theorem dX8_bringHidden_27 : decode cX8_bringHidden 27 = .ok (.checkcast 127, 3) := by decide +kernel
theorem dX8_bringHidden_30 : decode cX8_bringHidden 30 = .ok (.astore 6, 2) := by decide +kernel
theorem dX8_bringHidden_32 : decode cX8_bringHidden 32 = .ok (.aload 6, 2) := by decide +kernel
theorem dX8_bringHidden_34 : decode cX8_bringHidden 34 = .ok (.getfield 137, 3) := by decide +kernel
theorem dX8_bringHidden_37 : decode cX8_bringHidden 37 = .ok (.aload_n 1, 1) := by decide +kernel
theorem dX8_bringHidden_38 : decode cX8_bringHidden 38 = .ok (.if_acmp .ne 67, 3) := by decide +kernel
theorem dX8_bringHidden_41 : decode cX8_bringHidden 41 = .ok (.aload 6, 2) := by decide +kernel
theorem dX8_bringHidden_43 : decode cX8_bringHidden 43 = .ok (.invokevirtual 473, 3) := by decide +kernel
theorem dX8_bringHidden_46 : decode cX8_bringHidden 46 = .ok (.ifCond .ne 6, 3) := by decide +kernel
theorem dX8_bringHidden_49 : decode cX8_bringHidden 49 = .ok (.goto 56, 3) := by decide +kernel
theorem dX8_bringHidden_52 : decode cX8_bringHidden 52 = .ok (.aload_n 0, 1) := by decide +kernel
theorem dX8_bringHidden_53 : decode cX8_bringHidden 53 = .ok (.aload_n 1, 1) := by decide +kernel
theorem dX8_bringHidden_54 : decode cX8_bringHidden 54 = .ok (.aload 6, 2) := by decide +kernel
theorem dX8_bringHidden_56 : decode cX8_bringHidden 56 = .ok (.getfield 324, 3) := by decide +kernel
theorem dX8_bringHidden_59 : decode cX8_bringHidden 59 = .ok (.invokevirtual 476, 3) := by decide +kernel
theorem dX8_bringHidden_62 : decode cX8_bringHidden 62 = .ok (.aload 6, 2) := by decide +kernel
theorem dX8_bringHidden_64 : decode cX8_bringHidden 64 = .ok (.aload_n 1, 1) := by decide +kernel
theorem dX8_bringHidden_65 : decode cX8_bringHidden 65 = .ok (.putfield 256, 3) := by decide +kernel
theorem dX8_bringHidden_68 : decode cX8_bringHidden 68 = .ok (.iload_n 3, 1) := by decide +kernel
theorem dX8_bringHidden_69 : decode cX8_bringHidden 69 = .ok (.ifCond .eq 30, 3) := by decide +kernel
theorem dX8_bringHidden_72 : decode cX8_bringHidden 72 = .ok (.aload 6, 2) := by decide +kernel
theorem dX8_bringHidden_74 : decode cX8_bringHidden 74 = .ok (.aload_n 2, 1) := by decide +kernel
theorem dX8_bringHidden_75 : decode cX8_bringHidden 75 = .ok (.iconst 3, 1) := by decide +kernel
theorem dX8_bringHidden_76 : decode cX8_bringHidden 76 = .ok (.invokevirtual 480, 3) := by decide +kernel
theorem dX8_bringHidden_79 : decode cX8_bringHidden 79 = .ok (.aload_n 2, 1) := by decide +kernel
theorem dX8_bringHidden_80 : decode cX8_bringHidden 80 = .ok (.dup, 1) := by decide +kernel
theorem dX8_bringHidden_81 : decode cX8_bringHidden 81 = .ok (.getfield 267, 3) := by decide +kernel
theorem dX8_bringHidden_84 : decode cX8_bringHidden 84 = .ok (.aload 6, 2) := by decide +kernel
theorem dX8_bringHidden_86 : decode cX8_bringHidden 86 = .ok (.getfield 264, 3) := by decide +kernel
theorem dX8_bringHidden_89 : decode cX8_bringHidden 89 = .ok (.iadd, 1) := by decide +kernel
theorem dX8_bringHidden_90 : decode cX8_bringHidden 90 = .ok (.putfield 267, 3) := by decide +kernel
theorem dX8_bringHidden_93 : decode cX8_bringHidden 93 = .ok (.iinc 4 1, 3) := by decide +kernel
theorem dX8_bringHidden_96 : decode cX8_bringHidden 96 = .ok (.goto 9, 3) := by decide +kernel
theorem dX8_bringHidden_99 : decode cX8_bringHidden 99 = .ok (.aload 6, 2) := by decide +kernel
theorem dX8_bringHidden_101 : decode cX8_bringHidden 101 = .ok (.iconst 4, 1) := by decide +kernel
theorem dX8_bringHidden_102 : decode cX8_bringHidden 102 = .ok (.putfield 259, 3) := by decide +kernel
theorem dX8_bringHidden_105 : decode cX8_bringHidden 105 = .ok (.iinc 5 1, 3) := by decide +kernel
theorem dX8_bringHidden_108 : decode cX8_bringHidden 108 = .ok (.goto (-102), 3) := by decide +kernel
theorem dX8_bringHidden_111 : decode cX8_bringHidden 111 = .ok (.iload 4, 2) := by decide +kernel
theorem dX8_bringHidden_113 : decode cX8_bringHidden 113 = .ok (.ireturn, 1) := by decide +kernel
set_option maxRecDepth 100000 in
theorem ggX8_bringDeclared_X8_partsThatComeIn : GoodIn wsX8_bringDeclared wsX8_partsThatComeIn := wk_g rfl wm_X8_bringDeclared 3182 wc_X8_partsThatComeIn rfl (by decide +kernel) (by decide +kernel) wq_X8_partsThatComeIn
set_option maxRecDepth 100000 in
theorem gX8_bringDeclared_X8_partsThatComeIn : GoodIn wsX8_bringDeclared (wsV RX8 391 RX8 yX8_partsThatComeIn wsX8_partsThatComeIn) := goodIn_app (wk_h rfl wm_X8_bringDeclared [3179, 3181, 1016, 2001] (by decide +kernel) (by decide +kernel) (by decide +kernel)) ggX8_bringDeclared_X8_partsThatComeIn
set_option maxRecDepth 100000 in
theorem ggX8_bringDeclared_X8_worthOf : GoodIn wsX8_bringDeclared wsX8_worthOf := wk_g rfl wm_X8_bringDeclared 3191 wc_X8_worthOf rfl (by decide +kernel) (by decide +kernel) wq_X8_worthOf
set_option maxRecDepth 100000 in
theorem gX8_bringDeclared_X8_worthOf : GoodIn wsX8_bringDeclared (wsV RX8 395 RX8 yX8_worthOf wsX8_worthOf) := goodIn_app (wk_h rfl wm_X8_bringDeclared [3188, 3190, 1017, 2001] (by decide +kernel) (by decide +kernel) (by decide +kernel)) ggX8_bringDeclared_X8_worthOf
set_option maxRecDepth 100000 in
theorem ggX8_bringDeclared_Jx4a65c_size_8abf5 : GoodIn wsX8_bringDeclared wsJx4a65c_size_8abf5 := wk_g rfl wm_X8_bringDeclared 2173 wc_Jx4a65c_size_8abf5 rfl (by decide +kernel) (by decide +kernel) wq_Jx4a65c_size_8abf5
set_option maxRecDepth 100000 in
theorem gX8_bringDeclared_Jx4a65c_size_8abf5 : GoodIn wsX8_bringDeclared (wsV RX8 82 RJx4a65c yJx4a65c_size_8abf5 wsJx4a65c_size_8abf5) := goodIn_app (wk_h rfl wm_X8_bringDeclared [2170, 2171, 2172, 2004] (by decide +kernel) (by decide +kernel) (by decide +kernel)) ggX8_bringDeclared_Jx4a65c_size_8abf5
set_option maxRecDepth 100000 in
theorem ggX8_bringDeclared_Jx4a65c_get_915e3 : GoodIn wsX8_bringDeclared wsJx4a65c_get_915e3 := wk_g rfl wm_X8_bringDeclared 2177 wc_Jx4a65c_get_915e3 rfl (by decide +kernel) (by decide +kernel) wq_Jx4a65c_get_915e3
set_option maxRecDepth 100000 in
theorem gX8_bringDeclared_Jx4a65c_get_915e3 : GoodIn wsX8_bringDeclared (wsV RX8 238 RJx4a65c yJx4a65c_get_915e3 wsJx4a65c_get_915e3) := goodIn_app (wk_h rfl wm_X8_bringDeclared [2174, 2175, 2176, 2004] (by decide +kernel) (by decide +kernel) (by decide +kernel)) ggX8_bringDeclared_Jx4a65c_get_915e3
set_option maxRecDepth 100000 in
theorem ggX8_bringDeclared_X3_isIn : GoodIn wsX8_bringDeclared wsX3_isIn := wk_g rfl wm_X8_bringDeclared 3145 wc_X3_isIn rfl (by decide +kernel) (by decide +kernel) wq_X3_isIn
set_option maxRecDepth 100000 in
theorem gX8_bringDeclared_X3_isIn : GoodIn wsX8_bringDeclared (wsV RX8 487 RX3 yX3_isIn wsX3_isIn) := goodIn_app (wk_h rfl wm_X8_bringDeclared [3183, 3143, 3144, 2027] (by decide +kernel) (by decide +kernel) (by decide +kernel)) ggX8_bringDeclared_X3_isIn
set_option maxRecDepth 100000 in
theorem ggX8_bringDeclared_X3_putInStore : GoodIn wsX8_bringDeclared wsX3_putInStore := wk_g rfl wm_X8_bringDeclared 6227 wc_X3_putInStore rfl (by decide +kernel) (by decide +kernel) wq_X3_putInStore
set_option maxRecDepth 100000 in
theorem gX8_bringDeclared_X3_putInStore : GoodIn wsX8_bringDeclared (wsV RX8 480 RX3 yX3_putInStore wsX3_putInStore) := goodIn_app (wk_h rfl wm_X8_bringDeclared [6224, 6225, 6226, 2027] (by decide +kernel) (by decide +kernel) (by decide +kernel)) ggX8_bringDeclared_X3_putInStore
set_option maxRecDepth 100000 in
theorem ggX8_bringDeclared_X3_isNightmare : GoodIn wsX8_bringDeclared wsX3_isNightmare := wk_g rfl wm_X8_bringDeclared 3187 wc_X3_isNightmare rfl (by decide +kernel) (by decide +kernel) wq_X3_isNightmare
set_option maxRecDepth 100000 in
theorem gX8_bringDeclared_X3_isNightmare : GoodIn wsX8_bringDeclared (wsV RX8 490 RX3 yX3_isNightmare wsX3_isNightmare) := goodIn_app (wk_h rfl wm_X8_bringDeclared [3184, 3185, 3186, 2027] (by decide +kernel) (by decide +kernel) (by decide +kernel)) ggX8_bringDeclared_X3_isNightmare
set_option maxRecDepth 100000 in
theorem ggX8_bringDeclared_X2_dutyOn : GoodIn wsX8_bringDeclared wsX2_dutyOn := wk_g rfl wm_X8_bringDeclared 3195 wc_X2_dutyOn rfl (by decide +kernel) (by decide +kernel) wq_X2_dutyOn
set_option maxRecDepth 100000 in
theorem gX8_bringDeclared_X2_dutyOn : GoodIn wsX8_bringDeclared (wsV RX8 398 RX2 yX2_dutyOn wsX2_dutyOn) := goodIn_app (wk_h rfl wm_X8_bringDeclared [3192, 3193, 3194, 2006] (by decide +kernel) (by decide +kernel) (by decide +kernel)) ggX8_bringDeclared_X2_dutyOn
theorem dX8_bringDeclared_0 : decode cX8_bringDeclared 0 = .ok (.aload_n 0, 1) := by decide +kernel
theorem dX8_bringDeclared_1 : decode cX8_bringDeclared 1 = .ok (.aload_n 1, 1) := by decide +kernel
theorem dX8_bringDeclared_2 : decode cX8_bringDeclared 2 = .ok (.aload_n 2, 1) := by decide +kernel
theorem dX8_bringDeclared_3 : decode cX8_bringDeclared 3 = .ok (.invokevirtual 391, 3) := by decide +kernel
theorem dX8_bringDeclared_6 : decode cX8_bringDeclared 6 = .ok (.istore_n 3, 1) := by decide +kernel
theorem dX8_bringDeclared_7 : decode cX8_bringDeclared 7 = .ok (.aload_n 0, 1) := by decide +kernel
theorem dX8_bringDeclared_8 : decode cX8_bringDeclared 8 = .ok (.iload_n 3, 1) := by decide +kernel
theorem dX8_bringDeclared_9 : decode cX8_bringDeclared 9 = .ok (.invokevirtual 395, 3) := by decide +kernel
theorem dX8_bringDeclared_12 : decode cX8_bringDeclared 12 = .ok (.istore 4, 2) := by decide +kernel
theorem dX8_bringDeclared_14 : decode cX8_bringDeclared 14 = .ok (.iload 4, 2) := by decide +kernel
theorem dX8_bringDeclared_16 : decode cX8_bringDeclared 16 = .ok (.aload_n 2, 1) := by decide +kernel
theorem dX8_bringDeclared_17 : decode cX8_bringDeclared 17 = .ok (.getfield 62, 3) := by decide +kernel
theorem dX8_bringDeclared_20 : decode cX8_bringDeclared 20 = .ok (.if_icmp .gt 7, 3) := by decide +kernel
theorem dX8_bringDeclared_23 : decode cX8_bringDeclared 23 = .ok (.iconst 2, 1) := by decide +kernel
theorem dX8_bringDeclared_24 : decode cX8_bringDeclared 24 = .ok (.goto 4, 3) := by decide +kernel
theorem dX8_bringDeclared_27 : decode cX8_bringDeclared 27 = .ok (.iconst 1, 1) := by decide +kernel
theorem dX8_bringDeclared_28 : decode cX8_bringDeclared 28 = .ok (.istore 5, 2) := by decide +kernel
theorem dX8_bringDeclared_30 : decode cX8_bringDeclared 30 = .ok (.iconst 0, 1) := by decide +kernel
theorem dX8_bringDeclared_31 : decode cX8_bringDeclared 31 = .ok (.istore 6, 2) := by decide +kernel
theorem dX8_bringDeclared_33 : decode cX8_bringDeclared 33 = .ok (.iload 6, 2) := by decide +kernel
theorem dX8_bringDeclared_35 : decode cX8_bringDeclared 35 = .ok (.aload_n 0, 1) := by decide +kernel
theorem dX8_bringDeclared_36 : decode cX8_bringDeclared 36 = .ok (.getfield 25, 3) := by decide +kernel
theorem dX8_bringDeclared_39 : decode cX8_bringDeclared 39 = .ok (.invokevirtual 82, 3) := by decide +kernel
theorem dX8_bringDeclared_42 : decode cX8_bringDeclared 42 = .ok (.if_icmp .ge 85, 3) := by decide +kernel
theorem dX8_bringDeclared_45 : decode cX8_bringDeclared 45 = .ok (.aload_n 0, 1) := by decide +kernel
theorem dX8_bringDeclared_46 : decode cX8_bringDeclared 46 = .ok (.getfield 25, 3) := by decide +kernel
theorem dX8_bringDeclared_49 : decode cX8_bringDeclared 49 = .ok (.iload 6, 2) := by decide +kernel
theorem dX8_bringDeclared_51 : decode cX8_bringDeclared 51 = .ok (.invokevirtual 238, 3) := by decide +kernel
theorem dX8_bringDeclared_54 : decode cX8_bringDeclared 54 = .ok (.checkcast 127, 3) := by decide +kernel
theorem dX8_bringDeclared_57 : decode cX8_bringDeclared 57 = .ok (.astore 7, 2) := by decide +kernel
theorem dX8_bringDeclared_59 : decode cX8_bringDeclared 59 = .ok (.aload 7, 2) := by decide +kernel
theorem dX8_bringDeclared_61 : decode cX8_bringDeclared 61 = .ok (.aload_n 1, 1) := by decide +kernel
theorem dX8_bringDeclared_62 : decode cX8_bringDeclared 62 = .ok (.getfield 484, 3) := by decide +kernel
theorem dX8_bringDeclared_65 : decode cX8_bringDeclared 65 = .ok (.invokevirtual 487, 3) := by decide +kernel
theorem dX8_bringDeclared_68 : decode cX8_bringDeclared 68 = .ok (.ifCond .ne 6, 3) := by decide +kernel
theorem dX8_bringDeclared_71 : decode cX8_bringDeclared 71 = .ok (.goto 50, 3) := by decide +kernel
theorem dX8_bringDeclared_74 : decode cX8_bringDeclared 74 = .ok (.aload 7, 2) := by decide +kernel
theorem dX8_bringDeclared_76 : decode cX8_bringDeclared 76 = .ok (.iload_n 3, 1) := by decide +kernel
theorem dX8_bringDeclared_77 : decode cX8_bringDeclared 77 = .ok (.invokevirtual 487, 3) := by decide +kernel
theorem dX8_bringDeclared_80 : decode cX8_bringDeclared 80 = .ok (.ifCond .ne 16, 3) := by decide +kernel
theorem dX8_bringDeclared_83 : decode cX8_bringDeclared 83 = .ok (.aload 7, 2) := by decide +kernel
theorem dX8_bringDeclared_85 : decode cX8_bringDeclared 85 = .ok (.aload_n 1, 1) := by decide +kernel
theorem dX8_bringDeclared_86 : decode cX8_bringDeclared 86 = .ok (.getfield 143, 3) := by decide +kernel
theorem dX8_bringDeclared_89 : decode cX8_bringDeclared 89 = .ok (.iconst 5, 1) := by decide +kernel
theorem dX8_bringDeclared_90 : decode cX8_bringDeclared 90 = .ok (.invokevirtual 480, 3) := by decide +kernel
theorem dX8_bringDeclared_93 : decode cX8_bringDeclared 93 = .ok (.goto 28, 3) := by decide +kernel
theorem dX8_bringDeclared_96 : decode cX8_bringDeclared 96 = .ok (.aload 7, 2) := by decide +kernel
theorem dX8_bringDeclared_98 : decode cX8_bringDeclared 98 = .ok (.iload 5, 2) := by decide +kernel
theorem dX8_bringDeclared_100 : decode cX8_bringDeclared 100 = .ok (.putfield 259, 3) := by decide +kernel
theorem dX8_bringDeclared_103 : decode cX8_bringDeclared 103 = .ok (.aload 7, 2) := by decide +kernel
theorem dX8_bringDeclared_105 : decode cX8_bringDeclared 105 = .ok (.invokevirtual 490, 3) := by decide +kernel
theorem dX8_bringDeclared_108 : decode cX8_bringDeclared 108 = .ok (.ifCond .eq 13, 3) := by decide +kernel
theorem dX8_bringDeclared_111 : decode cX8_bringDeclared 111 = .ok (.aload_n 2, 1) := by decide +kernel
theorem dX8_bringDeclared_112 : decode cX8_bringDeclared 112 = .ok (.dup, 1) := by decide +kernel
theorem dX8_bringDeclared_113 : decode cX8_bringDeclared 113 = .ok (.getfield 275, 3) := by decide +kernel
theorem dX8_bringDeclared_116 : decode cX8_bringDeclared 116 = .ok (.iconst 1, 1) := by decide +kernel
theorem dX8_bringDeclared_117 : decode cX8_bringDeclared 117 = .ok (.iadd, 1) := by decide +kernel
theorem dX8_bringDeclared_118 : decode cX8_bringDeclared 118 = .ok (.putfield 275, 3) := by decide +kernel
theorem dX8_bringDeclared_121 : decode cX8_bringDeclared 121 = .ok (.iinc 6 1, 3) := by decide +kernel
theorem dX8_bringDeclared_124 : decode cX8_bringDeclared 124 = .ok (.goto (-91), 3) := by decide +kernel
theorem dX8_bringDeclared_127 : decode cX8_bringDeclared 127 = .ok (.aload_n 2, 1) := by decide +kernel
theorem dX8_bringDeclared_128 : decode cX8_bringDeclared 128 = .ok (.dup, 1) := by decide +kernel
theorem dX8_bringDeclared_129 : decode cX8_bringDeclared 129 = .ok (.getfield 278, 3) := by decide +kernel
theorem dX8_bringDeclared_132 : decode cX8_bringDeclared 132 = .ok (.aload_n 2, 1) := by decide +kernel
theorem dX8_bringDeclared_133 : decode cX8_bringDeclared 133 = .ok (.iload 4, 2) := by decide +kernel
theorem dX8_bringDeclared_135 : decode cX8_bringDeclared 135 = .ok (.invokevirtual 398, 3) := by decide +kernel
theorem dX8_bringDeclared_138 : decode cX8_bringDeclared 138 = .ok (.iadd, 1) := by decide +kernel
theorem dX8_bringDeclared_139 : decode cX8_bringDeclared 139 = .ok (.putfield 278, 3) := by decide +kernel
theorem dX8_bringDeclared_142 : decode cX8_bringDeclared 142 = .ok (.return_, 1) := by decide +kernel
set_option maxRecDepth 100000 in
theorem ggX8_partsThatComeIn_Jx4a65c_size_8abf5 : GoodIn wsX8_partsThatComeIn wsJx4a65c_size_8abf5 := wk_g rfl wm_X8_partsThatComeIn 2173 wc_Jx4a65c_size_8abf5 rfl (by decide +kernel) (by decide +kernel) wq_Jx4a65c_size_8abf5
set_option maxRecDepth 100000 in
theorem gX8_partsThatComeIn_Jx4a65c_size_8abf5 : GoodIn wsX8_partsThatComeIn (wsV RX8 82 RJx4a65c yJx4a65c_size_8abf5 wsJx4a65c_size_8abf5) := goodIn_app (wk_h rfl wm_X8_partsThatComeIn [2170, 2171, 2172, 2004] (by decide +kernel) (by decide +kernel) (by decide +kernel)) ggX8_partsThatComeIn_Jx4a65c_size_8abf5
set_option maxRecDepth 100000 in
theorem ggX8_partsThatComeIn_Jx4a65c_get_915e3 : GoodIn wsX8_partsThatComeIn wsJx4a65c_get_915e3 := wk_g rfl wm_X8_partsThatComeIn 2177 wc_Jx4a65c_get_915e3 rfl (by decide +kernel) (by decide +kernel) wq_Jx4a65c_get_915e3
set_option maxRecDepth 100000 in
theorem gX8_partsThatComeIn_Jx4a65c_get_915e3 : GoodIn wsX8_partsThatComeIn (wsV RX8 238 RJx4a65c yJx4a65c_get_915e3 wsJx4a65c_get_915e3) := goodIn_app (wk_h rfl wm_X8_partsThatComeIn [2174, 2175, 2176, 2004] (by decide +kernel) (by decide +kernel) (by decide +kernel)) ggX8_partsThatComeIn_Jx4a65c_get_915e3
set_option maxRecDepth 100000 in
theorem ggX8_partsThatComeIn_X3_isIn : GoodIn wsX8_partsThatComeIn wsX3_isIn := wk_g rfl wm_X8_partsThatComeIn 3145 wc_X3_isIn rfl (by decide +kernel) (by decide +kernel) wq_X3_isIn
set_option maxRecDepth 100000 in
theorem gX8_partsThatComeIn_X3_isIn : GoodIn wsX8_partsThatComeIn (wsV RX8 487 RX3 yX3_isIn wsX3_isIn) := goodIn_app (wk_h rfl wm_X8_partsThatComeIn [3183, 3143, 3144, 2027] (by decide +kernel) (by decide +kernel) (by decide +kernel)) ggX8_partsThatComeIn_X3_isIn
set_option maxRecDepth 100000 in
theorem ggX8_partsThatComeIn_X3_isNightmare : GoodIn wsX8_partsThatComeIn wsX3_isNightmare := wk_g rfl wm_X8_partsThatComeIn 3187 wc_X3_isNightmare rfl (by decide +kernel) (by decide +kernel) wq_X3_isNightmare
set_option maxRecDepth 100000 in
theorem gX8_partsThatComeIn_X3_isNightmare : GoodIn wsX8_partsThatComeIn (wsV RX8 490 RX3 yX3_isNightmare wsX3_isNightmare) := goodIn_app (wk_h rfl wm_X8_partsThatComeIn [3184, 3185, 3186, 2027] (by decide +kernel) (by decide +kernel) (by decide +kernel)) ggX8_partsThatComeIn_X3_isNightmare
theorem dX8_partsThatComeIn_0 : decode cX8_partsThatComeIn 0 = .ok (.iconst 0, 1) := by decide +kernel
theorem dX8_partsThatComeIn_1 : decode cX8_partsThatComeIn 1 = .ok (.istore_n 3, 1) := by decide +kernel
theorem dX8_partsThatComeIn_2 : decode cX8_partsThatComeIn 2 = .ok (.aload_n 2, 1) := by decide +kernel
theorem dX8_partsThatComeIn_3 : decode cX8_partsThatComeIn 3 = .ok (.getfield 275, 3) := by decide +kernel
theorem dX8_partsThatComeIn_6 : decode cX8_partsThatComeIn 6 = .ok (.istore 4, 2) := by decide +kernel
theorem dX8_partsThatComeIn_8 : decode cX8_partsThatComeIn 8 = .ok (.iconst 0, 1) := by decide +kernel
theorem dX8_partsThatComeIn_9 : decode cX8_partsThatComeIn 9 = .ok (.istore 5, 2) := by decide +kernel
theorem dX8_partsThatComeIn_11 : decode cX8_partsThatComeIn 11 = .ok (.iload 5, 2) := by decide +kernel
theorem dX8_partsThatComeIn_13 : decode cX8_partsThatComeIn 13 = .ok (.aload_n 0, 1) := by decide +kernel
theorem dX8_partsThatComeIn_14 : decode cX8_partsThatComeIn 14 = .ok (.getfield 25, 3) := by decide +kernel
theorem dX8_partsThatComeIn_17 : decode cX8_partsThatComeIn 17 = .ok (.invokevirtual 82, 3) := by decide +kernel
theorem dX8_partsThatComeIn_20 : decode cX8_partsThatComeIn 20 = .ok (.if_icmp .ge 76, 3) := by decide +kernel
theorem dX8_partsThatComeIn_23 : decode cX8_partsThatComeIn 23 = .ok (.aload_n 0, 1) := by decide +kernel
theorem dX8_partsThatComeIn_24 : decode cX8_partsThatComeIn 24 = .ok (.getfield 25, 3) := by decide +kernel
theorem dX8_partsThatComeIn_27 : decode cX8_partsThatComeIn 27 = .ok (.iload 5, 2) := by decide +kernel
theorem dX8_partsThatComeIn_29 : decode cX8_partsThatComeIn 29 = .ok (.invokevirtual 238, 3) := by decide +kernel
theorem dX8_partsThatComeIn_32 : decode cX8_partsThatComeIn 32 = .ok (.checkcast 127, 3) := by decide +kernel
theorem dX8_partsThatComeIn_35 : decode cX8_partsThatComeIn 35 = .ok (.astore 6, 2) := by decide +kernel
theorem dX8_partsThatComeIn_37 : decode cX8_partsThatComeIn 37 = .ok (.aload 6, 2) := by decide +kernel
theorem dX8_partsThatComeIn_39 : decode cX8_partsThatComeIn 39 = .ok (.aload_n 1, 1) := by decide +kernel
theorem dX8_partsThatComeIn_40 : decode cX8_partsThatComeIn 40 = .ok (.getfield 484, 3) := by decide +kernel
theorem dX8_partsThatComeIn_43 : decode cX8_partsThatComeIn 43 = .ok (.invokevirtual 487, 3) := by decide +kernel
theorem dX8_partsThatComeIn_46 : decode cX8_partsThatComeIn 46 = .ok (.ifCond .eq 44, 3) := by decide +kernel
theorem dX8_partsThatComeIn_49 : decode cX8_partsThatComeIn 49 = .ok (.aload 6, 2) := by decide +kernel
theorem dX8_partsThatComeIn_51 : decode cX8_partsThatComeIn 51 = .ok (.invokevirtual 490, 3) := by decide +kernel
theorem dX8_partsThatComeIn_54 : decode cX8_partsThatComeIn 54 = .ok (.ifCond .eq 15, 3) := by decide +kernel
theorem dX8_partsThatComeIn_57 : decode cX8_partsThatComeIn 57 = .ok (.iload 4, 2) := by decide +kernel
theorem dX8_partsThatComeIn_59 : decode cX8_partsThatComeIn 59 = .ok (.aload_n 2, 1) := by decide +kernel
theorem dX8_partsThatComeIn_60 : decode cX8_partsThatComeIn 60 = .ok (.getfield 72, 3) := by decide +kernel
theorem dX8_partsThatComeIn_63 : decode cX8_partsThatComeIn 63 = .ok (.if_icmp .lt 6, 3) := by decide +kernel
theorem dX8_partsThatComeIn_66 : decode cX8_partsThatComeIn 66 = .ok (.goto 24, 3) := by decide +kernel
theorem dX8_partsThatComeIn_69 : decode cX8_partsThatComeIn 69 = .ok (.iload_n 3, 1) := by decide +kernel
theorem dX8_partsThatComeIn_70 : decode cX8_partsThatComeIn 70 = .ok (.iconst 1, 1) := by decide +kernel
theorem dX8_partsThatComeIn_71 : decode cX8_partsThatComeIn 71 = .ok (.aload 6, 2) := by decide +kernel
theorem dX8_partsThatComeIn_73 : decode cX8_partsThatComeIn 73 = .ok (.getfield 132, 3) := by decide +kernel
theorem dX8_partsThatComeIn_76 : decode cX8_partsThatComeIn 76 = .ok (.ishl, 1) := by decide +kernel
theorem dX8_partsThatComeIn_77 : decode cX8_partsThatComeIn 77 = .ok (.ior, 1) := by decide +kernel
theorem dX8_partsThatComeIn_78 : decode cX8_partsThatComeIn 78 = .ok (.istore_n 3, 1) := by decide +kernel
theorem dX8_partsThatComeIn_79 : decode cX8_partsThatComeIn 79 = .ok (.aload 6, 2) := by decide +kernel
theorem dX8_partsThatComeIn_81 : decode cX8_partsThatComeIn 81 = .ok (.invokevirtual 490, 3) := by decide +kernel
theorem dX8_partsThatComeIn_84 : decode cX8_partsThatComeIn 84 = .ok (.ifCond .eq 6, 3) := by decide +kernel
theorem dX8_partsThatComeIn_87 : decode cX8_partsThatComeIn 87 = .ok (.iinc 4 1, 3) := by decide +kernel
theorem dX8_partsThatComeIn_90 : decode cX8_partsThatComeIn 90 = .ok (.iinc 5 1, 3) := by decide +kernel
theorem dX8_partsThatComeIn_93 : decode cX8_partsThatComeIn 93 = .ok (.goto (-82), 3) := by decide +kernel
theorem dX8_partsThatComeIn_96 : decode cX8_partsThatComeIn 96 = .ok (.iload_n 3, 1) := by decide +kernel
theorem dX8_partsThatComeIn_97 : decode cX8_partsThatComeIn 97 = .ok (.ireturn, 1) := by decide +kernel
set_option maxRecDepth 100000 in
theorem ggX8_worthOf_Jx4a65c_size_8abf5 : GoodIn wsX8_worthOf wsJx4a65c_size_8abf5 := wk_g rfl wm_X8_worthOf 2173 wc_Jx4a65c_size_8abf5 rfl (by decide +kernel) (by decide +kernel) wq_Jx4a65c_size_8abf5
set_option maxRecDepth 100000 in
theorem gX8_worthOf_Jx4a65c_size_8abf5 : GoodIn wsX8_worthOf (wsV RX8 82 RJx4a65c yJx4a65c_size_8abf5 wsJx4a65c_size_8abf5) := goodIn_app (wk_h rfl wm_X8_worthOf [2170, 2171, 2172, 2004] (by decide +kernel) (by decide +kernel) (by decide +kernel)) ggX8_worthOf_Jx4a65c_size_8abf5
set_option maxRecDepth 100000 in
theorem ggX8_worthOf_Jx4a65c_get_915e3 : GoodIn wsX8_worthOf wsJx4a65c_get_915e3 := wk_g rfl wm_X8_worthOf 2177 wc_Jx4a65c_get_915e3 rfl (by decide +kernel) (by decide +kernel) wq_Jx4a65c_get_915e3
set_option maxRecDepth 100000 in
theorem gX8_worthOf_Jx4a65c_get_915e3 : GoodIn wsX8_worthOf (wsV RX8 238 RJx4a65c yJx4a65c_get_915e3 wsJx4a65c_get_915e3) := goodIn_app (wk_h rfl wm_X8_worthOf [2174, 2175, 2176, 2004] (by decide +kernel) (by decide +kernel) (by decide +kernel)) ggX8_worthOf_Jx4a65c_get_915e3
set_option maxRecDepth 100000 in
theorem ggX8_worthOf_X3_isIn : GoodIn wsX8_worthOf wsX3_isIn := wk_g rfl wm_X8_worthOf 3145 wc_X3_isIn rfl (by decide +kernel) (by decide +kernel) wq_X3_isIn
set_option maxRecDepth 100000 in
theorem gX8_worthOf_X3_isIn : GoodIn wsX8_worthOf (wsV RX8 487 RX3 yX3_isIn wsX3_isIn) := goodIn_app (wk_h rfl wm_X8_worthOf [3183, 3143, 3144, 2027] (by decide +kernel) (by decide +kernel) (by decide +kernel)) ggX8_worthOf_X3_isIn
theorem dX8_worthOf_0 : decode cX8_worthOf 0 = .ok (.iconst 0, 1) := by decide +kernel
theorem dX8_worthOf_1 : decode cX8_worthOf 1 = .ok (.istore_n 2, 1) := by decide +kernel
theorem dX8_worthOf_2 : decode cX8_worthOf 2 = .ok (.iconst 0, 1) := by decide +kernel
theorem dX8_worthOf_3 : decode cX8_worthOf 3 = .ok (.istore_n 3, 1) := by decide +kernel
theorem dX8_worthOf_4 : decode cX8_worthOf 4 = .ok (.iload_n 3, 1) := by decide +kernel
theorem dX8_worthOf_5 : decode cX8_worthOf 5 = .ok (.aload_n 0, 1) := by decide +kernel
theorem dX8_worthOf_6 : decode cX8_worthOf 6 = .ok (.getfield 25, 3) := by decide +kernel
theorem dX8_worthOf_9 : decode cX8_worthOf 9 = .ok (.invokevirtual 82, 3) := by decide +kernel
theorem dX8_worthOf_12 : decode cX8_worthOf 12 = .ok (.if_icmp .ge 39, 3) := by decide +kernel
theorem dX8_worthOf_15 : decode cX8_worthOf 15 = .ok (.aload_n 0, 1) := by decide +kernel
theorem dX8_worthOf_16 : decode cX8_worthOf 16 = .ok (.getfield 25, 3) := by decide +kernel
theorem dX8_worthOf_19 : decode cX8_worthOf 19 = .ok (.iload_n 3, 1) := by decide +kernel
theorem dX8_worthOf_20 : decode cX8_worthOf 20 = .ok (.invokevirtual 238, 3) := by decide +kernel
theorem dX8_worthOf_23 : decode cX8_worthOf 23 = .ok (.checkcast 127, 3) := by decide +kernel
theorem dX8_worthOf_26 : decode cX8_worthOf 26 = .ok (.astore 4, 2) := by decide +kernel
theorem dX8_worthOf_28 : decode cX8_worthOf 28 = .ok (.aload 4, 2) := by decide +kernel
theorem dX8_worthOf_30 : decode cX8_worthOf 30 = .ok (.iload_n 1, 1) := by decide +kernel
theorem dX8_worthOf_31 : decode cX8_worthOf 31 = .ok (.invokevirtual 487, 3) := by decide +kernel
theorem dX8_worthOf_34 : decode cX8_worthOf 34 = .ok (.ifCond .eq 11, 3) := by decide +kernel
theorem dX8_worthOf_37 : decode cX8_worthOf 37 = .ok (.iload_n 2, 1) := by decide +kernel
theorem dX8_worthOf_38 : decode cX8_worthOf 38 = .ok (.aload 4, 2) := by decide +kernel
theorem dX8_worthOf_40 : decode cX8_worthOf 40 = .ok (.getfield 264, 3) := by decide +kernel
theorem dX8_worthOf_43 : decode cX8_worthOf 43 = .ok (.iadd, 1) := by decide +kernel
theorem dX8_worthOf_44 : decode cX8_worthOf 44 = .ok (.istore_n 2, 1) := by decide +kernel
theorem dX8_worthOf_45 : decode cX8_worthOf 45 = .ok (.iinc 3 1, 3) := by decide +kernel
theorem dX8_worthOf_48 : decode cX8_worthOf 48 = .ok (.goto (-44), 3) := by decide +kernel
theorem dX8_worthOf_51 : decode cX8_worthOf 51 = .ok (.iload_n 2, 1) := by decide +kernel
theorem dX8_worthOf_52 : decode cX8_worthOf 52 = .ok (.ireturn, 1) := by decide +kernel
set_option maxRecDepth 100000 in
theorem ggX8_tireThoseWhoStand_Jx4a65c_size_8abf5 : GoodIn wsX8_tireThoseWhoStand wsJx4a65c_size_8abf5 := wk_g rfl wm_X8_tireThoseWhoStand 2173 wc_Jx4a65c_size_8abf5 rfl (by decide +kernel) (by decide +kernel) wq_Jx4a65c_size_8abf5
set_option maxRecDepth 100000 in
theorem gX8_tireThoseWhoStand_Jx4a65c_size_8abf5 : GoodIn wsX8_tireThoseWhoStand (wsV RX8 82 RJx4a65c yJx4a65c_size_8abf5 wsJx4a65c_size_8abf5) := goodIn_app (wk_h rfl wm_X8_tireThoseWhoStand [2170, 2171, 2172, 2004] (by decide +kernel) (by decide +kernel) (by decide +kernel)) ggX8_tireThoseWhoStand_Jx4a65c_size_8abf5
set_option maxRecDepth 100000 in
theorem ggX8_tireThoseWhoStand_Jx4a65c_get_915e3 : GoodIn wsX8_tireThoseWhoStand wsJx4a65c_get_915e3 := wk_g rfl wm_X8_tireThoseWhoStand 2177 wc_Jx4a65c_get_915e3 rfl (by decide +kernel) (by decide +kernel) wq_Jx4a65c_get_915e3
set_option maxRecDepth 100000 in
theorem gX8_tireThoseWhoStand_Jx4a65c_get_915e3 : GoodIn wsX8_tireThoseWhoStand (wsV RX8 238 RJx4a65c yJx4a65c_get_915e3 wsJx4a65c_get_915e3) := goodIn_app (wk_h rfl wm_X8_tireThoseWhoStand [2174, 2175, 2176, 2004] (by decide +kernel) (by decide +kernel) (by decide +kernel)) ggX8_tireThoseWhoStand_Jx4a65c_get_915e3
set_option maxRecDepth 100000 in
theorem ggX8_tireThoseWhoStand_Jx4a65c_remove_915e3 : GoodIn wsX8_tireThoseWhoStand wsJx4a65c_remove_915e3 := wk_g rfl wm_X8_tireThoseWhoStand 6173 wc_Jx4a65c_remove_915e3 rfl (by decide +kernel) (by decide +kernel) wq_Jx4a65c_remove_915e3
set_option maxRecDepth 100000 in
theorem gX8_tireThoseWhoStand_Jx4a65c_remove_915e3 : GoodIn wsX8_tireThoseWhoStand (wsV RX8 216 RJx4a65c yJx4a65c_remove_915e3 wsJx4a65c_remove_915e3) := goodIn_app (wk_h rfl wm_X8_tireThoseWhoStand [6170, 6171, 6172, 2004] (by decide +kernel) (by decide +kernel) (by decide +kernel)) ggX8_tireThoseWhoStand_Jx4a65c_remove_915e3
set_option maxRecDepth 100000 in
theorem ggX8_tireThoseWhoStand_X8_wake : GoodIn wsX8_tireThoseWhoStand wsX8_wake := wk_g rfl wm_X8_tireThoseWhoStand 6239 wc_X8_wake rfl (by decide +kernel) (by decide +kernel) wq_X8_wake
set_option maxRecDepth 100000 in
theorem gX8_tireThoseWhoStand_X8_wake : GoodIn wsX8_tireThoseWhoStand (wsV RX8 493 RX8 yX8_wake wsX8_wake) := goodIn_app (wk_h rfl wm_X8_tireThoseWhoStand [6236, 6238, 1041, 2001] (by decide +kernel) (by decide +kernel) (by decide +kernel)) ggX8_tireThoseWhoStand_X8_wake
theorem dX8_tireThoseWhoStand_0 : decode cX8_tireThoseWhoStand 0 = .ok (.aload_n 1, 1) := by decide +kernel
theorem dX8_tireThoseWhoStand_1 : decode cX8_tireThoseWhoStand 1 = .ok (.getfield 197, 3) := by decide +kernel
theorem dX8_tireThoseWhoStand_4 : decode cX8_tireThoseWhoStand 4 = .ok (.invokevirtual 82, 3) := by decide +kernel
theorem dX8_tireThoseWhoStand_7 : decode cX8_tireThoseWhoStand 7 = .ok (.iconst 1, 1) := by decide +kernel
theorem dX8_tireThoseWhoStand_8 : decode cX8_tireThoseWhoStand 8 = .ok (.isub, 1) := by decide +kernel
theorem dX8_tireThoseWhoStand_9 : decode cX8_tireThoseWhoStand 9 = .ok (.istore_n 2, 1) := by decide +kernel
theorem dX8_tireThoseWhoStand_10 : decode cX8_tireThoseWhoStand 10 = .ok (.iload_n 2, 1) := by decide +kernel
theorem dX8_tireThoseWhoStand_11 : decode cX8_tireThoseWhoStand 11 = .ok (.ifCond .lt 52, 3) := by decide +kernel
theorem dX8_tireThoseWhoStand_14 : decode cX8_tireThoseWhoStand 14 = .ok (.aload_n 1, 1) := by decide +kernel
theorem dX8_tireThoseWhoStand_15 : decode cX8_tireThoseWhoStand 15 = .ok (.getfield 197, 3) := by decide +kernel
theorem dX8_tireThoseWhoStand_18 : decode cX8_tireThoseWhoStand 18 = .ok (.iload_n 2, 1) := by decide +kernel
theorem dX8_tireThoseWhoStand_19 : decode cX8_tireThoseWhoStand 19 = .ok (.invokevirtual 238, 3) := by decide +kernel
theorem dX8_tireThoseWhoStand_22 : decode cX8_tireThoseWhoStand 22 = .ok (.checkcast 112, 3) := by decide +kernel
theorem dX8_tireThoseWhoStand_25 : decode cX8_tireThoseWhoStand 25 = .ok (.astore_n 3, 1) := by decide +kernel
theorem dX8_tireThoseWhoStand_26 : decode cX8_tireThoseWhoStand 26 = .ok (.aload_n 3, 1) := by decide +kernel
theorem dX8_tireThoseWhoStand_27 : decode cX8_tireThoseWhoStand 27 = .ok (.dup, 1) := by decide +kernel
theorem dX8_tireThoseWhoStand_28 : decode cX8_tireThoseWhoStand 28 = .ok (.getfield 310, 3) := by decide +kernel
theorem dX8_tireThoseWhoStand_31 : decode cX8_tireThoseWhoStand 31 = .ok (.iconst 1, 1) := by decide +kernel
theorem dX8_tireThoseWhoStand_32 : decode cX8_tireThoseWhoStand 32 = .ok (.isub, 1) := by decide +kernel
theorem dX8_tireThoseWhoStand_33 : decode cX8_tireThoseWhoStand 33 = .ok (.putfield 310, 3) := by decide +kernel
theorem dX8_tireThoseWhoStand_36 : decode cX8_tireThoseWhoStand 36 = .ok (.aload_n 3, 1) := by decide +kernel
theorem dX8_tireThoseWhoStand_37 : decode cX8_tireThoseWhoStand 37 = .ok (.getfield 310, 3) := by decide +kernel
theorem dX8_tireThoseWhoStand_40 : decode cX8_tireThoseWhoStand 40 = .ok (.ifCond .gt 17, 3) := by decide +kernel
theorem dX8_tireThoseWhoStand_43 : decode cX8_tireThoseWhoStand 43 = .ok (.aload_n 1, 1) := by decide +kernel
theorem dX8_tireThoseWhoStand_44 : decode cX8_tireThoseWhoStand 44 = .ok (.getfield 197, 3) := by decide +kernel
theorem dX8_tireThoseWhoStand_47 : decode cX8_tireThoseWhoStand 47 = .ok (.iload_n 2, 1) := by decide +kernel
theorem dX8_tireThoseWhoStand_48 : decode cX8_tireThoseWhoStand 48 = .ok (.invokevirtual 216, 3) := by decide +kernel
theorem dX8_tireThoseWhoStand_51 : decode cX8_tireThoseWhoStand 51 = .ok (.pop, 1) := by decide +kernel
theorem dX8_tireThoseWhoStand_52 : decode cX8_tireThoseWhoStand 52 = .ok (.aload_n 0, 1) := by decide +kernel
theorem dX8_tireThoseWhoStand_53 : decode cX8_tireThoseWhoStand 53 = .ok (.aload_n 3, 1) := by decide +kernel
theorem dX8_tireThoseWhoStand_54 : decode cX8_tireThoseWhoStand 54 = .ok (.invokevirtual 493, 3) := by decide +kernel
theorem dX8_tireThoseWhoStand_57 : decode cX8_tireThoseWhoStand 57 = .ok (.iinc 2 (-1), 3) := by decide +kernel
theorem dX8_tireThoseWhoStand_60 : decode cX8_tireThoseWhoStand 60 = .ok (.goto (-50), 3) := by decide +kernel
theorem dX8_tireThoseWhoStand_63 : decode cX8_tireThoseWhoStand 63 = .ok (.return_, 1) := by decide +kernel
set_option maxRecDepth 100000 in
theorem ggX8_wake_X6_stepOut : GoodIn wsX8_wake wsX6_stepOut := wk_g rfl wm_X8_wake 6181 wc_X6_stepOut rfl (by decide +kernel) (by decide +kernel) wq_X6_stepOut
set_option maxRecDepth 100000 in
theorem gX8_wake_X6_stepOut : GoodIn wsX8_wake (wsV RX8 220 RX6 yX6_stepOut wsX6_stepOut) := goodIn_app (wk_h rfl wm_X8_wake [6178, 6179, 6180, 2025] (by decide +kernel) (by decide +kernel) (by decide +kernel)) ggX8_wake_X6_stepOut
set_option maxRecDepth 100000 in
theorem ggX8_wake_Jx4a65c_size_8abf5 : GoodIn wsX8_wake wsJx4a65c_size_8abf5 := wk_g rfl wm_X8_wake 2173 wc_Jx4a65c_size_8abf5 rfl (by decide +kernel) (by decide +kernel) wq_Jx4a65c_size_8abf5
set_option maxRecDepth 100000 in
theorem gX8_wake_Jx4a65c_size_8abf5 : GoodIn wsX8_wake (wsV RX8 82 RJx4a65c yJx4a65c_size_8abf5 wsJx4a65c_size_8abf5) := goodIn_app (wk_h rfl wm_X8_wake [2170, 2171, 2172, 2004] (by decide +kernel) (by decide +kernel) (by decide +kernel)) ggX8_wake_Jx4a65c_size_8abf5
set_option maxRecDepth 100000 in
theorem ggX8_wake_Jx4a65c_get_915e3 : GoodIn wsX8_wake wsJx4a65c_get_915e3 := wk_g rfl wm_X8_wake 2177 wc_Jx4a65c_get_915e3 rfl (by decide +kernel) (by decide +kernel) wq_Jx4a65c_get_915e3
set_option maxRecDepth 100000 in
theorem gX8_wake_Jx4a65c_get_915e3 : GoodIn wsX8_wake (wsV RX8 238 RJx4a65c yJx4a65c_get_915e3 wsJx4a65c_get_915e3) := goodIn_app (wk_h rfl wm_X8_wake [2174, 2175, 2176, 2004] (by decide +kernel) (by decide +kernel) (by decide +kernel)) ggX8_wake_Jx4a65c_get_915e3
theorem dX8_wake_0 : decode cX8_wake 0 = .ok (.aload_n 1, 1) := by decide +kernel
theorem dX8_wake_1 : decode cX8_wake 1 = .ok (.iconst 2, 1) := by decide +kernel
theorem dX8_wake_2 : decode cX8_wake 2 = .ok (.invokevirtual 220, 3) := by decide +kernel
theorem dX8_wake_5 : decode cX8_wake 5 = .ok (.iconst 0, 1) := by decide +kernel
theorem dX8_wake_6 : decode cX8_wake 6 = .ok (.istore_n 2, 1) := by decide +kernel
theorem dX8_wake_7 : decode cX8_wake 7 = .ok (.iload_n 2, 1) := by decide +kernel
theorem dX8_wake_8 : decode cX8_wake 8 = .ok (.aload_n 0, 1) := by decide +kernel
theorem dX8_wake_9 : decode cX8_wake 9 = .ok (.getfield 25, 3) := by decide +kernel
theorem dX8_wake_12 : decode cX8_wake 12 = .ok (.invokevirtual 82, 3) := by decide +kernel
theorem dX8_wake_15 : decode cX8_wake 15 = .ok (.if_icmp .ge 34, 3) := by decide +kernel
theorem dX8_wake_18 : decode cX8_wake 18 = .ok (.aload_n 0, 1) := by decide +kernel
theorem dX8_wake_19 : decode cX8_wake 19 = .ok (.getfield 25, 3) := by decide +kernel
theorem dX8_wake_22 : decode cX8_wake 22 = .ok (.iload_n 2, 1) := by decide +kernel
theorem dX8_wake_23 : decode cX8_wake 23 = .ok (.invokevirtual 238, 3) := by decide +kernel
theorem dX8_wake_26 : decode cX8_wake 26 = .ok (.checkcast 127, 3) := by decide +kernel
theorem dX8_wake_29 : decode cX8_wake 29 = .ok (.astore_n 3, 1) := by decide +kernel
theorem dX8_wake_30 : decode cX8_wake 30 = .ok (.aload_n 3, 1) := by decide +kernel
theorem dX8_wake_31 : decode cX8_wake 31 = .ok (.getfield 137, 3) := by decide +kernel
theorem dX8_wake_34 : decode cX8_wake 34 = .ok (.aload_n 1, 1) := by decide +kernel
theorem dX8_wake_35 : decode cX8_wake 35 = .ok (.if_acmp .ne 8, 3) := by decide +kernel
theorem dX8_wake_38 : decode cX8_wake 38 = .ok (.aload_n 3, 1) := by decide +kernel
theorem dX8_wake_39 : decode cX8_wake 39 = .ok (.aconst_null, 1) := by decide +kernel
theorem dX8_wake_40 : decode cX8_wake 40 = .ok (.putfield 137, 3) := by decide +kernel
theorem dX8_wake_43 : decode cX8_wake 43 = .ok (.iinc 2 1, 3) := by decide +kernel
theorem dX8_wake_46 : decode cX8_wake 46 = .ok (.goto (-39), 3) := by decide +kernel
theorem dX8_wake_49 : decode cX8_wake 49 = .ok (.return_, 1) := by decide +kernel
set_option maxRecDepth 100000 in
theorem ggX8_beginHour_X8_beginNight : GoodIn wsX8_beginHour wsX8_beginNight := wk_g rfl wm_X8_beginHour 7023 wc_X8_beginNight rfl (by decide +kernel) (by decide +kernel) wq_X8_beginNight
set_option maxRecDepth 100000 in
theorem gX8_beginHour_X8_beginNight : GoodIn wsX8_beginHour (wsV RX8 497 RX8 yX8_beginNight wsX8_beginNight) := goodIn_app (wk_h rfl wm_X8_beginHour [7020, 7022, 1043, 2001] (by decide +kernel) (by decide +kernel) (by decide +kernel)) ggX8_beginHour_X8_beginNight
set_option maxRecDepth 100000 in
theorem ggX8_beginHour_X8_spreadRevoked : GoodIn wsX8_beginHour wsX8_spreadRevoked := wk_g rfl wm_X8_beginHour 7027 wc_X8_spreadRevoked rfl (by decide +kernel) (by decide +kernel) wq_X8_spreadRevoked
set_option maxRecDepth 100000 in
theorem gX8_beginHour_X8_spreadRevoked : GoodIn wsX8_beginHour (wsV RX8 500 RX8 yX8_spreadRevoked wsX8_spreadRevoked) := goodIn_app (wk_h rfl wm_X8_beginHour [7024, 7026, 1044, 2001] (by decide +kernel) (by decide +kernel) (by decide +kernel)) ggX8_beginHour_X8_spreadRevoked
set_option maxRecDepth 100000 in
theorem ggX8_beginHour_Jx4a65c_size_8abf5 : GoodIn wsX8_beginHour wsJx4a65c_size_8abf5 := wk_g rfl wm_X8_beginHour 2173 wc_Jx4a65c_size_8abf5 rfl (by decide +kernel) (by decide +kernel) wq_Jx4a65c_size_8abf5
set_option maxRecDepth 100000 in
theorem gX8_beginHour_Jx4a65c_size_8abf5 : GoodIn wsX8_beginHour (wsV RX8 82 RJx4a65c yJx4a65c_size_8abf5 wsJx4a65c_size_8abf5) := goodIn_app (wk_h rfl wm_X8_beginHour [2170, 2171, 2172, 2004] (by decide +kernel) (by decide +kernel) (by decide +kernel)) ggX8_beginHour_Jx4a65c_size_8abf5
set_option maxRecDepth 100000 in
theorem ggX8_beginHour_Jx4a65c_get_915e3 : GoodIn wsX8_beginHour wsJx4a65c_get_915e3 := wk_g rfl wm_X8_beginHour 2177 wc_Jx4a65c_get_915e3 rfl (by decide +kernel) (by decide +kernel) wq_Jx4a65c_get_915e3
set_option maxRecDepth 100000 in
theorem gX8_beginHour_Jx4a65c_get_915e3 : GoodIn wsX8_beginHour (wsV RX8 238 RJx4a65c yJx4a65c_get_915e3 wsJx4a65c_get_915e3) := goodIn_app (wk_h rfl wm_X8_beginHour [2174, 2175, 2176, 2004] (by decide +kernel) (by decide +kernel) (by decide +kernel)) ggX8_beginHour_Jx4a65c_get_915e3
set_option maxRecDepth 100000 in
theorem ggX8_beginHour_X0_isOpenAt : GoodIn wsX8_beginHour wsX0_isOpenAt := wk_g rfl wm_X8_beginHour 3125 wc_X0_isOpenAt rfl (by decide +kernel) (by decide +kernel) wq_X0_isOpenAt
set_option maxRecDepth 100000 in
theorem gX8_beginHour_X0_isOpenAt : GoodIn wsX8_beginHour (wsV RX8 226 RX0 yX0_isOpenAt wsX0_isOpenAt) := goodIn_app (wk_h rfl wm_X8_beginHour [3122, 3123, 3124, 2016] (by decide +kernel) (by decide +kernel) (by decide +kernel)) ggX8_beginHour_X0_isOpenAt
theorem dX8_beginHour_0 : decode cX8_beginHour 0 = .ok (.aload_n 0, 1) := by decide +kernel
theorem dX8_beginHour_1 : decode cX8_beginHour 1 = .ok (.dup, 1) := by decide +kernel
theorem dX8_beginHour_2 : decode cX8_beginHour 2 = .ok (.getfield 223, 3) := by decide +kernel
theorem dX8_beginHour_5 : decode cX8_beginHour 5 = .ok (.iconst 1, 1) := by decide +kernel
theorem dX8_beginHour_6 : decode cX8_beginHour 6 = .ok (.iadd, 1) := by decide +kernel
theorem dX8_beginHour_7 : decode cX8_beginHour 7 = .ok (.putfield 223, 3) := by decide +kernel
theorem dX8_beginHour_10 : decode cX8_beginHour 10 = .ok (.aload_n 0, 1) := by decide +kernel
theorem dX8_beginHour_11 : decode cX8_beginHour 11 = .ok (.getfield 223, 3) := by decide +kernel
theorem dX8_beginHour_14 : decode cX8_beginHour 14 = .ok (.bipush 24, 2) := by decide +kernel
theorem dX8_beginHour_16 : decode cX8_beginHour 16 = .ok (.if_icmp .ne 12, 3) := by decide +kernel
theorem dX8_beginHour_19 : decode cX8_beginHour 19 = .ok (.aload_n 0, 1) := by decide +kernel
theorem dX8_beginHour_20 : decode cX8_beginHour 20 = .ok (.iconst 0, 1) := by decide +kernel
theorem dX8_beginHour_21 : decode cX8_beginHour 21 = .ok (.putfield 223, 3) := by decide +kernel
theorem dX8_beginHour_24 : decode cX8_beginHour 24 = .ok (.aload_n 0, 1) := by decide +kernel
theorem dX8_beginHour_25 : decode cX8_beginHour 25 = .ok (.invokevirtual 497, 3) := by decide +kernel
theorem dX8_beginHour_28 : decode cX8_beginHour 28 = .ok (.aload_n 0, 1) := by decide +kernel
theorem dX8_beginHour_29 : decode cX8_beginHour 29 = .ok (.invokevirtual 500, 3) := by decide +kernel
theorem dX8_beginHour_32 : decode cX8_beginHour 32 = .ok (.iconst 0, 1) := by decide +kernel
theorem dX8_beginHour_33 : decode cX8_beginHour 33 = .ok (.istore_n 1, 1) := by decide +kernel
theorem dX8_beginHour_34 : decode cX8_beginHour 34 = .ok (.iload_n 1, 1) := by decide +kernel
theorem dX8_beginHour_35 : decode cX8_beginHour 35 = .ok (.aload_n 0, 1) := by decide +kernel
theorem dX8_beginHour_36 : decode cX8_beginHour 36 = .ok (.getfield 18, 3) := by decide +kernel
theorem dX8_beginHour_39 : decode cX8_beginHour 39 = .ok (.invokevirtual 82, 3) := by decide +kernel
theorem dX8_beginHour_42 : decode cX8_beginHour 42 = .ok (.if_icmp .ge 46, 3) := by decide +kernel
theorem dX8_beginHour_45 : decode cX8_beginHour 45 = .ok (.aload_n 0, 1) := by decide +kernel
theorem dX8_beginHour_46 : decode cX8_beginHour 46 = .ok (.getfield 18, 3) := by decide +kernel
theorem dX8_beginHour_49 : decode cX8_beginHour 49 = .ok (.iload_n 1, 1) := by decide +kernel
theorem dX8_beginHour_50 : decode cX8_beginHour 50 = .ok (.invokevirtual 238, 3) := by decide +kernel
theorem dX8_beginHour_53 : decode cX8_beginHour 53 = .ok (.checkcast 88, 3) := by decide +kernel
theorem dX8_beginHour_56 : decode cX8_beginHour 56 = .ok (.astore_n 2, 1) := by decide +kernel
theorem dX8_beginHour_57 : decode cX8_beginHour 57 = .ok (.aload_n 2, 1) := by decide +kernel
theorem dX8_beginHour_58 : decode cX8_beginHour 58 = .ok (.aload_n 2, 1) := by decide +kernel
theorem dX8_beginHour_59 : decode cX8_beginHour 59 = .ok (.aload_n 0, 1) := by decide +kernel
theorem dX8_beginHour_60 : decode cX8_beginHour 60 = .ok (.getfield 223, 3) := by decide +kernel
theorem dX8_beginHour_63 : decode cX8_beginHour 63 = .ok (.invokevirtual 226, 3) := by decide +kernel
theorem dX8_beginHour_66 : decode cX8_beginHour 66 = .ok (.ifCond .eq 12, 3) := by decide +kernel
theorem dX8_beginHour_69 : decode cX8_beginHour 69 = .ok (.aload_n 2, 1) := by decide +kernel
theorem dX8_beginHour_70 : decode cX8_beginHour 70 = .ok (.getfield 107, 3) := by decide +kernel
theorem dX8_beginHour_73 : decode cX8_beginHour 73 = .ok (.iconst 1, 1) := by decide +kernel
theorem dX8_beginHour_74 : decode cX8_beginHour 74 = .ok (.iadd, 1) := by decide +kernel
theorem dX8_beginHour_75 : decode cX8_beginHour 75 = .ok (.goto 4, 3) := by decide +kernel
theorem dX8_beginHour_78 : decode cX8_beginHour 78 = .ok (.iconst 0, 1) := by decide +kernel
theorem dX8_beginHour_79 : decode cX8_beginHour 79 = .ok (.putfield 107, 3) := by decide +kernel
theorem dX8_beginHour_82 : decode cX8_beginHour 82 = .ok (.iinc 1 1, 3) := by decide +kernel
theorem dX8_beginHour_85 : decode cX8_beginHour 85 = .ok (.goto (-51), 3) := by decide +kernel
theorem dX8_beginHour_88 : decode cX8_beginHour 88 = .ok (.return_, 1) := by decide +kernel
set_option maxRecDepth 100000 in
theorem ggX8_beginNight_Jx4a65c_size_8abf5 : GoodIn wsX8_beginNight wsJx4a65c_size_8abf5 := wk_g rfl wm_X8_beginNight 2173 wc_Jx4a65c_size_8abf5 rfl (by decide +kernel) (by decide +kernel) wq_Jx4a65c_size_8abf5
set_option maxRecDepth 100000 in
theorem gX8_beginNight_Jx4a65c_size_8abf5 : GoodIn wsX8_beginNight (wsV RX8 82 RJx4a65c yJx4a65c_size_8abf5 wsJx4a65c_size_8abf5) := goodIn_app (wk_h rfl wm_X8_beginNight [2170, 2171, 2172, 2004] (by decide +kernel) (by decide +kernel) (by decide +kernel)) ggX8_beginNight_Jx4a65c_size_8abf5
set_option maxRecDepth 100000 in
theorem ggX8_beginNight_Jx4a65c_get_915e3 : GoodIn wsX8_beginNight wsJx4a65c_get_915e3 := wk_g rfl wm_X8_beginNight 2177 wc_Jx4a65c_get_915e3 rfl (by decide +kernel) (by decide +kernel) wq_Jx4a65c_get_915e3
set_option maxRecDepth 100000 in
theorem gX8_beginNight_Jx4a65c_get_915e3 : GoodIn wsX8_beginNight (wsV RX8 238 RJx4a65c yJx4a65c_get_915e3 wsJx4a65c_get_915e3) := goodIn_app (wk_h rfl wm_X8_beginNight [2174, 2175, 2176, 2004] (by decide +kernel) (by decide +kernel) (by decide +kernel)) ggX8_beginNight_Jx4a65c_get_915e3
theorem dX8_beginNight_0 : decode cX8_beginNight 0 = .ok (.aload_n 0, 1) := by decide +kernel
theorem dX8_beginNight_1 : decode cX8_beginNight 1 = .ok (.dup, 1) := by decide +kernel
theorem dX8_beginNight_2 : decode cX8_beginNight 2 = .ok (.getfield 149, 3) := by decide +kernel
theorem dX8_beginNight_5 : decode cX8_beginNight 5 = .ok (.iconst 1, 1) := by decide +kernel
theorem dX8_beginNight_6 : decode cX8_beginNight 6 = .ok (.iadd, 1) := by decide +kernel
theorem dX8_beginNight_7 : decode cX8_beginNight 7 = .ok (.putfield 149, 3) := by decide +kernel
theorem dX8_beginNight_10 : decode cX8_beginNight 10 = .ok (.aload_n 0, 1) := by decide +kernel
theorem dX8_beginNight_11 : decode cX8_beginNight 11 = .ok (.getfield 11, 3) := by decide +kernel
theorem dX8_beginNight_14 : decode cX8_beginNight 14 = .ok (.astore_n 1, 1) := by decide +kernel
theorem dX8_beginNight_15 : decode cX8_beginNight 15 = .ok (.aload_n 1, 1) := by decide +kernel
theorem dX8_beginNight_16 : decode cX8_beginNight 16 = .ok (.arraylength, 1) := by decide +kernel
theorem dX8_beginNight_17 : decode cX8_beginNight 17 = .ok (.istore_n 2, 1) := by decide +kernel
theorem dX8_beginNight_18 : decode cX8_beginNight 18 = .ok (.iconst 0, 1) := by decide +kernel
theorem dX8_beginNight_19 : decode cX8_beginNight 19 = .ok (.istore_n 3, 1) := by decide +kernel
theorem dX8_beginNight_20 : decode cX8_beginNight 20 = .ok (.iload_n 3, 1) := by decide +kernel
theorem dX8_beginNight_21 : decode cX8_beginNight 21 = .ok (.iload_n 2, 1) := by decide +kernel
theorem dX8_beginNight_22 : decode cX8_beginNight 22 = .ok (.if_icmp .ge 20, 3) := by decide +kernel
theorem dX8_beginNight_25 : decode cX8_beginNight 25 = .ok (.aload_n 1, 1) := by decide +kernel
theorem dX8_beginNight_26 : decode cX8_beginNight 26 = .ok (.iload_n 3, 1) := by decide +kernel
theorem dX8_beginNight_27 : decode cX8_beginNight 27 = .ok (.aaload, 1) := by decide +kernel
theorem dX8_beginNight_28 : decode cX8_beginNight 28 = .ok (.astore 4, 2) := by decide +kernel
theorem dX8_beginNight_30 : decode cX8_beginNight 30 = .ok (.aload 4, 2) := by decide +kernel
theorem dX8_beginNight_32 : decode cX8_beginNight 32 = .ok (.iconst 0, 1) := by decide +kernel
theorem dX8_beginNight_33 : decode cX8_beginNight 33 = .ok (.putfield 275, 3) := by decide +kernel
theorem dX8_beginNight_36 : decode cX8_beginNight 36 = .ok (.iinc 3 1, 3) := by decide +kernel
theorem dX8_beginNight_39 : decode cX8_beginNight 39 = .ok (.goto (-19), 3) := by decide +kernel
theorem dX8_beginNight_42 : decode cX8_beginNight 42 = .ok (.iconst 0, 1) := by decide +kernel
theorem dX8_beginNight_43 : decode cX8_beginNight 43 = .ok (.istore_n 1, 1) := by decide +kernel
theorem dX8_beginNight_44 : decode cX8_beginNight 44 = .ok (.iload_n 1, 1) := by decide +kernel
theorem dX8_beginNight_45 : decode cX8_beginNight 45 = .ok (.aload_n 0, 1) := by decide +kernel
theorem dX8_beginNight_46 : decode cX8_beginNight 46 = .ok (.getfield 22, 3) := by decide +kernel
theorem dX8_beginNight_49 : decode cX8_beginNight 49 = .ok (.invokevirtual 82, 3) := by decide +kernel
theorem dX8_beginNight_52 : decode cX8_beginNight 52 = .ok (.if_icmp .ge 47, 3) := by decide +kernel
theorem dX8_beginNight_55 : decode cX8_beginNight 55 = .ok (.aload_n 0, 1) := by decide +kernel
theorem dX8_beginNight_56 : decode cX8_beginNight 56 = .ok (.getfield 22, 3) := by decide +kernel
theorem dX8_beginNight_59 : decode cX8_beginNight 59 = .ok (.iload_n 1, 1) := by decide +kernel
theorem dX8_beginNight_60 : decode cX8_beginNight 60 = .ok (.invokevirtual 238, 3) := by decide +kernel
theorem dX8_beginNight_63 : decode cX8_beginNight 63 = .ok (.checkcast 112, 3) := by decide +kernel
theorem dX8_beginNight_66 : decode cX8_beginNight 66 = .ok (.astore_n 2, 1) := by decide +kernel
theorem dX8_beginNight_67 : decode cX8_beginNight 67 = .ok (.aload_n 2, 1) := by decide +kernel
theorem dX8_beginNight_68 : decode cX8_beginNight 68 = .ok (.getfield 157, 3) := by decide +kernel
theorem dX8_beginNight_71 : decode cX8_beginNight 71 = .ok (.ifnull 22, 3) := by decide +kernel
theorem dX8_beginNight_74 : decode cX8_beginNight 74 = .ok (.aload_n 2, 1) := by decide +kernel
theorem dX8_beginNight_75 : decode cX8_beginNight 75 = .ok (.getfield 157, 3) := by decide +kernel
theorem dX8_beginNight_78 : decode cX8_beginNight 78 = .ok (.getfield 456, 3) := by decide +kernel
theorem dX8_beginNight_81 : decode cX8_beginNight 81 = .ok (.aload_n 0, 1) := by decide +kernel
theorem dX8_beginNight_82 : decode cX8_beginNight 82 = .ok (.getfield 149, 3) := by decide +kernel
theorem dX8_beginNight_85 : decode cX8_beginNight 85 = .ok (.if_icmp .ge 8, 3) := by decide +kernel
theorem dX8_beginNight_88 : decode cX8_beginNight 88 = .ok (.aload_n 2, 1) := by decide +kernel
theorem dX8_beginNight_89 : decode cX8_beginNight 89 = .ok (.aconst_null, 1) := by decide +kernel
theorem dX8_beginNight_90 : decode cX8_beginNight 90 = .ok (.putfield 157, 3) := by decide +kernel
theorem dX8_beginNight_93 : decode cX8_beginNight 93 = .ok (.iinc 1 1, 3) := by decide +kernel
theorem dX8_beginNight_96 : decode cX8_beginNight 96 = .ok (.goto (-52), 3) := by decide +kernel
theorem dX8_beginNight_99 : decode cX8_beginNight 99 = .ok (.return_, 1) := by decide +kernel
set_option maxRecDepth 100000 in
theorem ggX8_spreadRevoked_Jx4a65c_size_8abf5 : GoodIn wsX8_spreadRevoked wsJx4a65c_size_8abf5 := wk_g rfl wm_X8_spreadRevoked 2173 wc_Jx4a65c_size_8abf5 rfl (by decide +kernel) (by decide +kernel) wq_Jx4a65c_size_8abf5
set_option maxRecDepth 100000 in
theorem gX8_spreadRevoked_Jx4a65c_size_8abf5 : GoodIn wsX8_spreadRevoked (wsV RX8 82 RJx4a65c yJx4a65c_size_8abf5 wsJx4a65c_size_8abf5) := goodIn_app (wk_h rfl wm_X8_spreadRevoked [2170, 2171, 2172, 2004] (by decide +kernel) (by decide +kernel) (by decide +kernel)) ggX8_spreadRevoked_Jx4a65c_size_8abf5
set_option maxRecDepth 100000 in
theorem ggX8_spreadRevoked_Jx4a65c_get_915e3 : GoodIn wsX8_spreadRevoked wsJx4a65c_get_915e3 := wk_g rfl wm_X8_spreadRevoked 2177 wc_Jx4a65c_get_915e3 rfl (by decide +kernel) (by decide +kernel) wq_Jx4a65c_get_915e3
set_option maxRecDepth 100000 in
theorem gX8_spreadRevoked_Jx4a65c_get_915e3 : GoodIn wsX8_spreadRevoked (wsV RX8 238 RJx4a65c yJx4a65c_get_915e3 wsJx4a65c_get_915e3) := goodIn_app (wk_h rfl wm_X8_spreadRevoked [2174, 2175, 2176, 2004] (by decide +kernel) (by decide +kernel) (by decide +kernel)) ggX8_spreadRevoked_Jx4a65c_get_915e3
set_option maxRecDepth 100000 in
theorem ggX8_spreadRevoked_X0_isAt : GoodIn wsX8_spreadRevoked wsX0_isAt := wk_g rfl wm_X8_spreadRevoked 2203 wc_X0_isAt rfl (by decide +kernel) (by decide +kernel) wq_X0_isAt
set_option maxRecDepth 100000 in
theorem gX8_spreadRevoked_X0_isAt : GoodIn wsX8_spreadRevoked (wsV RX8 184 RX0 yX0_isAt wsX0_isAt) := goodIn_app (wk_h rfl wm_X8_spreadRevoked [2200, 2201, 2202, 2016] (by decide +kernel) (by decide +kernel) (by decide +kernel)) ggX8_spreadRevoked_X0_isAt
set_option maxRecDepth 100000 in
theorem ggX8_spreadRevoked_X7_putAll : GoodIn wsX8_spreadRevoked wsX7_putAll := wk_g rfl wm_X8_spreadRevoked 7031 wc_X7_putAll rfl (by decide +kernel) (by decide +kernel) wq_X7_putAll
set_option maxRecDepth 100000 in
theorem gX8_spreadRevoked_X7_putAll : GoodIn wsX8_spreadRevoked (wsV RX8 506 RX7 yX7_putAll wsX7_putAll) := goodIn_app (wk_h rfl wm_X8_spreadRevoked [7028, 7029, 7030, 2017] (by decide +kernel) (by decide +kernel) (by decide +kernel)) ggX8_spreadRevoked_X7_putAll
theorem dX8_spreadRevoked_0 : decode cX8_spreadRevoked 0 = .ok (.iconst 0, 1) := by decide +kernel
theorem dX8_spreadRevoked_1 : decode cX8_spreadRevoked 1 = .ok (.istore_n 1, 1) := by decide +kernel
theorem dX8_spreadRevoked_2 : decode cX8_spreadRevoked 2 = .ok (.iload_n 1, 1) := by decide +kernel
theorem dX8_spreadRevoked_3 : decode cX8_spreadRevoked 3 = .ok (.aload_n 0, 1) := by decide +kernel
theorem dX8_spreadRevoked_4 : decode cX8_spreadRevoked 4 = .ok (.getfield 18, 3) := by decide +kernel
theorem dX8_spreadRevoked_7 : decode cX8_spreadRevoked 7 = .ok (.invokevirtual 82, 3) := by decide +kernel
theorem dX8_spreadRevoked_10 : decode cX8_spreadRevoked 10 = .ok (.if_icmp .ge 89, 3) := by decide +kernel
theorem dX8_spreadRevoked_13 : decode cX8_spreadRevoked 13 = .ok (.aload_n 0, 1) := by decide +kernel
theorem dX8_spreadRevoked_14 : decode cX8_spreadRevoked 14 = .ok (.getfield 18, 3) := by decide +kernel
theorem dX8_spreadRevoked_17 : decode cX8_spreadRevoked 17 = .ok (.iload_n 1, 1) := by decide +kernel
theorem dX8_spreadRevoked_18 : decode cX8_spreadRevoked 18 = .ok (.invokevirtual 238, 3) := by decide +kernel
theorem dX8_spreadRevoked_21 : decode cX8_spreadRevoked 21 = .ok (.checkcast 88, 3) := by decide +kernel
theorem dX8_spreadRevoked_24 : decode cX8_spreadRevoked 24 = .ok (.astore_n 2, 1) := by decide +kernel
theorem dX8_spreadRevoked_25 : decode cX8_spreadRevoked 25 = .ok (.iconst 0, 1) := by decide +kernel
theorem dX8_spreadRevoked_26 : decode cX8_spreadRevoked 26 = .ok (.istore_n 3, 1) := by decide +kernel
theorem dX8_spreadRevoked_27 : decode cX8_spreadRevoked 27 = .ok (.iload_n 3, 1) := by decide +kernel
theorem dX8_spreadRevoked_28 : decode cX8_spreadRevoked 28 = .ok (.aload_n 0, 1) := by decide +kernel
theorem dX8_spreadRevoked_29 : decode cX8_spreadRevoked 29 = .ok (.getfield 18, 3) := by decide +kernel
theorem dX8_spreadRevoked_32 : decode cX8_spreadRevoked 32 = .ok (.invokevirtual 82, 3) := by decide +kernel
theorem dX8_spreadRevoked_35 : decode cX8_spreadRevoked 35 = .ok (.if_icmp .ge 58, 3) := by decide +kernel
theorem dX8_spreadRevoked_38 : decode cX8_spreadRevoked 38 = .ok (.aload_n 0, 1) := by decide +kernel
theorem dX8_spreadRevoked_39 : decode cX8_spreadRevoked 39 = .ok (.getfield 18, 3) := by decide +kernel
theorem dX8_spreadRevoked_42 : decode cX8_spreadRevoked 42 = .ok (.iload_n 3, 1) := by decide +kernel
theorem dX8_spreadRevoked_43 : decode cX8_spreadRevoked 43 = .ok (.invokevirtual 238, 3) := by decide +kernel
theorem dX8_spreadRevoked_46 : decode cX8_spreadRevoked 46 = .ok (.checkcast 88, 3) := by decide +kernel
theorem dX8_spreadRevoked_49 : decode cX8_spreadRevoked 49 = .ok (.astore 4, 2) := by decide +kernel
theorem dX8_spreadRevoked_51 : decode cX8_spreadRevoked 51 = .ok (.aload_n 2, 1) := by decide +kernel
theorem dX8_spreadRevoked_52 : decode cX8_spreadRevoked 52 = .ok (.aload 4, 2) := by decide +kernel
theorem dX8_spreadRevoked_54 : decode cX8_spreadRevoked 54 = .ok (.getfield 293, 3) := by decide +kernel
theorem dX8_spreadRevoked_57 : decode cX8_spreadRevoked 57 = .ok (.invokevirtual 184, 3) := by decide +kernel
theorem dX8_spreadRevoked_60 : decode cX8_spreadRevoked 60 = .ok (.ifCond .ne 15, 3) := by decide +kernel
theorem dX8_spreadRevoked_63 : decode cX8_spreadRevoked 63 = .ok (.aload_n 2, 1) := by decide +kernel
theorem dX8_spreadRevoked_64 : decode cX8_spreadRevoked 64 = .ok (.aload 4, 2) := by decide +kernel
theorem dX8_spreadRevoked_66 : decode cX8_spreadRevoked 66 = .ok (.getfield 297, 3) := by decide +kernel
theorem dX8_spreadRevoked_69 : decode cX8_spreadRevoked 69 = .ok (.invokevirtual 184, 3) := by decide +kernel
theorem dX8_spreadRevoked_72 : decode cX8_spreadRevoked 72 = .ok (.ifCond .eq 15, 3) := by decide +kernel
theorem dX8_spreadRevoked_75 : decode cX8_spreadRevoked 75 = .ok (.aload_n 2, 1) := by decide +kernel
theorem dX8_spreadRevoked_76 : decode cX8_spreadRevoked 76 = .ok (.getfield 503, 3) := by decide +kernel
theorem dX8_spreadRevoked_79 : decode cX8_spreadRevoked 79 = .ok (.aload 4, 2) := by decide +kernel
theorem dX8_spreadRevoked_81 : decode cX8_spreadRevoked 81 = .ok (.getfield 165, 3) := by decide +kernel
theorem dX8_spreadRevoked_84 : decode cX8_spreadRevoked 84 = .ok (.invokevirtual 506, 3) := by decide +kernel
theorem dX8_spreadRevoked_87 : decode cX8_spreadRevoked 87 = .ok (.iinc 3 1, 3) := by decide +kernel
theorem dX8_spreadRevoked_90 : decode cX8_spreadRevoked 90 = .ok (.goto (-63), 3) := by decide +kernel
theorem dX8_spreadRevoked_93 : decode cX8_spreadRevoked 93 = .ok (.iinc 1 1, 3) := by decide +kernel
theorem dX8_spreadRevoked_96 : decode cX8_spreadRevoked 96 = .ok (.goto (-94), 3) := by decide +kernel
theorem dX8_spreadRevoked_99 : decode cX8_spreadRevoked 99 = .ok (.iconst 0, 1) := by decide +kernel
theorem dX8_spreadRevoked_100 : decode cX8_spreadRevoked 100 = .ok (.istore_n 1, 1) := by decide +kernel
theorem dX8_spreadRevoked_101 : decode cX8_spreadRevoked 101 = .ok (.iload_n 1, 1) := by decide +kernel
theorem dX8_spreadRevoked_102 : decode cX8_spreadRevoked 102 = .ok (.aload_n 0, 1) := by decide +kernel
theorem dX8_spreadRevoked_103 : decode cX8_spreadRevoked 103 = .ok (.getfield 18, 3) := by decide +kernel
theorem dX8_spreadRevoked_106 : decode cX8_spreadRevoked 106 = .ok (.invokevirtual 82, 3) := by decide +kernel
theorem dX8_spreadRevoked_109 : decode cX8_spreadRevoked 109 = .ok (.if_icmp .ge 32, 3) := by decide +kernel
theorem dX8_spreadRevoked_112 : decode cX8_spreadRevoked 112 = .ok (.aload_n 0, 1) := by decide +kernel
theorem dX8_spreadRevoked_113 : decode cX8_spreadRevoked 113 = .ok (.getfield 18, 3) := by decide +kernel
theorem dX8_spreadRevoked_116 : decode cX8_spreadRevoked 116 = .ok (.iload_n 1, 1) := by decide +kernel
theorem dX8_spreadRevoked_117 : decode cX8_spreadRevoked 117 = .ok (.invokevirtual 238, 3) := by decide +kernel
theorem dX8_spreadRevoked_120 : decode cX8_spreadRevoked 120 = .ok (.checkcast 88, 3) := by decide +kernel
theorem dX8_spreadRevoked_123 : decode cX8_spreadRevoked 123 = .ok (.astore_n 2, 1) := by decide +kernel
theorem dX8_spreadRevoked_124 : decode cX8_spreadRevoked 124 = .ok (.aload_n 2, 1) := by decide +kernel
theorem dX8_spreadRevoked_125 : decode cX8_spreadRevoked 125 = .ok (.getfield 165, 3) := by decide +kernel
theorem dX8_spreadRevoked_128 : decode cX8_spreadRevoked 128 = .ok (.aload_n 2, 1) := by decide +kernel
theorem dX8_spreadRevoked_129 : decode cX8_spreadRevoked 129 = .ok (.getfield 503, 3) := by decide +kernel
theorem dX8_spreadRevoked_132 : decode cX8_spreadRevoked 132 = .ok (.invokevirtual 506, 3) := by decide +kernel
theorem dX8_spreadRevoked_135 : decode cX8_spreadRevoked 135 = .ok (.iinc 1 1, 3) := by decide +kernel
theorem dX8_spreadRevoked_138 : decode cX8_spreadRevoked 138 = .ok (.goto (-37), 3) := by decide +kernel
theorem dX8_spreadRevoked_141 : decode cX8_spreadRevoked 141 = .ok (.return_, 1) := by decide +kernel
set_option maxRecDepth 100000 in
theorem ggX8_keepHiding_Jx4a65c_size_8abf5 : GoodIn wsX8_keepHiding wsJx4a65c_size_8abf5 := wk_g rfl wm_X8_keepHiding 2173 wc_Jx4a65c_size_8abf5 rfl (by decide +kernel) (by decide +kernel) wq_Jx4a65c_size_8abf5
set_option maxRecDepth 100000 in
theorem gX8_keepHiding_Jx4a65c_size_8abf5 : GoodIn wsX8_keepHiding (wsV RX8 82 RJx4a65c yJx4a65c_size_8abf5 wsJx4a65c_size_8abf5) := goodIn_app (wk_h rfl wm_X8_keepHiding [2170, 2171, 2172, 2004] (by decide +kernel) (by decide +kernel) (by decide +kernel)) ggX8_keepHiding_Jx4a65c_size_8abf5
set_option maxRecDepth 100000 in
theorem ggX8_keepHiding_Jx4a65c_get_915e3 : GoodIn wsX8_keepHiding wsJx4a65c_get_915e3 := wk_g rfl wm_X8_keepHiding 2177 wc_Jx4a65c_get_915e3 rfl (by decide +kernel) (by decide +kernel) wq_Jx4a65c_get_915e3
set_option maxRecDepth 100000 in
theorem gX8_keepHiding_Jx4a65c_get_915e3 : GoodIn wsX8_keepHiding (wsV RX8 238 RJx4a65c yJx4a65c_get_915e3 wsJx4a65c_get_915e3) := goodIn_app (wk_h rfl wm_X8_keepHiding [2174, 2175, 2176, 2004] (by decide +kernel) (by decide +kernel) (by decide +kernel)) ggX8_keepHiding_Jx4a65c_get_915e3
set_option maxRecDepth 100000 in
theorem ggX8_keepHiding_X1_init : GoodIn wsX8_keepHiding wsX1_init := wk_g rfl wm_X8_keepHiding 6209 wc_X1_init rfl (by decide +kernel) (by decide +kernel) wq_X1_init
set_option maxRecDepth 100000 in
theorem gX8_keepHiding_X1_init : GoodIn wsX8_keepHiding (wsX1_init) := ggX8_keepHiding_X1_init
set_option maxRecDepth 100000 in
theorem ggX8_keepHiding_Jx4a65c_add_9ea2d : GoodIn wsX8_keepHiding wsJx4a65c_add_9ea2d := wk_g rfl wm_X8_keepHiding 4160 wc_Jx4a65c_add_9ea2d rfl (by decide +kernel) (by decide +kernel) wq_Jx4a65c_add_9ea2d
set_option maxRecDepth 100000 in
theorem gX8_keepHiding_Jx4a65c_add_9ea2d : GoodIn wsX8_keepHiding (wsV RX8 93 RJx4a65c yJx4a65c_add_9ea2d wsJx4a65c_add_9ea2d) := goodIn_app (wk_h rfl wm_X8_keepHiding [4157, 4158, 4159, 2004] (by decide +kernel) (by decide +kernel) (by decide +kernel)) ggX8_keepHiding_Jx4a65c_add_9ea2d
theorem dX8_keepHiding_0 : decode cX8_keepHiding 0 = .ok (.aload_n 0, 1) := by decide +kernel
theorem dX8_keepHiding_1 : decode cX8_keepHiding 1 = .ok (.getfield 28, 3) := by decide +kernel
theorem dX8_keepHiding_4 : decode cX8_keepHiding 4 = .ok (.invokevirtual 82, 3) := by decide +kernel
theorem dX8_keepHiding_7 : decode cX8_keepHiding 7 = .ok (.bipush 40, 2) := by decide +kernel
theorem dX8_keepHiding_9 : decode cX8_keepHiding 9 = .ok (.if_icmp .lt 4, 3) := by decide +kernel
theorem dX8_keepHiding_12 : decode cX8_keepHiding 12 = .ok (.return_, 1) := by decide +kernel
theorem dX8_keepHiding_13 : decode cX8_keepHiding 13 = .ok (.iconst 0, 1) := by decide +kernel
theorem dX8_keepHiding_14 : decode cX8_keepHiding 14 = .ok (.istore_n 3, 1) := by decide +kernel
theorem dX8_keepHiding_15 : decode cX8_keepHiding 15 = .ok (.iload_n 3, 1) := by decide +kernel
theorem dX8_keepHiding_16 : decode cX8_keepHiding 16 = .ok (.aload_n 0, 1) := by decide +kernel
theorem dX8_keepHiding_17 : decode cX8_keepHiding 17 = .ok (.getfield 28, 3) := by decide +kernel
theorem dX8_keepHiding_20 : decode cX8_keepHiding 20 = .ok (.invokevirtual 82, 3) := by decide +kernel
theorem dX8_keepHiding_23 : decode cX8_keepHiding 23 = .ok (.if_icmp .ge 83, 3) := by decide +kernel
theorem dX8_keepHiding_26 : decode cX8_keepHiding 26 = .ok (.aload_n 0, 1) := by decide +kernel
theorem dX8_keepHiding_27 : decode cX8_keepHiding 27 = .ok (.getfield 28, 3) := by decide +kernel
theorem dX8_keepHiding_30 : decode cX8_keepHiding 30 = .ok (.iload_n 3, 1) := by decide +kernel
theorem dX8_keepHiding_31 : decode cX8_keepHiding 31 = .ok (.invokevirtual 238, 3) := by decide +kernel
theorem dX8_keepHiding_34 : decode cX8_keepHiding 34 = .ok (.checkcast 510, 3) := by decide +kernel
theorem dX8_keepHiding_37 : decode cX8_keepHiding 37 = .ok (.astore 4, 2) := by decide +kernel
theorem dX8_keepHiding_39 : decode cX8_keepHiding 39 = .ok (.aload 4, 2) := by decide +kernel
theorem dX8_keepHiding_41 : decode cX8_keepHiding 41 = .ok (.getfield 512, 3) := by decide +kernel
theorem dX8_keepHiding_44 : decode cX8_keepHiding 44 = .ok (.iload_n 2, 1) := by decide +kernel
theorem dX8_keepHiding_45 : decode cX8_keepHiding 45 = .ok (.if_icmp .ne 55, 3) := by decide +kernel
theorem dX8_keepHiding_48 : decode cX8_keepHiding 48 = .ok (.aload_n 0, 1) := by decide +kernel
theorem dX8_keepHiding_49 : decode cX8_keepHiding 49 = .ok (.getfield 149, 3) := by decide +kernel
theorem dX8_keepHiding_52 : decode cX8_keepHiding 52 = .ok (.aload 4, 2) := by decide +kernel
theorem dX8_keepHiding_54 : decode cX8_keepHiding 54 = .ok (.getfield 513, 3) := by decide +kernel
theorem dX8_keepHiding_57 : decode cX8_keepHiding 57 = .ok (.isub, 1) := by decide +kernel
theorem dX8_keepHiding_58 : decode cX8_keepHiding 58 = .ok (.iconst 2, 1) := by decide +kernel
theorem dX8_keepHiding_59 : decode cX8_keepHiding 59 = .ok (.if_icmp .gt 41, 3) := by decide +kernel
theorem dX8_keepHiding_62 : decode cX8_keepHiding 62 = .ok (.aload 4, 2) := by decide +kernel
theorem dX8_keepHiding_64 : decode cX8_keepHiding 64 = .ok (.getfield 514, 3) := by decide +kernel
theorem dX8_keepHiding_67 : decode cX8_keepHiding 67 = .ok (.dup, 1) := by decide +kernel
theorem dX8_keepHiding_68 : decode cX8_keepHiding 68 = .ok (.getfield 517, 3) := by decide +kernel
theorem dX8_keepHiding_71 : decode cX8_keepHiding 71 = .ok (.iconst 1, 1) := by decide +kernel
theorem dX8_keepHiding_72 : decode cX8_keepHiding 72 = .ok (.aload_n 1, 1) := by decide +kernel
theorem dX8_keepHiding_73 : decode cX8_keepHiding 73 = .ok (.getfield 117, 3) := by decide +kernel
theorem dX8_keepHiding_76 : decode cX8_keepHiding 76 = .ok (.ishl, 1) := by decide +kernel
theorem dX8_keepHiding_77 : decode cX8_keepHiding 77 = .ok (.ior, 1) := by decide +kernel
theorem dX8_keepHiding_78 : decode cX8_keepHiding 78 = .ok (.putfield 517, 3) := by decide +kernel
theorem dX8_keepHiding_81 : decode cX8_keepHiding 81 = .ok (.aload_n 1, 1) := by decide +kernel
theorem dX8_keepHiding_82 : decode cX8_keepHiding 82 = .ok (.dup, 1) := by decide +kernel
theorem dX8_keepHiding_83 : decode cX8_keepHiding 83 = .ok (.getfield 517, 3) := by decide +kernel
theorem dX8_keepHiding_86 : decode cX8_keepHiding 86 = .ok (.iconst 1, 1) := by decide +kernel
theorem dX8_keepHiding_87 : decode cX8_keepHiding 87 = .ok (.aload 4, 2) := by decide +kernel
theorem dX8_keepHiding_89 : decode cX8_keepHiding 89 = .ok (.getfield 514, 3) := by decide +kernel
theorem dX8_keepHiding_92 : decode cX8_keepHiding 92 = .ok (.getfield 117, 3) := by decide +kernel
theorem dX8_keepHiding_95 : decode cX8_keepHiding 95 = .ok (.ishl, 1) := by decide +kernel
theorem dX8_keepHiding_96 : decode cX8_keepHiding 96 = .ok (.ior, 1) := by decide +kernel
theorem dX8_keepHiding_97 : decode cX8_keepHiding 97 = .ok (.putfield 517, 3) := by decide +kernel
theorem dX8_keepHiding_100 : decode cX8_keepHiding 100 = .ok (.iinc 3 1, 3) := by decide +kernel
theorem dX8_keepHiding_103 : decode cX8_keepHiding 103 = .ok (.goto (-88), 3) := by decide +kernel
theorem dX8_keepHiding_106 : decode cX8_keepHiding 106 = .ok (.aload_n 0, 1) := by decide +kernel
theorem dX8_keepHiding_107 : decode cX8_keepHiding 107 = .ok (.getfield 28, 3) := by decide +kernel
theorem dX8_keepHiding_110 : decode cX8_keepHiding 110 = .ok (.new 510, 3) := by decide +kernel
theorem dX8_keepHiding_113 : decode cX8_keepHiding 113 = .ok (.dup, 1) := by decide +kernel
theorem dX8_keepHiding_114 : decode cX8_keepHiding 114 = .ok (.aload_n 1, 1) := by decide +kernel
theorem dX8_keepHiding_115 : decode cX8_keepHiding 115 = .ok (.iload_n 2, 1) := by decide +kernel
theorem dX8_keepHiding_116 : decode cX8_keepHiding 116 = .ok (.aload_n 0, 1) := by decide +kernel
theorem dX8_keepHiding_117 : decode cX8_keepHiding 117 = .ok (.getfield 149, 3) := by decide +kernel
theorem dX8_keepHiding_120 : decode cX8_keepHiding 120 = .ok (.invokespecial 520, 3) := by decide +kernel
theorem dX8_keepHiding_123 : decode cX8_keepHiding 123 = .ok (.invokevirtual 93, 3) := by decide +kernel
theorem dX8_keepHiding_126 : decode cX8_keepHiding 126 = .ok (.pop, 1) := by decide +kernel
theorem dX8_keepHiding_127 : decode cX8_keepHiding 127 = .ok (.return_, 1) := by decide +kernel
set_option maxRecDepth 100000 in
theorem ggX8_ringOf_X8_linksOf : GoodIn wsX8_ringOf wsX8_linksOf := wk_g rfl wm_X8_ringOf 3215 wc_X8_linksOf rfl (by decide +kernel) (by decide +kernel) wq_X8_linksOf
set_option maxRecDepth 100000 in
theorem gX8_ringOf_X8_linksOf : GoodIn wsX8_ringOf (wsV RX8 523 RX8 yX8_linksOf wsX8_linksOf) := goodIn_app (wk_h rfl wm_X8_ringOf [3212, 3214, 1020, 2001] (by decide +kernel) (by decide +kernel) (by decide +kernel)) ggX8_ringOf_X8_linksOf
theorem dX8_ringOf_0 : decode cX8_ringOf 0 = .ok (.iconst 1, 1) := by decide +kernel
theorem dX8_ringOf_1 : decode cX8_ringOf 1 = .ok (.aload_n 1, 1) := by decide +kernel
theorem dX8_ringOf_2 : decode cX8_ringOf 2 = .ok (.getfield 117, 3) := by decide +kernel
theorem dX8_ringOf_5 : decode cX8_ringOf 5 = .ok (.ishl, 1) := by decide +kernel
theorem dX8_ringOf_6 : decode cX8_ringOf 6 = .ok (.istore_n 2, 1) := by decide +kernel
theorem dX8_ringOf_7 : decode cX8_ringOf 7 = .ok (.iconst 0, 1) := by decide +kernel
theorem dX8_ringOf_8 : decode cX8_ringOf 8 = .ok (.istore_n 3, 1) := by decide +kernel
theorem dX8_ringOf_9 : decode cX8_ringOf 9 = .ok (.iload_n 3, 1) := by decide +kernel
theorem dX8_ringOf_10 : decode cX8_ringOf 10 = .ok (.bipush 12, 2) := by decide +kernel
theorem dX8_ringOf_12 : decode cX8_ringOf 12 = .ok (.if_icmp .ge 30, 3) := by decide +kernel
theorem dX8_ringOf_15 : decode cX8_ringOf 15 = .ok (.iload_n 2, 1) := by decide +kernel
theorem dX8_ringOf_16 : decode cX8_ringOf 16 = .ok (.aload_n 0, 1) := by decide +kernel
theorem dX8_ringOf_17 : decode cX8_ringOf 17 = .ok (.iload_n 2, 1) := by decide +kernel
theorem dX8_ringOf_18 : decode cX8_ringOf 18 = .ok (.invokevirtual 523, 3) := by decide +kernel
theorem dX8_ringOf_21 : decode cX8_ringOf 21 = .ok (.ior, 1) := by decide +kernel
theorem dX8_ringOf_22 : decode cX8_ringOf 22 = .ok (.istore 4, 2) := by decide +kernel
theorem dX8_ringOf_24 : decode cX8_ringOf 24 = .ok (.iload 4, 2) := by decide +kernel
theorem dX8_ringOf_26 : decode cX8_ringOf 26 = .ok (.iload_n 2, 1) := by decide +kernel
theorem dX8_ringOf_27 : decode cX8_ringOf 27 = .ok (.if_icmp .ne 6, 3) := by decide +kernel
theorem dX8_ringOf_30 : decode cX8_ringOf 30 = .ok (.goto 12, 3) := by decide +kernel
theorem dX8_ringOf_33 : decode cX8_ringOf 33 = .ok (.iload 4, 2) := by decide +kernel
theorem dX8_ringOf_35 : decode cX8_ringOf 35 = .ok (.istore_n 2, 1) := by decide +kernel
theorem dX8_ringOf_36 : decode cX8_ringOf 36 = .ok (.iinc 3 1, 3) := by decide +kernel
theorem dX8_ringOf_39 : decode cX8_ringOf 39 = .ok (.goto (-30), 3) := by decide +kernel
theorem dX8_ringOf_42 : decode cX8_ringOf 42 = .ok (.iload_n 2, 1) := by decide +kernel
theorem dX8_ringOf_43 : decode cX8_ringOf 43 = .ok (.ireturn, 1) := by decide +kernel
set_option maxRecDepth 100000 in
theorem ggX8_linksOf_Jx4a65c_size_8abf5 : GoodIn wsX8_linksOf wsJx4a65c_size_8abf5 := wk_g rfl wm_X8_linksOf 2173 wc_Jx4a65c_size_8abf5 rfl (by decide +kernel) (by decide +kernel) wq_Jx4a65c_size_8abf5
set_option maxRecDepth 100000 in
theorem gX8_linksOf_Jx4a65c_size_8abf5 : GoodIn wsX8_linksOf (wsV RX8 82 RJx4a65c yJx4a65c_size_8abf5 wsJx4a65c_size_8abf5) := goodIn_app (wk_h rfl wm_X8_linksOf [2170, 2171, 2172, 2004] (by decide +kernel) (by decide +kernel) (by decide +kernel)) ggX8_linksOf_Jx4a65c_size_8abf5
set_option maxRecDepth 100000 in
theorem ggX8_linksOf_Jx4a65c_get_915e3 : GoodIn wsX8_linksOf wsJx4a65c_get_915e3 := wk_g rfl wm_X8_linksOf 2177 wc_Jx4a65c_get_915e3 rfl (by decide +kernel) (by decide +kernel) wq_Jx4a65c_get_915e3
set_option maxRecDepth 100000 in
theorem gX8_linksOf_Jx4a65c_get_915e3 : GoodIn wsX8_linksOf (wsV RX8 238 RJx4a65c yJx4a65c_get_915e3 wsJx4a65c_get_915e3) := goodIn_app (wk_h rfl wm_X8_linksOf [2174, 2175, 2176, 2004] (by decide +kernel) (by decide +kernel) (by decide +kernel)) ggX8_linksOf_Jx4a65c_get_915e3
theorem dX8_linksOf_0 : decode cX8_linksOf 0 = .ok (.iconst 0, 1) := by decide +kernel
theorem dX8_linksOf_1 : decode cX8_linksOf 1 = .ok (.istore_n 2, 1) := by decide +kernel
theorem dX8_linksOf_2 : decode cX8_linksOf 2 = .ok (.iconst 0, 1) := by decide +kernel
theorem dX8_linksOf_3 : decode cX8_linksOf 3 = .ok (.istore_n 3, 1) := by decide +kernel
theorem dX8_linksOf_4 : decode cX8_linksOf 4 = .ok (.iload_n 3, 1) := by decide +kernel
theorem dX8_linksOf_5 : decode cX8_linksOf 5 = .ok (.aload_n 0, 1) := by decide +kernel
theorem dX8_linksOf_6 : decode cX8_linksOf 6 = .ok (.getfield 22, 3) := by decide +kernel
theorem dX8_linksOf_9 : decode cX8_linksOf 9 = .ok (.invokevirtual 82, 3) := by decide +kernel
theorem dX8_linksOf_12 : decode cX8_linksOf 12 = .ok (.if_icmp .ge 34, 3) := by decide +kernel
theorem dX8_linksOf_15 : decode cX8_linksOf 15 = .ok (.iload_n 1, 1) := by decide +kernel
theorem dX8_linksOf_16 : decode cX8_linksOf 16 = .ok (.iload_n 3, 1) := by decide +kernel
theorem dX8_linksOf_17 : decode cX8_linksOf 17 = .ok (.ishr, 1) := by decide +kernel
theorem dX8_linksOf_18 : decode cX8_linksOf 18 = .ok (.iconst 1, 1) := by decide +kernel
theorem dX8_linksOf_19 : decode cX8_linksOf 19 = .ok (.iand, 1) := by decide +kernel
theorem dX8_linksOf_20 : decode cX8_linksOf 20 = .ok (.ifCond .eq 20, 3) := by decide +kernel
theorem dX8_linksOf_23 : decode cX8_linksOf 23 = .ok (.iload_n 2, 1) := by decide +kernel
theorem dX8_linksOf_24 : decode cX8_linksOf 24 = .ok (.aload_n 0, 1) := by decide +kernel
theorem dX8_linksOf_25 : decode cX8_linksOf 25 = .ok (.getfield 22, 3) := by decide +kernel
theorem dX8_linksOf_28 : decode cX8_linksOf 28 = .ok (.iload_n 3, 1) := by decide +kernel
theorem dX8_linksOf_29 : decode cX8_linksOf 29 = .ok (.invokevirtual 238, 3) := by decide +kernel
theorem dX8_linksOf_32 : decode cX8_linksOf 32 = .ok (.checkcast 112, 3) := by decide +kernel
theorem dX8_linksOf_35 : decode cX8_linksOf 35 = .ok (.getfield 517, 3) := by decide +kernel
theorem dX8_linksOf_38 : decode cX8_linksOf 38 = .ok (.ior, 1) := by decide +kernel
theorem dX8_linksOf_39 : decode cX8_linksOf 39 = .ok (.istore_n 2, 1) := by decide +kernel
theorem dX8_linksOf_40 : decode cX8_linksOf 40 = .ok (.iinc 3 1, 3) := by decide +kernel
theorem dX8_linksOf_43 : decode cX8_linksOf 43 = .ok (.goto (-39), 3) := by decide +kernel
theorem dX8_linksOf_46 : decode cX8_linksOf 46 = .ok (.iload_n 2, 1) := by decide +kernel
theorem dX8_linksOf_47 : decode cX8_linksOf 47 = .ok (.ireturn, 1) := by decide +kernel
set_option maxRecDepth 100000 in
theorem ggX8_hidingsOf_Jx4a65c_size_8abf5 : GoodIn wsX8_hidingsOf wsJx4a65c_size_8abf5 := wk_g rfl wm_X8_hidingsOf 2173 wc_Jx4a65c_size_8abf5 rfl (by decide +kernel) (by decide +kernel) wq_Jx4a65c_size_8abf5
set_option maxRecDepth 100000 in
theorem gX8_hidingsOf_Jx4a65c_size_8abf5 : GoodIn wsX8_hidingsOf (wsV RX8 82 RJx4a65c yJx4a65c_size_8abf5 wsJx4a65c_size_8abf5) := goodIn_app (wk_h rfl wm_X8_hidingsOf [2170, 2171, 2172, 2004] (by decide +kernel) (by decide +kernel) (by decide +kernel)) ggX8_hidingsOf_Jx4a65c_size_8abf5
set_option maxRecDepth 100000 in
theorem ggX8_hidingsOf_Jx4a65c_get_915e3 : GoodIn wsX8_hidingsOf wsJx4a65c_get_915e3 := wk_g rfl wm_X8_hidingsOf 2177 wc_Jx4a65c_get_915e3 rfl (by decide +kernel) (by decide +kernel) wq_Jx4a65c_get_915e3
set_option maxRecDepth 100000 in
theorem gX8_hidingsOf_Jx4a65c_get_915e3 : GoodIn wsX8_hidingsOf (wsV RX8 238 RJx4a65c yJx4a65c_get_915e3 wsJx4a65c_get_915e3) := goodIn_app (wk_h rfl wm_X8_hidingsOf [2174, 2175, 2176, 2004] (by decide +kernel) (by decide +kernel) (by decide +kernel)) ggX8_hidingsOf_Jx4a65c_get_915e3
theorem dX8_hidingsOf_0 : decode cX8_hidingsOf 0 = .ok (.iconst 0, 1) := by decide +kernel
theorem dX8_hidingsOf_1 : decode cX8_hidingsOf 1 = .ok (.istore_n 2, 1) := by decide +kernel
theorem dX8_hidingsOf_2 : decode cX8_hidingsOf 2 = .ok (.iconst 0, 1) := by decide +kernel
theorem dX8_hidingsOf_3 : decode cX8_hidingsOf 3 = .ok (.istore_n 3, 1) := by decide +kernel
theorem dX8_hidingsOf_4 : decode cX8_hidingsOf 4 = .ok (.iload_n 3, 1) := by decide +kernel
theorem dX8_hidingsOf_5 : decode cX8_hidingsOf 5 = .ok (.aload_n 0, 1) := by decide +kernel
theorem dX8_hidingsOf_6 : decode cX8_hidingsOf 6 = .ok (.getfield 28, 3) := by decide +kernel
theorem dX8_hidingsOf_9 : decode cX8_hidingsOf 9 = .ok (.invokevirtual 82, 3) := by decide +kernel
theorem dX8_hidingsOf_12 : decode cX8_hidingsOf 12 = .ok (.if_icmp .ge 30, 3) := by decide +kernel
theorem dX8_hidingsOf_15 : decode cX8_hidingsOf 15 = .ok (.aload_n 0, 1) := by decide +kernel
theorem dX8_hidingsOf_16 : decode cX8_hidingsOf 16 = .ok (.getfield 28, 3) := by decide +kernel
theorem dX8_hidingsOf_19 : decode cX8_hidingsOf 19 = .ok (.iload_n 3, 1) := by decide +kernel
theorem dX8_hidingsOf_20 : decode cX8_hidingsOf 20 = .ok (.invokevirtual 238, 3) := by decide +kernel
theorem dX8_hidingsOf_23 : decode cX8_hidingsOf 23 = .ok (.checkcast 510, 3) := by decide +kernel
theorem dX8_hidingsOf_26 : decode cX8_hidingsOf 26 = .ok (.getfield 514, 3) := by decide +kernel
theorem dX8_hidingsOf_29 : decode cX8_hidingsOf 29 = .ok (.aload_n 1, 1) := by decide +kernel
theorem dX8_hidingsOf_30 : decode cX8_hidingsOf 30 = .ok (.if_acmp .ne 6, 3) := by decide +kernel
theorem dX8_hidingsOf_33 : decode cX8_hidingsOf 33 = .ok (.iinc 2 1, 3) := by decide +kernel
theorem dX8_hidingsOf_36 : decode cX8_hidingsOf 36 = .ok (.iinc 3 1, 3) := by decide +kernel
theorem dX8_hidingsOf_39 : decode cX8_hidingsOf 39 = .ok (.goto (-35), 3) := by decide +kernel
theorem dX8_hidingsOf_42 : decode cX8_hidingsOf 42 = .ok (.iload_n 2, 1) := by decide +kernel
theorem dX8_hidingsOf_43 : decode cX8_hidingsOf 43 = .ok (.ireturn, 1) := by decide +kernel
set_option maxRecDepth 100000 in
theorem ggX8_partsInStore_Jx4a65c_size_8abf5 : GoodIn wsX8_partsInStore wsJx4a65c_size_8abf5 := wk_g rfl wm_X8_partsInStore 2173 wc_Jx4a65c_size_8abf5 rfl (by decide +kernel) (by decide +kernel) wq_Jx4a65c_size_8abf5
set_option maxRecDepth 100000 in
theorem gX8_partsInStore_Jx4a65c_size_8abf5 : GoodIn wsX8_partsInStore (wsV RX8 82 RJx4a65c yJx4a65c_size_8abf5 wsJx4a65c_size_8abf5) := goodIn_app (wk_h rfl wm_X8_partsInStore [2170, 2171, 2172, 2004] (by decide +kernel) (by decide +kernel) (by decide +kernel)) ggX8_partsInStore_Jx4a65c_size_8abf5
set_option maxRecDepth 100000 in
theorem ggX8_partsInStore_Jx4a65c_get_915e3 : GoodIn wsX8_partsInStore wsJx4a65c_get_915e3 := wk_g rfl wm_X8_partsInStore 2177 wc_Jx4a65c_get_915e3 rfl (by decide +kernel) (by decide +kernel) wq_Jx4a65c_get_915e3
set_option maxRecDepth 100000 in
theorem gX8_partsInStore_Jx4a65c_get_915e3 : GoodIn wsX8_partsInStore (wsV RX8 238 RJx4a65c yJx4a65c_get_915e3 wsJx4a65c_get_915e3) := goodIn_app (wk_h rfl wm_X8_partsInStore [2174, 2175, 2176, 2004] (by decide +kernel) (by decide +kernel) (by decide +kernel)) ggX8_partsInStore_Jx4a65c_get_915e3
theorem dX8_partsInStore_0 : decode cX8_partsInStore 0 = .ok (.iconst 0, 1) := by decide +kernel
theorem dX8_partsInStore_1 : decode cX8_partsInStore 1 = .ok (.istore_n 2, 1) := by decide +kernel
theorem dX8_partsInStore_2 : decode cX8_partsInStore 2 = .ok (.iconst 0, 1) := by decide +kernel
theorem dX8_partsInStore_3 : decode cX8_partsInStore 3 = .ok (.istore_n 3, 1) := by decide +kernel
theorem dX8_partsInStore_4 : decode cX8_partsInStore 4 = .ok (.iload_n 3, 1) := by decide +kernel
theorem dX8_partsInStore_5 : decode cX8_partsInStore 5 = .ok (.aload_n 0, 1) := by decide +kernel
theorem dX8_partsInStore_6 : decode cX8_partsInStore 6 = .ok (.getfield 25, 3) := by decide +kernel
theorem dX8_partsInStore_9 : decode cX8_partsInStore 9 = .ok (.invokevirtual 82, 3) := by decide +kernel
theorem dX8_partsInStore_12 : decode cX8_partsInStore 12 = .ok (.if_icmp .ge 30, 3) := by decide +kernel
theorem dX8_partsInStore_15 : decode cX8_partsInStore 15 = .ok (.aload_n 0, 1) := by decide +kernel
theorem dX8_partsInStore_16 : decode cX8_partsInStore 16 = .ok (.getfield 25, 3) := by decide +kernel
theorem dX8_partsInStore_19 : decode cX8_partsInStore 19 = .ok (.iload_n 3, 1) := by decide +kernel
theorem dX8_partsInStore_20 : decode cX8_partsInStore 20 = .ok (.invokevirtual 238, 3) := by decide +kernel
theorem dX8_partsInStore_23 : decode cX8_partsInStore 23 = .ok (.checkcast 127, 3) := by decide +kernel
theorem dX8_partsInStore_26 : decode cX8_partsInStore 26 = .ok (.getfield 253, 3) := by decide +kernel
theorem dX8_partsInStore_29 : decode cX8_partsInStore 29 = .ok (.aload_n 1, 1) := by decide +kernel
theorem dX8_partsInStore_30 : decode cX8_partsInStore 30 = .ok (.if_acmp .ne 6, 3) := by decide +kernel
theorem dX8_partsInStore_33 : decode cX8_partsInStore 33 = .ok (.iinc 2 1, 3) := by decide +kernel
theorem dX8_partsInStore_36 : decode cX8_partsInStore 36 = .ok (.iinc 3 1, 3) := by decide +kernel
theorem dX8_partsInStore_39 : decode cX8_partsInStore 39 = .ok (.goto (-35), 3) := by decide +kernel
theorem dX8_partsInStore_42 : decode cX8_partsInStore 42 = .ok (.iload_n 2, 1) := by decide +kernel
theorem dX8_partsInStore_43 : decode cX8_partsInStore 43 = .ok (.ireturn, 1) := by decide +kernel
set_option maxRecDepth 100000 in
theorem ggX8_sleepersIn_Jx4a65c_size_8abf5 : GoodIn wsX8_sleepersIn wsJx4a65c_size_8abf5 := wk_g rfl wm_X8_sleepersIn 2173 wc_Jx4a65c_size_8abf5 rfl (by decide +kernel) (by decide +kernel) wq_Jx4a65c_size_8abf5
set_option maxRecDepth 100000 in
theorem gX8_sleepersIn_Jx4a65c_size_8abf5 : GoodIn wsX8_sleepersIn (wsV RX8 82 RJx4a65c yJx4a65c_size_8abf5 wsJx4a65c_size_8abf5) := goodIn_app (wk_h rfl wm_X8_sleepersIn [2170, 2171, 2172, 2004] (by decide +kernel) (by decide +kernel) (by decide +kernel)) ggX8_sleepersIn_Jx4a65c_size_8abf5
set_option maxRecDepth 100000 in
theorem ggX8_sleepersIn_Jx4a65c_get_915e3 : GoodIn wsX8_sleepersIn wsJx4a65c_get_915e3 := wk_g rfl wm_X8_sleepersIn 2177 wc_Jx4a65c_get_915e3 rfl (by decide +kernel) (by decide +kernel) wq_Jx4a65c_get_915e3
set_option maxRecDepth 100000 in
theorem gX8_sleepersIn_Jx4a65c_get_915e3 : GoodIn wsX8_sleepersIn (wsV RX8 238 RJx4a65c yJx4a65c_get_915e3 wsJx4a65c_get_915e3) := goodIn_app (wk_h rfl wm_X8_sleepersIn [2174, 2175, 2176, 2004] (by decide +kernel) (by decide +kernel) (by decide +kernel)) ggX8_sleepersIn_Jx4a65c_get_915e3
theorem dX8_sleepersIn_0 : decode cX8_sleepersIn 0 = .ok (.iconst 0, 1) := by decide +kernel
theorem dX8_sleepersIn_1 : decode cX8_sleepersIn 1 = .ok (.istore_n 2, 1) := by decide +kernel
theorem dX8_sleepersIn_2 : decode cX8_sleepersIn 2 = .ok (.iconst 0, 1) := by decide +kernel
theorem dX8_sleepersIn_3 : decode cX8_sleepersIn 3 = .ok (.istore_n 3, 1) := by decide +kernel
theorem dX8_sleepersIn_4 : decode cX8_sleepersIn 4 = .ok (.iload_n 3, 1) := by decide +kernel
theorem dX8_sleepersIn_5 : decode cX8_sleepersIn 5 = .ok (.aload_n 0, 1) := by decide +kernel
theorem dX8_sleepersIn_6 : decode cX8_sleepersIn 6 = .ok (.getfield 22, 3) := by decide +kernel
theorem dX8_sleepersIn_9 : decode cX8_sleepersIn 9 = .ok (.invokevirtual 82, 3) := by decide +kernel
theorem dX8_sleepersIn_12 : decode cX8_sleepersIn 12 = .ok (.if_icmp .ge 43, 3) := by decide +kernel
theorem dX8_sleepersIn_15 : decode cX8_sleepersIn 15 = .ok (.aload_n 0, 1) := by decide +kernel
theorem dX8_sleepersIn_16 : decode cX8_sleepersIn 16 = .ok (.getfield 22, 3) := by decide +kernel
theorem dX8_sleepersIn_19 : decode cX8_sleepersIn 19 = .ok (.iload_n 3, 1) := by decide +kernel
theorem dX8_sleepersIn_20 : decode cX8_sleepersIn 20 = .ok (.invokevirtual 238, 3) := by decide +kernel
theorem dX8_sleepersIn_23 : decode cX8_sleepersIn 23 = .ok (.checkcast 112, 3) := by decide +kernel
theorem dX8_sleepersIn_26 : decode cX8_sleepersIn 26 = .ok (.astore 4, 2) := by decide +kernel
theorem dX8_sleepersIn_28 : decode cX8_sleepersIn 28 = .ok (.aload 4, 2) := by decide +kernel
theorem dX8_sleepersIn_30 : decode cX8_sleepersIn 30 = .ok (.getfield 143, 3) := by decide +kernel
theorem dX8_sleepersIn_33 : decode cX8_sleepersIn 33 = .ok (.aload_n 1, 1) := by decide +kernel
theorem dX8_sleepersIn_34 : decode cX8_sleepersIn 34 = .ok (.if_acmp .ne 15, 3) := by decide +kernel
theorem dX8_sleepersIn_37 : decode cX8_sleepersIn 37 = .ok (.aload 4, 2) := by decide +kernel
theorem dX8_sleepersIn_39 : decode cX8_sleepersIn 39 = .ok (.getfield 122, 3) := by decide +kernel
theorem dX8_sleepersIn_42 : decode cX8_sleepersIn 42 = .ok (.iconst 2, 1) := by decide +kernel
theorem dX8_sleepersIn_43 : decode cX8_sleepersIn 43 = .ok (.if_icmp .eq 6, 3) := by decide +kernel
theorem dX8_sleepersIn_46 : decode cX8_sleepersIn 46 = .ok (.iinc 2 1, 3) := by decide +kernel
theorem dX8_sleepersIn_49 : decode cX8_sleepersIn 49 = .ok (.iinc 3 1, 3) := by decide +kernel
theorem dX8_sleepersIn_52 : decode cX8_sleepersIn 52 = .ok (.goto (-48), 3) := by decide +kernel
theorem dX8_sleepersIn_55 : decode cX8_sleepersIn 55 = .ok (.iload_n 2, 1) := by decide +kernel
theorem dX8_sleepersIn_56 : decode cX8_sleepersIn 56 = .ok (.ireturn, 1) := by decide +kernel
set_option maxRecDepth 100000 in
theorem ggX8_wholeDreams_Jx4a65c_size_8abf5 : GoodIn wsX8_wholeDreams wsJx4a65c_size_8abf5 := wk_g rfl wm_X8_wholeDreams 2173 wc_Jx4a65c_size_8abf5 rfl (by decide +kernel) (by decide +kernel) wq_Jx4a65c_size_8abf5
set_option maxRecDepth 100000 in
theorem gX8_wholeDreams_Jx4a65c_size_8abf5 : GoodIn wsX8_wholeDreams (wsV RX8 82 RJx4a65c yJx4a65c_size_8abf5 wsJx4a65c_size_8abf5) := goodIn_app (wk_h rfl wm_X8_wholeDreams [2170, 2171, 2172, 2004] (by decide +kernel) (by decide +kernel) (by decide +kernel)) ggX8_wholeDreams_Jx4a65c_size_8abf5
set_option maxRecDepth 100000 in
theorem ggX8_wholeDreams_Jx4a65c_get_915e3 : GoodIn wsX8_wholeDreams wsJx4a65c_get_915e3 := wk_g rfl wm_X8_wholeDreams 2177 wc_Jx4a65c_get_915e3 rfl (by decide +kernel) (by decide +kernel) wq_Jx4a65c_get_915e3
set_option maxRecDepth 100000 in
theorem gX8_wholeDreams_Jx4a65c_get_915e3 : GoodIn wsX8_wholeDreams (wsV RX8 238 RJx4a65c yJx4a65c_get_915e3 wsJx4a65c_get_915e3) := goodIn_app (wk_h rfl wm_X8_wholeDreams [2174, 2175, 2176, 2004] (by decide +kernel) (by decide +kernel) (by decide +kernel)) ggX8_wholeDreams_Jx4a65c_get_915e3
set_option maxRecDepth 100000 in
theorem ggX8_wholeDreams_X3_whereabouts : GoodIn wsX8_wholeDreams wsX3_whereabouts := wk_g rfl wm_X8_wholeDreams 2239 wc_X3_whereabouts rfl (by decide +kernel) (by decide +kernel) wq_X3_whereabouts
set_option maxRecDepth 100000 in
theorem gX8_wholeDreams_X3_whereabouts : GoodIn wsX8_wholeDreams (wsV RX8 330 RX3 yX3_whereabouts wsX3_whereabouts) := goodIn_app (wk_h rfl wm_X8_wholeDreams [2236, 2237, 2238, 2027] (by decide +kernel) (by decide +kernel) (by decide +kernel)) ggX8_wholeDreams_X3_whereabouts
theorem dX8_wholeDreams_0 : decode cX8_wholeDreams 0 = .ok (.iconst 0, 1) := by decide +kernel
theorem dX8_wholeDreams_1 : decode cX8_wholeDreams 1 = .ok (.istore_n 2, 1) := by decide +kernel
theorem dX8_wholeDreams_2 : decode cX8_wholeDreams 2 = .ok (.iconst 0, 1) := by decide +kernel
theorem dX8_wholeDreams_3 : decode cX8_wholeDreams 3 = .ok (.istore_n 3, 1) := by decide +kernel
theorem dX8_wholeDreams_4 : decode cX8_wholeDreams 4 = .ok (.iconst 0, 1) := by decide +kernel
theorem dX8_wholeDreams_5 : decode cX8_wholeDreams 5 = .ok (.istore 4, 2) := by decide +kernel
theorem dX8_wholeDreams_7 : decode cX8_wholeDreams 7 = .ok (.iload 4, 2) := by decide +kernel
theorem dX8_wholeDreams_9 : decode cX8_wholeDreams 9 = .ok (.aload_n 0, 1) := by decide +kernel
theorem dX8_wholeDreams_10 : decode cX8_wholeDreams 10 = .ok (.getfield 25, 3) := by decide +kernel
theorem dX8_wholeDreams_13 : decode cX8_wholeDreams 13 = .ok (.invokevirtual 82, 3) := by decide +kernel
theorem dX8_wholeDreams_16 : decode cX8_wholeDreams 16 = .ok (.if_icmp .ge 55, 3) := by decide +kernel
theorem dX8_wholeDreams_19 : decode cX8_wholeDreams 19 = .ok (.aload_n 0, 1) := by decide +kernel
theorem dX8_wholeDreams_20 : decode cX8_wholeDreams 20 = .ok (.getfield 25, 3) := by decide +kernel
theorem dX8_wholeDreams_23 : decode cX8_wholeDreams 23 = .ok (.iload 4, 2) := by decide +kernel
theorem dX8_wholeDreams_25 : decode cX8_wholeDreams 25 = .ok (.invokevirtual 238, 3) := by decide +kernel
theorem dX8_wholeDreams_28 : decode cX8_wholeDreams 28 = .ok (.checkcast 127, 3) := by decide +kernel
theorem dX8_wholeDreams_31 : decode cX8_wholeDreams 31 = .ok (.astore 5, 2) := by decide +kernel
theorem dX8_wholeDreams_33 : decode cX8_wholeDreams 33 = .ok (.aload 5, 2) := by decide +kernel
theorem dX8_wholeDreams_35 : decode cX8_wholeDreams 35 = .ok (.invokevirtual 330, 3) := by decide +kernel
theorem dX8_wholeDreams_38 : decode cX8_wholeDreams 38 = .ok (.aload_n 1, 1) := by decide +kernel
theorem dX8_wholeDreams_39 : decode cX8_wholeDreams 39 = .ok (.if_acmp .ne 16, 3) := by decide +kernel
theorem dX8_wholeDreams_42 : decode cX8_wholeDreams 42 = .ok (.iload_n 2, 1) := by decide +kernel
theorem dX8_wholeDreams_43 : decode cX8_wholeDreams 43 = .ok (.iconst 1, 1) := by decide +kernel
theorem dX8_wholeDreams_44 : decode cX8_wholeDreams 44 = .ok (.aload 5, 2) := by decide +kernel
theorem dX8_wholeDreams_46 : decode cX8_wholeDreams 46 = .ok (.getfield 324, 3) := by decide +kernel
theorem dX8_wholeDreams_49 : decode cX8_wholeDreams 49 = .ok (.ishl, 1) := by decide +kernel
theorem dX8_wholeDreams_50 : decode cX8_wholeDreams 50 = .ok (.ior, 1) := by decide +kernel
theorem dX8_wholeDreams_51 : decode cX8_wholeDreams 51 = .ok (.istore_n 2, 1) := by decide +kernel
theorem dX8_wholeDreams_52 : decode cX8_wholeDreams 52 = .ok (.goto 13, 3) := by decide +kernel
theorem dX8_wholeDreams_55 : decode cX8_wholeDreams 55 = .ok (.iload_n 3, 1) := by decide +kernel
theorem dX8_wholeDreams_56 : decode cX8_wholeDreams 56 = .ok (.iconst 1, 1) := by decide +kernel
theorem dX8_wholeDreams_57 : decode cX8_wholeDreams 57 = .ok (.aload 5, 2) := by decide +kernel
theorem dX8_wholeDreams_59 : decode cX8_wholeDreams 59 = .ok (.getfield 324, 3) := by decide +kernel
theorem dX8_wholeDreams_62 : decode cX8_wholeDreams 62 = .ok (.ishl, 1) := by decide +kernel
theorem dX8_wholeDreams_63 : decode cX8_wholeDreams 63 = .ok (.ior, 1) := by decide +kernel
theorem dX8_wholeDreams_64 : decode cX8_wholeDreams 64 = .ok (.istore_n 3, 1) := by decide +kernel
theorem dX8_wholeDreams_65 : decode cX8_wholeDreams 65 = .ok (.iinc 4 1, 3) := by decide +kernel
theorem dX8_wholeDreams_68 : decode cX8_wholeDreams 68 = .ok (.goto (-61), 3) := by decide +kernel
theorem dX8_wholeDreams_71 : decode cX8_wholeDreams 71 = .ok (.iload_n 2, 1) := by decide +kernel
theorem dX8_wholeDreams_72 : decode cX8_wholeDreams 72 = .ok (.iload_n 3, 1) := by decide +kernel
theorem dX8_wholeDreams_73 : decode cX8_wholeDreams 73 = .ok (.iconst (-1), 1) := by decide +kernel
theorem dX8_wholeDreams_74 : decode cX8_wholeDreams 74 = .ok (.ixor, 1) := by decide +kernel
theorem dX8_wholeDreams_75 : decode cX8_wholeDreams 75 = .ok (.iand, 1) := by decide +kernel
theorem dX8_wholeDreams_76 : decode cX8_wholeDreams 76 = .ok (.ireturn, 1) := by decide +kernel
set_option maxRecDepth 100000 in
theorem ggX8_headOf_Jx4a65c_size_8abf5 : GoodIn wsX8_headOf wsJx4a65c_size_8abf5 := wk_g rfl wm_X8_headOf 2173 wc_Jx4a65c_size_8abf5 rfl (by decide +kernel) (by decide +kernel) wq_Jx4a65c_size_8abf5
set_option maxRecDepth 100000 in
theorem gX8_headOf_Jx4a65c_size_8abf5 : GoodIn wsX8_headOf (wsV RX8 82 RJx4a65c yJx4a65c_size_8abf5 wsJx4a65c_size_8abf5) := goodIn_app (wk_h rfl wm_X8_headOf [2170, 2171, 2172, 2004] (by decide +kernel) (by decide +kernel) (by decide +kernel)) ggX8_headOf_Jx4a65c_size_8abf5
set_option maxRecDepth 100000 in
theorem ggX8_headOf_Jx4a65c_get_915e3 : GoodIn wsX8_headOf wsJx4a65c_get_915e3 := wk_g rfl wm_X8_headOf 2177 wc_Jx4a65c_get_915e3 rfl (by decide +kernel) (by decide +kernel) wq_Jx4a65c_get_915e3
set_option maxRecDepth 100000 in
theorem gX8_headOf_Jx4a65c_get_915e3 : GoodIn wsX8_headOf (wsV RX8 238 RJx4a65c yJx4a65c_get_915e3 wsJx4a65c_get_915e3) := goodIn_app (wk_h rfl wm_X8_headOf [2174, 2175, 2176, 2004] (by decide +kernel) (by decide +kernel) (by decide +kernel)) ggX8_headOf_Jx4a65c_get_915e3
theorem dX8_headOf_0 : decode cX8_headOf 0 = .ok (.iconst 0, 1) := by decide +kernel
theorem dX8_headOf_1 : decode cX8_headOf 1 = .ok (.istore_n 2, 1) := by decide +kernel
theorem dX8_headOf_2 : decode cX8_headOf 2 = .ok (.iconst 0, 1) := by decide +kernel
theorem dX8_headOf_3 : decode cX8_headOf 3 = .ok (.istore_n 3, 1) := by decide +kernel
theorem dX8_headOf_4 : decode cX8_headOf 4 = .ok (.iload_n 3, 1) := by decide +kernel
theorem dX8_headOf_5 : decode cX8_headOf 5 = .ok (.aload_n 0, 1) := by decide +kernel
theorem dX8_headOf_6 : decode cX8_headOf 6 = .ok (.getfield 25, 3) := by decide +kernel
theorem dX8_headOf_9 : decode cX8_headOf 9 = .ok (.invokevirtual 82, 3) := by decide +kernel
theorem dX8_headOf_12 : decode cX8_headOf 12 = .ok (.if_icmp .ge 41, 3) := by decide +kernel
theorem dX8_headOf_15 : decode cX8_headOf 15 = .ok (.aload_n 0, 1) := by decide +kernel
theorem dX8_headOf_16 : decode cX8_headOf 16 = .ok (.getfield 25, 3) := by decide +kernel
theorem dX8_headOf_19 : decode cX8_headOf 19 = .ok (.iload_n 3, 1) := by decide +kernel
theorem dX8_headOf_20 : decode cX8_headOf 20 = .ok (.invokevirtual 238, 3) := by decide +kernel
theorem dX8_headOf_23 : decode cX8_headOf 23 = .ok (.checkcast 127, 3) := by decide +kernel
theorem dX8_headOf_26 : decode cX8_headOf 26 = .ok (.astore 4, 2) := by decide +kernel
theorem dX8_headOf_28 : decode cX8_headOf 28 = .ok (.aload 4, 2) := by decide +kernel
theorem dX8_headOf_30 : decode cX8_headOf 30 = .ok (.getfield 137, 3) := by decide +kernel
theorem dX8_headOf_33 : decode cX8_headOf 33 = .ok (.aload_n 1, 1) := by decide +kernel
theorem dX8_headOf_34 : decode cX8_headOf 34 = .ok (.if_acmp .ne 13, 3) := by decide +kernel
theorem dX8_headOf_37 : decode cX8_headOf 37 = .ok (.iload_n 2, 1) := by decide +kernel
theorem dX8_headOf_38 : decode cX8_headOf 38 = .ok (.iconst 1, 1) := by decide +kernel
theorem dX8_headOf_39 : decode cX8_headOf 39 = .ok (.aload 4, 2) := by decide +kernel
theorem dX8_headOf_41 : decode cX8_headOf 41 = .ok (.getfield 132, 3) := by decide +kernel
theorem dX8_headOf_44 : decode cX8_headOf 44 = .ok (.ishl, 1) := by decide +kernel
theorem dX8_headOf_45 : decode cX8_headOf 45 = .ok (.ior, 1) := by decide +kernel
theorem dX8_headOf_46 : decode cX8_headOf 46 = .ok (.istore_n 2, 1) := by decide +kernel
theorem dX8_headOf_47 : decode cX8_headOf 47 = .ok (.iinc 3 1, 3) := by decide +kernel
theorem dX8_headOf_50 : decode cX8_headOf 50 = .ok (.goto (-46), 3) := by decide +kernel
theorem dX8_headOf_53 : decode cX8_headOf 53 = .ok (.iload_n 2, 1) := by decide +kernel
theorem dX8_headOf_54 : decode cX8_headOf 54 = .ok (.ireturn, 1) := by decide +kernel
set_option maxRecDepth 100000 in
theorem ggX8_hiddenWorth_Jx4a65c_size_8abf5 : GoodIn wsX8_hiddenWorth wsJx4a65c_size_8abf5 := wk_g rfl wm_X8_hiddenWorth 2173 wc_Jx4a65c_size_8abf5 rfl (by decide +kernel) (by decide +kernel) wq_Jx4a65c_size_8abf5
set_option maxRecDepth 100000 in
theorem gX8_hiddenWorth_Jx4a65c_size_8abf5 : GoodIn wsX8_hiddenWorth (wsV RX8 82 RJx4a65c yJx4a65c_size_8abf5 wsJx4a65c_size_8abf5) := goodIn_app (wk_h rfl wm_X8_hiddenWorth [2170, 2171, 2172, 2004] (by decide +kernel) (by decide +kernel) (by decide +kernel)) ggX8_hiddenWorth_Jx4a65c_size_8abf5
set_option maxRecDepth 100000 in
theorem ggX8_hiddenWorth_Jx4a65c_get_915e3 : GoodIn wsX8_hiddenWorth wsJx4a65c_get_915e3 := wk_g rfl wm_X8_hiddenWorth 2177 wc_Jx4a65c_get_915e3 rfl (by decide +kernel) (by decide +kernel) wq_Jx4a65c_get_915e3
set_option maxRecDepth 100000 in
theorem gX8_hiddenWorth_Jx4a65c_get_915e3 : GoodIn wsX8_hiddenWorth (wsV RX8 238 RJx4a65c yJx4a65c_get_915e3 wsJx4a65c_get_915e3) := goodIn_app (wk_h rfl wm_X8_hiddenWorth [2174, 2175, 2176, 2004] (by decide +kernel) (by decide +kernel) (by decide +kernel)) ggX8_hiddenWorth_Jx4a65c_get_915e3
set_option maxRecDepth 100000 in
theorem ggX8_hiddenWorth_X3_isHidden : GoodIn wsX8_hiddenWorth wsX3_isHidden := wk_g rfl wm_X8_hiddenWorth 3141 wc_X3_isHidden rfl (by decide +kernel) (by decide +kernel) wq_X3_isHidden
set_option maxRecDepth 100000 in
theorem gX8_hiddenWorth_X3_isHidden : GoodIn wsX8_hiddenWorth (wsV RX8 473 RX3 yX3_isHidden wsX3_isHidden) := goodIn_app (wk_h rfl wm_X8_hiddenWorth [3138, 3139, 3140, 2027] (by decide +kernel) (by decide +kernel) (by decide +kernel)) ggX8_hiddenWorth_X3_isHidden
theorem dX8_hiddenWorth_0 : decode cX8_hiddenWorth 0 = .ok (.iconst 0, 1) := by decide +kernel
theorem dX8_hiddenWorth_1 : decode cX8_hiddenWorth 1 = .ok (.istore_n 2, 1) := by decide +kernel
theorem dX8_hiddenWorth_2 : decode cX8_hiddenWorth 2 = .ok (.iconst 0, 1) := by decide +kernel
theorem dX8_hiddenWorth_3 : decode cX8_hiddenWorth 3 = .ok (.istore_n 3, 1) := by decide +kernel
theorem dX8_hiddenWorth_4 : decode cX8_hiddenWorth 4 = .ok (.iload_n 3, 1) := by decide +kernel
theorem dX8_hiddenWorth_5 : decode cX8_hiddenWorth 5 = .ok (.aload_n 0, 1) := by decide +kernel
theorem dX8_hiddenWorth_6 : decode cX8_hiddenWorth 6 = .ok (.getfield 25, 3) := by decide +kernel
theorem dX8_hiddenWorth_9 : decode cX8_hiddenWorth 9 = .ok (.invokevirtual 82, 3) := by decide +kernel
theorem dX8_hiddenWorth_12 : decode cX8_hiddenWorth 12 = .ok (.if_icmp .ge 58, 3) := by decide +kernel
theorem dX8_hiddenWorth_15 : decode cX8_hiddenWorth 15 = .ok (.aload_n 0, 1) := by decide +kernel
theorem dX8_hiddenWorth_16 : decode cX8_hiddenWorth 16 = .ok (.getfield 25, 3) := by decide +kernel
theorem dX8_hiddenWorth_19 : decode cX8_hiddenWorth 19 = .ok (.iload_n 3, 1) := by decide +kernel
theorem dX8_hiddenWorth_20 : decode cX8_hiddenWorth 20 = .ok (.invokevirtual 238, 3) := by decide +kernel
theorem dX8_hiddenWorth_23 : decode cX8_hiddenWorth 23 = .ok (.checkcast 127, 3) := by decide +kernel
theorem dX8_hiddenWorth_26 : decode cX8_hiddenWorth 26 = .ok (.astore 4, 2) := by decide +kernel
theorem dX8_hiddenWorth_28 : decode cX8_hiddenWorth 28 = .ok (.aload 4, 2) := by decide +kernel
theorem dX8_hiddenWorth_30 : decode cX8_hiddenWorth 30 = .ok (.getfield 137, 3) := by decide +kernel
theorem dX8_hiddenWorth_33 : decode cX8_hiddenWorth 33 = .ok (.ifnull 31, 3) := by decide +kernel
theorem dX8_hiddenWorth_36 : decode cX8_hiddenWorth 36 = .ok (.aload 4, 2) := by decide +kernel
theorem dX8_hiddenWorth_38 : decode cX8_hiddenWorth 38 = .ok (.getfield 137, 3) := by decide +kernel
theorem dX8_hiddenWorth_41 : decode cX8_hiddenWorth 41 = .ok (.getfield 210, 3) := by decide +kernel
theorem dX8_hiddenWorth_44 : decode cX8_hiddenWorth 44 = .ok (.aload_n 1, 1) := by decide +kernel
theorem dX8_hiddenWorth_45 : decode cX8_hiddenWorth 45 = .ok (.if_acmp .ne 19, 3) := by decide +kernel
theorem dX8_hiddenWorth_48 : decode cX8_hiddenWorth 48 = .ok (.aload 4, 2) := by decide +kernel
theorem dX8_hiddenWorth_50 : decode cX8_hiddenWorth 50 = .ok (.invokevirtual 473, 3) := by decide +kernel
theorem dX8_hiddenWorth_53 : decode cX8_hiddenWorth 53 = .ok (.ifCond .eq 11, 3) := by decide +kernel
theorem dX8_hiddenWorth_56 : decode cX8_hiddenWorth 56 = .ok (.iload_n 2, 1) := by decide +kernel
theorem dX8_hiddenWorth_57 : decode cX8_hiddenWorth 57 = .ok (.aload 4, 2) := by decide +kernel
theorem dX8_hiddenWorth_59 : decode cX8_hiddenWorth 59 = .ok (.getfield 264, 3) := by decide +kernel
theorem dX8_hiddenWorth_62 : decode cX8_hiddenWorth 62 = .ok (.iadd, 1) := by decide +kernel
theorem dX8_hiddenWorth_63 : decode cX8_hiddenWorth 63 = .ok (.istore_n 2, 1) := by decide +kernel
theorem dX8_hiddenWorth_64 : decode cX8_hiddenWorth 64 = .ok (.iinc 3 1, 3) := by decide +kernel
theorem dX8_hiddenWorth_67 : decode cX8_hiddenWorth 67 = .ok (.goto (-63), 3) := by decide +kernel
theorem dX8_hiddenWorth_70 : decode cX8_hiddenWorth 70 = .ok (.iload_n 2, 1) := by decide +kernel
theorem dX8_hiddenWorth_71 : decode cX8_hiddenWorth 71 = .ok (.ireturn, 1) := by decide +kernel
set_option maxRecDepth 100000 in
theorem ggX8_placeOf_Jx4a65c_size_8abf5 : GoodIn wsX8_placeOf wsJx4a65c_size_8abf5 := wk_g rfl wm_X8_placeOf 2173 wc_Jx4a65c_size_8abf5 rfl (by decide +kernel) (by decide +kernel) wq_Jx4a65c_size_8abf5
set_option maxRecDepth 100000 in
theorem gX8_placeOf_Jx4a65c_size_8abf5 : GoodIn wsX8_placeOf (wsV RX8 82 RJx4a65c yJx4a65c_size_8abf5 wsJx4a65c_size_8abf5) := goodIn_app (wk_h rfl wm_X8_placeOf [2170, 2171, 2172, 2004] (by decide +kernel) (by decide +kernel) (by decide +kernel)) ggX8_placeOf_Jx4a65c_size_8abf5
set_option maxRecDepth 100000 in
theorem ggX8_placeOf_Jx4a65c_get_915e3 : GoodIn wsX8_placeOf wsJx4a65c_get_915e3 := wk_g rfl wm_X8_placeOf 2177 wc_Jx4a65c_get_915e3 rfl (by decide +kernel) (by decide +kernel) wq_Jx4a65c_get_915e3
set_option maxRecDepth 100000 in
theorem gX8_placeOf_Jx4a65c_get_915e3 : GoodIn wsX8_placeOf (wsV RX8 238 RJx4a65c yJx4a65c_get_915e3 wsJx4a65c_get_915e3) := goodIn_app (wk_h rfl wm_X8_placeOf [2174, 2175, 2176, 2004] (by decide +kernel) (by decide +kernel) (by decide +kernel)) ggX8_placeOf_Jx4a65c_get_915e3
theorem dX8_placeOf_0 : decode cX8_placeOf 0 = .ok (.aload_n 0, 1) := by decide +kernel
theorem dX8_placeOf_1 : decode cX8_placeOf 1 = .ok (.getfield 210, 3) := by decide +kernel
theorem dX8_placeOf_4 : decode cX8_placeOf 4 = .ok (.ifnonnull 5, 3) := by decide +kernel
theorem dX8_placeOf_7 : decode cX8_placeOf 7 = .ok (.iconst (-1), 1) := by decide +kernel
theorem dX8_placeOf_8 : decode cX8_placeOf 8 = .ok (.ireturn, 1) := by decide +kernel
theorem dX8_placeOf_9 : decode cX8_placeOf 9 = .ok (.aload_n 0, 1) := by decide +kernel
theorem dX8_placeOf_10 : decode cX8_placeOf 10 = .ok (.getfield 210, 3) := by decide +kernel
theorem dX8_placeOf_13 : decode cX8_placeOf 13 = .ok (.getfield 197, 3) := by decide +kernel
theorem dX8_placeOf_16 : decode cX8_placeOf 16 = .ok (.astore_n 1, 1) := by decide +kernel
theorem dX8_placeOf_17 : decode cX8_placeOf 17 = .ok (.iconst 0, 1) := by decide +kernel
theorem dX8_placeOf_18 : decode cX8_placeOf 18 = .ok (.istore_n 2, 1) := by decide +kernel
theorem dX8_placeOf_19 : decode cX8_placeOf 19 = .ok (.iload_n 2, 1) := by decide +kernel
theorem dX8_placeOf_20 : decode cX8_placeOf 20 = .ok (.aload_n 1, 1) := by decide +kernel
theorem dX8_placeOf_21 : decode cX8_placeOf 21 = .ok (.invokevirtual 82, 3) := by decide +kernel
theorem dX8_placeOf_24 : decode cX8_placeOf 24 = .ok (.if_icmp .ge 20, 3) := by decide +kernel
theorem dX8_placeOf_27 : decode cX8_placeOf 27 = .ok (.aload_n 1, 1) := by decide +kernel
theorem dX8_placeOf_28 : decode cX8_placeOf 28 = .ok (.iload_n 2, 1) := by decide +kernel
theorem dX8_placeOf_29 : decode cX8_placeOf 29 = .ok (.invokevirtual 238, 3) := by decide +kernel
theorem dX8_placeOf_32 : decode cX8_placeOf 32 = .ok (.aload_n 0, 1) := by decide +kernel
theorem dX8_placeOf_33 : decode cX8_placeOf 33 = .ok (.if_acmp .ne 5, 3) := by decide +kernel
theorem dX8_placeOf_36 : decode cX8_placeOf 36 = .ok (.iload_n 2, 1) := by decide +kernel
theorem dX8_placeOf_37 : decode cX8_placeOf 37 = .ok (.ireturn, 1) := by decide +kernel
theorem dX8_placeOf_38 : decode cX8_placeOf 38 = .ok (.iinc 2 1, 3) := by decide +kernel
theorem dX8_placeOf_41 : decode cX8_placeOf 41 = .ok (.goto (-22), 3) := by decide +kernel
theorem dX8_placeOf_44 : decode cX8_placeOf 44 = .ok (.iconst (-1), 1) := by decide +kernel
theorem dX8_placeOf_45 : decode cX8_placeOf 45 = .ok (.ireturn, 1) := by decide +kernel
set_option maxRecDepth 100000 in
theorem ggX8_awakeOnes_Jx4a65c_size_8abf5 : GoodIn wsX8_awakeOnes wsJx4a65c_size_8abf5 := wk_g rfl wm_X8_awakeOnes 2173 wc_Jx4a65c_size_8abf5 rfl (by decide +kernel) (by decide +kernel) wq_Jx4a65c_size_8abf5
set_option maxRecDepth 100000 in
theorem gX8_awakeOnes_Jx4a65c_size_8abf5 : GoodIn wsX8_awakeOnes (wsV RX8 82 RJx4a65c yJx4a65c_size_8abf5 wsJx4a65c_size_8abf5) := goodIn_app (wk_h rfl wm_X8_awakeOnes [2170, 2171, 2172, 2004] (by decide +kernel) (by decide +kernel) (by decide +kernel)) ggX8_awakeOnes_Jx4a65c_size_8abf5
set_option maxRecDepth 100000 in
theorem ggX8_awakeOnes_Jx4a65c_get_915e3 : GoodIn wsX8_awakeOnes wsJx4a65c_get_915e3 := wk_g rfl wm_X8_awakeOnes 2177 wc_Jx4a65c_get_915e3 rfl (by decide +kernel) (by decide +kernel) wq_Jx4a65c_get_915e3
set_option maxRecDepth 100000 in
theorem gX8_awakeOnes_Jx4a65c_get_915e3 : GoodIn wsX8_awakeOnes (wsV RX8 238 RJx4a65c yJx4a65c_get_915e3 wsJx4a65c_get_915e3) := goodIn_app (wk_h rfl wm_X8_awakeOnes [2174, 2175, 2176, 2004] (by decide +kernel) (by decide +kernel) (by decide +kernel)) ggX8_awakeOnes_Jx4a65c_get_915e3
theorem dX8_awakeOnes_0 : decode cX8_awakeOnes 0 = .ok (.iconst 0, 1) := by decide +kernel
theorem dX8_awakeOnes_1 : decode cX8_awakeOnes 1 = .ok (.istore_n 1, 1) := by decide +kernel
theorem dX8_awakeOnes_2 : decode cX8_awakeOnes 2 = .ok (.iconst 0, 1) := by decide +kernel
theorem dX8_awakeOnes_3 : decode cX8_awakeOnes 3 = .ok (.istore_n 2, 1) := by decide +kernel
theorem dX8_awakeOnes_4 : decode cX8_awakeOnes 4 = .ok (.iload_n 2, 1) := by decide +kernel
theorem dX8_awakeOnes_5 : decode cX8_awakeOnes 5 = .ok (.aload_n 0, 1) := by decide +kernel
theorem dX8_awakeOnes_6 : decode cX8_awakeOnes 6 = .ok (.getfield 22, 3) := by decide +kernel
theorem dX8_awakeOnes_9 : decode cX8_awakeOnes 9 = .ok (.invokevirtual 82, 3) := by decide +kernel
theorem dX8_awakeOnes_12 : decode cX8_awakeOnes 12 = .ok (.if_icmp .ge 30, 3) := by decide +kernel
theorem dX8_awakeOnes_15 : decode cX8_awakeOnes 15 = .ok (.aload_n 0, 1) := by decide +kernel
theorem dX8_awakeOnes_16 : decode cX8_awakeOnes 16 = .ok (.getfield 22, 3) := by decide +kernel
theorem dX8_awakeOnes_19 : decode cX8_awakeOnes 19 = .ok (.iload_n 2, 1) := by decide +kernel
theorem dX8_awakeOnes_20 : decode cX8_awakeOnes 20 = .ok (.invokevirtual 238, 3) := by decide +kernel
theorem dX8_awakeOnes_23 : decode cX8_awakeOnes 23 = .ok (.checkcast 112, 3) := by decide +kernel
theorem dX8_awakeOnes_26 : decode cX8_awakeOnes 26 = .ok (.getfield 122, 3) := by decide +kernel
theorem dX8_awakeOnes_29 : decode cX8_awakeOnes 29 = .ok (.iconst 2, 1) := by decide +kernel
theorem dX8_awakeOnes_30 : decode cX8_awakeOnes 30 = .ok (.if_icmp .ne 6, 3) := by decide +kernel
theorem dX8_awakeOnes_33 : decode cX8_awakeOnes 33 = .ok (.iinc 1 1, 3) := by decide +kernel
theorem dX8_awakeOnes_36 : decode cX8_awakeOnes 36 = .ok (.iinc 2 1, 3) := by decide +kernel
theorem dX8_awakeOnes_39 : decode cX8_awakeOnes 39 = .ok (.goto (-35), 3) := by decide +kernel
theorem dX8_awakeOnes_42 : decode cX8_awakeOnes 42 = .ok (.iload_n 1, 1) := by decide +kernel
theorem dX8_awakeOnes_43 : decode cX8_awakeOnes 43 = .ok (.ireturn, 1) := by decide +kernel
set_option maxRecDepth 100000 in
theorem ggX8_partsOfFate_Jx4a65c_size_8abf5 : GoodIn wsX8_partsOfFate wsJx4a65c_size_8abf5 := wk_g rfl wm_X8_partsOfFate 2173 wc_Jx4a65c_size_8abf5 rfl (by decide +kernel) (by decide +kernel) wq_Jx4a65c_size_8abf5
set_option maxRecDepth 100000 in
theorem gX8_partsOfFate_Jx4a65c_size_8abf5 : GoodIn wsX8_partsOfFate (wsV RX8 82 RJx4a65c yJx4a65c_size_8abf5 wsJx4a65c_size_8abf5) := goodIn_app (wk_h rfl wm_X8_partsOfFate [2170, 2171, 2172, 2004] (by decide +kernel) (by decide +kernel) (by decide +kernel)) ggX8_partsOfFate_Jx4a65c_size_8abf5
set_option maxRecDepth 100000 in
theorem ggX8_partsOfFate_Jx4a65c_get_915e3 : GoodIn wsX8_partsOfFate wsJx4a65c_get_915e3 := wk_g rfl wm_X8_partsOfFate 2177 wc_Jx4a65c_get_915e3 rfl (by decide +kernel) (by decide +kernel) wq_Jx4a65c_get_915e3
set_option maxRecDepth 100000 in
theorem gX8_partsOfFate_Jx4a65c_get_915e3 : GoodIn wsX8_partsOfFate (wsV RX8 238 RJx4a65c yJx4a65c_get_915e3 wsJx4a65c_get_915e3) := goodIn_app (wk_h rfl wm_X8_partsOfFate [2174, 2175, 2176, 2004] (by decide +kernel) (by decide +kernel) (by decide +kernel)) ggX8_partsOfFate_Jx4a65c_get_915e3
theorem dX8_partsOfFate_0 : decode cX8_partsOfFate 0 = .ok (.iconst 0, 1) := by decide +kernel
theorem dX8_partsOfFate_1 : decode cX8_partsOfFate 1 = .ok (.istore_n 2, 1) := by decide +kernel
theorem dX8_partsOfFate_2 : decode cX8_partsOfFate 2 = .ok (.iconst 0, 1) := by decide +kernel
theorem dX8_partsOfFate_3 : decode cX8_partsOfFate 3 = .ok (.istore_n 3, 1) := by decide +kernel
theorem dX8_partsOfFate_4 : decode cX8_partsOfFate 4 = .ok (.iload_n 3, 1) := by decide +kernel
theorem dX8_partsOfFate_5 : decode cX8_partsOfFate 5 = .ok (.aload_n 0, 1) := by decide +kernel
theorem dX8_partsOfFate_6 : decode cX8_partsOfFate 6 = .ok (.getfield 25, 3) := by decide +kernel
theorem dX8_partsOfFate_9 : decode cX8_partsOfFate 9 = .ok (.invokevirtual 82, 3) := by decide +kernel
theorem dX8_partsOfFate_12 : decode cX8_partsOfFate 12 = .ok (.if_icmp .ge 30, 3) := by decide +kernel
theorem dX8_partsOfFate_15 : decode cX8_partsOfFate 15 = .ok (.aload_n 0, 1) := by decide +kernel
theorem dX8_partsOfFate_16 : decode cX8_partsOfFate 16 = .ok (.getfield 25, 3) := by decide +kernel
theorem dX8_partsOfFate_19 : decode cX8_partsOfFate 19 = .ok (.iload_n 3, 1) := by decide +kernel
theorem dX8_partsOfFate_20 : decode cX8_partsOfFate 20 = .ok (.invokevirtual 238, 3) := by decide +kernel
theorem dX8_partsOfFate_23 : decode cX8_partsOfFate 23 = .ok (.checkcast 127, 3) := by decide +kernel
theorem dX8_partsOfFate_26 : decode cX8_partsOfFate 26 = .ok (.getfield 259, 3) := by decide +kernel
theorem dX8_partsOfFate_29 : decode cX8_partsOfFate 29 = .ok (.iload_n 1, 1) := by decide +kernel
theorem dX8_partsOfFate_30 : decode cX8_partsOfFate 30 = .ok (.if_icmp .ne 6, 3) := by decide +kernel
theorem dX8_partsOfFate_33 : decode cX8_partsOfFate 33 = .ok (.iinc 2 1, 3) := by decide +kernel
theorem dX8_partsOfFate_36 : decode cX8_partsOfFate 36 = .ok (.iinc 3 1, 3) := by decide +kernel
theorem dX8_partsOfFate_39 : decode cX8_partsOfFate 39 = .ok (.goto (-35), 3) := by decide +kernel
theorem dX8_partsOfFate_42 : decode cX8_partsOfFate 42 = .ok (.iload_n 2, 1) := by decide +kernel
theorem dX8_partsOfFate_43 : decode cX8_partsOfFate 43 = .ok (.ireturn, 1) := by decide +kernel
set_option maxRecDepth 100000 in
theorem ggX8_goneParts_Jx4a65c_size_8abf5 : GoodIn wsX8_goneParts wsJx4a65c_size_8abf5 := wk_g rfl wm_X8_goneParts 2173 wc_Jx4a65c_size_8abf5 rfl (by decide +kernel) (by decide +kernel) wq_Jx4a65c_size_8abf5
set_option maxRecDepth 100000 in
theorem gX8_goneParts_Jx4a65c_size_8abf5 : GoodIn wsX8_goneParts (wsV RX8 82 RJx4a65c yJx4a65c_size_8abf5 wsJx4a65c_size_8abf5) := goodIn_app (wk_h rfl wm_X8_goneParts [2170, 2171, 2172, 2004] (by decide +kernel) (by decide +kernel) (by decide +kernel)) ggX8_goneParts_Jx4a65c_size_8abf5
set_option maxRecDepth 100000 in
theorem ggX8_goneParts_Jx4a65c_get_915e3 : GoodIn wsX8_goneParts wsJx4a65c_get_915e3 := wk_g rfl wm_X8_goneParts 2177 wc_Jx4a65c_get_915e3 rfl (by decide +kernel) (by decide +kernel) wq_Jx4a65c_get_915e3
set_option maxRecDepth 100000 in
theorem gX8_goneParts_Jx4a65c_get_915e3 : GoodIn wsX8_goneParts (wsV RX8 238 RJx4a65c yJx4a65c_get_915e3 wsJx4a65c_get_915e3) := goodIn_app (wk_h rfl wm_X8_goneParts [2174, 2175, 2176, 2004] (by decide +kernel) (by decide +kernel) (by decide +kernel)) ggX8_goneParts_Jx4a65c_get_915e3
set_option maxRecDepth 100000 in
theorem ggX8_goneParts_X3_whereabouts : GoodIn wsX8_goneParts wsX3_whereabouts := wk_g rfl wm_X8_goneParts 2239 wc_X3_whereabouts rfl (by decide +kernel) (by decide +kernel) wq_X3_whereabouts
set_option maxRecDepth 100000 in
theorem gX8_goneParts_X3_whereabouts : GoodIn wsX8_goneParts (wsV RX8 330 RX3 yX3_whereabouts wsX3_whereabouts) := goodIn_app (wk_h rfl wm_X8_goneParts [2236, 2237, 2238, 2027] (by decide +kernel) (by decide +kernel) (by decide +kernel)) ggX8_goneParts_X3_whereabouts
theorem dX8_goneParts_0 : decode cX8_goneParts 0 = .ok (.iconst 0, 1) := by decide +kernel
theorem dX8_goneParts_1 : decode cX8_goneParts 1 = .ok (.istore_n 1, 1) := by decide +kernel
theorem dX8_goneParts_2 : decode cX8_goneParts 2 = .ok (.iconst 0, 1) := by decide +kernel
theorem dX8_goneParts_3 : decode cX8_goneParts 3 = .ok (.istore_n 2, 1) := by decide +kernel
theorem dX8_goneParts_4 : decode cX8_goneParts 4 = .ok (.iload_n 2, 1) := by decide +kernel
theorem dX8_goneParts_5 : decode cX8_goneParts 5 = .ok (.aload_n 0, 1) := by decide +kernel
theorem dX8_goneParts_6 : decode cX8_goneParts 6 = .ok (.getfield 25, 3) := by decide +kernel
theorem dX8_goneParts_9 : decode cX8_goneParts 9 = .ok (.invokevirtual 82, 3) := by decide +kernel
theorem dX8_goneParts_12 : decode cX8_goneParts 12 = .ok (.if_icmp .ge 29, 3) := by decide +kernel
theorem dX8_goneParts_15 : decode cX8_goneParts 15 = .ok (.aload_n 0, 1) := by decide +kernel
theorem dX8_goneParts_16 : decode cX8_goneParts 16 = .ok (.getfield 25, 3) := by decide +kernel
theorem dX8_goneParts_19 : decode cX8_goneParts 19 = .ok (.iload_n 2, 1) := by decide +kernel
theorem dX8_goneParts_20 : decode cX8_goneParts 20 = .ok (.invokevirtual 238, 3) := by decide +kernel
theorem dX8_goneParts_23 : decode cX8_goneParts 23 = .ok (.checkcast 127, 3) := by decide +kernel
theorem dX8_goneParts_26 : decode cX8_goneParts 26 = .ok (.invokevirtual 330, 3) := by decide +kernel
theorem dX8_goneParts_29 : decode cX8_goneParts 29 = .ok (.ifnonnull 6, 3) := by decide +kernel
theorem dX8_goneParts_32 : decode cX8_goneParts 32 = .ok (.iinc 1 1, 3) := by decide +kernel
theorem dX8_goneParts_35 : decode cX8_goneParts 35 = .ok (.iinc 2 1, 3) := by decide +kernel
theorem dX8_goneParts_38 : decode cX8_goneParts 38 = .ok (.goto (-34), 3) := by decide +kernel
theorem dX8_goneParts_41 : decode cX8_goneParts 41 = .ok (.iload_n 1, 1) := by decide +kernel
theorem dX8_goneParts_42 : decode cX8_goneParts 42 = .ok (.ireturn, 1) := by decide +kernel
theorem dX8_dutiesOfAll_0 : decode cX8_dutiesOfAll 0 = .ok (.iconst 0, 1) := by decide +kernel
theorem dX8_dutiesOfAll_1 : decode cX8_dutiesOfAll 1 = .ok (.istore_n 1, 1) := by decide +kernel
theorem dX8_dutiesOfAll_2 : decode cX8_dutiesOfAll 2 = .ok (.aload_n 0, 1) := by decide +kernel
theorem dX8_dutiesOfAll_3 : decode cX8_dutiesOfAll 3 = .ok (.getfield 11, 3) := by decide +kernel
theorem dX8_dutiesOfAll_6 : decode cX8_dutiesOfAll 6 = .ok (.astore_n 2, 1) := by decide +kernel
theorem dX8_dutiesOfAll_7 : decode cX8_dutiesOfAll 7 = .ok (.aload_n 2, 1) := by decide +kernel
theorem dX8_dutiesOfAll_8 : decode cX8_dutiesOfAll 8 = .ok (.arraylength, 1) := by decide +kernel
theorem dX8_dutiesOfAll_9 : decode cX8_dutiesOfAll 9 = .ok (.istore_n 3, 1) := by decide +kernel
theorem dX8_dutiesOfAll_10 : decode cX8_dutiesOfAll 10 = .ok (.iconst 0, 1) := by decide +kernel
theorem dX8_dutiesOfAll_11 : decode cX8_dutiesOfAll 11 = .ok (.istore 4, 2) := by decide +kernel
theorem dX8_dutiesOfAll_13 : decode cX8_dutiesOfAll 13 = .ok (.iload 4, 2) := by decide +kernel
theorem dX8_dutiesOfAll_15 : decode cX8_dutiesOfAll 15 = .ok (.iload_n 3, 1) := by decide +kernel
theorem dX8_dutiesOfAll_16 : decode cX8_dutiesOfAll 16 = .ok (.if_icmp .ge 23, 3) := by decide +kernel
theorem dX8_dutiesOfAll_19 : decode cX8_dutiesOfAll 19 = .ok (.aload_n 2, 1) := by decide +kernel
theorem dX8_dutiesOfAll_20 : decode cX8_dutiesOfAll 20 = .ok (.iload 4, 2) := by decide +kernel
theorem dX8_dutiesOfAll_22 : decode cX8_dutiesOfAll 22 = .ok (.aaload, 1) := by decide +kernel
theorem dX8_dutiesOfAll_23 : decode cX8_dutiesOfAll 23 = .ok (.astore 5, 2) := by decide +kernel
theorem dX8_dutiesOfAll_25 : decode cX8_dutiesOfAll 25 = .ok (.iload_n 1, 1) := by decide +kernel
theorem dX8_dutiesOfAll_26 : decode cX8_dutiesOfAll 26 = .ok (.aload 5, 2) := by decide +kernel
theorem dX8_dutiesOfAll_28 : decode cX8_dutiesOfAll 28 = .ok (.getfield 278, 3) := by decide +kernel
theorem dX8_dutiesOfAll_31 : decode cX8_dutiesOfAll 31 = .ok (.iadd, 1) := by decide +kernel
theorem dX8_dutiesOfAll_32 : decode cX8_dutiesOfAll 32 = .ok (.istore_n 1, 1) := by decide +kernel
theorem dX8_dutiesOfAll_33 : decode cX8_dutiesOfAll 33 = .ok (.iinc 4 1, 3) := by decide +kernel
theorem dX8_dutiesOfAll_36 : decode cX8_dutiesOfAll 36 = .ok (.goto (-23), 3) := by decide +kernel
theorem dX8_dutiesOfAll_39 : decode cX8_dutiesOfAll 39 = .ok (.iload_n 1, 1) := by decide +kernel
theorem dX8_dutiesOfAll_40 : decode cX8_dutiesOfAll 40 = .ok (.ireturn, 1) := by decide +kernel
theorem dX8_finesOfAll_0 : decode cX8_finesOfAll 0 = .ok (.iconst 0, 1) := by decide +kernel
theorem dX8_finesOfAll_1 : decode cX8_finesOfAll 1 = .ok (.istore_n 1, 1) := by decide +kernel
theorem dX8_finesOfAll_2 : decode cX8_finesOfAll 2 = .ok (.aload_n 0, 1) := by decide +kernel
theorem dX8_finesOfAll_3 : decode cX8_finesOfAll 3 = .ok (.getfield 11, 3) := by decide +kernel
theorem dX8_finesOfAll_6 : decode cX8_finesOfAll 6 = .ok (.astore_n 2, 1) := by decide +kernel
theorem dX8_finesOfAll_7 : decode cX8_finesOfAll 7 = .ok (.aload_n 2, 1) := by decide +kernel
theorem dX8_finesOfAll_8 : decode cX8_finesOfAll 8 = .ok (.arraylength, 1) := by decide +kernel
theorem dX8_finesOfAll_9 : decode cX8_finesOfAll 9 = .ok (.istore_n 3, 1) := by decide +kernel
theorem dX8_finesOfAll_10 : decode cX8_finesOfAll 10 = .ok (.iconst 0, 1) := by decide +kernel
theorem dX8_finesOfAll_11 : decode cX8_finesOfAll 11 = .ok (.istore 4, 2) := by decide +kernel
theorem dX8_finesOfAll_13 : decode cX8_finesOfAll 13 = .ok (.iload 4, 2) := by decide +kernel
theorem dX8_finesOfAll_15 : decode cX8_finesOfAll 15 = .ok (.iload_n 3, 1) := by decide +kernel
theorem dX8_finesOfAll_16 : decode cX8_finesOfAll 16 = .ok (.if_icmp .ge 23, 3) := by decide +kernel
theorem dX8_finesOfAll_19 : decode cX8_finesOfAll 19 = .ok (.aload_n 2, 1) := by decide +kernel
theorem dX8_finesOfAll_20 : decode cX8_finesOfAll 20 = .ok (.iload 4, 2) := by decide +kernel
theorem dX8_finesOfAll_22 : decode cX8_finesOfAll 22 = .ok (.aaload, 1) := by decide +kernel
theorem dX8_finesOfAll_23 : decode cX8_finesOfAll 23 = .ok (.astore 5, 2) := by decide +kernel
theorem dX8_finesOfAll_25 : decode cX8_finesOfAll 25 = .ok (.iload_n 1, 1) := by decide +kernel
theorem dX8_finesOfAll_26 : decode cX8_finesOfAll 26 = .ok (.aload 5, 2) := by decide +kernel
theorem dX8_finesOfAll_28 : decode cX8_finesOfAll 28 = .ok (.getfield 267, 3) := by decide +kernel
theorem dX8_finesOfAll_31 : decode cX8_finesOfAll 31 = .ok (.iadd, 1) := by decide +kernel
theorem dX8_finesOfAll_32 : decode cX8_finesOfAll 32 = .ok (.istore_n 1, 1) := by decide +kernel
theorem dX8_finesOfAll_33 : decode cX8_finesOfAll 33 = .ok (.iinc 4 1, 3) := by decide +kernel
theorem dX8_finesOfAll_36 : decode cX8_finesOfAll 36 = .ok (.goto (-23), 3) := by decide +kernel
theorem dX8_finesOfAll_39 : decode cX8_finesOfAll 39 = .ok (.iload_n 1, 1) := by decide +kernel
theorem dX8_finesOfAll_40 : decode cX8_finesOfAll 40 = .ok (.ireturn, 1) := by decide +kernel
theorem dX8_quotasOfAll_0 : decode cX8_quotasOfAll 0 = .ok (.iconst 0, 1) := by decide +kernel
theorem dX8_quotasOfAll_1 : decode cX8_quotasOfAll 1 = .ok (.istore_n 1, 1) := by decide +kernel
theorem dX8_quotasOfAll_2 : decode cX8_quotasOfAll 2 = .ok (.aload_n 0, 1) := by decide +kernel
theorem dX8_quotasOfAll_3 : decode cX8_quotasOfAll 3 = .ok (.getfield 11, 3) := by decide +kernel
theorem dX8_quotasOfAll_6 : decode cX8_quotasOfAll 6 = .ok (.astore_n 2, 1) := by decide +kernel
theorem dX8_quotasOfAll_7 : decode cX8_quotasOfAll 7 = .ok (.aload_n 2, 1) := by decide +kernel
theorem dX8_quotasOfAll_8 : decode cX8_quotasOfAll 8 = .ok (.arraylength, 1) := by decide +kernel
theorem dX8_quotasOfAll_9 : decode cX8_quotasOfAll 9 = .ok (.istore_n 3, 1) := by decide +kernel
theorem dX8_quotasOfAll_10 : decode cX8_quotasOfAll 10 = .ok (.iconst 0, 1) := by decide +kernel
theorem dX8_quotasOfAll_11 : decode cX8_quotasOfAll 11 = .ok (.istore 4, 2) := by decide +kernel
theorem dX8_quotasOfAll_13 : decode cX8_quotasOfAll 13 = .ok (.iload 4, 2) := by decide +kernel
theorem dX8_quotasOfAll_15 : decode cX8_quotasOfAll 15 = .ok (.iload_n 3, 1) := by decide +kernel
theorem dX8_quotasOfAll_16 : decode cX8_quotasOfAll 16 = .ok (.if_icmp .ge 23, 3) := by decide +kernel
theorem dX8_quotasOfAll_19 : decode cX8_quotasOfAll 19 = .ok (.aload_n 2, 1) := by decide +kernel
theorem dX8_quotasOfAll_20 : decode cX8_quotasOfAll 20 = .ok (.iload 4, 2) := by decide +kernel
theorem dX8_quotasOfAll_22 : decode cX8_quotasOfAll 22 = .ok (.aaload, 1) := by decide +kernel
theorem dX8_quotasOfAll_23 : decode cX8_quotasOfAll 23 = .ok (.astore 5, 2) := by decide +kernel
theorem dX8_quotasOfAll_25 : decode cX8_quotasOfAll 25 = .ok (.iload_n 1, 1) := by decide +kernel
theorem dX8_quotasOfAll_26 : decode cX8_quotasOfAll 26 = .ok (.aload 5, 2) := by decide +kernel
theorem dX8_quotasOfAll_28 : decode cX8_quotasOfAll 28 = .ok (.getfield 72, 3) := by decide +kernel
theorem dX8_quotasOfAll_31 : decode cX8_quotasOfAll 31 = .ok (.iadd, 1) := by decide +kernel
theorem dX8_quotasOfAll_32 : decode cX8_quotasOfAll 32 = .ok (.istore_n 1, 1) := by decide +kernel
theorem dX8_quotasOfAll_33 : decode cX8_quotasOfAll 33 = .ok (.iinc 4 1, 3) := by decide +kernel
theorem dX8_quotasOfAll_36 : decode cX8_quotasOfAll 36 = .ok (.goto (-23), 3) := by decide +kernel
theorem dX8_quotasOfAll_39 : decode cX8_quotasOfAll 39 = .ok (.iload_n 1, 1) := by decide +kernel
theorem dX8_quotasOfAll_40 : decode cX8_quotasOfAll 40 = .ok (.ireturn, 1) := by decide +kernel
set_option maxRecDepth 100000 in
theorem ggX8_sleeperIsSound_Jx4a65c_size_8abf5 : GoodIn wsX8_sleeperIsSound wsJx4a65c_size_8abf5 := wk_g rfl wm_X8_sleeperIsSound 2173 wc_Jx4a65c_size_8abf5 rfl (by decide +kernel) (by decide +kernel) wq_Jx4a65c_size_8abf5
set_option maxRecDepth 100000 in
theorem gX8_sleeperIsSound_Jx4a65c_size_8abf5 : GoodIn wsX8_sleeperIsSound (wsV RX8 82 RJx4a65c yJx4a65c_size_8abf5 wsJx4a65c_size_8abf5) := goodIn_app (wk_h rfl wm_X8_sleeperIsSound [2170, 2171, 2172, 2004] (by decide +kernel) (by decide +kernel) (by decide +kernel)) ggX8_sleeperIsSound_Jx4a65c_size_8abf5
set_option maxRecDepth 100000 in
theorem ggX8_sleeperIsSound_Jx4a65c_get_915e3 : GoodIn wsX8_sleeperIsSound wsJx4a65c_get_915e3 := wk_g rfl wm_X8_sleeperIsSound 2177 wc_Jx4a65c_get_915e3 rfl (by decide +kernel) (by decide +kernel) wq_Jx4a65c_get_915e3
set_option maxRecDepth 100000 in
theorem gX8_sleeperIsSound_Jx4a65c_get_915e3 : GoodIn wsX8_sleeperIsSound (wsV RX8 238 RJx4a65c yJx4a65c_get_915e3 wsJx4a65c_get_915e3) := goodIn_app (wk_h rfl wm_X8_sleeperIsSound [2174, 2175, 2176, 2004] (by decide +kernel) (by decide +kernel) (by decide +kernel)) ggX8_sleeperIsSound_Jx4a65c_get_915e3
set_option maxRecDepth 100000 in
theorem ggX8_sleeperIsSound_X0_timesInLine : GoodIn wsX8_sleeperIsSound wsX0_timesInLine := wk_g rfl wm_X8_sleeperIsSound 2197 wc_X0_timesInLine rfl (by decide +kernel) (by decide +kernel) wq_X0_timesInLine
set_option maxRecDepth 100000 in
theorem gX8_sleeperIsSound_X0_timesInLine : GoodIn wsX8_sleeperIsSound (wsV RX8 526 RX0 yX0_timesInLine wsX0_timesInLine) := goodIn_app (wk_h rfl wm_X8_sleeperIsSound [2194, 2195, 2196, 2016] (by decide +kernel) (by decide +kernel) (by decide +kernel)) ggX8_sleeperIsSound_X0_timesInLine
set_option maxRecDepth 100000 in
theorem ggX8_sleeperIsSound_X0_isAt : GoodIn wsX8_sleeperIsSound wsX0_isAt := wk_g rfl wm_X8_sleeperIsSound 2203 wc_X0_isAt rfl (by decide +kernel) (by decide +kernel) wq_X0_isAt
set_option maxRecDepth 100000 in
theorem gX8_sleeperIsSound_X0_isAt : GoodIn wsX8_sleeperIsSound (wsV RX8 184 RX0 yX0_isAt wsX0_isAt) := goodIn_app (wk_h rfl wm_X8_sleeperIsSound [2200, 2201, 2202, 2016] (by decide +kernel) (by decide +kernel) (by decide +kernel)) ggX8_sleeperIsSound_X0_isAt
set_option maxRecDepth 100000 in
theorem ggX8_sleeperIsSound_X8_headOf : GoodIn wsX8_sleeperIsSound wsX8_headOf := wk_g rfl wm_X8_sleeperIsSound 2207 wc_X8_headOf rfl (by decide +kernel) (by decide +kernel) wq_X8_headOf
set_option maxRecDepth 100000 in
theorem gX8_sleeperIsSound_X8_headOf : GoodIn wsX8_sleeperIsSound (wsV RX8 178 RX8 yX8_headOf wsX8_headOf) := goodIn_app (wk_h rfl wm_X8_sleeperIsSound [2204, 2206, 1002, 2001] (by decide +kernel) (by decide +kernel) (by decide +kernel)) ggX8_sleeperIsSound_X8_headOf
theorem dX8_sleeperIsSound_0 : decode cX8_sleeperIsSound 0 = .ok (.iconst 0, 1) := by decide +kernel
theorem dX8_sleeperIsSound_1 : decode cX8_sleeperIsSound 1 = .ok (.istore_n 2, 1) := by decide +kernel
theorem dX8_sleeperIsSound_2 : decode cX8_sleeperIsSound 2 = .ok (.iconst 0, 1) := by decide +kernel
theorem dX8_sleeperIsSound_3 : decode cX8_sleeperIsSound 3 = .ok (.istore_n 3, 1) := by decide +kernel
theorem dX8_sleeperIsSound_4 : decode cX8_sleeperIsSound 4 = .ok (.iload_n 3, 1) := by decide +kernel
theorem dX8_sleeperIsSound_5 : decode cX8_sleeperIsSound 5 = .ok (.aload_n 0, 1) := by decide +kernel
theorem dX8_sleeperIsSound_6 : decode cX8_sleeperIsSound 6 = .ok (.getfield 18, 3) := by decide +kernel
theorem dX8_sleeperIsSound_9 : decode cX8_sleeperIsSound 9 = .ok (.invokevirtual 82, 3) := by decide +kernel
theorem dX8_sleeperIsSound_12 : decode cX8_sleeperIsSound 12 = .ok (.if_icmp .ge 59, 3) := by decide +kernel
theorem dX8_sleeperIsSound_15 : decode cX8_sleeperIsSound 15 = .ok (.aload_n 0, 1) := by decide +kernel
theorem dX8_sleeperIsSound_16 : decode cX8_sleeperIsSound 16 = .ok (.getfield 18, 3) := by decide +kernel
theorem dX8_sleeperIsSound_19 : decode cX8_sleeperIsSound 19 = .ok (.iload_n 3, 1) := by decide +kernel
theorem dX8_sleeperIsSound_20 : decode cX8_sleeperIsSound 20 = .ok (.invokevirtual 238, 3) := by decide +kernel
theorem dX8_sleeperIsSound_23 : decode cX8_sleeperIsSound 23 = .ok (.checkcast 88, 3) := by decide +kernel
theorem dX8_sleeperIsSound_26 : decode cX8_sleeperIsSound 26 = .ok (.aload_n 1, 1) := by decide +kernel
theorem dX8_sleeperIsSound_27 : decode cX8_sleeperIsSound 27 = .ok (.invokevirtual 526, 3) := by decide +kernel
theorem dX8_sleeperIsSound_30 : decode cX8_sleeperIsSound 30 = .ok (.istore 4, 2) := by decide +kernel
theorem dX8_sleeperIsSound_32 : decode cX8_sleeperIsSound 32 = .ok (.iload 4, 2) := by decide +kernel
theorem dX8_sleeperIsSound_34 : decode cX8_sleeperIsSound 34 = .ok (.ifCond .le 26, 3) := by decide +kernel
theorem dX8_sleeperIsSound_37 : decode cX8_sleeperIsSound 37 = .ok (.aload_n 0, 1) := by decide +kernel
theorem dX8_sleeperIsSound_38 : decode cX8_sleeperIsSound 38 = .ok (.getfield 18, 3) := by decide +kernel
theorem dX8_sleeperIsSound_41 : decode cX8_sleeperIsSound 41 = .ok (.iload_n 3, 1) := by decide +kernel
theorem dX8_sleeperIsSound_42 : decode cX8_sleeperIsSound 42 = .ok (.invokevirtual 238, 3) := by decide +kernel
theorem dX8_sleeperIsSound_45 : decode cX8_sleeperIsSound 45 = .ok (.checkcast 88, 3) := by decide +kernel
theorem dX8_sleeperIsSound_48 : decode cX8_sleeperIsSound 48 = .ok (.aload_n 1, 1) := by decide +kernel
theorem dX8_sleeperIsSound_49 : decode cX8_sleeperIsSound 49 = .ok (.getfield 143, 3) := by decide +kernel
theorem dX8_sleeperIsSound_52 : decode cX8_sleeperIsSound 52 = .ok (.invokevirtual 184, 3) := by decide +kernel
theorem dX8_sleeperIsSound_55 : decode cX8_sleeperIsSound 55 = .ok (.ifCond .ne 5, 3) := by decide +kernel
theorem dX8_sleeperIsSound_58 : decode cX8_sleeperIsSound 58 = .ok (.iconst 0, 1) := by decide +kernel
theorem dX8_sleeperIsSound_59 : decode cX8_sleeperIsSound 59 = .ok (.ireturn, 1) := by decide +kernel
theorem dX8_sleeperIsSound_60 : decode cX8_sleeperIsSound 60 = .ok (.iload_n 2, 1) := by decide +kernel
theorem dX8_sleeperIsSound_61 : decode cX8_sleeperIsSound 61 = .ok (.iload 4, 2) := by decide +kernel
theorem dX8_sleeperIsSound_63 : decode cX8_sleeperIsSound 63 = .ok (.iadd, 1) := by decide +kernel
theorem dX8_sleeperIsSound_64 : decode cX8_sleeperIsSound 64 = .ok (.istore_n 2, 1) := by decide +kernel
theorem dX8_sleeperIsSound_65 : decode cX8_sleeperIsSound 65 = .ok (.iinc 3 1, 3) := by decide +kernel
theorem dX8_sleeperIsSound_68 : decode cX8_sleeperIsSound 68 = .ok (.goto (-64), 3) := by decide +kernel
theorem dX8_sleeperIsSound_71 : decode cX8_sleeperIsSound 71 = .ok (.iload_n 2, 1) := by decide +kernel
theorem dX8_sleeperIsSound_72 : decode cX8_sleeperIsSound 72 = .ok (.aload_n 1, 1) := by decide +kernel
theorem dX8_sleeperIsSound_73 : decode cX8_sleeperIsSound 73 = .ok (.getfield 122, 3) := by decide +kernel
theorem dX8_sleeperIsSound_76 : decode cX8_sleeperIsSound 76 = .ok (.iconst 1, 1) := by decide +kernel
theorem dX8_sleeperIsSound_77 : decode cX8_sleeperIsSound 77 = .ok (.if_icmp .ne 7, 3) := by decide +kernel
theorem dX8_sleeperIsSound_80 : decode cX8_sleeperIsSound 80 = .ok (.iconst 1, 1) := by decide +kernel
theorem dX8_sleeperIsSound_81 : decode cX8_sleeperIsSound 81 = .ok (.goto 4, 3) := by decide +kernel
theorem dX8_sleeperIsSound_84 : decode cX8_sleeperIsSound 84 = .ok (.iconst 0, 1) := by decide +kernel
theorem dX8_sleeperIsSound_85 : decode cX8_sleeperIsSound 85 = .ok (.if_icmp .eq 5, 3) := by decide +kernel
theorem dX8_sleeperIsSound_88 : decode cX8_sleeperIsSound 88 = .ok (.iconst 0, 1) := by decide +kernel
theorem dX8_sleeperIsSound_89 : decode cX8_sleeperIsSound 89 = .ok (.ireturn, 1) := by decide +kernel
theorem dX8_sleeperIsSound_90 : decode cX8_sleeperIsSound 90 = .ok (.aload_n 1, 1) := by decide +kernel
theorem dX8_sleeperIsSound_91 : decode cX8_sleeperIsSound 91 = .ok (.getfield 310, 3) := by decide +kernel
theorem dX8_sleeperIsSound_94 : decode cX8_sleeperIsSound 94 = .ok (.ifCond .lt 12, 3) := by decide +kernel
theorem dX8_sleeperIsSound_97 : decode cX8_sleeperIsSound 97 = .ok (.aload_n 1, 1) := by decide +kernel
theorem dX8_sleeperIsSound_98 : decode cX8_sleeperIsSound 98 = .ok (.getfield 310, 3) := by decide +kernel
theorem dX8_sleeperIsSound_101 : decode cX8_sleeperIsSound 101 = .ok (.bipush 9, 2) := by decide +kernel
theorem dX8_sleeperIsSound_103 : decode cX8_sleeperIsSound 103 = .ok (.if_icmp .le 5, 3) := by decide +kernel
theorem dX8_sleeperIsSound_106 : decode cX8_sleeperIsSound 106 = .ok (.iconst 0, 1) := by decide +kernel
theorem dX8_sleeperIsSound_107 : decode cX8_sleeperIsSound 107 = .ok (.ireturn, 1) := by decide +kernel
theorem dX8_sleeperIsSound_108 : decode cX8_sleeperIsSound 108 = .ok (.aload_n 1, 1) := by decide +kernel
theorem dX8_sleeperIsSound_109 : decode cX8_sleeperIsSound 109 = .ok (.getfield 122, 3) := by decide +kernel
theorem dX8_sleeperIsSound_112 : decode cX8_sleeperIsSound 112 = .ok (.iconst 2, 1) := by decide +kernel
theorem dX8_sleeperIsSound_113 : decode cX8_sleeperIsSound 113 = .ok (.if_icmp .ne 11, 3) := by decide +kernel
theorem dX8_sleeperIsSound_116 : decode cX8_sleeperIsSound 116 = .ok (.aload_n 0, 1) := by decide +kernel
theorem dX8_sleeperIsSound_117 : decode cX8_sleeperIsSound 117 = .ok (.aload_n 1, 1) := by decide +kernel
theorem dX8_sleeperIsSound_118 : decode cX8_sleeperIsSound 118 = .ok (.invokevirtual 178, 3) := by decide +kernel
theorem dX8_sleeperIsSound_121 : decode cX8_sleeperIsSound 121 = .ok (.ifCond .ne 7, 3) := by decide +kernel
theorem dX8_sleeperIsSound_124 : decode cX8_sleeperIsSound 124 = .ok (.iconst 1, 1) := by decide +kernel
theorem dX8_sleeperIsSound_125 : decode cX8_sleeperIsSound 125 = .ok (.goto 4, 3) := by decide +kernel
theorem dX8_sleeperIsSound_128 : decode cX8_sleeperIsSound 128 = .ok (.iconst 0, 1) := by decide +kernel
theorem dX8_sleeperIsSound_129 : decode cX8_sleeperIsSound 129 = .ok (.ireturn, 1) := by decide +kernel
set_option maxRecDepth 100000 in
theorem ggX8_findArrivals_Jx4a65c_size_8abf5 : GoodIn wsX8_findArrivals wsJx4a65c_size_8abf5 := wk_g rfl wm_X8_findArrivals 2173 wc_Jx4a65c_size_8abf5 rfl (by decide +kernel) (by decide +kernel) wq_Jx4a65c_size_8abf5
set_option maxRecDepth 100000 in
theorem gX8_findArrivals_Jx4a65c_size_8abf5 : GoodIn wsX8_findArrivals (wsV RX8 82 RJx4a65c yJx4a65c_size_8abf5 wsJx4a65c_size_8abf5) := goodIn_app (wk_h rfl wm_X8_findArrivals [2170, 2171, 2172, 2004] (by decide +kernel) (by decide +kernel) (by decide +kernel)) ggX8_findArrivals_Jx4a65c_size_8abf5
set_option maxRecDepth 100000 in
theorem ggX8_findArrivals_Jx4a65c_get_915e3 : GoodIn wsX8_findArrivals wsJx4a65c_get_915e3 := wk_g rfl wm_X8_findArrivals 2177 wc_Jx4a65c_get_915e3 rfl (by decide +kernel) (by decide +kernel) wq_Jx4a65c_get_915e3
set_option maxRecDepth 100000 in
theorem gX8_findArrivals_Jx4a65c_get_915e3 : GoodIn wsX8_findArrivals (wsV RX8 238 RJx4a65c yJx4a65c_get_915e3 wsJx4a65c_get_915e3) := goodIn_app (wk_h rfl wm_X8_findArrivals [2174, 2175, 2176, 2004] (by decide +kernel) (by decide +kernel) (by decide +kernel)) ggX8_findArrivals_Jx4a65c_get_915e3
set_option maxRecDepth 100000 in
theorem ggX8_findArrivals_X0_isOpenAt : GoodIn wsX8_findArrivals wsX0_isOpenAt := wk_g rfl wm_X8_findArrivals 3125 wc_X0_isOpenAt rfl (by decide +kernel) (by decide +kernel) wq_X0_isOpenAt
set_option maxRecDepth 100000 in
theorem gX8_findArrivals_X0_isOpenAt : GoodIn wsX8_findArrivals (wsV RX8 226 RX0 yX0_isOpenAt wsX0_isOpenAt) := goodIn_app (wk_h rfl wm_X8_findArrivals [3122, 3123, 3124, 2016] (by decide +kernel) (by decide +kernel) (by decide +kernel)) ggX8_findArrivals_X0_isOpenAt
set_option maxRecDepth 100000 in
theorem ggX8_findArrivals_X8_cross : GoodIn wsX8_findArrivals wsX8_cross := wk_g rfl wm_X8_findArrivals 4003 wc_X8_cross rfl (by decide +kernel) (by decide +kernel) wq_X8_cross
set_option maxRecDepth 100000 in
theorem gX8_findArrivals_X8_cross : GoodIn wsX8_findArrivals (wsV RX8 529 RX8 yX8_cross wsX8_cross) := goodIn_app (wk_h rfl wm_X8_findArrivals [4000, 4002, 1024, 2001] (by decide +kernel) (by decide +kernel) (by decide +kernel)) ggX8_findArrivals_X8_cross
theorem dX8_findArrivals_0 : decode cX8_findArrivals 0 = .ok (.iconst 0, 1) := by decide +kernel
theorem dX8_findArrivals_1 : decode cX8_findArrivals 1 = .ok (.istore_n 2, 1) := by decide +kernel
theorem dX8_findArrivals_2 : decode cX8_findArrivals 2 = .ok (.iload_n 2, 1) := by decide +kernel
theorem dX8_findArrivals_3 : decode cX8_findArrivals 3 = .ok (.bipush 6, 2) := by decide +kernel
theorem dX8_findArrivals_5 : decode cX8_findArrivals 5 = .ok (.if_icmp .ge 28, 3) := by decide +kernel
theorem dX8_findArrivals_8 : decode cX8_findArrivals 8 = .ok (.aload_n 0, 1) := by decide +kernel
theorem dX8_findArrivals_9 : decode cX8_findArrivals 9 = .ok (.getfield 43, 3) := by decide +kernel
theorem dX8_findArrivals_12 : decode cX8_findArrivals 12 = .ok (.iload_n 2, 1) := by decide +kernel
theorem dX8_findArrivals_13 : decode cX8_findArrivals 13 = .ok (.iload_n 2, 1) := by decide +kernel
theorem dX8_findArrivals_14 : decode cX8_findArrivals 14 = .ok (.aload_n 1, 1) := by decide +kernel
theorem dX8_findArrivals_15 : decode cX8_findArrivals 15 = .ok (.getfield 296, 3) := by decide +kernel
theorem dX8_findArrivals_18 : decode cX8_findArrivals 18 = .ok (.if_icmp .ne 7, 3) := by decide +kernel
theorem dX8_findArrivals_21 : decode cX8_findArrivals 21 = .ok (.iconst 0, 1) := by decide +kernel
theorem dX8_findArrivals_22 : decode cX8_findArrivals 22 = .ok (.goto 4, 3) := by decide +kernel
theorem dX8_findArrivals_25 : decode cX8_findArrivals 25 = .ok (.iconst (-1), 1) := by decide +kernel
theorem dX8_findArrivals_26 : decode cX8_findArrivals 26 = .ok (.iastore, 1) := by decide +kernel
theorem dX8_findArrivals_27 : decode cX8_findArrivals 27 = .ok (.iinc 2 1, 3) := by decide +kernel
theorem dX8_findArrivals_30 : decode cX8_findArrivals 30 = .ok (.goto (-28), 3) := by decide +kernel
theorem dX8_findArrivals_33 : decode cX8_findArrivals 33 = .ok (.iconst 0, 1) := by decide +kernel
theorem dX8_findArrivals_34 : decode cX8_findArrivals 34 = .ok (.istore_n 2, 1) := by decide +kernel
theorem dX8_findArrivals_35 : decode cX8_findArrivals 35 = .ok (.iload_n 2, 1) := by decide +kernel
theorem dX8_findArrivals_36 : decode cX8_findArrivals 36 = .ok (.bipush 72, 2) := by decide +kernel
theorem dX8_findArrivals_38 : decode cX8_findArrivals 38 = .ok (.if_icmp .ge 100, 3) := by decide +kernel
theorem dX8_findArrivals_41 : decode cX8_findArrivals 41 = .ok (.iconst 0, 1) := by decide +kernel
theorem dX8_findArrivals_42 : decode cX8_findArrivals 42 = .ok (.istore_n 3, 1) := by decide +kernel
theorem dX8_findArrivals_43 : decode cX8_findArrivals 43 = .ok (.iload_n 3, 1) := by decide +kernel
theorem dX8_findArrivals_44 : decode cX8_findArrivals 44 = .ok (.aload_n 0, 1) := by decide +kernel
theorem dX8_findArrivals_45 : decode cX8_findArrivals 45 = .ok (.getfield 18, 3) := by decide +kernel
theorem dX8_findArrivals_48 : decode cX8_findArrivals 48 = .ok (.invokevirtual 82, 3) := by decide +kernel
theorem dX8_findArrivals_51 : decode cX8_findArrivals 51 = .ok (.if_icmp .ge 81, 3) := by decide +kernel
theorem dX8_findArrivals_54 : decode cX8_findArrivals 54 = .ok (.aload_n 0, 1) := by decide +kernel
theorem dX8_findArrivals_55 : decode cX8_findArrivals 55 = .ok (.getfield 18, 3) := by decide +kernel
theorem dX8_findArrivals_58 : decode cX8_findArrivals 58 = .ok (.iload_n 3, 1) := by decide +kernel
theorem dX8_findArrivals_59 : decode cX8_findArrivals 59 = .ok (.invokevirtual 238, 3) := by decide +kernel
theorem dX8_findArrivals_62 : decode cX8_findArrivals 62 = .ok (.checkcast 88, 3) := by decide +kernel
theorem dX8_findArrivals_65 : decode cX8_findArrivals 65 = .ok (.astore 4, 2) := by decide +kernel
theorem dX8_findArrivals_67 : decode cX8_findArrivals 67 = .ok (.aload 4, 2) := by decide +kernel
theorem dX8_findArrivals_69 : decode cX8_findArrivals 69 = .ok (.aload_n 0, 1) := by decide +kernel
theorem dX8_findArrivals_70 : decode cX8_findArrivals 70 = .ok (.getfield 223, 3) := by decide +kernel
theorem dX8_findArrivals_73 : decode cX8_findArrivals 73 = .ok (.iload_n 2, 1) := by decide +kernel
theorem dX8_findArrivals_74 : decode cX8_findArrivals 74 = .ok (.iadd, 1) := by decide +kernel
theorem dX8_findArrivals_75 : decode cX8_findArrivals 75 = .ok (.bipush 24, 2) := by decide +kernel
theorem dX8_findArrivals_77 : decode cX8_findArrivals 77 = .ok (.irem, 1) := by decide +kernel
theorem dX8_findArrivals_78 : decode cX8_findArrivals 78 = .ok (.invokevirtual 226, 3) := by decide +kernel
theorem dX8_findArrivals_81 : decode cX8_findArrivals 81 = .ok (.ifCond .eq 45, 3) := by decide +kernel
theorem dX8_findArrivals_84 : decode cX8_findArrivals 84 = .ok (.aload_n 0, 1) := by decide +kernel
theorem dX8_findArrivals_85 : decode cX8_findArrivals 85 = .ok (.aload 4, 2) := by decide +kernel
theorem dX8_findArrivals_87 : decode cX8_findArrivals 87 = .ok (.getfield 293, 3) := by decide +kernel
theorem dX8_findArrivals_90 : decode cX8_findArrivals 90 = .ok (.getfield 296, 3) := by decide +kernel
theorem dX8_findArrivals_93 : decode cX8_findArrivals 93 = .ok (.aload 4, 2) := by decide +kernel
theorem dX8_findArrivals_95 : decode cX8_findArrivals 95 = .ok (.getfield 297, 3) := by decide +kernel
theorem dX8_findArrivals_98 : decode cX8_findArrivals 98 = .ok (.getfield 296, 3) := by decide +kernel
theorem dX8_findArrivals_101 : decode cX8_findArrivals 101 = .ok (.iload_n 2, 1) := by decide +kernel
theorem dX8_findArrivals_102 : decode cX8_findArrivals 102 = .ok (.invokevirtual 529, 3) := by decide +kernel
theorem dX8_findArrivals_105 : decode cX8_findArrivals 105 = .ok (.aload_n 0, 1) := by decide +kernel
theorem dX8_findArrivals_106 : decode cX8_findArrivals 106 = .ok (.aload 4, 2) := by decide +kernel
theorem dX8_findArrivals_108 : decode cX8_findArrivals 108 = .ok (.getfield 297, 3) := by decide +kernel
theorem dX8_findArrivals_111 : decode cX8_findArrivals 111 = .ok (.getfield 296, 3) := by decide +kernel
theorem dX8_findArrivals_114 : decode cX8_findArrivals 114 = .ok (.aload 4, 2) := by decide +kernel
theorem dX8_findArrivals_116 : decode cX8_findArrivals 116 = .ok (.getfield 293, 3) := by decide +kernel
theorem dX8_findArrivals_119 : decode cX8_findArrivals 119 = .ok (.getfield 296, 3) := by decide +kernel
theorem dX8_findArrivals_122 : decode cX8_findArrivals 122 = .ok (.iload_n 2, 1) := by decide +kernel
theorem dX8_findArrivals_123 : decode cX8_findArrivals 123 = .ok (.invokevirtual 529, 3) := by decide +kernel
theorem dX8_findArrivals_126 : decode cX8_findArrivals 126 = .ok (.iinc 3 1, 3) := by decide +kernel
theorem dX8_findArrivals_129 : decode cX8_findArrivals 129 = .ok (.goto (-86), 3) := by decide +kernel
theorem dX8_findArrivals_132 : decode cX8_findArrivals 132 = .ok (.iinc 2 1, 3) := by decide +kernel
theorem dX8_findArrivals_135 : decode cX8_findArrivals 135 = .ok (.goto (-100), 3) := by decide +kernel
theorem dX8_findArrivals_138 : decode cX8_findArrivals 138 = .ok (.return_, 1) := by decide +kernel
theorem dX8_cross_0 : decode cX8_cross 0 = .ok (.aload_n 0, 1) := by decide +kernel
theorem dX8_cross_1 : decode cX8_cross 1 = .ok (.getfield 43, 3) := by decide +kernel
theorem dX8_cross_4 : decode cX8_cross 4 = .ok (.iload_n 1, 1) := by decide +kernel
theorem dX8_cross_5 : decode cX8_cross 5 = .ok (.iaload, 1) := by decide +kernel
theorem dX8_cross_6 : decode cX8_cross 6 = .ok (.iconst (-1), 1) := by decide +kernel
theorem dX8_cross_7 : decode cX8_cross 7 = .ok (.if_icmp .eq 17, 3) := by decide +kernel
theorem dX8_cross_10 : decode cX8_cross 10 = .ok (.aload_n 0, 1) := by decide +kernel
theorem dX8_cross_11 : decode cX8_cross 11 = .ok (.getfield 43, 3) := by decide +kernel
theorem dX8_cross_14 : decode cX8_cross 14 = .ok (.iload_n 1, 1) := by decide +kernel
theorem dX8_cross_15 : decode cX8_cross 15 = .ok (.iaload, 1) := by decide +kernel
theorem dX8_cross_16 : decode cX8_cross 16 = .ok (.iload_n 3, 1) := by decide +kernel
theorem dX8_cross_17 : decode cX8_cross 17 = .ok (.if_icmp .gt 7, 3) := by decide +kernel
theorem dX8_cross_20 : decode cX8_cross 20 = .ok (.iconst 1, 1) := by decide +kernel
theorem dX8_cross_21 : decode cX8_cross 21 = .ok (.goto 4, 3) := by decide +kernel
theorem dX8_cross_24 : decode cX8_cross 24 = .ok (.iconst 0, 1) := by decide +kernel
theorem dX8_cross_25 : decode cX8_cross 25 = .ok (.istore 4, 2) := by decide +kernel
theorem dX8_cross_27 : decode cX8_cross 27 = .ok (.iload 4, 2) := by decide +kernel
theorem dX8_cross_29 : decode cX8_cross 29 = .ok (.ifCond .eq 22, 3) := by decide +kernel
theorem dX8_cross_32 : decode cX8_cross 32 = .ok (.aload_n 0, 1) := by decide +kernel
theorem dX8_cross_33 : decode cX8_cross 33 = .ok (.getfield 43, 3) := by decide +kernel
theorem dX8_cross_36 : decode cX8_cross 36 = .ok (.iload_n 2, 1) := by decide +kernel
theorem dX8_cross_37 : decode cX8_cross 37 = .ok (.iaload, 1) := by decide +kernel
theorem dX8_cross_38 : decode cX8_cross 38 = .ok (.iconst (-1), 1) := by decide +kernel
theorem dX8_cross_39 : decode cX8_cross 39 = .ok (.if_icmp .ne 12, 3) := by decide +kernel
theorem dX8_cross_42 : decode cX8_cross 42 = .ok (.aload_n 0, 1) := by decide +kernel
theorem dX8_cross_43 : decode cX8_cross 43 = .ok (.getfield 43, 3) := by decide +kernel
theorem dX8_cross_46 : decode cX8_cross 46 = .ok (.iload_n 2, 1) := by decide +kernel
theorem dX8_cross_47 : decode cX8_cross 47 = .ok (.iload_n 3, 1) := by decide +kernel
theorem dX8_cross_48 : decode cX8_cross 48 = .ok (.iconst 1, 1) := by decide +kernel
theorem dX8_cross_49 : decode cX8_cross 49 = .ok (.iadd, 1) := by decide +kernel
theorem dX8_cross_50 : decode cX8_cross 50 = .ok (.iastore, 1) := by decide +kernel
theorem dX8_cross_51 : decode cX8_cross 51 = .ok (.return_, 1) := by decide +kernel
set_option maxRecDepth 100000 in
theorem ggX8_findMostCaught_Jx4a65c_size_8abf5 : GoodIn wsX8_findMostCaught wsJx4a65c_size_8abf5 := wk_g rfl wm_X8_findMostCaught 2173 wc_Jx4a65c_size_8abf5 rfl (by decide +kernel) (by decide +kernel) wq_Jx4a65c_size_8abf5
set_option maxRecDepth 100000 in
theorem gX8_findMostCaught_Jx4a65c_size_8abf5 : GoodIn wsX8_findMostCaught (wsV RX8 82 RJx4a65c yJx4a65c_size_8abf5 wsJx4a65c_size_8abf5) := goodIn_app (wk_h rfl wm_X8_findMostCaught [2170, 2171, 2172, 2004] (by decide +kernel) (by decide +kernel) (by decide +kernel)) ggX8_findMostCaught_Jx4a65c_size_8abf5
set_option maxRecDepth 100000 in
theorem ggX8_findMostCaught_Jx4a65c_get_915e3 : GoodIn wsX8_findMostCaught wsJx4a65c_get_915e3 := wk_g rfl wm_X8_findMostCaught 2177 wc_Jx4a65c_get_915e3 rfl (by decide +kernel) (by decide +kernel) wq_Jx4a65c_get_915e3
set_option maxRecDepth 100000 in
theorem gX8_findMostCaught_Jx4a65c_get_915e3 : GoodIn wsX8_findMostCaught (wsV RX8 238 RJx4a65c yJx4a65c_get_915e3 wsJx4a65c_get_915e3) := goodIn_app (wk_h rfl wm_X8_findMostCaught [2174, 2175, 2176, 2004] (by decide +kernel) (by decide +kernel) (by decide +kernel)) ggX8_findMostCaught_Jx4a65c_get_915e3
set_option maxRecDepth 100000 in
theorem ggX8_findMostCaught_X8_hiddenWorth : GoodIn wsX8_findMostCaught wsX8_hiddenWorth := wk_g rfl wm_X8_findMostCaught 3137 wc_X8_hiddenWorth rfl (by decide +kernel) (by decide +kernel) wq_X8_hiddenWorth
set_option maxRecDepth 100000 in
theorem gX8_findMostCaught_X8_hiddenWorth : GoodIn wsX8_findMostCaught (wsV RX8 303 RX8 yX8_hiddenWorth wsX8_hiddenWorth) := goodIn_app (wk_h rfl wm_X8_findMostCaught [3134, 3136, 1014, 2001] (by decide +kernel) (by decide +kernel) (by decide +kernel)) ggX8_findMostCaught_X8_hiddenWorth
set_option maxRecDepth 100000 in
theorem ggX8_findMostCaught_X8_mostCaughtFrom : GoodIn wsX8_findMostCaught wsX8_mostCaughtFrom := wk_g rfl wm_X8_findMostCaught 4019 wc_X8_mostCaughtFrom rfl (by decide +kernel) (by decide +kernel) wq_X8_mostCaughtFrom
set_option maxRecDepth 100000 in
theorem gX8_findMostCaught_X8_mostCaughtFrom : GoodIn wsX8_findMostCaught (wsV RX8 532 RX8 yX8_mostCaughtFrom wsX8_mostCaughtFrom) := goodIn_app (wk_h rfl wm_X8_findMostCaught [4016, 4018, 1026, 2001] (by decide +kernel) (by decide +kernel) (by decide +kernel)) ggX8_findMostCaught_X8_mostCaughtFrom
theorem dX8_findMostCaught_0 : decode cX8_findMostCaught 0 = .ok (.aload_n 0, 1) := by decide +kernel
theorem dX8_findMostCaught_1 : decode cX8_findMostCaught 1 = .ok (.getfield 18, 3) := by decide +kernel
theorem dX8_findMostCaught_4 : decode cX8_findMostCaught 4 = .ok (.invokevirtual 82, 3) := by decide +kernel
theorem dX8_findMostCaught_7 : decode cX8_findMostCaught 7 = .ok (.istore_n 1, 1) := by decide +kernel
theorem dX8_findMostCaught_8 : decode cX8_findMostCaught 8 = .ok (.iconst 0, 1) := by decide +kernel
theorem dX8_findMostCaught_9 : decode cX8_findMostCaught 9 = .ok (.istore_n 2, 1) := by decide +kernel
theorem dX8_findMostCaught_10 : decode cX8_findMostCaught 10 = .ok (.iload_n 2, 1) := by decide +kernel
theorem dX8_findMostCaught_11 : decode cX8_findMostCaught 11 = .ok (.aload_n 0, 1) := by decide +kernel
theorem dX8_findMostCaught_12 : decode cX8_findMostCaught 12 = .ok (.getfield 40, 3) := by decide +kernel
theorem dX8_findMostCaught_15 : decode cX8_findMostCaught 15 = .ok (.iload_n 1, 1) := by decide +kernel
theorem dX8_findMostCaught_16 : decode cX8_findMostCaught 16 = .ok (.aaload, 1) := by decide +kernel
theorem dX8_findMostCaught_17 : decode cX8_findMostCaught 17 = .ok (.arraylength, 1) := by decide +kernel
theorem dX8_findMostCaught_18 : decode cX8_findMostCaught 18 = .ok (.if_icmp .ge 18, 3) := by decide +kernel
theorem dX8_findMostCaught_21 : decode cX8_findMostCaught 21 = .ok (.aload_n 0, 1) := by decide +kernel
theorem dX8_findMostCaught_22 : decode cX8_findMostCaught 22 = .ok (.getfield 40, 3) := by decide +kernel
theorem dX8_findMostCaught_25 : decode cX8_findMostCaught 25 = .ok (.iload_n 1, 1) := by decide +kernel
theorem dX8_findMostCaught_26 : decode cX8_findMostCaught 26 = .ok (.aaload, 1) := by decide +kernel
theorem dX8_findMostCaught_27 : decode cX8_findMostCaught 27 = .ok (.iload_n 2, 1) := by decide +kernel
theorem dX8_findMostCaught_28 : decode cX8_findMostCaught 28 = .ok (.iconst 0, 1) := by decide +kernel
theorem dX8_findMostCaught_29 : decode cX8_findMostCaught 29 = .ok (.iastore, 1) := by decide +kernel
theorem dX8_findMostCaught_30 : decode cX8_findMostCaught 30 = .ok (.iinc 2 1, 3) := by decide +kernel
theorem dX8_findMostCaught_33 : decode cX8_findMostCaught 33 = .ok (.goto (-23), 3) := by decide +kernel
theorem dX8_findMostCaught_36 : decode cX8_findMostCaught 36 = .ok (.iload_n 1, 1) := by decide +kernel
theorem dX8_findMostCaught_37 : decode cX8_findMostCaught 37 = .ok (.iconst 1, 1) := by decide +kernel
theorem dX8_findMostCaught_38 : decode cX8_findMostCaught 38 = .ok (.isub, 1) := by decide +kernel
theorem dX8_findMostCaught_39 : decode cX8_findMostCaught 39 = .ok (.istore_n 2, 1) := by decide +kernel
theorem dX8_findMostCaught_40 : decode cX8_findMostCaught 40 = .ok (.iload_n 2, 1) := by decide +kernel
theorem dX8_findMostCaught_41 : decode cX8_findMostCaught 41 = .ok (.ifCond .lt 63, 3) := by decide +kernel
theorem dX8_findMostCaught_44 : decode cX8_findMostCaught 44 = .ok (.aload_n 0, 1) := by decide +kernel
theorem dX8_findMostCaught_45 : decode cX8_findMostCaught 45 = .ok (.aload_n 0, 1) := by decide +kernel
theorem dX8_findMostCaught_46 : decode cX8_findMostCaught 46 = .ok (.getfield 18, 3) := by decide +kernel
theorem dX8_findMostCaught_49 : decode cX8_findMostCaught 49 = .ok (.iload_n 2, 1) := by decide +kernel
theorem dX8_findMostCaught_50 : decode cX8_findMostCaught 50 = .ok (.invokevirtual 238, 3) := by decide +kernel
theorem dX8_findMostCaught_53 : decode cX8_findMostCaught 53 = .ok (.checkcast 88, 3) := by decide +kernel
theorem dX8_findMostCaught_56 : decode cX8_findMostCaught 56 = .ok (.invokevirtual 303, 3) := by decide +kernel
theorem dX8_findMostCaught_59 : decode cX8_findMostCaught 59 = .ok (.istore_n 3, 1) := by decide +kernel
theorem dX8_findMostCaught_60 : decode cX8_findMostCaught 60 = .ok (.iconst 0, 1) := by decide +kernel
theorem dX8_findMostCaught_61 : decode cX8_findMostCaught 61 = .ok (.istore 4, 2) := by decide +kernel
theorem dX8_findMostCaught_63 : decode cX8_findMostCaught 63 = .ok (.iload 4, 2) := by decide +kernel
theorem dX8_findMostCaught_65 : decode cX8_findMostCaught 65 = .ok (.aload_n 0, 1) := by decide +kernel
theorem dX8_findMostCaught_66 : decode cX8_findMostCaught 66 = .ok (.getfield 40, 3) := by decide +kernel
theorem dX8_findMostCaught_69 : decode cX8_findMostCaught 69 = .ok (.iload_n 2, 1) := by decide +kernel
theorem dX8_findMostCaught_70 : decode cX8_findMostCaught 70 = .ok (.aaload, 1) := by decide +kernel
theorem dX8_findMostCaught_71 : decode cX8_findMostCaught 71 = .ok (.arraylength, 1) := by decide +kernel
theorem dX8_findMostCaught_72 : decode cX8_findMostCaught 72 = .ok (.if_icmp .ge 26, 3) := by decide +kernel
theorem dX8_findMostCaught_75 : decode cX8_findMostCaught 75 = .ok (.aload_n 0, 1) := by decide +kernel
theorem dX8_findMostCaught_76 : decode cX8_findMostCaught 76 = .ok (.getfield 40, 3) := by decide +kernel
theorem dX8_findMostCaught_79 : decode cX8_findMostCaught 79 = .ok (.iload_n 2, 1) := by decide +kernel
theorem dX8_findMostCaught_80 : decode cX8_findMostCaught 80 = .ok (.aaload, 1) := by decide +kernel
theorem dX8_findMostCaught_81 : decode cX8_findMostCaught 81 = .ok (.iload 4, 2) := by decide +kernel
theorem dX8_findMostCaught_83 : decode cX8_findMostCaught 83 = .ok (.aload_n 0, 1) := by decide +kernel
theorem dX8_findMostCaught_84 : decode cX8_findMostCaught 84 = .ok (.iload_n 2, 1) := by decide +kernel
theorem dX8_findMostCaught_85 : decode cX8_findMostCaught 85 = .ok (.iload_n 3, 1) := by decide +kernel
theorem dX8_findMostCaught_86 : decode cX8_findMostCaught 86 = .ok (.iload 4, 2) := by decide +kernel
theorem dX8_findMostCaught_88 : decode cX8_findMostCaught 88 = .ok (.invokevirtual 532, 3) := by decide +kernel
theorem dX8_findMostCaught_91 : decode cX8_findMostCaught 91 = .ok (.iastore, 1) := by decide +kernel
theorem dX8_findMostCaught_92 : decode cX8_findMostCaught 92 = .ok (.iinc 4 1, 3) := by decide +kernel
theorem dX8_findMostCaught_95 : decode cX8_findMostCaught 95 = .ok (.goto (-32), 3) := by decide +kernel
theorem dX8_findMostCaught_98 : decode cX8_findMostCaught 98 = .ok (.iinc 2 (-1), 3) := by decide +kernel
theorem dX8_findMostCaught_101 : decode cX8_findMostCaught 101 = .ok (.goto (-61), 3) := by decide +kernel
theorem dX8_findMostCaught_104 : decode cX8_findMostCaught 104 = .ok (.return_, 1) := by decide +kernel
set_option maxRecDepth 100000 in
theorem ggX8_mostCaughtFrom_X8_catchOf : GoodIn wsX8_mostCaughtFrom wsX8_catchOf := wk_g rfl wm_X8_mostCaughtFrom 4025 wc_X8_catchOf rfl (by decide +kernel) (by decide +kernel) wq_X8_catchOf
set_option maxRecDepth 100000 in
theorem gX8_mostCaughtFrom_X8_catchOf : GoodIn wsX8_mostCaughtFrom (va_wsS RX8 538 yX8_catchOf wsX8_catchOf) := goodIn_app (wk_h rfl wm_X8_mostCaughtFrom [4023, 4024, 2001] (by decide +kernel) (by decide +kernel) (by decide +kernel)) ggX8_mostCaughtFrom_X8_catchOf
theorem dX8_mostCaughtFrom_0 : decode cX8_mostCaughtFrom 0 = .ok (.aload_n 0, 1) := by decide +kernel
theorem dX8_mostCaughtFrom_1 : decode cX8_mostCaughtFrom 1 = .ok (.getfield 40, 3) := by decide +kernel
theorem dX8_mostCaughtFrom_4 : decode cX8_mostCaughtFrom 4 = .ok (.iload_n 1, 1) := by decide +kernel
theorem dX8_mostCaughtFrom_5 : decode cX8_mostCaughtFrom 5 = .ok (.iconst 1, 1) := by decide +kernel
theorem dX8_mostCaughtFrom_6 : decode cX8_mostCaughtFrom 6 = .ok (.iadd, 1) := by decide +kernel
theorem dX8_mostCaughtFrom_7 : decode cX8_mostCaughtFrom 7 = .ok (.aaload, 1) := by decide +kernel
theorem dX8_mostCaughtFrom_8 : decode cX8_mostCaughtFrom 8 = .ok (.astore 4, 2) := by decide +kernel
theorem dX8_mostCaughtFrom_10 : decode cX8_mostCaughtFrom 10 = .ok (.aload 4, 2) := by decide +kernel
theorem dX8_mostCaughtFrom_12 : decode cX8_mostCaughtFrom 12 = .ok (.iload_n 3, 1) := by decide +kernel
theorem dX8_mostCaughtFrom_13 : decode cX8_mostCaughtFrom 13 = .ok (.iaload, 1) := by decide +kernel
theorem dX8_mostCaughtFrom_14 : decode cX8_mostCaughtFrom 14 = .ok (.istore 5, 2) := by decide +kernel
theorem dX8_mostCaughtFrom_16 : decode cX8_mostCaughtFrom 16 = .ok (.iload_n 2, 1) := by decide +kernel
theorem dX8_mostCaughtFrom_17 : decode cX8_mostCaughtFrom 17 = .ok (.ifCond .ne 7, 3) := by decide +kernel
theorem dX8_mostCaughtFrom_20 : decode cX8_mostCaughtFrom 20 = .ok (.iconst 0, 1) := by decide +kernel
theorem dX8_mostCaughtFrom_21 : decode cX8_mostCaughtFrom 21 = .ok (.goto 9, 3) := by decide +kernel
theorem dX8_mostCaughtFrom_24 : decode cX8_mostCaughtFrom 24 = .ok (.iload_n 3, 1) := by decide +kernel
theorem dX8_mostCaughtFrom_25 : decode cX8_mostCaughtFrom 25 = .ok (.bipush 10, 2) := by decide +kernel
theorem dX8_mostCaughtFrom_27 : decode cX8_mostCaughtFrom 27 = .ok (.invokestatic 535, 3) := by decide +kernel
theorem dX8_mostCaughtFrom_30 : decode cX8_mostCaughtFrom 30 = .ok (.istore 6, 2) := by decide +kernel
theorem dX8_mostCaughtFrom_32 : decode cX8_mostCaughtFrom 32 = .ok (.iconst 1, 1) := by decide +kernel
theorem dX8_mostCaughtFrom_33 : decode cX8_mostCaughtFrom 33 = .ok (.istore 7, 2) := by decide +kernel
theorem dX8_mostCaughtFrom_35 : decode cX8_mostCaughtFrom 35 = .ok (.iload 7, 2) := by decide +kernel
theorem dX8_mostCaughtFrom_37 : decode cX8_mostCaughtFrom 37 = .ok (.iload 6, 2) := by decide +kernel
theorem dX8_mostCaughtFrom_39 : decode cX8_mostCaughtFrom 39 = .ok (.if_icmp .gt 30, 3) := by decide +kernel
theorem dX8_mostCaughtFrom_42 : decode cX8_mostCaughtFrom 42 = .ok (.iload 5, 2) := by decide +kernel
theorem dX8_mostCaughtFrom_44 : decode cX8_mostCaughtFrom 44 = .ok (.aload 4, 2) := by decide +kernel
theorem dX8_mostCaughtFrom_46 : decode cX8_mostCaughtFrom 46 = .ok (.iload_n 3, 1) := by decide +kernel
theorem dX8_mostCaughtFrom_47 : decode cX8_mostCaughtFrom 47 = .ok (.iload 7, 2) := by decide +kernel
theorem dX8_mostCaughtFrom_49 : decode cX8_mostCaughtFrom 49 = .ok (.isub, 1) := by decide +kernel
theorem dX8_mostCaughtFrom_50 : decode cX8_mostCaughtFrom 50 = .ok (.iaload, 1) := by decide +kernel
theorem dX8_mostCaughtFrom_51 : decode cX8_mostCaughtFrom 51 = .ok (.iload_n 2, 1) := by decide +kernel
theorem dX8_mostCaughtFrom_52 : decode cX8_mostCaughtFrom 52 = .ok (.iload 7, 2) := by decide +kernel
theorem dX8_mostCaughtFrom_54 : decode cX8_mostCaughtFrom 54 = .ok (.invokestatic 538, 3) := by decide +kernel
theorem dX8_mostCaughtFrom_57 : decode cX8_mostCaughtFrom 57 = .ok (.iadd, 1) := by decide +kernel
theorem dX8_mostCaughtFrom_58 : decode cX8_mostCaughtFrom 58 = .ok (.invokestatic 541, 3) := by decide +kernel
theorem dX8_mostCaughtFrom_61 : decode cX8_mostCaughtFrom 61 = .ok (.istore 5, 2) := by decide +kernel
theorem dX8_mostCaughtFrom_63 : decode cX8_mostCaughtFrom 63 = .ok (.iinc 7 1, 3) := by decide +kernel
theorem dX8_mostCaughtFrom_66 : decode cX8_mostCaughtFrom 66 = .ok (.goto (-31), 3) := by decide +kernel
theorem dX8_mostCaughtFrom_69 : decode cX8_mostCaughtFrom 69 = .ok (.iload 5, 2) := by decide +kernel
theorem dX8_mostCaughtFrom_71 : decode cX8_mostCaughtFrom 71 = .ok (.ireturn, 1) := by decide +kernel
theorem dX8_catchOf_0 : decode cX8_catchOf 0 = .ok (.iload_n 0, 1) := by decide +kernel
theorem dX8_catchOf_1 : decode cX8_catchOf 1 = .ok (.iload_n 1, 1) := by decide +kernel
theorem dX8_catchOf_2 : decode cX8_catchOf 2 = .ok (.imul, 1) := by decide +kernel
theorem dX8_catchOf_3 : decode cX8_catchOf 3 = .ok (.bipush 10, 2) := by decide +kernel
theorem dX8_catchOf_5 : decode cX8_catchOf 5 = .ok (.idiv, 1) := by decide +kernel
theorem dX8_catchOf_6 : decode cX8_catchOf 6 = .ok (.ireturn, 1) := by decide +kernel
theorem dX8_leastSum_0 : decode cX8_leastSum 0 = .ok (.aload_n 0, 1) := by decide +kernel
theorem dX8_leastSum_1 : decode cX8_leastSum 1 = .ok (.getfield 40, 3) := by decide +kernel
theorem dX8_leastSum_4 : decode cX8_leastSum 4 = .ok (.iconst 0, 1) := by decide +kernel
theorem dX8_leastSum_5 : decode cX8_leastSum 5 = .ok (.aaload, 1) := by decide +kernel
theorem dX8_leastSum_6 : decode cX8_leastSum 6 = .ok (.astore_n 2, 1) := by decide +kernel
theorem dX8_leastSum_7 : decode cX8_leastSum 7 = .ok (.iconst 0, 1) := by decide +kernel
theorem dX8_leastSum_8 : decode cX8_leastSum 8 = .ok (.istore_n 3, 1) := by decide +kernel
theorem dX8_leastSum_9 : decode cX8_leastSum 9 = .ok (.iload_n 3, 1) := by decide +kernel
theorem dX8_leastSum_10 : decode cX8_leastSum 10 = .ok (.aload_n 2, 1) := by decide +kernel
theorem dX8_leastSum_11 : decode cX8_leastSum 11 = .ok (.arraylength, 1) := by decide +kernel
theorem dX8_leastSum_12 : decode cX8_leastSum 12 = .ok (.if_icmp .ge 18, 3) := by decide +kernel
theorem dX8_leastSum_15 : decode cX8_leastSum 15 = .ok (.aload_n 2, 1) := by decide +kernel
theorem dX8_leastSum_16 : decode cX8_leastSum 16 = .ok (.iload_n 3, 1) := by decide +kernel
theorem dX8_leastSum_17 : decode cX8_leastSum 17 = .ok (.iaload, 1) := by decide +kernel
theorem dX8_leastSum_18 : decode cX8_leastSum 18 = .ok (.iload_n 1, 1) := by decide +kernel
theorem dX8_leastSum_19 : decode cX8_leastSum 19 = .ok (.if_icmp .lt 5, 3) := by decide +kernel
theorem dX8_leastSum_22 : decode cX8_leastSum 22 = .ok (.iload_n 3, 1) := by decide +kernel
theorem dX8_leastSum_23 : decode cX8_leastSum 23 = .ok (.ireturn, 1) := by decide +kernel
theorem dX8_leastSum_24 : decode cX8_leastSum 24 = .ok (.iinc 3 1, 3) := by decide +kernel
theorem dX8_leastSum_27 : decode cX8_leastSum 27 = .ok (.goto (-18), 3) := by decide +kernel
theorem dX8_leastSum_30 : decode cX8_leastSum 30 = .ok (.iconst (-1), 1) := by decide +kernel
theorem dX8_leastSum_31 : decode cX8_leastSum 31 = .ok (.ireturn, 1) := by decide +kernel
set_option maxRecDepth 100000 in
theorem ggX8_plannedOdds_Jx4a65c_get_915e3 : GoodIn wsX8_plannedOdds wsJx4a65c_get_915e3 := wk_g rfl wm_X8_plannedOdds 2177 wc_Jx4a65c_get_915e3 rfl (by decide +kernel) (by decide +kernel) wq_Jx4a65c_get_915e3
set_option maxRecDepth 100000 in
theorem gX8_plannedOdds_Jx4a65c_get_915e3 : GoodIn wsX8_plannedOdds (wsV RX8 238 RJx4a65c yJx4a65c_get_915e3 wsJx4a65c_get_915e3) := goodIn_app (wk_h rfl wm_X8_plannedOdds [2174, 2175, 2176, 2004] (by decide +kernel) (by decide +kernel) (by decide +kernel)) ggX8_plannedOdds_Jx4a65c_get_915e3
set_option maxRecDepth 100000 in
theorem ggX8_plannedOdds_X8_hiddenWorth : GoodIn wsX8_plannedOdds wsX8_hiddenWorth := wk_g rfl wm_X8_plannedOdds 3137 wc_X8_hiddenWorth rfl (by decide +kernel) (by decide +kernel) wq_X8_hiddenWorth
set_option maxRecDepth 100000 in
theorem gX8_plannedOdds_X8_hiddenWorth : GoodIn wsX8_plannedOdds (wsV RX8 303 RX8 yX8_hiddenWorth wsX8_hiddenWorth) := goodIn_app (wk_h rfl wm_X8_plannedOdds [3134, 3136, 1014, 2001] (by decide +kernel) (by decide +kernel) (by decide +kernel)) ggX8_plannedOdds_X8_hiddenWorth
set_option maxRecDepth 100000 in
theorem ggX8_plannedOdds_X8_leastOdds : GoodIn wsX8_plannedOdds wsX8_leastOdds := wk_g rfl wm_X8_plannedOdds 4040 wc_X8_leastOdds rfl (by decide +kernel) (by decide +kernel) wq_X8_leastOdds
set_option maxRecDepth 100000 in
theorem gX8_plannedOdds_X8_leastOdds : GoodIn wsX8_plannedOdds (wsV RX8 544 RX8 yX8_leastOdds wsX8_leastOdds) := goodIn_app (wk_h rfl wm_X8_plannedOdds [4037, 4039, 1029, 2001] (by decide +kernel) (by decide +kernel) (by decide +kernel)) ggX8_plannedOdds_X8_leastOdds
set_option maxRecDepth 100000 in
theorem ggX8_plannedOdds_X8_catchOf : GoodIn wsX8_plannedOdds wsX8_catchOf := wk_g rfl wm_X8_plannedOdds 4025 wc_X8_catchOf rfl (by decide +kernel) (by decide +kernel) wq_X8_catchOf
set_option maxRecDepth 100000 in
theorem gX8_plannedOdds_X8_catchOf : GoodIn wsX8_plannedOdds (va_wsS RX8 538 yX8_catchOf wsX8_catchOf) := goodIn_app (wk_h rfl wm_X8_plannedOdds [4023, 4024, 2001] (by decide +kernel) (by decide +kernel) (by decide +kernel)) ggX8_plannedOdds_X8_catchOf
theorem dX8_plannedOdds_0 : decode cX8_plannedOdds 0 = .ok (.iload_n 1, 1) := by decide +kernel
theorem dX8_plannedOdds_1 : decode cX8_plannedOdds 1 = .ok (.istore 4, 2) := by decide +kernel
theorem dX8_plannedOdds_3 : decode cX8_plannedOdds 3 = .ok (.iload_n 2, 1) := by decide +kernel
theorem dX8_plannedOdds_4 : decode cX8_plannedOdds 4 = .ok (.istore 5, 2) := by decide +kernel
theorem dX8_plannedOdds_6 : decode cX8_plannedOdds 6 = .ok (.iconst 0, 1) := by decide +kernel
theorem dX8_plannedOdds_7 : decode cX8_plannedOdds 7 = .ok (.istore 6, 2) := by decide +kernel
theorem dX8_plannedOdds_9 : decode cX8_plannedOdds 9 = .ok (.iconst 0, 1) := by decide +kernel
theorem dX8_plannedOdds_10 : decode cX8_plannedOdds 10 = .ok (.istore 7, 2) := by decide +kernel
theorem dX8_plannedOdds_12 : decode cX8_plannedOdds 12 = .ok (.iload 7, 2) := by decide +kernel
theorem dX8_plannedOdds_14 : decode cX8_plannedOdds 14 = .ok (.iload_n 3, 1) := by decide +kernel
theorem dX8_plannedOdds_15 : decode cX8_plannedOdds 15 = .ok (.if_icmp .gt 60, 3) := by decide +kernel
theorem dX8_plannedOdds_18 : decode cX8_plannedOdds 18 = .ok (.aload_n 0, 1) := by decide +kernel
theorem dX8_plannedOdds_19 : decode cX8_plannedOdds 19 = .ok (.aload_n 0, 1) := by decide +kernel
theorem dX8_plannedOdds_20 : decode cX8_plannedOdds 20 = .ok (.getfield 18, 3) := by decide +kernel
theorem dX8_plannedOdds_23 : decode cX8_plannedOdds 23 = .ok (.iload 7, 2) := by decide +kernel
theorem dX8_plannedOdds_25 : decode cX8_plannedOdds 25 = .ok (.invokevirtual 238, 3) := by decide +kernel
theorem dX8_plannedOdds_28 : decode cX8_plannedOdds 28 = .ok (.checkcast 88, 3) := by decide +kernel
theorem dX8_plannedOdds_31 : decode cX8_plannedOdds 31 = .ok (.invokevirtual 303, 3) := by decide +kernel
theorem dX8_plannedOdds_34 : decode cX8_plannedOdds 34 = .ok (.istore 8, 2) := by decide +kernel
theorem dX8_plannedOdds_36 : decode cX8_plannedOdds 36 = .ok (.aload_n 0, 1) := by decide +kernel
theorem dX8_plannedOdds_37 : decode cX8_plannedOdds 37 = .ok (.iload 7, 2) := by decide +kernel
theorem dX8_plannedOdds_39 : decode cX8_plannedOdds 39 = .ok (.iload 8, 2) := by decide +kernel
theorem dX8_plannedOdds_41 : decode cX8_plannedOdds 41 = .ok (.iload 4, 2) := by decide +kernel
theorem dX8_plannedOdds_43 : decode cX8_plannedOdds 43 = .ok (.iload 5, 2) := by decide +kernel
theorem dX8_plannedOdds_45 : decode cX8_plannedOdds 45 = .ok (.invokevirtual 544, 3) := by decide +kernel
theorem dX8_plannedOdds_48 : decode cX8_plannedOdds 48 = .ok (.istore 6, 2) := by decide +kernel
theorem dX8_plannedOdds_50 : decode cX8_plannedOdds 50 = .ok (.iload 4, 2) := by decide +kernel
theorem dX8_plannedOdds_52 : decode cX8_plannedOdds 52 = .ok (.iload 8, 2) := by decide +kernel
theorem dX8_plannedOdds_54 : decode cX8_plannedOdds 54 = .ok (.iload 6, 2) := by decide +kernel
theorem dX8_plannedOdds_56 : decode cX8_plannedOdds 56 = .ok (.invokestatic 538, 3) := by decide +kernel
theorem dX8_plannedOdds_59 : decode cX8_plannedOdds 59 = .ok (.isub, 1) := by decide +kernel
theorem dX8_plannedOdds_60 : decode cX8_plannedOdds 60 = .ok (.istore 4, 2) := by decide +kernel
theorem dX8_plannedOdds_62 : decode cX8_plannedOdds 62 = .ok (.iload 5, 2) := by decide +kernel
theorem dX8_plannedOdds_64 : decode cX8_plannedOdds 64 = .ok (.iload 6, 2) := by decide +kernel
theorem dX8_plannedOdds_66 : decode cX8_plannedOdds 66 = .ok (.isub, 1) := by decide +kernel
theorem dX8_plannedOdds_67 : decode cX8_plannedOdds 67 = .ok (.istore 5, 2) := by decide +kernel
theorem dX8_plannedOdds_69 : decode cX8_plannedOdds 69 = .ok (.iinc 7 1, 3) := by decide +kernel
theorem dX8_plannedOdds_72 : decode cX8_plannedOdds 72 = .ok (.goto (-60), 3) := by decide +kernel
theorem dX8_plannedOdds_75 : decode cX8_plannedOdds 75 = .ok (.iload 6, 2) := by decide +kernel
theorem dX8_plannedOdds_77 : decode cX8_plannedOdds 77 = .ok (.ireturn, 1) := by decide +kernel
set_option maxRecDepth 100000 in
theorem ggX8_leastOdds_X8_catchOf : GoodIn wsX8_leastOdds wsX8_catchOf := wk_g rfl wm_X8_leastOdds 4025 wc_X8_catchOf rfl (by decide +kernel) (by decide +kernel) wq_X8_catchOf
set_option maxRecDepth 100000 in
theorem gX8_leastOdds_X8_catchOf : GoodIn wsX8_leastOdds (va_wsS RX8 538 yX8_catchOf wsX8_catchOf) := goodIn_app (wk_h rfl wm_X8_leastOdds [4023, 4024, 2001] (by decide +kernel) (by decide +kernel) (by decide +kernel)) ggX8_leastOdds_X8_catchOf
theorem dX8_leastOdds_0 : decode cX8_leastOdds 0 = .ok (.iload 4, 2) := by decide +kernel
theorem dX8_leastOdds_2 : decode cX8_leastOdds 2 = .ok (.bipush 10, 2) := by decide +kernel
theorem dX8_leastOdds_4 : decode cX8_leastOdds 4 = .ok (.invokestatic 535, 3) := by decide +kernel
theorem dX8_leastOdds_7 : decode cX8_leastOdds 7 = .ok (.istore 5, 2) := by decide +kernel
theorem dX8_leastOdds_9 : decode cX8_leastOdds 9 = .ok (.iconst 0, 1) := by decide +kernel
theorem dX8_leastOdds_10 : decode cX8_leastOdds 10 = .ok (.istore 6, 2) := by decide +kernel
theorem dX8_leastOdds_12 : decode cX8_leastOdds 12 = .ok (.iload 6, 2) := by decide +kernel
theorem dX8_leastOdds_14 : decode cX8_leastOdds 14 = .ok (.iload 5, 2) := by decide +kernel
theorem dX8_leastOdds_16 : decode cX8_leastOdds 16 = .ok (.if_icmp .ge 37, 3) := by decide +kernel
theorem dX8_leastOdds_19 : decode cX8_leastOdds 19 = .ok (.iload_n 2, 1) := by decide +kernel
theorem dX8_leastOdds_20 : decode cX8_leastOdds 20 = .ok (.iload 6, 2) := by decide +kernel
theorem dX8_leastOdds_22 : decode cX8_leastOdds 22 = .ok (.invokestatic 538, 3) := by decide +kernel
theorem dX8_leastOdds_25 : decode cX8_leastOdds 25 = .ok (.aload_n 0, 1) := by decide +kernel
theorem dX8_leastOdds_26 : decode cX8_leastOdds 26 = .ok (.getfield 40, 3) := by decide +kernel
theorem dX8_leastOdds_29 : decode cX8_leastOdds 29 = .ok (.iload_n 1, 1) := by decide +kernel
theorem dX8_leastOdds_30 : decode cX8_leastOdds 30 = .ok (.iconst 1, 1) := by decide +kernel
theorem dX8_leastOdds_31 : decode cX8_leastOdds 31 = .ok (.iadd, 1) := by decide +kernel
theorem dX8_leastOdds_32 : decode cX8_leastOdds 32 = .ok (.aaload, 1) := by decide +kernel
theorem dX8_leastOdds_33 : decode cX8_leastOdds 33 = .ok (.iload 4, 2) := by decide +kernel
theorem dX8_leastOdds_35 : decode cX8_leastOdds 35 = .ok (.iload 6, 2) := by decide +kernel
theorem dX8_leastOdds_37 : decode cX8_leastOdds 37 = .ok (.isub, 1) := by decide +kernel
theorem dX8_leastOdds_38 : decode cX8_leastOdds 38 = .ok (.iaload, 1) := by decide +kernel
theorem dX8_leastOdds_39 : decode cX8_leastOdds 39 = .ok (.iadd, 1) := by decide +kernel
theorem dX8_leastOdds_40 : decode cX8_leastOdds 40 = .ok (.iload_n 3, 1) := by decide +kernel
theorem dX8_leastOdds_41 : decode cX8_leastOdds 41 = .ok (.if_icmp .lt 6, 3) := by decide +kernel
theorem dX8_leastOdds_44 : decode cX8_leastOdds 44 = .ok (.iload 6, 2) := by decide +kernel
theorem dX8_leastOdds_46 : decode cX8_leastOdds 46 = .ok (.ireturn, 1) := by decide +kernel
theorem dX8_leastOdds_47 : decode cX8_leastOdds 47 = .ok (.iinc 6 1, 3) := by decide +kernel
theorem dX8_leastOdds_50 : decode cX8_leastOdds 50 = .ok (.goto (-38), 3) := by decide +kernel
theorem dX8_leastOdds_53 : decode cX8_leastOdds 53 = .ok (.iload 5, 2) := by decide +kernel
theorem dX8_leastOdds_55 : decode cX8_leastOdds 55 = .ok (.ireturn, 1) := by decide +kernel
