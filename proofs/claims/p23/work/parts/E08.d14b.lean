theorem dX14_begin_281 : decode cX14_begin 281 = .ok (.invokevirtual 47, 3) := by decide +kernel
theorem dX14_begin_284 : decode cX14_begin 284 = .ok (.if_icmp .ge 81, 3) := by decide +kernel
theorem dX14_begin_287 : decode cX14_begin 287 = .ok (.aload_n 0, 1) := by decide +kernel
theorem dX14_begin_288 : decode cX14_begin 288 = .ok (.getfield 22, 3) := by decide +kernel
theorem dX14_begin_291 : decode cX14_begin 291 = .ok (.iload_n 1, 1) := by decide +kernel
theorem dX14_begin_292 : decode cX14_begin 292 = .ok (.invokevirtual 90, 3) := by decide +kernel
theorem dX14_begin_295 : decode cX14_begin 295 = .ok (.checkcast 68, 3) := by decide +kernel
theorem dX14_begin_298 : decode cX14_begin 298 = .ok (.astore_n 2, 1) := by decide +kernel
theorem dX14_begin_299 : decode cX14_begin 299 = .ok (.iconst 0, 1) := by decide +kernel
theorem dX14_begin_300 : decode cX14_begin 300 = .ok (.istore_n 3, 1) := by decide +kernel
theorem dX14_begin_301 : decode cX14_begin 301 = .ok (.iload_n 3, 1) := by decide +kernel
theorem dX14_begin_302 : decode cX14_begin 302 = .ok (.bipush 97, 2) := by decide +kernel
theorem dX14_begin_304 : decode cX14_begin 304 = .ok (.if_icmp .ge 30, 3) := by decide +kernel
theorem dX14_begin_307 : decode cX14_begin 307 = .ok (.aload_n 0, 1) := by decide +kernel
theorem dX14_begin_308 : decode cX14_begin 308 = .ok (.getfield 35, 3) := by decide +kernel
theorem dX14_begin_311 : decode cX14_begin 311 = .ok (.iload_n 1, 1) := by decide +kernel
theorem dX14_begin_312 : decode cX14_begin 312 = .ok (.bipush 97, 2) := by decide +kernel
theorem dX14_begin_314 : decode cX14_begin 314 = .ok (.imul, 1) := by decide +kernel
theorem dX14_begin_315 : decode cX14_begin 315 = .ok (.iload_n 3, 1) := by decide +kernel
theorem dX14_begin_316 : decode cX14_begin 316 = .ok (.iadd, 1) := by decide +kernel
theorem dX14_begin_317 : decode cX14_begin 317 = .ok (.baload, 1) := by decide +kernel
theorem dX14_begin_318 : decode cX14_begin 318 = .ok (.ifCond .eq 10, 3) := by decide +kernel
theorem dX14_begin_321 : decode cX14_begin 321 = .ok (.aload_n 2, 1) := by decide +kernel
theorem dX14_begin_322 : decode cX14_begin 322 = .ok (.getfield 153, 3) := by decide +kernel
theorem dX14_begin_325 : decode cX14_begin 325 = .ok (.iload_n 3, 1) := by decide +kernel
theorem dX14_begin_326 : decode cX14_begin 326 = .ok (.iconst 1, 1) := by decide +kernel
theorem dX14_begin_327 : decode cX14_begin 327 = .ok (.bastore, 1) := by decide +kernel
theorem dX14_begin_328 : decode cX14_begin 328 = .ok (.iinc 3 1, 3) := by decide +kernel
theorem dX14_begin_331 : decode cX14_begin 331 = .ok (.goto (-30), 3) := by decide +kernel
theorem dX14_begin_334 : decode cX14_begin 334 = .ok (.aload_n 2, 1) := by decide +kernel
theorem dX14_begin_335 : decode cX14_begin 335 = .ok (.aload_n 2, 1) := by decide +kernel
theorem dX14_begin_336 : decode cX14_begin 336 = .ok (.aload_n 0, 1) := by decide +kernel
theorem dX14_begin_337 : decode cX14_begin 337 = .ok (.getfield 241, 3) := by decide +kernel
theorem dX14_begin_340 : decode cX14_begin 340 = .ok (.invokevirtual 244, 3) := by decide +kernel
theorem dX14_begin_343 : decode cX14_begin 343 = .ok (.ifCond .eq 12, 3) := by decide +kernel
theorem dX14_begin_346 : decode cX14_begin 346 = .ok (.aload_n 2, 1) := by decide +kernel
theorem dX14_begin_347 : decode cX14_begin 347 = .ok (.getfield 97, 3) := by decide +kernel
theorem dX14_begin_350 : decode cX14_begin 350 = .ok (.iconst 1, 1) := by decide +kernel
theorem dX14_begin_351 : decode cX14_begin 351 = .ok (.iadd, 1) := by decide +kernel
theorem dX14_begin_352 : decode cX14_begin 352 = .ok (.goto 4, 3) := by decide +kernel
theorem dX14_begin_355 : decode cX14_begin 355 = .ok (.iconst 0, 1) := by decide +kernel
theorem dX14_begin_356 : decode cX14_begin 356 = .ok (.putfield 97, 3) := by decide +kernel
theorem dX14_begin_359 : decode cX14_begin 359 = .ok (.iinc 1 1, 3) := by decide +kernel
theorem dX14_begin_362 : decode cX14_begin 362 = .ok (.goto (-86), 3) := by decide +kernel
theorem dX14_begin_365 : decode cX14_begin 365 = .ok (.return_, 1) := by decide +kernel
set_option maxRecDepth 100000 in
theorem ggX14_landOf_Jx4a65c_get_915e3 : GoodIn wsX14_landOf wsJx4a65c_get_915e3 := wk_g rfl wm_X14_landOf 2177 wc_Jx4a65c_get_915e3 rfl (by decide +kernel) (by decide +kernel) wq_Jx4a65c_get_915e3
set_option maxRecDepth 100000 in
theorem gX14_landOf_Jx4a65c_get_915e3 : GoodIn wsX14_landOf (wsV RX14 90 RJx4a65c yJx4a65c_get_915e3 wsJx4a65c_get_915e3) := goodIn_app (wk_h rfl wm_X14_landOf [8019, 2175, 2176, 2004] (by decide +kernel) (by decide +kernel) (by decide +kernel)) ggX14_landOf_Jx4a65c_get_915e3
theorem dX14_landOf_0 : decode cX14_landOf 0 = .ok (.aload_n 1, 1) := by decide +kernel
theorem dX14_landOf_1 : decode cX14_landOf 1 = .ok (.getfield 131, 3) := by decide +kernel
theorem dX14_landOf_4 : decode cX14_landOf 4 = .ok (.sipush 999, 3) := by decide +kernel
theorem dX14_landOf_7 : decode cX14_landOf 7 = .ok (.if_icmp .ne 7, 3) := by decide +kernel
theorem dX14_landOf_10 : decode cX14_landOf 10 = .ok (.iconst (-1), 1) := by decide +kernel
theorem dX14_landOf_11 : decode cX14_landOf 11 = .ok (.goto 39, 3) := by decide +kernel
theorem dX14_landOf_14 : decode cX14_landOf 14 = .ok (.aload_n 1, 1) := by decide +kernel
theorem dX14_landOf_15 : decode cX14_landOf 15 = .ok (.getfield 131, 3) := by decide +kernel
theorem dX14_landOf_18 : decode cX14_landOf 18 = .ok (.bipush 100, 2) := by decide +kernel
theorem dX14_landOf_20 : decode cX14_landOf 20 = .ok (.if_icmp .lt 13, 3) := by decide +kernel
theorem dX14_landOf_23 : decode cX14_landOf 23 = .ok (.aload_n 1, 1) := by decide +kernel
theorem dX14_landOf_24 : decode cX14_landOf 24 = .ok (.getfield 131, 3) := by decide +kernel
theorem dX14_landOf_27 : decode cX14_landOf 27 = .ok (.bipush 100, 2) := by decide +kernel
theorem dX14_landOf_29 : decode cX14_landOf 29 = .ok (.isub, 1) := by decide +kernel
theorem dX14_landOf_30 : decode cX14_landOf 30 = .ok (.goto 20, 3) := by decide +kernel
theorem dX14_landOf_33 : decode cX14_landOf 33 = .ok (.aload_n 0, 1) := by decide +kernel
theorem dX14_landOf_34 : decode cX14_landOf 34 = .ok (.getfield 26, 3) := by decide +kernel
theorem dX14_landOf_37 : decode cX14_landOf 37 = .ok (.aload_n 1, 1) := by decide +kernel
theorem dX14_landOf_38 : decode cX14_landOf 38 = .ok (.getfield 131, 3) := by decide +kernel
theorem dX14_landOf_41 : decode cX14_landOf 41 = .ok (.invokevirtual 90, 3) := by decide +kernel
theorem dX14_landOf_44 : decode cX14_landOf 44 = .ok (.checkcast 100, 3) := by decide +kernel
theorem dX14_landOf_47 : decode cX14_landOf 47 = .ok (.getfield 103, 3) := by decide +kernel
theorem dX14_landOf_50 : decode cX14_landOf 50 = .ok (.ireturn, 1) := by decide +kernel
set_option maxRecDepth 100000 in
theorem ggX14_wholes_Jx4a65c_size_8abf5 : GoodIn wsX14_wholes wsJx4a65c_size_8abf5 := wk_g rfl wm_X14_wholes 2173 wc_Jx4a65c_size_8abf5 rfl (by decide +kernel) (by decide +kernel) wq_Jx4a65c_size_8abf5
set_option maxRecDepth 100000 in
theorem gX14_wholes_Jx4a65c_size_8abf5 : GoodIn wsX14_wholes (wsV RX14 47 RJx4a65c yJx4a65c_size_8abf5 wsJx4a65c_size_8abf5) := goodIn_app (wk_h rfl wm_X14_wholes [7208, 2171, 2172, 2004] (by decide +kernel) (by decide +kernel) (by decide +kernel)) ggX14_wholes_Jx4a65c_size_8abf5
set_option maxRecDepth 100000 in
theorem ggX14_wholes_Jx4a65c_get_915e3 : GoodIn wsX14_wholes wsJx4a65c_get_915e3 := wk_g rfl wm_X14_wholes 2177 wc_Jx4a65c_get_915e3 rfl (by decide +kernel) (by decide +kernel) wq_Jx4a65c_get_915e3
set_option maxRecDepth 100000 in
theorem gX14_wholes_Jx4a65c_get_915e3 : GoodIn wsX14_wholes (wsV RX14 90 RJx4a65c yJx4a65c_get_915e3 wsJx4a65c_get_915e3) := goodIn_app (wk_h rfl wm_X14_wholes [8019, 2175, 2176, 2004] (by decide +kernel) (by decide +kernel) (by decide +kernel)) ggX14_wholes_Jx4a65c_get_915e3
set_option maxRecDepth 100000 in
theorem ggX14_wholes_X14_landOf : GoodIn wsX14_wholes wsX14_landOf := wk_g rfl wm_X14_wholes 9050 wc_X14_landOf rfl (by decide +kernel) (by decide +kernel) wq_X14_landOf
set_option maxRecDepth 100000 in
theorem gX14_wholes_X14_landOf : GoodIn wsX14_wholes (wsV RX14 276 RX14 yX14_landOf wsX14_landOf) := goodIn_app (wk_h rfl wm_X14_wholes [9047, 9049, 1060, 2007] (by decide +kernel) (by decide +kernel) (by decide +kernel)) ggX14_wholes_X14_landOf
theorem dX14_wholes_0 : decode cX14_wholes 0 = .ok (.iconst 0, 1) := by decide +kernel
theorem dX14_wholes_1 : decode cX14_wholes 1 = .ok (.istore_n 2, 1) := by decide +kernel
theorem dX14_wholes_2 : decode cX14_wholes 2 = .ok (.iconst 0, 1) := by decide +kernel
theorem dX14_wholes_3 : decode cX14_wholes 3 = .ok (.istore_n 3, 1) := by decide +kernel
theorem dX14_wholes_4 : decode cX14_wholes 4 = .ok (.iload_n 3, 1) := by decide +kernel
theorem dX14_wholes_5 : decode cX14_wholes 5 = .ok (.bipush 8, 2) := by decide +kernel
theorem dX14_wholes_7 : decode cX14_wholes 7 = .ok (.if_icmp .ge 111, 3) := by decide +kernel
theorem dX14_wholes_10 : decode cX14_wholes 10 = .ok (.iconst 0, 1) := by decide +kernel
theorem dX14_wholes_11 : decode cX14_wholes 11 = .ok (.istore 4, 2) := by decide +kernel
theorem dX14_wholes_13 : decode cX14_wholes 13 = .ok (.iconst 1, 1) := by decide +kernel
theorem dX14_wholes_14 : decode cX14_wholes 14 = .ok (.istore 5, 2) := by decide +kernel
theorem dX14_wholes_16 : decode cX14_wholes 16 = .ok (.iconst 0, 1) := by decide +kernel
theorem dX14_wholes_17 : decode cX14_wholes 17 = .ok (.istore 6, 2) := by decide +kernel
theorem dX14_wholes_19 : decode cX14_wholes 19 = .ok (.iload 6, 2) := by decide +kernel
theorem dX14_wholes_21 : decode cX14_wholes 21 = .ok (.aload_n 0, 1) := by decide +kernel
theorem dX14_wholes_22 : decode cX14_wholes 22 = .ok (.getfield 29, 3) := by decide +kernel
theorem dX14_wholes_25 : decode cX14_wholes 25 = .ok (.invokevirtual 47, 3) := by decide +kernel
theorem dX14_wholes_28 : decode cX14_wholes 28 = .ok (.if_icmp .ge 64, 3) := by decide +kernel
theorem dX14_wholes_31 : decode cX14_wholes 31 = .ok (.aload_n 0, 1) := by decide +kernel
theorem dX14_wholes_32 : decode cX14_wholes 32 = .ok (.getfield 29, 3) := by decide +kernel
theorem dX14_wholes_35 : decode cX14_wholes 35 = .ok (.iload 6, 2) := by decide +kernel
theorem dX14_wholes_37 : decode cX14_wholes 37 = .ok (.invokevirtual 90, 3) := by decide +kernel
theorem dX14_wholes_40 : decode cX14_wholes 40 = .ok (.checkcast 119, 3) := by decide +kernel
theorem dX14_wholes_43 : decode cX14_wholes 43 = .ok (.getfield 122, 3) := by decide +kernel
theorem dX14_wholes_46 : decode cX14_wholes 46 = .ok (.iload_n 3, 1) := by decide +kernel
theorem dX14_wholes_47 : decode cX14_wholes 47 = .ok (.if_icmp .eq 6, 3) := by decide +kernel
theorem dX14_wholes_50 : decode cX14_wholes 50 = .ok (.goto 36, 3) := by decide +kernel
theorem dX14_wholes_53 : decode cX14_wholes 53 = .ok (.iinc 4 1, 3) := by decide +kernel
theorem dX14_wholes_56 : decode cX14_wholes 56 = .ok (.iload 5, 2) := by decide +kernel
theorem dX14_wholes_58 : decode cX14_wholes 58 = .ok (.aload_n 0, 1) := by decide +kernel
theorem dX14_wholes_59 : decode cX14_wholes 59 = .ok (.aload_n 0, 1) := by decide +kernel
theorem dX14_wholes_60 : decode cX14_wholes 60 = .ok (.getfield 29, 3) := by decide +kernel
theorem dX14_wholes_63 : decode cX14_wholes 63 = .ok (.iload 6, 2) := by decide +kernel
theorem dX14_wholes_65 : decode cX14_wholes 65 = .ok (.invokevirtual 90, 3) := by decide +kernel
theorem dX14_wholes_68 : decode cX14_wholes 68 = .ok (.checkcast 119, 3) := by decide +kernel
theorem dX14_wholes_71 : decode cX14_wholes 71 = .ok (.invokevirtual 276, 3) := by decide +kernel
theorem dX14_wholes_74 : decode cX14_wholes 74 = .ok (.iload_n 1, 1) := by decide +kernel
theorem dX14_wholes_75 : decode cX14_wholes 75 = .ok (.if_icmp .ne 7, 3) := by decide +kernel
theorem dX14_wholes_78 : decode cX14_wholes 78 = .ok (.iconst 1, 1) := by decide +kernel
theorem dX14_wholes_79 : decode cX14_wholes 79 = .ok (.goto 4, 3) := by decide +kernel
theorem dX14_wholes_82 : decode cX14_wholes 82 = .ok (.iconst 0, 1) := by decide +kernel
theorem dX14_wholes_83 : decode cX14_wholes 83 = .ok (.iand, 1) := by decide +kernel
theorem dX14_wholes_84 : decode cX14_wholes 84 = .ok (.istore 5, 2) := by decide +kernel
theorem dX14_wholes_86 : decode cX14_wholes 86 = .ok (.iinc 6 1, 3) := by decide +kernel
theorem dX14_wholes_89 : decode cX14_wholes 89 = .ok (.goto (-70), 3) := by decide +kernel
theorem dX14_wholes_92 : decode cX14_wholes 92 = .ok (.iload_n 2, 1) := by decide +kernel
theorem dX14_wholes_93 : decode cX14_wholes 93 = .ok (.iload 5, 2) := by decide +kernel
theorem dX14_wholes_95 : decode cX14_wholes 95 = .ok (.ifCond .eq 14, 3) := by decide +kernel
theorem dX14_wholes_98 : decode cX14_wholes 98 = .ok (.iload 4, 2) := by decide +kernel
theorem dX14_wholes_100 : decode cX14_wholes 100 = .ok (.ifCond .le 9, 3) := by decide +kernel
theorem dX14_wholes_103 : decode cX14_wholes 103 = .ok (.iconst 1, 1) := by decide +kernel
theorem dX14_wholes_104 : decode cX14_wholes 104 = .ok (.iload_n 3, 1) := by decide +kernel
theorem dX14_wholes_105 : decode cX14_wholes 105 = .ok (.ishl, 1) := by decide +kernel
theorem dX14_wholes_106 : decode cX14_wholes 106 = .ok (.goto 4, 3) := by decide +kernel
theorem dX14_wholes_109 : decode cX14_wholes 109 = .ok (.iconst 0, 1) := by decide +kernel
theorem dX14_wholes_110 : decode cX14_wholes 110 = .ok (.ior, 1) := by decide +kernel
theorem dX14_wholes_111 : decode cX14_wholes 111 = .ok (.istore_n 2, 1) := by decide +kernel
theorem dX14_wholes_112 : decode cX14_wholes 112 = .ok (.iinc 3 1, 3) := by decide +kernel
theorem dX14_wholes_115 : decode cX14_wholes 115 = .ok (.goto (-111), 3) := by decide +kernel
theorem dX14_wholes_118 : decode cX14_wholes 118 = .ok (.iload_n 2, 1) := by decide +kernel
theorem dX14_wholes_119 : decode cX14_wholes 119 = .ok (.ireturn, 1) := by decide +kernel
set_option maxRecDepth 100000 in
theorem ggX14_ofLandNow_Jx4a65c_size_8abf5 : GoodIn wsX14_ofLandNow wsJx4a65c_size_8abf5 := wk_g rfl wm_X14_ofLandNow 2173 wc_Jx4a65c_size_8abf5 rfl (by decide +kernel) (by decide +kernel) wq_Jx4a65c_size_8abf5
set_option maxRecDepth 100000 in
theorem gX14_ofLandNow_Jx4a65c_size_8abf5 : GoodIn wsX14_ofLandNow (wsV RX14 47 RJx4a65c yJx4a65c_size_8abf5 wsJx4a65c_size_8abf5) := goodIn_app (wk_h rfl wm_X14_ofLandNow [7208, 2171, 2172, 2004] (by decide +kernel) (by decide +kernel) (by decide +kernel)) ggX14_ofLandNow_Jx4a65c_size_8abf5
set_option maxRecDepth 100000 in
theorem ggX14_ofLandNow_Jx4a65c_get_915e3 : GoodIn wsX14_ofLandNow wsJx4a65c_get_915e3 := wk_g rfl wm_X14_ofLandNow 2177 wc_Jx4a65c_get_915e3 rfl (by decide +kernel) (by decide +kernel) wq_Jx4a65c_get_915e3
set_option maxRecDepth 100000 in
theorem gX14_ofLandNow_Jx4a65c_get_915e3 : GoodIn wsX14_ofLandNow (wsV RX14 90 RJx4a65c yJx4a65c_get_915e3 wsJx4a65c_get_915e3) := goodIn_app (wk_h rfl wm_X14_ofLandNow [8019, 2175, 2176, 2004] (by decide +kernel) (by decide +kernel) (by decide +kernel)) ggX14_ofLandNow_Jx4a65c_get_915e3
set_option maxRecDepth 100000 in
theorem ggX14_ofLandNow_X14_wholes : GoodIn wsX14_ofLandNow wsX14_wholes := wk_g rfl wm_X14_ofLandNow 9046 wc_X14_wholes rfl (by decide +kernel) (by decide +kernel) wq_X14_wholes
set_option maxRecDepth 100000 in
theorem gX14_ofLandNow_X14_wholes : GoodIn wsX14_ofLandNow (wsV RX14 280 RX14 yX14_wholes wsX14_wholes) := goodIn_app (wk_h rfl wm_X14_ofLandNow [9043, 9045, 1059, 2007] (by decide +kernel) (by decide +kernel) (by decide +kernel)) ggX14_ofLandNow_X14_wholes
theorem dX14_ofLandNow_0 : decode cX14_ofLandNow 0 = .ok (.aload_n 0, 1) := by decide +kernel
theorem dX14_ofLandNow_1 : decode cX14_ofLandNow 1 = .ok (.getfield 15, 3) := by decide +kernel
theorem dX14_ofLandNow_4 : decode cX14_ofLandNow 4 = .ok (.iload_n 1, 1) := by decide +kernel
theorem dX14_ofLandNow_5 : decode cX14_ofLandNow 5 = .ok (.aaload, 1) := by decide +kernel
theorem dX14_ofLandNow_6 : decode cX14_ofLandNow 6 = .ok (.astore_n 3, 1) := by decide +kernel
theorem dX14_ofLandNow_7 : decode cX14_ofLandNow 7 = .ok (.iconst 0, 1) := by decide +kernel
theorem dX14_ofLandNow_8 : decode cX14_ofLandNow 8 = .ok (.istore 4, 2) := by decide +kernel
theorem dX14_ofLandNow_10 : decode cX14_ofLandNow 10 = .ok (.iload_n 2, 1) := by decide +kernel
theorem dX14_ofLandNow_11 : decode cX14_ofLandNow 11 = .ok (.tableswitch 203 0 7 #[45, 50, 55, 60, 65, 70, 75, 131], 45) := by decide +kernel
theorem dX14_ofLandNow_56 : decode cX14_ofLandNow 56 = .ok (.aload_n 3, 1) := by decide +kernel
theorem dX14_ofLandNow_57 : decode cX14_ofLandNow 57 = .ok (.getfield 59, 3) := by decide +kernel
theorem dX14_ofLandNow_60 : decode cX14_ofLandNow 60 = .ok (.ireturn, 1) := by decide +kernel
theorem dX14_ofLandNow_61 : decode cX14_ofLandNow 61 = .ok (.aload_n 3, 1) := by decide +kernel
theorem dX14_ofLandNow_62 : decode cX14_ofLandNow 62 = .ok (.getfield 62, 3) := by decide +kernel
theorem dX14_ofLandNow_65 : decode cX14_ofLandNow 65 = .ok (.ireturn, 1) := by decide +kernel
theorem dX14_ofLandNow_66 : decode cX14_ofLandNow 66 = .ok (.aload_n 3, 1) := by decide +kernel
theorem dX14_ofLandNow_67 : decode cX14_ofLandNow 67 = .ok (.getfield 65, 3) := by decide +kernel
theorem dX14_ofLandNow_70 : decode cX14_ofLandNow 70 = .ok (.ireturn, 1) := by decide +kernel
theorem dX14_ofLandNow_71 : decode cX14_ofLandNow 71 = .ok (.aload_n 3, 1) := by decide +kernel
theorem dX14_ofLandNow_72 : decode cX14_ofLandNow 72 = .ok (.getfield 202, 3) := by decide +kernel
theorem dX14_ofLandNow_75 : decode cX14_ofLandNow 75 = .ok (.ireturn, 1) := by decide +kernel
theorem dX14_ofLandNow_76 : decode cX14_ofLandNow 76 = .ok (.aload_n 3, 1) := by decide +kernel
theorem dX14_ofLandNow_77 : decode cX14_ofLandNow 77 = .ok (.getfield 234, 3) := by decide +kernel
theorem dX14_ofLandNow_80 : decode cX14_ofLandNow 80 = .ok (.ireturn, 1) := by decide +kernel
theorem dX14_ofLandNow_81 : decode cX14_ofLandNow 81 = .ok (.aload_n 3, 1) := by decide +kernel
theorem dX14_ofLandNow_82 : decode cX14_ofLandNow 82 = .ok (.getfield 227, 3) := by decide +kernel
theorem dX14_ofLandNow_85 : decode cX14_ofLandNow 85 = .ok (.ireturn, 1) := by decide +kernel
theorem dX14_ofLandNow_86 : decode cX14_ofLandNow 86 = .ok (.iconst 0, 1) := by decide +kernel
theorem dX14_ofLandNow_87 : decode cX14_ofLandNow 87 = .ok (.istore 5, 2) := by decide +kernel
theorem dX14_ofLandNow_89 : decode cX14_ofLandNow 89 = .ok (.iload 5, 2) := by decide +kernel
theorem dX14_ofLandNow_91 : decode cX14_ofLandNow 91 = .ok (.aload_n 0, 1) := by decide +kernel
theorem dX14_ofLandNow_92 : decode cX14_ofLandNow 92 = .ok (.getfield 29, 3) := by decide +kernel
theorem dX14_ofLandNow_95 : decode cX14_ofLandNow 95 = .ok (.invokevirtual 47, 3) := by decide +kernel
theorem dX14_ofLandNow_98 : decode cX14_ofLandNow 98 = .ok (.if_icmp .ge 41, 3) := by decide +kernel
theorem dX14_ofLandNow_101 : decode cX14_ofLandNow 101 = .ok (.iload 4, 2) := by decide +kernel
theorem dX14_ofLandNow_103 : decode cX14_ofLandNow 103 = .ok (.aload_n 0, 1) := by decide +kernel
theorem dX14_ofLandNow_104 : decode cX14_ofLandNow 104 = .ok (.getfield 29, 3) := by decide +kernel
theorem dX14_ofLandNow_107 : decode cX14_ofLandNow 107 = .ok (.iload 5, 2) := by decide +kernel
theorem dX14_ofLandNow_109 : decode cX14_ofLandNow 109 = .ok (.invokevirtual 90, 3) := by decide +kernel
theorem dX14_ofLandNow_112 : decode cX14_ofLandNow 112 = .ok (.checkcast 119, 3) := by decide +kernel
theorem dX14_ofLandNow_115 : decode cX14_ofLandNow 115 = .ok (.getfield 131, 3) := by decide +kernel
theorem dX14_ofLandNow_118 : decode cX14_ofLandNow 118 = .ok (.bipush 100, 2) := by decide +kernel
theorem dX14_ofLandNow_120 : decode cX14_ofLandNow 120 = .ok (.iload_n 1, 1) := by decide +kernel
theorem dX14_ofLandNow_121 : decode cX14_ofLandNow 121 = .ok (.iadd, 1) := by decide +kernel
theorem dX14_ofLandNow_122 : decode cX14_ofLandNow 122 = .ok (.if_icmp .ne 7, 3) := by decide +kernel
theorem dX14_ofLandNow_125 : decode cX14_ofLandNow 125 = .ok (.iconst 1, 1) := by decide +kernel
theorem dX14_ofLandNow_126 : decode cX14_ofLandNow 126 = .ok (.goto 4, 3) := by decide +kernel
theorem dX14_ofLandNow_129 : decode cX14_ofLandNow 129 = .ok (.iconst 0, 1) := by decide +kernel
theorem dX14_ofLandNow_130 : decode cX14_ofLandNow 130 = .ok (.iadd, 1) := by decide +kernel
theorem dX14_ofLandNow_131 : decode cX14_ofLandNow 131 = .ok (.istore 4, 2) := by decide +kernel
theorem dX14_ofLandNow_133 : decode cX14_ofLandNow 133 = .ok (.iinc 5 1, 3) := by decide +kernel
theorem dX14_ofLandNow_136 : decode cX14_ofLandNow 136 = .ok (.goto (-47), 3) := by decide +kernel
theorem dX14_ofLandNow_139 : decode cX14_ofLandNow 139 = .ok (.iload 4, 2) := by decide +kernel
theorem dX14_ofLandNow_141 : decode cX14_ofLandNow 141 = .ok (.ireturn, 1) := by decide +kernel
theorem dX14_ofLandNow_142 : decode cX14_ofLandNow 142 = .ok (.iconst 0, 1) := by decide +kernel
theorem dX14_ofLandNow_143 : decode cX14_ofLandNow 143 = .ok (.istore 5, 2) := by decide +kernel
theorem dX14_ofLandNow_145 : decode cX14_ofLandNow 145 = .ok (.iload 5, 2) := by decide +kernel
theorem dX14_ofLandNow_147 : decode cX14_ofLandNow 147 = .ok (.aload_n 0, 1) := by decide +kernel
theorem dX14_ofLandNow_148 : decode cX14_ofLandNow 148 = .ok (.getfield 26, 3) := by decide +kernel
theorem dX14_ofLandNow_151 : decode cX14_ofLandNow 151 = .ok (.invokevirtual 47, 3) := by decide +kernel
theorem dX14_ofLandNow_154 : decode cX14_ofLandNow 154 = .ok (.if_icmp .ge 57, 3) := by decide +kernel
theorem dX14_ofLandNow_157 : decode cX14_ofLandNow 157 = .ok (.iload 4, 2) := by decide +kernel
theorem dX14_ofLandNow_159 : decode cX14_ofLandNow 159 = .ok (.aload_n 0, 1) := by decide +kernel
theorem dX14_ofLandNow_160 : decode cX14_ofLandNow 160 = .ok (.getfield 26, 3) := by decide +kernel
theorem dX14_ofLandNow_163 : decode cX14_ofLandNow 163 = .ok (.iload 5, 2) := by decide +kernel
theorem dX14_ofLandNow_165 : decode cX14_ofLandNow 165 = .ok (.invokevirtual 90, 3) := by decide +kernel
theorem dX14_ofLandNow_168 : decode cX14_ofLandNow 168 = .ok (.checkcast 100, 3) := by decide +kernel
theorem dX14_ofLandNow_171 : decode cX14_ofLandNow 171 = .ok (.getfield 103, 3) := by decide +kernel
theorem dX14_ofLandNow_174 : decode cX14_ofLandNow 174 = .ok (.iload_n 1, 1) := by decide +kernel
theorem dX14_ofLandNow_175 : decode cX14_ofLandNow 175 = .ok (.if_icmp .ne 26, 3) := by decide +kernel
theorem dX14_ofLandNow_178 : decode cX14_ofLandNow 178 = .ok (.aload_n 0, 1) := by decide +kernel
theorem dX14_ofLandNow_179 : decode cX14_ofLandNow 179 = .ok (.getfield 26, 3) := by decide +kernel
theorem dX14_ofLandNow_182 : decode cX14_ofLandNow 182 = .ok (.iload 5, 2) := by decide +kernel
theorem dX14_ofLandNow_184 : decode cX14_ofLandNow 184 = .ok (.invokevirtual 90, 3) := by decide +kernel
theorem dX14_ofLandNow_187 : decode cX14_ofLandNow 187 = .ok (.checkcast 100, 3) := by decide +kernel
theorem dX14_ofLandNow_190 : decode cX14_ofLandNow 190 = .ok (.getfield 116, 3) := by decide +kernel
theorem dX14_ofLandNow_193 : decode cX14_ofLandNow 193 = .ok (.iconst 2, 1) := by decide +kernel
theorem dX14_ofLandNow_194 : decode cX14_ofLandNow 194 = .ok (.if_icmp .eq 7, 3) := by decide +kernel
theorem dX14_ofLandNow_197 : decode cX14_ofLandNow 197 = .ok (.iconst 1, 1) := by decide +kernel
theorem dX14_ofLandNow_198 : decode cX14_ofLandNow 198 = .ok (.goto 4, 3) := by decide +kernel
theorem dX14_ofLandNow_201 : decode cX14_ofLandNow 201 = .ok (.iconst 0, 1) := by decide +kernel
theorem dX14_ofLandNow_202 : decode cX14_ofLandNow 202 = .ok (.iadd, 1) := by decide +kernel
theorem dX14_ofLandNow_203 : decode cX14_ofLandNow 203 = .ok (.istore 4, 2) := by decide +kernel
theorem dX14_ofLandNow_205 : decode cX14_ofLandNow 205 = .ok (.iinc 5 1, 3) := by decide +kernel
theorem dX14_ofLandNow_208 : decode cX14_ofLandNow 208 = .ok (.goto (-63), 3) := by decide +kernel
theorem dX14_ofLandNow_211 : decode cX14_ofLandNow 211 = .ok (.iload 4, 2) := by decide +kernel
theorem dX14_ofLandNow_213 : decode cX14_ofLandNow 213 = .ok (.ireturn, 1) := by decide +kernel
theorem dX14_ofLandNow_214 : decode cX14_ofLandNow 214 = .ok (.aload_n 0, 1) := by decide +kernel
theorem dX14_ofLandNow_215 : decode cX14_ofLandNow 215 = .ok (.iload_n 1, 1) := by decide +kernel
theorem dX14_ofLandNow_216 : decode cX14_ofLandNow 216 = .ok (.invokevirtual 280, 3) := by decide +kernel
theorem dX14_ofLandNow_219 : decode cX14_ofLandNow 219 = .ok (.ireturn, 1) := by decide +kernel
set_option maxRecDepth 100000 in
theorem ggX14_ofLand_X14_isLand : GoodIn wsX14_ofLand wsX14_isLand := wk_g rfl wm_X14_ofLand 7192 wc_X14_isLand rfl (by decide +kernel) (by decide +kernel) wq_X14_isLand
set_option maxRecDepth 100000 in
theorem gX14_ofLand_X14_isLand : GoodIn wsX14_ofLand (wsV RX14 51 RX14 yX14_isLand wsX14_isLand) := goodIn_app (wk_h rfl wm_X14_ofLand [7189, 7191, 1045, 2007] (by decide +kernel) (by decide +kernel) (by decide +kernel)) ggX14_ofLand_X14_isLand
set_option maxRecDepth 100000 in
theorem ggX14_ofLand_X14_refuse : GoodIn wsX14_ofLand wsX14_refuse := wk_g rfl wm_X14_ofLand 7199 wc_X14_refuse rfl (by decide +kernel) (by decide +kernel) wq_X14_refuse
set_option maxRecDepth 100000 in
theorem gX14_ofLand_X14_refuse : GoodIn wsX14_ofLand (wsV RX14 55 RX14 yX14_refuse wsX14_refuse) := goodIn_app (wk_h rfl wm_X14_ofLand [7196, 7198, 1046, 2007] (by decide +kernel) (by decide +kernel) (by decide +kernel)) ggX14_ofLand_X14_refuse
set_option maxRecDepth 100000 in
theorem ggX14_ofLand_X14_is : GoodIn wsX14_ofLand wsX14_is := wk_g rfl wm_X14_ofLand 7195 wc_X14_is rfl (by decide +kernel) (by decide +kernel) wq_X14_is
set_option maxRecDepth 100000 in
theorem gX14_ofLand_X14_is : GoodIn wsX14_ofLand (va_wsS RX14 43 yX14_is wsX14_is) := goodIn_app (wk_h rfl wm_X14_ofLand [7193, 7194, 2007] (by decide +kernel) (by decide +kernel) (by decide +kernel)) ggX14_ofLand_X14_is
set_option maxRecDepth 100000 in
theorem ggX14_ofLand_X14_ofLandNow : GoodIn wsX14_ofLand wsX14_ofLandNow := wk_g rfl wm_X14_ofLand 9042 wc_X14_ofLandNow rfl (by decide +kernel) (by decide +kernel) wq_X14_ofLandNow
set_option maxRecDepth 100000 in
theorem gX14_ofLand_X14_ofLandNow : GoodIn wsX14_ofLand (wsV RX14 283 RX14 yX14_ofLandNow wsX14_ofLandNow) := goodIn_app (wk_h rfl wm_X14_ofLand [9039, 9041, 1058, 2007] (by decide +kernel) (by decide +kernel) (by decide +kernel)) ggX14_ofLand_X14_ofLandNow
theorem dX14_ofLand_0 : decode cX14_ofLand 0 = .ok (.aload_n 0, 1) := by decide +kernel
theorem dX14_ofLand_1 : decode cX14_ofLand 1 = .ok (.iconst 0, 1) := by decide +kernel
theorem dX14_ofLand_2 : decode cX14_ofLand 2 = .ok (.putfield 40, 3) := by decide +kernel
theorem dX14_ofLand_5 : decode cX14_ofLand 5 = .ok (.aload_n 0, 1) := by decide +kernel
theorem dX14_ofLand_6 : decode cX14_ofLand 6 = .ok (.iload_n 1, 1) := by decide +kernel
theorem dX14_ofLand_7 : decode cX14_ofLand 7 = .ok (.invokevirtual 51, 3) := by decide +kernel
theorem dX14_ofLand_10 : decode cX14_ofLand 10 = .ok (.ifCond .ne 9, 3) := by decide +kernel
theorem dX14_ofLand_13 : decode cX14_ofLand 13 = .ok (.aload_n 0, 1) := by decide +kernel
theorem dX14_ofLand_14 : decode cX14_ofLand 14 = .ok (.iconst 1, 1) := by decide +kernel
theorem dX14_ofLand_15 : decode cX14_ofLand 15 = .ok (.invokevirtual 55, 3) := by decide +kernel
theorem dX14_ofLand_18 : decode cX14_ofLand 18 = .ok (.ireturn, 1) := by decide +kernel
theorem dX14_ofLand_19 : decode cX14_ofLand 19 = .ok (.iload_n 2, 1) := by decide +kernel
theorem dX14_ofLand_20 : decode cX14_ofLand 20 = .ok (.iconst 0, 1) := by decide +kernel
theorem dX14_ofLand_21 : decode cX14_ofLand 21 = .ok (.bipush 8, 2) := by decide +kernel
theorem dX14_ofLand_23 : decode cX14_ofLand 23 = .ok (.invokestatic 43, 3) := by decide +kernel
theorem dX14_ofLand_26 : decode cX14_ofLand 26 = .ok (.ifCond .eq 12, 3) := by decide +kernel
theorem dX14_ofLand_29 : decode cX14_ofLand 29 = .ok (.aload_n 0, 1) := by decide +kernel
theorem dX14_ofLand_30 : decode cX14_ofLand 30 = .ok (.iload_n 1, 1) := by decide +kernel
theorem dX14_ofLand_31 : decode cX14_ofLand 31 = .ok (.iload_n 2, 1) := by decide +kernel
theorem dX14_ofLand_32 : decode cX14_ofLand 32 = .ok (.invokevirtual 283, 3) := by decide +kernel
theorem dX14_ofLand_35 : decode cX14_ofLand 35 = .ok (.goto 8, 3) := by decide +kernel
theorem dX14_ofLand_38 : decode cX14_ofLand 38 = .ok (.aload_n 0, 1) := by decide +kernel
theorem dX14_ofLand_39 : decode cX14_ofLand 39 = .ok (.iconst 2, 1) := by decide +kernel
theorem dX14_ofLand_40 : decode cX14_ofLand 40 = .ok (.invokevirtual 55, 3) := by decide +kernel
theorem dX14_ofLand_43 : decode cX14_ofLand 43 = .ok (.ireturn, 1) := by decide +kernel
set_option maxRecDepth 100000 in
theorem ggX14_hiddenWorth_Jx4a65c_size_8abf5 : GoodIn wsX14_hiddenWorth wsJx4a65c_size_8abf5 := wk_g rfl wm_X14_hiddenWorth 2173 wc_Jx4a65c_size_8abf5 rfl (by decide +kernel) (by decide +kernel) wq_Jx4a65c_size_8abf5
set_option maxRecDepth 100000 in
theorem gX14_hiddenWorth_Jx4a65c_size_8abf5 : GoodIn wsX14_hiddenWorth (wsV RX14 47 RJx4a65c yJx4a65c_size_8abf5 wsJx4a65c_size_8abf5) := goodIn_app (wk_h rfl wm_X14_hiddenWorth [7208, 2171, 2172, 2004] (by decide +kernel) (by decide +kernel) (by decide +kernel)) ggX14_hiddenWorth_Jx4a65c_size_8abf5
set_option maxRecDepth 100000 in
theorem ggX14_hiddenWorth_Jx4a65c_get_915e3 : GoodIn wsX14_hiddenWorth wsJx4a65c_get_915e3 := wk_g rfl wm_X14_hiddenWorth 2177 wc_Jx4a65c_get_915e3 rfl (by decide +kernel) (by decide +kernel) wq_Jx4a65c_get_915e3
set_option maxRecDepth 100000 in
theorem gX14_hiddenWorth_Jx4a65c_get_915e3 : GoodIn wsX14_hiddenWorth (wsV RX14 90 RJx4a65c yJx4a65c_get_915e3 wsJx4a65c_get_915e3) := goodIn_app (wk_h rfl wm_X14_hiddenWorth [8019, 2175, 2176, 2004] (by decide +kernel) (by decide +kernel) (by decide +kernel)) ggX14_hiddenWorth_Jx4a65c_get_915e3
set_option maxRecDepth 100000 in
theorem ggX14_hiddenWorth_X10_place : GoodIn wsX14_hiddenWorth wsX10_place := wk_g rfl wm_X14_hiddenWorth 8164 wc_X10_place rfl (by decide +kernel) (by decide +kernel) wq_X10_place
set_option maxRecDepth 100000 in
theorem gX14_hiddenWorth_X10_place : GoodIn wsX14_hiddenWorth (wsV RX14 183 RX10 yX10_place wsX10_place) := goodIn_app (wk_h rfl wm_X14_hiddenWorth [8161, 8162, 8163, 2022] (by decide +kernel) (by decide +kernel) (by decide +kernel)) ggX14_hiddenWorth_X10_place
theorem dX14_hiddenWorth_0 : decode cX14_hiddenWorth 0 = .ok (.iconst 0, 1) := by decide +kernel
theorem dX14_hiddenWorth_1 : decode cX14_hiddenWorth 1 = .ok (.istore_n 2, 1) := by decide +kernel
theorem dX14_hiddenWorth_2 : decode cX14_hiddenWorth 2 = .ok (.iconst 0, 1) := by decide +kernel
theorem dX14_hiddenWorth_3 : decode cX14_hiddenWorth 3 = .ok (.istore_n 3, 1) := by decide +kernel
theorem dX14_hiddenWorth_4 : decode cX14_hiddenWorth 4 = .ok (.iload_n 3, 1) := by decide +kernel
theorem dX14_hiddenWorth_5 : decode cX14_hiddenWorth 5 = .ok (.aload_n 0, 1) := by decide +kernel
theorem dX14_hiddenWorth_6 : decode cX14_hiddenWorth 6 = .ok (.getfield 29, 3) := by decide +kernel
theorem dX14_hiddenWorth_9 : decode cX14_hiddenWorth 9 = .ok (.invokevirtual 47, 3) := by decide +kernel
theorem dX14_hiddenWorth_12 : decode cX14_hiddenWorth 12 = .ok (.if_icmp .ge 81, 3) := by decide +kernel
theorem dX14_hiddenWorth_15 : decode cX14_hiddenWorth 15 = .ok (.aload_n 0, 1) := by decide +kernel
theorem dX14_hiddenWorth_16 : decode cX14_hiddenWorth 16 = .ok (.getfield 29, 3) := by decide +kernel
theorem dX14_hiddenWorth_19 : decode cX14_hiddenWorth 19 = .ok (.iload_n 3, 1) := by decide +kernel
theorem dX14_hiddenWorth_20 : decode cX14_hiddenWorth 20 = .ok (.invokevirtual 90, 3) := by decide +kernel
theorem dX14_hiddenWorth_23 : decode cX14_hiddenWorth 23 = .ok (.checkcast 119, 3) := by decide +kernel
theorem dX14_hiddenWorth_26 : decode cX14_hiddenWorth 26 = .ok (.getfield 131, 3) := by decide +kernel
theorem dX14_hiddenWorth_29 : decode cX14_hiddenWorth 29 = .ok (.istore 4, 2) := by decide +kernel
theorem dX14_hiddenWorth_31 : decode cX14_hiddenWorth 31 = .ok (.iload 4, 2) := by decide +kernel
theorem dX14_hiddenWorth_33 : decode cX14_hiddenWorth 33 = .ok (.bipush 100, 2) := by decide +kernel
theorem dX14_hiddenWorth_35 : decode cX14_hiddenWorth 35 = .ok (.if_icmp .ge 52, 3) := by decide +kernel
theorem dX14_hiddenWorth_38 : decode cX14_hiddenWorth 38 = .ok (.aload_n 1, 1) := by decide +kernel
theorem dX14_hiddenWorth_39 : decode cX14_hiddenWorth 39 = .ok (.iload 4, 2) := by decide +kernel
theorem dX14_hiddenWorth_41 : decode cX14_hiddenWorth 41 = .ok (.invokevirtual 183, 3) := by decide +kernel
theorem dX14_hiddenWorth_44 : decode cX14_hiddenWorth 44 = .ok (.iconst (-1), 1) := by decide +kernel
theorem dX14_hiddenWorth_45 : decode cX14_hiddenWorth 45 = .ok (.if_icmp .eq 42, 3) := by decide +kernel
theorem dX14_hiddenWorth_48 : decode cX14_hiddenWorth 48 = .ok (.aload_n 0, 1) := by decide +kernel
theorem dX14_hiddenWorth_49 : decode cX14_hiddenWorth 49 = .ok (.getfield 26, 3) := by decide +kernel
theorem dX14_hiddenWorth_52 : decode cX14_hiddenWorth 52 = .ok (.iload 4, 2) := by decide +kernel
theorem dX14_hiddenWorth_54 : decode cX14_hiddenWorth 54 = .ok (.invokevirtual 90, 3) := by decide +kernel
theorem dX14_hiddenWorth_57 : decode cX14_hiddenWorth 57 = .ok (.checkcast 100, 3) := by decide +kernel
theorem dX14_hiddenWorth_60 : decode cX14_hiddenWorth 60 = .ok (.getfield 180, 3) := by decide +kernel
theorem dX14_hiddenWorth_63 : decode cX14_hiddenWorth 63 = .ok (.iload_n 3, 1) := by decide +kernel
theorem dX14_hiddenWorth_64 : decode cX14_hiddenWorth 64 = .ok (.ishr, 1) := by decide +kernel
theorem dX14_hiddenWorth_65 : decode cX14_hiddenWorth 65 = .ok (.iconst 1, 1) := by decide +kernel
theorem dX14_hiddenWorth_66 : decode cX14_hiddenWorth 66 = .ok (.iand, 1) := by decide +kernel
theorem dX14_hiddenWorth_67 : decode cX14_hiddenWorth 67 = .ok (.ifCond .ne 20, 3) := by decide +kernel
theorem dX14_hiddenWorth_70 : decode cX14_hiddenWorth 70 = .ok (.iload_n 2, 1) := by decide +kernel
theorem dX14_hiddenWorth_71 : decode cX14_hiddenWorth 71 = .ok (.aload_n 0, 1) := by decide +kernel
theorem dX14_hiddenWorth_72 : decode cX14_hiddenWorth 72 = .ok (.getfield 29, 3) := by decide +kernel
theorem dX14_hiddenWorth_75 : decode cX14_hiddenWorth 75 = .ok (.iload_n 3, 1) := by decide +kernel
theorem dX14_hiddenWorth_76 : decode cX14_hiddenWorth 76 = .ok (.invokevirtual 90, 3) := by decide +kernel
theorem dX14_hiddenWorth_79 : decode cX14_hiddenWorth 79 = .ok (.checkcast 119, 3) := by decide +kernel
theorem dX14_hiddenWorth_82 : decode cX14_hiddenWorth 82 = .ok (.getfield 125, 3) := by decide +kernel
theorem dX14_hiddenWorth_85 : decode cX14_hiddenWorth 85 = .ok (.iadd, 1) := by decide +kernel
theorem dX14_hiddenWorth_86 : decode cX14_hiddenWorth 86 = .ok (.istore_n 2, 1) := by decide +kernel
theorem dX14_hiddenWorth_87 : decode cX14_hiddenWorth 87 = .ok (.iinc 3 1, 3) := by decide +kernel
theorem dX14_hiddenWorth_90 : decode cX14_hiddenWorth 90 = .ok (.goto (-86), 3) := by decide +kernel
theorem dX14_hiddenWorth_93 : decode cX14_hiddenWorth 93 = .ok (.iload_n 2, 1) := by decide +kernel
theorem dX14_hiddenWorth_94 : decode cX14_hiddenWorth 94 = .ok (.ireturn, 1) := by decide +kernel
set_option maxRecDepth 100000 in
theorem ggX14_ofGateNow_Jx4a65c_get_915e3 : GoodIn wsX14_ofGateNow wsJx4a65c_get_915e3 := wk_g rfl wm_X14_ofGateNow 2177 wc_Jx4a65c_get_915e3 rfl (by decide +kernel) (by decide +kernel) wq_Jx4a65c_get_915e3
set_option maxRecDepth 100000 in
theorem gX14_ofGateNow_Jx4a65c_get_915e3 : GoodIn wsX14_ofGateNow (wsV RX14 90 RJx4a65c yJx4a65c_get_915e3 wsJx4a65c_get_915e3) := goodIn_app (wk_h rfl wm_X14_ofGateNow [8019, 2175, 2176, 2004] (by decide +kernel) (by decide +kernel) (by decide +kernel)) ggX14_ofGateNow_Jx4a65c_get_915e3
set_option maxRecDepth 100000 in
theorem ggX14_ofGateNow_X10_isOpen : GoodIn wsX14_ofGateNow wsX10_isOpen := wk_g rfl wm_X14_ofGateNow 8181 wc_X10_isOpen rfl (by decide +kernel) (by decide +kernel) wq_X10_isOpen
set_option maxRecDepth 100000 in
theorem gX14_ofGateNow_X10_isOpen : GoodIn wsX14_ofGateNow (wsV RX14 244 RX10 yX10_isOpen wsX10_isOpen) := goodIn_app (wk_h rfl wm_X14_ofGateNow [8178, 8179, 8180, 2022] (by decide +kernel) (by decide +kernel) (by decide +kernel)) ggX14_ofGateNow_X10_isOpen
set_option maxRecDepth 100000 in
theorem ggX14_ofGateNow_X10_dozes : GoodIn wsX14_ofGateNow wsX10_dozes := wk_g rfl wm_X14_ofGateNow 8191 wc_X10_dozes rfl (by decide +kernel) (by decide +kernel) wq_X10_dozes
set_option maxRecDepth 100000 in
theorem gX14_ofGateNow_X10_dozes : GoodIn wsX14_ofGateNow (wsV RX14 198 RX10 yX10_dozes wsX10_dozes) := goodIn_app (wk_h rfl wm_X14_ofGateNow [8188, 8189, 8190, 2022] (by decide +kernel) (by decide +kernel) (by decide +kernel)) ggX14_ofGateNow_X10_dozes
set_option maxRecDepth 100000 in
theorem ggX14_ofGateNow_Jx4a65c_size_8abf5 : GoodIn wsX14_ofGateNow wsJx4a65c_size_8abf5 := wk_g rfl wm_X14_ofGateNow 2173 wc_Jx4a65c_size_8abf5 rfl (by decide +kernel) (by decide +kernel) wq_Jx4a65c_size_8abf5
set_option maxRecDepth 100000 in
theorem gX14_ofGateNow_Jx4a65c_size_8abf5 : GoodIn wsX14_ofGateNow (wsV RX14 47 RJx4a65c yJx4a65c_size_8abf5 wsJx4a65c_size_8abf5) := goodIn_app (wk_h rfl wm_X14_ofGateNow [7208, 2171, 2172, 2004] (by decide +kernel) (by decide +kernel) (by decide +kernel)) ggX14_ofGateNow_Jx4a65c_size_8abf5
set_option maxRecDepth 100000 in
theorem ggX14_ofGateNow_Jx4a65c_isEmpty_aae02 : GoodIn wsX14_ofGateNow wsJx4a65c_isEmpty_aae02 := wk_g rfl wm_X14_ofGateNow 3133 wc_Jx4a65c_isEmpty_aae02 rfl (by decide +kernel) (by decide +kernel) wq_Jx4a65c_isEmpty_aae02
set_option maxRecDepth 100000 in
theorem gX14_ofGateNow_Jx4a65c_isEmpty_aae02 : GoodIn wsX14_ofGateNow (wsV RX14 247 RJx4a65c yJx4a65c_isEmpty_aae02 wsJx4a65c_isEmpty_aae02) := goodIn_app (wk_h rfl wm_X14_ofGateNow [8182, 3131, 3132, 2004] (by decide +kernel) (by decide +kernel) (by decide +kernel)) ggX14_ofGateNow_Jx4a65c_isEmpty_aae02
set_option maxRecDepth 100000 in
theorem ggX14_ofGateNow_J6_intValue_8abf5 : GoodIn wsX14_ofGateNow wsJ6_intValue_8abf5 := wk_g rfl wm_X14_ofGateNow 8135 wc_J6_intValue_8abf5 rfl (by decide +kernel) (by decide +kernel) wq_J6_intValue_8abf5
set_option maxRecDepth 100000 in
theorem gX14_ofGateNow_J6_intValue_8abf5 : GoodIn wsX14_ofGateNow (wsV RX14 167 RJ6 yJ6_intValue_8abf5 wsJ6_intValue_8abf5) := goodIn_app (wk_h rfl wm_X14_ofGateNow [8132, 8133, 8134, 2036] (by decide +kernel) (by decide +kernel) (by decide +kernel)) ggX14_ofGateNow_J6_intValue_8abf5
set_option maxRecDepth 100000 in
theorem ggX14_ofGateNow_X14_hiddenWorth : GoodIn wsX14_ofGateNow wsX14_hiddenWorth := wk_g rfl wm_X14_ofGateNow 9062 wc_X14_hiddenWorth rfl (by decide +kernel) (by decide +kernel) wq_X14_hiddenWorth
set_option maxRecDepth 100000 in
theorem gX14_ofGateNow_X14_hiddenWorth : GoodIn wsX14_ofGateNow (wsV RX14 286 RX14 yX14_hiddenWorth wsX14_hiddenWorth) := goodIn_app (wk_h rfl wm_X14_ofGateNow [9059, 9061, 1062, 2007] (by decide +kernel) (by decide +kernel) (by decide +kernel)) ggX14_ofGateNow_X14_hiddenWorth
theorem dX14_ofGateNow_0 : decode cX14_ofGateNow 0 = .ok (.aload_n 0, 1) := by decide +kernel
theorem dX14_ofGateNow_1 : decode cX14_ofGateNow 1 = .ok (.getfield 22, 3) := by decide +kernel
theorem dX14_ofGateNow_4 : decode cX14_ofGateNow 4 = .ok (.iload_n 1, 1) := by decide +kernel
theorem dX14_ofGateNow_5 : decode cX14_ofGateNow 5 = .ok (.invokevirtual 90, 3) := by decide +kernel
theorem dX14_ofGateNow_8 : decode cX14_ofGateNow 8 = .ok (.checkcast 68, 3) := by decide +kernel
theorem dX14_ofGateNow_11 : decode cX14_ofGateNow 11 = .ok (.astore_n 3, 1) := by decide +kernel
theorem dX14_ofGateNow_12 : decode cX14_ofGateNow 12 = .ok (.iconst 0, 1) := by decide +kernel
theorem dX14_ofGateNow_13 : decode cX14_ofGateNow 13 = .ok (.istore 4, 2) := by decide +kernel
theorem dX14_ofGateNow_15 : decode cX14_ofGateNow 15 = .ok (.iload_n 2, 1) := by decide +kernel
theorem dX14_ofGateNow_16 : decode cX14_ofGateNow 16 = .ok (.tableswitch 145 0 8 #[52, 57, 62, 79, 84, 89, 102, 110, 139], 52) := by decide +kernel
theorem dX14_ofGateNow_68 : decode cX14_ofGateNow 68 = .ok (.aload_n 3, 1) := by decide +kernel
theorem dX14_ofGateNow_69 : decode cX14_ofGateNow 69 = .ok (.getfield 71, 3) := by decide +kernel
theorem dX14_ofGateNow_72 : decode cX14_ofGateNow 72 = .ok (.ireturn, 1) := by decide +kernel
theorem dX14_ofGateNow_73 : decode cX14_ofGateNow 73 = .ok (.aload_n 3, 1) := by decide +kernel
theorem dX14_ofGateNow_74 : decode cX14_ofGateNow 74 = .ok (.getfield 74, 3) := by decide +kernel
theorem dX14_ofGateNow_77 : decode cX14_ofGateNow 77 = .ok (.ireturn, 1) := by decide +kernel
theorem dX14_ofGateNow_78 : decode cX14_ofGateNow 78 = .ok (.aload_n 3, 1) := by decide +kernel
theorem dX14_ofGateNow_79 : decode cX14_ofGateNow 79 = .ok (.aload_n 0, 1) := by decide +kernel
theorem dX14_ofGateNow_80 : decode cX14_ofGateNow 80 = .ok (.getfield 241, 3) := by decide +kernel
theorem dX14_ofGateNow_83 : decode cX14_ofGateNow 83 = .ok (.invokevirtual 244, 3) := by decide +kernel
theorem dX14_ofGateNow_86 : decode cX14_ofGateNow 86 = .ok (.ifCond .eq 7, 3) := by decide +kernel
theorem dX14_ofGateNow_89 : decode cX14_ofGateNow 89 = .ok (.iconst 1, 1) := by decide +kernel
theorem dX14_ofGateNow_90 : decode cX14_ofGateNow 90 = .ok (.goto 4, 3) := by decide +kernel
theorem dX14_ofGateNow_93 : decode cX14_ofGateNow 93 = .ok (.iconst 0, 1) := by decide +kernel
theorem dX14_ofGateNow_94 : decode cX14_ofGateNow 94 = .ok (.ireturn, 1) := by decide +kernel
theorem dX14_ofGateNow_95 : decode cX14_ofGateNow 95 = .ok (.aload_n 3, 1) := by decide +kernel
theorem dX14_ofGateNow_96 : decode cX14_ofGateNow 96 = .ok (.getfield 94, 3) := by decide +kernel
theorem dX14_ofGateNow_99 : decode cX14_ofGateNow 99 = .ok (.ireturn, 1) := by decide +kernel
theorem dX14_ofGateNow_100 : decode cX14_ofGateNow 100 = .ok (.aload_n 3, 1) := by decide +kernel
theorem dX14_ofGateNow_101 : decode cX14_ofGateNow 101 = .ok (.getfield 97, 3) := by decide +kernel
theorem dX14_ofGateNow_104 : decode cX14_ofGateNow 104 = .ok (.ireturn, 1) := by decide +kernel
theorem dX14_ofGateNow_105 : decode cX14_ofGateNow 105 = .ok (.aload_n 3, 1) := by decide +kernel
theorem dX14_ofGateNow_106 : decode cX14_ofGateNow 106 = .ok (.invokevirtual 198, 3) := by decide +kernel
theorem dX14_ofGateNow_109 : decode cX14_ofGateNow 109 = .ok (.ifCond .eq 7, 3) := by decide +kernel
theorem dX14_ofGateNow_112 : decode cX14_ofGateNow 112 = .ok (.iconst 1, 1) := by decide +kernel
theorem dX14_ofGateNow_113 : decode cX14_ofGateNow 113 = .ok (.goto 4, 3) := by decide +kernel
theorem dX14_ofGateNow_116 : decode cX14_ofGateNow 116 = .ok (.iconst 0, 1) := by decide +kernel
theorem dX14_ofGateNow_117 : decode cX14_ofGateNow 117 = .ok (.ireturn, 1) := by decide +kernel
theorem dX14_ofGateNow_118 : decode cX14_ofGateNow 118 = .ok (.aload_n 3, 1) := by decide +kernel
theorem dX14_ofGateNow_119 : decode cX14_ofGateNow 119 = .ok (.getfield 162, 3) := by decide +kernel
theorem dX14_ofGateNow_122 : decode cX14_ofGateNow 122 = .ok (.invokevirtual 47, 3) := by decide +kernel
theorem dX14_ofGateNow_125 : decode cX14_ofGateNow 125 = .ok (.ireturn, 1) := by decide +kernel
theorem dX14_ofGateNow_126 : decode cX14_ofGateNow 126 = .ok (.aload_n 3, 1) := by decide +kernel
theorem dX14_ofGateNow_127 : decode cX14_ofGateNow 127 = .ok (.getfield 162, 3) := by decide +kernel
theorem dX14_ofGateNow_130 : decode cX14_ofGateNow 130 = .ok (.invokevirtual 247, 3) := by decide +kernel
theorem dX14_ofGateNow_133 : decode cX14_ofGateNow 133 = .ok (.ifCond .eq 7, 3) := by decide +kernel
theorem dX14_ofGateNow_136 : decode cX14_ofGateNow 136 = .ok (.iconst (-1), 1) := by decide +kernel
theorem dX14_ofGateNow_137 : decode cX14_ofGateNow 137 = .ok (.goto 17, 3) := by decide +kernel
theorem dX14_ofGateNow_140 : decode cX14_ofGateNow 140 = .ok (.aload_n 3, 1) := by decide +kernel
theorem dX14_ofGateNow_141 : decode cX14_ofGateNow 141 = .ok (.getfield 162, 3) := by decide +kernel
theorem dX14_ofGateNow_144 : decode cX14_ofGateNow 144 = .ok (.iconst 0, 1) := by decide +kernel
theorem dX14_ofGateNow_145 : decode cX14_ofGateNow 145 = .ok (.invokevirtual 90, 3) := by decide +kernel
theorem dX14_ofGateNow_148 : decode cX14_ofGateNow 148 = .ok (.checkcast 165, 3) := by decide +kernel
theorem dX14_ofGateNow_151 : decode cX14_ofGateNow 151 = .ok (.invokevirtual 167, 3) := by decide +kernel
theorem dX14_ofGateNow_154 : decode cX14_ofGateNow 154 = .ok (.ireturn, 1) := by decide +kernel
theorem dX14_ofGateNow_155 : decode cX14_ofGateNow 155 = .ok (.aload_n 0, 1) := by decide +kernel
theorem dX14_ofGateNow_156 : decode cX14_ofGateNow 156 = .ok (.aload_n 3, 1) := by decide +kernel
theorem dX14_ofGateNow_157 : decode cX14_ofGateNow 157 = .ok (.invokevirtual 286, 3) := by decide +kernel
theorem dX14_ofGateNow_160 : decode cX14_ofGateNow 160 = .ok (.ireturn, 1) := by decide +kernel
theorem dX14_ofGateNow_161 : decode cX14_ofGateNow 161 = .ok (.aload_n 3, 1) := by decide +kernel
theorem dX14_ofGateNow_162 : decode cX14_ofGateNow 162 = .ok (.getfield 153, 3) := by decide +kernel
theorem dX14_ofGateNow_165 : decode cX14_ofGateNow 165 = .ok (.astore 5, 2) := by decide +kernel
theorem dX14_ofGateNow_167 : decode cX14_ofGateNow 167 = .ok (.aload 5, 2) := by decide +kernel
theorem dX14_ofGateNow_169 : decode cX14_ofGateNow 169 = .ok (.arraylength, 1) := by decide +kernel
theorem dX14_ofGateNow_170 : decode cX14_ofGateNow 170 = .ok (.istore 6, 2) := by decide +kernel
theorem dX14_ofGateNow_172 : decode cX14_ofGateNow 172 = .ok (.iconst 0, 1) := by decide +kernel
theorem dX14_ofGateNow_173 : decode cX14_ofGateNow 173 = .ok (.istore 7, 2) := by decide +kernel
theorem dX14_ofGateNow_175 : decode cX14_ofGateNow 175 = .ok (.iload 7, 2) := by decide +kernel
theorem dX14_ofGateNow_177 : decode cX14_ofGateNow 177 = .ok (.iload 6, 2) := by decide +kernel
theorem dX14_ofGateNow_179 : decode cX14_ofGateNow 179 = .ok (.if_icmp .ge 31, 3) := by decide +kernel
theorem dX14_ofGateNow_182 : decode cX14_ofGateNow 182 = .ok (.aload 5, 2) := by decide +kernel
theorem dX14_ofGateNow_184 : decode cX14_ofGateNow 184 = .ok (.iload 7, 2) := by decide +kernel
theorem dX14_ofGateNow_186 : decode cX14_ofGateNow 186 = .ok (.baload, 1) := by decide +kernel
theorem dX14_ofGateNow_187 : decode cX14_ofGateNow 187 = .ok (.istore 8, 2) := by decide +kernel
theorem dX14_ofGateNow_189 : decode cX14_ofGateNow 189 = .ok (.iload 4, 2) := by decide +kernel
theorem dX14_ofGateNow_191 : decode cX14_ofGateNow 191 = .ok (.iload 8, 2) := by decide +kernel
theorem dX14_ofGateNow_193 : decode cX14_ofGateNow 193 = .ok (.ifCond .eq 7, 3) := by decide +kernel
theorem dX14_ofGateNow_196 : decode cX14_ofGateNow 196 = .ok (.iconst 1, 1) := by decide +kernel
theorem dX14_ofGateNow_197 : decode cX14_ofGateNow 197 = .ok (.goto 4, 3) := by decide +kernel
theorem dX14_ofGateNow_200 : decode cX14_ofGateNow 200 = .ok (.iconst 0, 1) := by decide +kernel
theorem dX14_ofGateNow_201 : decode cX14_ofGateNow 201 = .ok (.iadd, 1) := by decide +kernel
theorem dX14_ofGateNow_202 : decode cX14_ofGateNow 202 = .ok (.istore 4, 2) := by decide +kernel
theorem dX14_ofGateNow_204 : decode cX14_ofGateNow 204 = .ok (.iinc 7 1, 3) := by decide +kernel
theorem dX14_ofGateNow_207 : decode cX14_ofGateNow 207 = .ok (.goto (-32), 3) := by decide +kernel
theorem dX14_ofGateNow_210 : decode cX14_ofGateNow 210 = .ok (.iload 4, 2) := by decide +kernel
theorem dX14_ofGateNow_212 : decode cX14_ofGateNow 212 = .ok (.ireturn, 1) := by decide +kernel
set_option maxRecDepth 100000 in
theorem ggX14_ofGate_X14_isGate : GoodIn wsX14_ofGate wsX14_isGate := wk_g rfl wm_X14_ofGate 8018 wc_X14_isGate rfl (by decide +kernel) (by decide +kernel) wq_X14_isGate
set_option maxRecDepth 100000 in
theorem gX14_ofGate_X14_isGate : GoodIn wsX14_ofGate (wsV RX14 87 RX14 yX14_isGate wsX14_isGate) := goodIn_app (wk_h rfl wm_X14_ofGate [8015, 8017, 1047, 2007] (by decide +kernel) (by decide +kernel) (by decide +kernel)) ggX14_ofGate_X14_isGate
set_option maxRecDepth 100000 in
theorem ggX14_ofGate_X14_refuse : GoodIn wsX14_ofGate wsX14_refuse := wk_g rfl wm_X14_ofGate 7199 wc_X14_refuse rfl (by decide +kernel) (by decide +kernel) wq_X14_refuse
set_option maxRecDepth 100000 in
theorem gX14_ofGate_X14_refuse : GoodIn wsX14_ofGate (wsV RX14 55 RX14 yX14_refuse wsX14_refuse) := goodIn_app (wk_h rfl wm_X14_ofGate [7196, 7198, 1046, 2007] (by decide +kernel) (by decide +kernel) (by decide +kernel)) ggX14_ofGate_X14_refuse
set_option maxRecDepth 100000 in
theorem ggX14_ofGate_X14_is : GoodIn wsX14_ofGate wsX14_is := wk_g rfl wm_X14_ofGate 7195 wc_X14_is rfl (by decide +kernel) (by decide +kernel) wq_X14_is
set_option maxRecDepth 100000 in
theorem gX14_ofGate_X14_is : GoodIn wsX14_ofGate (va_wsS RX14 43 yX14_is wsX14_is) := goodIn_app (wk_h rfl wm_X14_ofGate [7193, 7194, 2007] (by decide +kernel) (by decide +kernel) (by decide +kernel)) ggX14_ofGate_X14_is
set_option maxRecDepth 100000 in
theorem ggX14_ofGate_X14_ofGateNow : GoodIn wsX14_ofGate wsX14_ofGateNow := wk_g rfl wm_X14_ofGate 9058 wc_X14_ofGateNow rfl (by decide +kernel) (by decide +kernel) wq_X14_ofGateNow
set_option maxRecDepth 100000 in
theorem gX14_ofGate_X14_ofGateNow : GoodIn wsX14_ofGate (wsV RX14 290 RX14 yX14_ofGateNow wsX14_ofGateNow) := goodIn_app (wk_h rfl wm_X14_ofGate [9055, 9057, 1061, 2007] (by decide +kernel) (by decide +kernel) (by decide +kernel)) ggX14_ofGate_X14_ofGateNow
theorem dX14_ofGate_0 : decode cX14_ofGate 0 = .ok (.aload_n 0, 1) := by decide +kernel
theorem dX14_ofGate_1 : decode cX14_ofGate 1 = .ok (.iconst 0, 1) := by decide +kernel
theorem dX14_ofGate_2 : decode cX14_ofGate 2 = .ok (.putfield 40, 3) := by decide +kernel
theorem dX14_ofGate_5 : decode cX14_ofGate 5 = .ok (.aload_n 0, 1) := by decide +kernel
theorem dX14_ofGate_6 : decode cX14_ofGate 6 = .ok (.iload_n 1, 1) := by decide +kernel
theorem dX14_ofGate_7 : decode cX14_ofGate 7 = .ok (.invokevirtual 87, 3) := by decide +kernel
theorem dX14_ofGate_10 : decode cX14_ofGate 10 = .ok (.ifCond .ne 9, 3) := by decide +kernel
theorem dX14_ofGate_13 : decode cX14_ofGate 13 = .ok (.aload_n 0, 1) := by decide +kernel
theorem dX14_ofGate_14 : decode cX14_ofGate 14 = .ok (.iconst 1, 1) := by decide +kernel
theorem dX14_ofGate_15 : decode cX14_ofGate 15 = .ok (.invokevirtual 55, 3) := by decide +kernel
theorem dX14_ofGate_18 : decode cX14_ofGate 18 = .ok (.ireturn, 1) := by decide +kernel
theorem dX14_ofGate_19 : decode cX14_ofGate 19 = .ok (.iload_n 2, 1) := by decide +kernel
theorem dX14_ofGate_20 : decode cX14_ofGate 20 = .ok (.iconst 0, 1) := by decide +kernel
theorem dX14_ofGate_21 : decode cX14_ofGate 21 = .ok (.bipush 9, 2) := by decide +kernel
theorem dX14_ofGate_23 : decode cX14_ofGate 23 = .ok (.invokestatic 43, 3) := by decide +kernel
theorem dX14_ofGate_26 : decode cX14_ofGate 26 = .ok (.ifCond .eq 12, 3) := by decide +kernel
theorem dX14_ofGate_29 : decode cX14_ofGate 29 = .ok (.aload_n 0, 1) := by decide +kernel
theorem dX14_ofGate_30 : decode cX14_ofGate 30 = .ok (.iload_n 1, 1) := by decide +kernel
theorem dX14_ofGate_31 : decode cX14_ofGate 31 = .ok (.iload_n 2, 1) := by decide +kernel
theorem dX14_ofGate_32 : decode cX14_ofGate 32 = .ok (.invokevirtual 290, 3) := by decide +kernel
theorem dX14_ofGate_35 : decode cX14_ofGate 35 = .ok (.goto 8, 3) := by decide +kernel
theorem dX14_ofGate_38 : decode cX14_ofGate 38 = .ok (.aload_n 0, 1) := by decide +kernel
theorem dX14_ofGate_39 : decode cX14_ofGate 39 = .ok (.iconst 2, 1) := by decide +kernel
theorem dX14_ofGate_40 : decode cX14_ofGate 40 = .ok (.invokevirtual 55, 3) := by decide +kernel
theorem dX14_ofGate_43 : decode cX14_ofGate 43 = .ok (.ireturn, 1) := by decide +kernel
set_option maxRecDepth 100000 in
theorem ggX14_ring_Jx4a65c_size_8abf5 : GoodIn wsX14_ring wsJx4a65c_size_8abf5 := wk_g rfl wm_X14_ring 2173 wc_Jx4a65c_size_8abf5 rfl (by decide +kernel) (by decide +kernel) wq_Jx4a65c_size_8abf5
set_option maxRecDepth 100000 in
theorem gX14_ring_Jx4a65c_size_8abf5 : GoodIn wsX14_ring (wsV RX14 47 RJx4a65c yJx4a65c_size_8abf5 wsJx4a65c_size_8abf5) := goodIn_app (wk_h rfl wm_X14_ring [7208, 2171, 2172, 2004] (by decide +kernel) (by decide +kernel) (by decide +kernel)) ggX14_ring_Jx4a65c_size_8abf5
set_option maxRecDepth 100000 in
theorem ggX14_ring_Jx4a65c_get_915e3 : GoodIn wsX14_ring wsJx4a65c_get_915e3 := wk_g rfl wm_X14_ring 2177 wc_Jx4a65c_get_915e3 rfl (by decide +kernel) (by decide +kernel) wq_Jx4a65c_get_915e3
set_option maxRecDepth 100000 in
theorem gX14_ring_Jx4a65c_get_915e3 : GoodIn wsX14_ring (wsV RX14 90 RJx4a65c yJx4a65c_get_915e3 wsJx4a65c_get_915e3) := goodIn_app (wk_h rfl wm_X14_ring [8019, 2175, 2176, 2004] (by decide +kernel) (by decide +kernel) (by decide +kernel)) ggX14_ring_Jx4a65c_get_915e3
set_option maxRecDepth 100000 in
theorem ggX14_ring_J6_intValue_8abf5 : GoodIn wsX14_ring wsJ6_intValue_8abf5 := wk_g rfl wm_X14_ring 8135 wc_J6_intValue_8abf5 rfl (by decide +kernel) (by decide +kernel) wq_J6_intValue_8abf5
set_option maxRecDepth 100000 in
theorem gX14_ring_J6_intValue_8abf5 : GoodIn wsX14_ring (wsV RX14 167 RJ6 yJ6_intValue_8abf5 wsJ6_intValue_8abf5) := goodIn_app (wk_h rfl wm_X14_ring [8132, 8133, 8134, 2036] (by decide +kernel) (by decide +kernel) (by decide +kernel)) ggX14_ring_J6_intValue_8abf5
theorem dX14_ring_0 : decode cX14_ring 0 = .ok (.iconst 1, 1) := by decide +kernel
theorem dX14_ring_1 : decode cX14_ring 1 = .ok (.iload_n 1, 1) := by decide +kernel
theorem dX14_ring_2 : decode cX14_ring 2 = .ok (.ishl, 1) := by decide +kernel
theorem dX14_ring_3 : decode cX14_ring 3 = .ok (.istore_n 2, 1) := by decide +kernel
theorem dX14_ring_4 : decode cX14_ring 4 = .ok (.iconst 1, 1) := by decide +kernel
theorem dX14_ring_5 : decode cX14_ring 5 = .ok (.istore_n 3, 1) := by decide +kernel
theorem dX14_ring_6 : decode cX14_ring 6 = .ok (.iload_n 3, 1) := by decide +kernel
theorem dX14_ring_7 : decode cX14_ring 7 = .ok (.ifCond .eq 201, 3) := by decide +kernel
theorem dX14_ring_10 : decode cX14_ring 10 = .ok (.iconst 0, 1) := by decide +kernel
theorem dX14_ring_11 : decode cX14_ring 11 = .ok (.istore_n 3, 1) := by decide +kernel
theorem dX14_ring_12 : decode cX14_ring 12 = .ok (.iconst 0, 1) := by decide +kernel
theorem dX14_ring_13 : decode cX14_ring 13 = .ok (.istore 4, 2) := by decide +kernel
theorem dX14_ring_15 : decode cX14_ring 15 = .ok (.iload 4, 2) := by decide +kernel
theorem dX14_ring_17 : decode cX14_ring 17 = .ok (.aload_n 0, 1) := by decide +kernel
theorem dX14_ring_18 : decode cX14_ring 18 = .ok (.getfield 32, 3) := by decide +kernel
theorem dX14_ring_21 : decode cX14_ring 21 = .ok (.invokevirtual 47, 3) := by decide +kernel
theorem dX14_ring_24 : decode cX14_ring 24 = .ok (.if_icmp .ge 181, 3) := by decide +kernel
theorem dX14_ring_27 : decode cX14_ring 27 = .ok (.iload_n 2, 1) := by decide +kernel
theorem dX14_ring_28 : decode cX14_ring 28 = .ok (.aload_n 0, 1) := by decide +kernel
theorem dX14_ring_29 : decode cX14_ring 29 = .ok (.getfield 32, 3) := by decide +kernel
theorem dX14_ring_32 : decode cX14_ring 32 = .ok (.iload 4, 2) := by decide +kernel
theorem dX14_ring_34 : decode cX14_ring 34 = .ok (.invokevirtual 90, 3) := by decide +kernel
theorem dX14_ring_37 : decode cX14_ring 37 = .ok (.checkcast 165, 3) := by decide +kernel
theorem dX14_ring_40 : decode cX14_ring 40 = .ok (.invokevirtual 167, 3) := by decide +kernel
theorem dX14_ring_43 : decode cX14_ring 43 = .ok (.ishr, 1) := by decide +kernel
theorem dX14_ring_44 : decode cX14_ring 44 = .ok (.iconst 1, 1) := by decide +kernel
theorem dX14_ring_45 : decode cX14_ring 45 = .ok (.iand, 1) := by decide +kernel
theorem dX14_ring_46 : decode cX14_ring 46 = .ok (.ifCond .ne 6, 3) := by decide +kernel
theorem dX14_ring_49 : decode cX14_ring 49 = .ok (.goto 150, 3) := by decide +kernel
theorem dX14_ring_52 : decode cX14_ring 52 = .ok (.iconst 0, 1) := by decide +kernel
theorem dX14_ring_53 : decode cX14_ring 53 = .ok (.istore 5, 2) := by decide +kernel
theorem dX14_ring_55 : decode cX14_ring 55 = .ok (.iload 5, 2) := by decide +kernel
theorem dX14_ring_57 : decode cX14_ring 57 = .ok (.aload_n 0, 1) := by decide +kernel
theorem dX14_ring_58 : decode cX14_ring 58 = .ok (.getfield 32, 3) := by decide +kernel
theorem dX14_ring_61 : decode cX14_ring 61 = .ok (.invokevirtual 47, 3) := by decide +kernel
theorem dX14_ring_64 : decode cX14_ring 64 = .ok (.if_icmp .ge 135, 3) := by decide +kernel
theorem dX14_ring_67 : decode cX14_ring 67 = .ok (.aload_n 0, 1) := by decide +kernel
theorem dX14_ring_68 : decode cX14_ring 68 = .ok (.getfield 32, 3) := by decide +kernel
theorem dX14_ring_71 : decode cX14_ring 71 = .ok (.iload 5, 2) := by decide +kernel
theorem dX14_ring_73 : decode cX14_ring 73 = .ok (.invokevirtual 90, 3) := by decide +kernel
theorem dX14_ring_76 : decode cX14_ring 76 = .ok (.checkcast 165, 3) := by decide +kernel
theorem dX14_ring_79 : decode cX14_ring 79 = .ok (.invokevirtual 167, 3) := by decide +kernel
theorem dX14_ring_82 : decode cX14_ring 82 = .ok (.istore 6, 2) := by decide +kernel
theorem dX14_ring_84 : decode cX14_ring 84 = .ok (.aload_n 0, 1) := by decide +kernel
theorem dX14_ring_85 : decode cX14_ring 85 = .ok (.getfield 32, 3) := by decide +kernel
theorem dX14_ring_88 : decode cX14_ring 88 = .ok (.iload 4, 2) := by decide +kernel
theorem dX14_ring_90 : decode cX14_ring 90 = .ok (.iconst 1, 1) := by decide +kernel
theorem dX14_ring_91 : decode cX14_ring 91 = .ok (.iadd, 1) := by decide +kernel
theorem dX14_ring_92 : decode cX14_ring 92 = .ok (.invokevirtual 90, 3) := by decide +kernel
theorem dX14_ring_95 : decode cX14_ring 95 = .ok (.checkcast 165, 3) := by decide +kernel
theorem dX14_ring_98 : decode cX14_ring 98 = .ok (.invokevirtual 167, 3) := by decide +kernel
theorem dX14_ring_101 : decode cX14_ring 101 = .ok (.istore 7, 2) := by decide +kernel
theorem dX14_ring_103 : decode cX14_ring 103 = .ok (.aload_n 0, 1) := by decide +kernel
theorem dX14_ring_104 : decode cX14_ring 104 = .ok (.getfield 32, 3) := by decide +kernel
theorem dX14_ring_107 : decode cX14_ring 107 = .ok (.iload 4, 2) := by decide +kernel
theorem dX14_ring_109 : decode cX14_ring 109 = .ok (.iconst 2, 1) := by decide +kernel
theorem dX14_ring_110 : decode cX14_ring 110 = .ok (.iadd, 1) := by decide +kernel
theorem dX14_ring_111 : decode cX14_ring 111 = .ok (.invokevirtual 90, 3) := by decide +kernel
theorem dX14_ring_114 : decode cX14_ring 114 = .ok (.checkcast 165, 3) := by decide +kernel
theorem dX14_ring_117 : decode cX14_ring 117 = .ok (.invokevirtual 167, 3) := by decide +kernel
theorem dX14_ring_120 : decode cX14_ring 120 = .ok (.aload_n 0, 1) := by decide +kernel
theorem dX14_ring_121 : decode cX14_ring 121 = .ok (.getfield 32, 3) := by decide +kernel
theorem dX14_ring_124 : decode cX14_ring 124 = .ok (.iload 5, 2) := by decide +kernel
theorem dX14_ring_126 : decode cX14_ring 126 = .ok (.iconst 2, 1) := by decide +kernel
theorem dX14_ring_127 : decode cX14_ring 127 = .ok (.iadd, 1) := by decide +kernel
theorem dX14_ring_128 : decode cX14_ring 128 = .ok (.invokevirtual 90, 3) := by decide +kernel
theorem dX14_ring_131 : decode cX14_ring 131 = .ok (.checkcast 165, 3) := by decide +kernel
theorem dX14_ring_134 : decode cX14_ring 134 = .ok (.invokevirtual 167, 3) := by decide +kernel
theorem dX14_ring_137 : decode cX14_ring 137 = .ok (.isub, 1) := by decide +kernel
theorem dX14_ring_138 : decode cX14_ring 138 = .ok (.invokestatic 193, 3) := by decide +kernel
theorem dX14_ring_141 : decode cX14_ring 141 = .ok (.istore 8, 2) := by decide +kernel
theorem dX14_ring_143 : decode cX14_ring 143 = .ok (.iload_n 2, 1) := by decide +kernel
theorem dX14_ring_144 : decode cX14_ring 144 = .ok (.iload 6, 2) := by decide +kernel
theorem dX14_ring_146 : decode cX14_ring 146 = .ok (.ishr, 1) := by decide +kernel
theorem dX14_ring_147 : decode cX14_ring 147 = .ok (.iconst 1, 1) := by decide +kernel
theorem dX14_ring_148 : decode cX14_ring 148 = .ok (.iand, 1) := by decide +kernel
theorem dX14_ring_149 : decode cX14_ring 149 = .ok (.iconst 1, 1) := by decide +kernel
theorem dX14_ring_150 : decode cX14_ring 150 = .ok (.if_icmp .eq 43, 3) := by decide +kernel
theorem dX14_ring_153 : decode cX14_ring 153 = .ok (.aload_n 0, 1) := by decide +kernel
theorem dX14_ring_154 : decode cX14_ring 154 = .ok (.getfield 32, 3) := by decide +kernel
theorem dX14_ring_157 : decode cX14_ring 157 = .ok (.iload 5, 2) := by decide +kernel
theorem dX14_ring_159 : decode cX14_ring 159 = .ok (.iconst 1, 1) := by decide +kernel
theorem dX14_ring_160 : decode cX14_ring 160 = .ok (.iadd, 1) := by decide +kernel
theorem dX14_ring_161 : decode cX14_ring 161 = .ok (.invokevirtual 90, 3) := by decide +kernel
theorem dX14_ring_164 : decode cX14_ring 164 = .ok (.checkcast 165, 3) := by decide +kernel
theorem dX14_ring_167 : decode cX14_ring 167 = .ok (.invokevirtual 167, 3) := by decide +kernel
theorem dX14_ring_170 : decode cX14_ring 170 = .ok (.iload 7, 2) := by decide +kernel
theorem dX14_ring_172 : decode cX14_ring 172 = .ok (.if_icmp .ne 21, 3) := by decide +kernel
theorem dX14_ring_175 : decode cX14_ring 175 = .ok (.iload 8, 2) := by decide +kernel
theorem dX14_ring_177 : decode cX14_ring 177 = .ok (.iconst 2, 1) := by decide +kernel
theorem dX14_ring_178 : decode cX14_ring 178 = .ok (.if_icmp .le 6, 3) := by decide +kernel
theorem dX14_ring_181 : decode cX14_ring 181 = .ok (.goto 12, 3) := by decide +kernel
theorem dX14_ring_184 : decode cX14_ring 184 = .ok (.iload_n 2, 1) := by decide +kernel
theorem dX14_ring_185 : decode cX14_ring 185 = .ok (.iconst 1, 1) := by decide +kernel
theorem dX14_ring_186 : decode cX14_ring 186 = .ok (.iload 6, 2) := by decide +kernel
theorem dX14_ring_188 : decode cX14_ring 188 = .ok (.ishl, 1) := by decide +kernel
theorem dX14_ring_189 : decode cX14_ring 189 = .ok (.ior, 1) := by decide +kernel
theorem dX14_ring_190 : decode cX14_ring 190 = .ok (.istore_n 2, 1) := by decide +kernel
theorem dX14_ring_191 : decode cX14_ring 191 = .ok (.iconst 1, 1) := by decide +kernel
theorem dX14_ring_192 : decode cX14_ring 192 = .ok (.istore_n 3, 1) := by decide +kernel
theorem dX14_ring_193 : decode cX14_ring 193 = .ok (.iinc 5 3, 3) := by decide +kernel
theorem dX14_ring_196 : decode cX14_ring 196 = .ok (.goto (-141), 3) := by decide +kernel
theorem dX14_ring_199 : decode cX14_ring 199 = .ok (.iinc 4 3, 3) := by decide +kernel
theorem dX14_ring_202 : decode cX14_ring 202 = .ok (.goto (-187), 3) := by decide +kernel
theorem dX14_ring_205 : decode cX14_ring 205 = .ok (.goto (-199), 3) := by decide +kernel
theorem dX14_ring_208 : decode cX14_ring 208 = .ok (.iload_n 2, 1) := by decide +kernel
theorem dX14_ring_209 : decode cX14_ring 209 = .ok (.ireturn, 1) := by decide +kernel
set_option maxRecDepth 100000 in
theorem ggX14_ofSleeperNow_Jx4a65c_get_915e3 : GoodIn wsX14_ofSleeperNow wsJx4a65c_get_915e3 := wk_g rfl wm_X14_ofSleeperNow 2177 wc_Jx4a65c_get_915e3 rfl (by decide +kernel) (by decide +kernel) wq_Jx4a65c_get_915e3
set_option maxRecDepth 100000 in
theorem gX14_ofSleeperNow_Jx4a65c_get_915e3 : GoodIn wsX14_ofSleeperNow (wsV RX14 90 RJx4a65c yJx4a65c_get_915e3 wsJx4a65c_get_915e3) := goodIn_app (wk_h rfl wm_X14_ofSleeperNow [8019, 2175, 2176, 2004] (by decide +kernel) (by decide +kernel) (by decide +kernel)) ggX14_ofSleeperNow_Jx4a65c_get_915e3
set_option maxRecDepth 100000 in
theorem ggX14_ofSleeperNow_X10_place : GoodIn wsX14_ofSleeperNow wsX10_place := wk_g rfl wm_X14_ofSleeperNow 8164 wc_X10_place rfl (by decide +kernel) (by decide +kernel) wq_X10_place
set_option maxRecDepth 100000 in
theorem gX14_ofSleeperNow_X10_place : GoodIn wsX14_ofSleeperNow (wsV RX14 183 RX10 yX10_place wsX10_place) := goodIn_app (wk_h rfl wm_X14_ofSleeperNow [8161, 8162, 8163, 2022] (by decide +kernel) (by decide +kernel) (by decide +kernel)) ggX14_ofSleeperNow_X10_place
set_option maxRecDepth 100000 in
theorem ggX14_ofSleeperNow_X14_head : GoodIn wsX14_ofSleeperNow wsX14_head := wk_g rfl wm_X14_ofSleeperNow 8126 wc_X14_head rfl (by decide +kernel) (by decide +kernel) wq_X14_head
set_option maxRecDepth 100000 in
theorem gX14_ofSleeperNow_X14_head : GoodIn wsX14_ofSleeperNow (wsV RX14 156 RX14 yX14_head wsX14_head) := goodIn_app (wk_h rfl wm_X14_ofSleeperNow [8123, 8125, 1050, 2007] (by decide +kernel) (by decide +kernel) (by decide +kernel)) ggX14_ofSleeperNow_X14_head
set_option maxRecDepth 100000 in
theorem ggX14_ofSleeperNow_X14_ring : GoodIn wsX14_ofSleeperNow wsX14_ring := wk_g rfl wm_X14_ofSleeperNow 9074 wc_X14_ring rfl (by decide +kernel) (by decide +kernel) wq_X14_ring
set_option maxRecDepth 100000 in
theorem gX14_ofSleeperNow_X14_ring : GoodIn wsX14_ofSleeperNow (wsV RX14 293 RX14 yX14_ring wsX14_ring) := goodIn_app (wk_h rfl wm_X14_ofSleeperNow [9071, 9073, 1064, 2007] (by decide +kernel) (by decide +kernel) (by decide +kernel)) ggX14_ofSleeperNow_X14_ring
set_option maxRecDepth 100000 in
theorem ggX14_ofSleeperNow_Jx4a65c_size_8abf5 : GoodIn wsX14_ofSleeperNow wsJx4a65c_size_8abf5 := wk_g rfl wm_X14_ofSleeperNow 2173 wc_Jx4a65c_size_8abf5 rfl (by decide +kernel) (by decide +kernel) wq_Jx4a65c_size_8abf5
set_option maxRecDepth 100000 in
theorem gX14_ofSleeperNow_Jx4a65c_size_8abf5 : GoodIn wsX14_ofSleeperNow (wsV RX14 47 RJx4a65c yJx4a65c_size_8abf5 wsJx4a65c_size_8abf5) := goodIn_app (wk_h rfl wm_X14_ofSleeperNow [7208, 2171, 2172, 2004] (by decide +kernel) (by decide +kernel) (by decide +kernel)) ggX14_ofSleeperNow_Jx4a65c_size_8abf5
set_option maxRecDepth 100000 in
theorem ggX14_ofSleeperNow_J6_intValue_8abf5 : GoodIn wsX14_ofSleeperNow wsJ6_intValue_8abf5 := wk_g rfl wm_X14_ofSleeperNow 8135 wc_J6_intValue_8abf5 rfl (by decide +kernel) (by decide +kernel) wq_J6_intValue_8abf5
set_option maxRecDepth 100000 in
theorem gX14_ofSleeperNow_J6_intValue_8abf5 : GoodIn wsX14_ofSleeperNow (wsV RX14 167 RJ6 yJ6_intValue_8abf5 wsJ6_intValue_8abf5) := goodIn_app (wk_h rfl wm_X14_ofSleeperNow [8132, 8133, 8134, 2036] (by decide +kernel) (by decide +kernel) (by decide +kernel)) ggX14_ofSleeperNow_J6_intValue_8abf5
theorem dX14_ofSleeperNow_0 : decode cX14_ofSleeperNow 0 = .ok (.aload_n 0, 1) := by decide +kernel
theorem dX14_ofSleeperNow_1 : decode cX14_ofSleeperNow 1 = .ok (.getfield 26, 3) := by decide +kernel
theorem dX14_ofSleeperNow_4 : decode cX14_ofSleeperNow 4 = .ok (.iload_n 1, 1) := by decide +kernel
theorem dX14_ofSleeperNow_5 : decode cX14_ofSleeperNow 5 = .ok (.invokevirtual 90, 3) := by decide +kernel
theorem dX14_ofSleeperNow_8 : decode cX14_ofSleeperNow 8 = .ok (.checkcast 100, 3) := by decide +kernel
theorem dX14_ofSleeperNow_11 : decode cX14_ofSleeperNow 11 = .ok (.astore_n 3, 1) := by decide +kernel
theorem dX14_ofSleeperNow_12 : decode cX14_ofSleeperNow 12 = .ok (.iconst 0, 1) := by decide +kernel
theorem dX14_ofSleeperNow_13 : decode cX14_ofSleeperNow 13 = .ok (.istore 4, 2) := by decide +kernel
theorem dX14_ofSleeperNow_15 : decode cX14_ofSleeperNow 15 = .ok (.iload_n 2, 1) := by decide +kernel
theorem dX14_ofSleeperNow_16 : decode cX14_ofSleeperNow 16 = .ok (.tableswitch 116 0 7 #[48, 53, 58, 63, 68, 99, 105, 110], 48) := by decide +kernel
theorem dX14_ofSleeperNow_64 : decode cX14_ofSleeperNow 64 = .ok (.aload_n 3, 1) := by decide +kernel
theorem dX14_ofSleeperNow_65 : decode cX14_ofSleeperNow 65 = .ok (.getfield 103, 3) := by decide +kernel
theorem dX14_ofSleeperNow_68 : decode cX14_ofSleeperNow 68 = .ok (.ireturn, 1) := by decide +kernel
theorem dX14_ofSleeperNow_69 : decode cX14_ofSleeperNow 69 = .ok (.aload_n 3, 1) := by decide +kernel
theorem dX14_ofSleeperNow_70 : decode cX14_ofSleeperNow 70 = .ok (.getfield 110, 3) := by decide +kernel
theorem dX14_ofSleeperNow_73 : decode cX14_ofSleeperNow 73 = .ok (.ireturn, 1) := by decide +kernel
theorem dX14_ofSleeperNow_74 : decode cX14_ofSleeperNow 74 = .ok (.aload_n 3, 1) := by decide +kernel
theorem dX14_ofSleeperNow_75 : decode cX14_ofSleeperNow 75 = .ok (.getfield 116, 3) := by decide +kernel
theorem dX14_ofSleeperNow_78 : decode cX14_ofSleeperNow 78 = .ok (.ireturn, 1) := by decide +kernel
theorem dX14_ofSleeperNow_79 : decode cX14_ofSleeperNow 79 = .ok (.aload_n 3, 1) := by decide +kernel
theorem dX14_ofSleeperNow_80 : decode cX14_ofSleeperNow 80 = .ok (.getfield 177, 3) := by decide +kernel
theorem dX14_ofSleeperNow_83 : decode cX14_ofSleeperNow 83 = .ok (.ireturn, 1) := by decide +kernel
theorem dX14_ofSleeperNow_84 : decode cX14_ofSleeperNow 84 = .ok (.aload_n 3, 1) := by decide +kernel
theorem dX14_ofSleeperNow_85 : decode cX14_ofSleeperNow 85 = .ok (.getfield 177, 3) := by decide +kernel
theorem dX14_ofSleeperNow_88 : decode cX14_ofSleeperNow 88 = .ok (.iconst (-1), 1) := by decide +kernel
theorem dX14_ofSleeperNow_89 : decode cX14_ofSleeperNow 89 = .ok (.if_icmp .ne 7, 3) := by decide +kernel
theorem dX14_ofSleeperNow_92 : decode cX14_ofSleeperNow 92 = .ok (.iconst (-1), 1) := by decide +kernel
theorem dX14_ofSleeperNow_93 : decode cX14_ofSleeperNow 93 = .ok (.goto 21, 3) := by decide +kernel
theorem dX14_ofSleeperNow_96 : decode cX14_ofSleeperNow 96 = .ok (.aload_n 0, 1) := by decide +kernel
theorem dX14_ofSleeperNow_97 : decode cX14_ofSleeperNow 97 = .ok (.getfield 22, 3) := by decide +kernel
theorem dX14_ofSleeperNow_100 : decode cX14_ofSleeperNow 100 = .ok (.aload_n 3, 1) := by decide +kernel
theorem dX14_ofSleeperNow_101 : decode cX14_ofSleeperNow 101 = .ok (.getfield 177, 3) := by decide +kernel
theorem dX14_ofSleeperNow_104 : decode cX14_ofSleeperNow 104 = .ok (.invokevirtual 90, 3) := by decide +kernel
theorem dX14_ofSleeperNow_107 : decode cX14_ofSleeperNow 107 = .ok (.checkcast 68, 3) := by decide +kernel
theorem dX14_ofSleeperNow_110 : decode cX14_ofSleeperNow 110 = .ok (.iload_n 1, 1) := by decide +kernel
theorem dX14_ofSleeperNow_111 : decode cX14_ofSleeperNow 111 = .ok (.invokevirtual 183, 3) := by decide +kernel
theorem dX14_ofSleeperNow_114 : decode cX14_ofSleeperNow 114 = .ok (.ireturn, 1) := by decide +kernel
theorem dX14_ofSleeperNow_115 : decode cX14_ofSleeperNow 115 = .ok (.aload_n 0, 1) := by decide +kernel
theorem dX14_ofSleeperNow_116 : decode cX14_ofSleeperNow 116 = .ok (.iload_n 1, 1) := by decide +kernel
theorem dX14_ofSleeperNow_117 : decode cX14_ofSleeperNow 117 = .ok (.invokevirtual 156, 3) := by decide +kernel
theorem dX14_ofSleeperNow_120 : decode cX14_ofSleeperNow 120 = .ok (.ireturn, 1) := by decide +kernel
theorem dX14_ofSleeperNow_121 : decode cX14_ofSleeperNow 121 = .ok (.aload_n 3, 1) := by decide +kernel
theorem dX14_ofSleeperNow_122 : decode cX14_ofSleeperNow 122 = .ok (.getfield 146, 3) := by decide +kernel
theorem dX14_ofSleeperNow_125 : decode cX14_ofSleeperNow 125 = .ok (.ireturn, 1) := by decide +kernel
theorem dX14_ofSleeperNow_126 : decode cX14_ofSleeperNow 126 = .ok (.aload_n 0, 1) := by decide +kernel
theorem dX14_ofSleeperNow_127 : decode cX14_ofSleeperNow 127 = .ok (.iload_n 1, 1) := by decide +kernel
theorem dX14_ofSleeperNow_128 : decode cX14_ofSleeperNow 128 = .ok (.invokevirtual 293, 3) := by decide +kernel
theorem dX14_ofSleeperNow_131 : decode cX14_ofSleeperNow 131 = .ok (.ireturn, 1) := by decide +kernel
theorem dX14_ofSleeperNow_132 : decode cX14_ofSleeperNow 132 = .ok (.iconst 0, 1) := by decide +kernel
theorem dX14_ofSleeperNow_133 : decode cX14_ofSleeperNow 133 = .ok (.istore 5, 2) := by decide +kernel
theorem dX14_ofSleeperNow_135 : decode cX14_ofSleeperNow 135 = .ok (.iload 5, 2) := by decide +kernel
theorem dX14_ofSleeperNow_137 : decode cX14_ofSleeperNow 137 = .ok (.aload_n 0, 1) := by decide +kernel
theorem dX14_ofSleeperNow_138 : decode cX14_ofSleeperNow 138 = .ok (.getfield 32, 3) := by decide +kernel
theorem dX14_ofSleeperNow_141 : decode cX14_ofSleeperNow 141 = .ok (.invokevirtual 47, 3) := by decide +kernel
theorem dX14_ofSleeperNow_144 : decode cX14_ofSleeperNow 144 = .ok (.if_icmp .ge 38, 3) := by decide +kernel
theorem dX14_ofSleeperNow_147 : decode cX14_ofSleeperNow 147 = .ok (.iload 4, 2) := by decide +kernel
theorem dX14_ofSleeperNow_149 : decode cX14_ofSleeperNow 149 = .ok (.aload_n 0, 1) := by decide +kernel
theorem dX14_ofSleeperNow_150 : decode cX14_ofSleeperNow 150 = .ok (.getfield 32, 3) := by decide +kernel
theorem dX14_ofSleeperNow_153 : decode cX14_ofSleeperNow 153 = .ok (.iload 5, 2) := by decide +kernel
theorem dX14_ofSleeperNow_155 : decode cX14_ofSleeperNow 155 = .ok (.invokevirtual 90, 3) := by decide +kernel
theorem dX14_ofSleeperNow_158 : decode cX14_ofSleeperNow 158 = .ok (.checkcast 165, 3) := by decide +kernel
theorem dX14_ofSleeperNow_161 : decode cX14_ofSleeperNow 161 = .ok (.invokevirtual 167, 3) := by decide +kernel
theorem dX14_ofSleeperNow_164 : decode cX14_ofSleeperNow 164 = .ok (.iload_n 1, 1) := by decide +kernel
theorem dX14_ofSleeperNow_165 : decode cX14_ofSleeperNow 165 = .ok (.if_icmp .ne 7, 3) := by decide +kernel
theorem dX14_ofSleeperNow_168 : decode cX14_ofSleeperNow 168 = .ok (.iconst 1, 1) := by decide +kernel
theorem dX14_ofSleeperNow_169 : decode cX14_ofSleeperNow 169 = .ok (.goto 4, 3) := by decide +kernel
theorem dX14_ofSleeperNow_172 : decode cX14_ofSleeperNow 172 = .ok (.iconst 0, 1) := by decide +kernel
theorem dX14_ofSleeperNow_173 : decode cX14_ofSleeperNow 173 = .ok (.iadd, 1) := by decide +kernel
theorem dX14_ofSleeperNow_174 : decode cX14_ofSleeperNow 174 = .ok (.istore 4, 2) := by decide +kernel
theorem dX14_ofSleeperNow_176 : decode cX14_ofSleeperNow 176 = .ok (.iinc 5 3, 3) := by decide +kernel
theorem dX14_ofSleeperNow_179 : decode cX14_ofSleeperNow 179 = .ok (.goto (-44), 3) := by decide +kernel
theorem dX14_ofSleeperNow_182 : decode cX14_ofSleeperNow 182 = .ok (.iload 4, 2) := by decide +kernel
theorem dX14_ofSleeperNow_184 : decode cX14_ofSleeperNow 184 = .ok (.ireturn, 1) := by decide +kernel
set_option maxRecDepth 100000 in
theorem ggX14_ofSleeper_X14_isSleeper : GoodIn wsX14_ofSleeper wsX14_isSleeper := wk_g rfl wm_X14_ofSleeper 8072 wc_X14_isSleeper rfl (by decide +kernel) (by decide +kernel) wq_X14_isSleeper
set_option maxRecDepth 100000 in
theorem gX14_ofSleeper_X14_isSleeper : GoodIn wsX14_ofSleeper (wsV RX14 113 RX14 yX14_isSleeper wsX14_isSleeper) := goodIn_app (wk_h rfl wm_X14_ofSleeper [8069, 8071, 1048, 2007] (by decide +kernel) (by decide +kernel) (by decide +kernel)) ggX14_ofSleeper_X14_isSleeper
set_option maxRecDepth 100000 in
theorem ggX14_ofSleeper_X14_refuse : GoodIn wsX14_ofSleeper wsX14_refuse := wk_g rfl wm_X14_ofSleeper 7199 wc_X14_refuse rfl (by decide +kernel) (by decide +kernel) wq_X14_refuse
set_option maxRecDepth 100000 in
theorem gX14_ofSleeper_X14_refuse : GoodIn wsX14_ofSleeper (wsV RX14 55 RX14 yX14_refuse wsX14_refuse) := goodIn_app (wk_h rfl wm_X14_ofSleeper [7196, 7198, 1046, 2007] (by decide +kernel) (by decide +kernel) (by decide +kernel)) ggX14_ofSleeper_X14_refuse
set_option maxRecDepth 100000 in
theorem ggX14_ofSleeper_X14_is : GoodIn wsX14_ofSleeper wsX14_is := wk_g rfl wm_X14_ofSleeper 7195 wc_X14_is rfl (by decide +kernel) (by decide +kernel) wq_X14_is
set_option maxRecDepth 100000 in
theorem gX14_ofSleeper_X14_is : GoodIn wsX14_ofSleeper (va_wsS RX14 43 yX14_is wsX14_is) := goodIn_app (wk_h rfl wm_X14_ofSleeper [7193, 7194, 2007] (by decide +kernel) (by decide +kernel) (by decide +kernel)) ggX14_ofSleeper_X14_is
set_option maxRecDepth 100000 in
theorem ggX14_ofSleeper_X14_ofSleeperNow : GoodIn wsX14_ofSleeper wsX14_ofSleeperNow := wk_g rfl wm_X14_ofSleeper 9070 wc_X14_ofSleeperNow rfl (by decide +kernel) (by decide +kernel) wq_X14_ofSleeperNow
set_option maxRecDepth 100000 in
theorem gX14_ofSleeper_X14_ofSleeperNow : GoodIn wsX14_ofSleeper (wsV RX14 296 RX14 yX14_ofSleeperNow wsX14_ofSleeperNow) := goodIn_app (wk_h rfl wm_X14_ofSleeper [9067, 9069, 1063, 2007] (by decide +kernel) (by decide +kernel) (by decide +kernel)) ggX14_ofSleeper_X14_ofSleeperNow
theorem dX14_ofSleeper_0 : decode cX14_ofSleeper 0 = .ok (.aload_n 0, 1) := by decide +kernel
theorem dX14_ofSleeper_1 : decode cX14_ofSleeper 1 = .ok (.iconst 0, 1) := by decide +kernel
theorem dX14_ofSleeper_2 : decode cX14_ofSleeper 2 = .ok (.putfield 40, 3) := by decide +kernel
theorem dX14_ofSleeper_5 : decode cX14_ofSleeper 5 = .ok (.aload_n 0, 1) := by decide +kernel
theorem dX14_ofSleeper_6 : decode cX14_ofSleeper 6 = .ok (.iload_n 1, 1) := by decide +kernel
theorem dX14_ofSleeper_7 : decode cX14_ofSleeper 7 = .ok (.invokevirtual 113, 3) := by decide +kernel
theorem dX14_ofSleeper_10 : decode cX14_ofSleeper 10 = .ok (.ifCond .ne 9, 3) := by decide +kernel
theorem dX14_ofSleeper_13 : decode cX14_ofSleeper 13 = .ok (.aload_n 0, 1) := by decide +kernel
theorem dX14_ofSleeper_14 : decode cX14_ofSleeper 14 = .ok (.iconst 1, 1) := by decide +kernel
theorem dX14_ofSleeper_15 : decode cX14_ofSleeper 15 = .ok (.invokevirtual 55, 3) := by decide +kernel
theorem dX14_ofSleeper_18 : decode cX14_ofSleeper 18 = .ok (.ireturn, 1) := by decide +kernel
theorem dX14_ofSleeper_19 : decode cX14_ofSleeper 19 = .ok (.iload_n 2, 1) := by decide +kernel
theorem dX14_ofSleeper_20 : decode cX14_ofSleeper 20 = .ok (.iconst 0, 1) := by decide +kernel
theorem dX14_ofSleeper_21 : decode cX14_ofSleeper 21 = .ok (.bipush 8, 2) := by decide +kernel
theorem dX14_ofSleeper_23 : decode cX14_ofSleeper 23 = .ok (.invokestatic 43, 3) := by decide +kernel
theorem dX14_ofSleeper_26 : decode cX14_ofSleeper 26 = .ok (.ifCond .eq 12, 3) := by decide +kernel
theorem dX14_ofSleeper_29 : decode cX14_ofSleeper 29 = .ok (.aload_n 0, 1) := by decide +kernel
theorem dX14_ofSleeper_30 : decode cX14_ofSleeper 30 = .ok (.iload_n 1, 1) := by decide +kernel
theorem dX14_ofSleeper_31 : decode cX14_ofSleeper 31 = .ok (.iload_n 2, 1) := by decide +kernel
theorem dX14_ofSleeper_32 : decode cX14_ofSleeper 32 = .ok (.invokevirtual 296, 3) := by decide +kernel
theorem dX14_ofSleeper_35 : decode cX14_ofSleeper 35 = .ok (.goto 8, 3) := by decide +kernel
theorem dX14_ofSleeper_38 : decode cX14_ofSleeper 38 = .ok (.aload_n 0, 1) := by decide +kernel
theorem dX14_ofSleeper_39 : decode cX14_ofSleeper 39 = .ok (.iconst 2, 1) := by decide +kernel
theorem dX14_ofSleeper_40 : decode cX14_ofSleeper 40 = .ok (.invokevirtual 55, 3) := by decide +kernel
theorem dX14_ofSleeper_43 : decode cX14_ofSleeper 43 = .ok (.ireturn, 1) := by decide +kernel
set_option maxRecDepth 100000 in
theorem ggX14_ofPartNow_Jx4a65c_get_915e3 : GoodIn wsX14_ofPartNow wsJx4a65c_get_915e3 := wk_g rfl wm_X14_ofPartNow 2177 wc_Jx4a65c_get_915e3 rfl (by decide +kernel) (by decide +kernel) wq_Jx4a65c_get_915e3
set_option maxRecDepth 100000 in
theorem gX14_ofPartNow_Jx4a65c_get_915e3 : GoodIn wsX14_ofPartNow (wsV RX14 90 RJx4a65c yJx4a65c_get_915e3 wsJx4a65c_get_915e3) := goodIn_app (wk_h rfl wm_X14_ofPartNow [8019, 2175, 2176, 2004] (by decide +kernel) (by decide +kernel) (by decide +kernel)) ggX14_ofPartNow_Jx4a65c_get_915e3
set_option maxRecDepth 100000 in
theorem ggX14_ofPartNow_X14_landOf : GoodIn wsX14_ofPartNow wsX14_landOf := wk_g rfl wm_X14_ofPartNow 9050 wc_X14_landOf rfl (by decide +kernel) (by decide +kernel) wq_X14_landOf
set_option maxRecDepth 100000 in
theorem gX14_ofPartNow_X14_landOf : GoodIn wsX14_ofPartNow (wsV RX14 276 RX14 yX14_landOf wsX14_landOf) := goodIn_app (wk_h rfl wm_X14_ofPartNow [9047, 9049, 1060, 2007] (by decide +kernel) (by decide +kernel) (by decide +kernel)) ggX14_ofPartNow_X14_landOf
theorem dX14_ofPartNow_0 : decode cX14_ofPartNow 0 = .ok (.aload_n 0, 1) := by decide +kernel
theorem dX14_ofPartNow_1 : decode cX14_ofPartNow 1 = .ok (.getfield 29, 3) := by decide +kernel
theorem dX14_ofPartNow_4 : decode cX14_ofPartNow 4 = .ok (.iload_n 1, 1) := by decide +kernel
theorem dX14_ofPartNow_5 : decode cX14_ofPartNow 5 = .ok (.invokevirtual 90, 3) := by decide +kernel
theorem dX14_ofPartNow_8 : decode cX14_ofPartNow 8 = .ok (.checkcast 119, 3) := by decide +kernel
theorem dX14_ofPartNow_11 : decode cX14_ofPartNow 11 = .ok (.astore_n 3, 1) := by decide +kernel
theorem dX14_ofPartNow_12 : decode cX14_ofPartNow 12 = .ok (.iload_n 2, 1) := by decide +kernel
theorem dX14_ofPartNow_13 : decode cX14_ofPartNow 13 = .ok (.tableswitch 61 0 4 #[35, 40, 45, 50, 55], 35) := by decide +kernel
theorem dX14_ofPartNow_48 : decode cX14_ofPartNow 48 = .ok (.aload_n 3, 1) := by decide +kernel
theorem dX14_ofPartNow_49 : decode cX14_ofPartNow 49 = .ok (.getfield 122, 3) := by decide +kernel
theorem dX14_ofPartNow_52 : decode cX14_ofPartNow 52 = .ok (.ireturn, 1) := by decide +kernel
theorem dX14_ofPartNow_53 : decode cX14_ofPartNow 53 = .ok (.aload_n 3, 1) := by decide +kernel
theorem dX14_ofPartNow_54 : decode cX14_ofPartNow 54 = .ok (.getfield 125, 3) := by decide +kernel
theorem dX14_ofPartNow_57 : decode cX14_ofPartNow 57 = .ok (.ireturn, 1) := by decide +kernel
theorem dX14_ofPartNow_58 : decode cX14_ofPartNow 58 = .ok (.aload_n 3, 1) := by decide +kernel
theorem dX14_ofPartNow_59 : decode cX14_ofPartNow 59 = .ok (.getfield 128, 3) := by decide +kernel
theorem dX14_ofPartNow_62 : decode cX14_ofPartNow 62 = .ok (.ireturn, 1) := by decide +kernel
theorem dX14_ofPartNow_63 : decode cX14_ofPartNow 63 = .ok (.aload_n 3, 1) := by decide +kernel
theorem dX14_ofPartNow_64 : decode cX14_ofPartNow 64 = .ok (.getfield 208, 3) := by decide +kernel
theorem dX14_ofPartNow_67 : decode cX14_ofPartNow 67 = .ok (.ireturn, 1) := by decide +kernel
theorem dX14_ofPartNow_68 : decode cX14_ofPartNow 68 = .ok (.aload_n 0, 1) := by decide +kernel
theorem dX14_ofPartNow_69 : decode cX14_ofPartNow 69 = .ok (.aload_n 3, 1) := by decide +kernel
theorem dX14_ofPartNow_70 : decode cX14_ofPartNow 70 = .ok (.invokevirtual 276, 3) := by decide +kernel
theorem dX14_ofPartNow_73 : decode cX14_ofPartNow 73 = .ok (.ireturn, 1) := by decide +kernel
theorem dX14_ofPartNow_74 : decode cX14_ofPartNow 74 = .ok (.aload_n 3, 1) := by decide +kernel
theorem dX14_ofPartNow_75 : decode cX14_ofPartNow 75 = .ok (.getfield 131, 3) := by decide +kernel
theorem dX14_ofPartNow_78 : decode cX14_ofPartNow 78 = .ok (.bipush 100, 2) := by decide +kernel
theorem dX14_ofPartNow_80 : decode cX14_ofPartNow 80 = .ok (.if_icmp .ge 10, 3) := by decide +kernel
theorem dX14_ofPartNow_83 : decode cX14_ofPartNow 83 = .ok (.aload_n 3, 1) := by decide +kernel
theorem dX14_ofPartNow_84 : decode cX14_ofPartNow 84 = .ok (.getfield 131, 3) := by decide +kernel
theorem dX14_ofPartNow_87 : decode cX14_ofPartNow 87 = .ok (.goto 4, 3) := by decide +kernel
theorem dX14_ofPartNow_90 : decode cX14_ofPartNow 90 = .ok (.iconst (-1), 1) := by decide +kernel
theorem dX14_ofPartNow_91 : decode cX14_ofPartNow 91 = .ok (.ireturn, 1) := by decide +kernel
set_option maxRecDepth 100000 in
theorem ggX14_ofPart_X14_isPart : GoodIn wsX14_ofPart wsX14_isPart := wk_g rfl wm_X14_ofPart 8107 wc_X14_isPart rfl (by decide +kernel) (by decide +kernel) wq_X14_isPart
set_option maxRecDepth 100000 in
theorem gX14_ofPart_X14_isPart : GoodIn wsX14_ofPart (wsV RX14 134 RX14 yX14_isPart wsX14_isPart) := goodIn_app (wk_h rfl wm_X14_ofPart [8104, 8106, 1049, 2007] (by decide +kernel) (by decide +kernel) (by decide +kernel)) ggX14_ofPart_X14_isPart
set_option maxRecDepth 100000 in
theorem ggX14_ofPart_X14_refuse : GoodIn wsX14_ofPart wsX14_refuse := wk_g rfl wm_X14_ofPart 7199 wc_X14_refuse rfl (by decide +kernel) (by decide +kernel) wq_X14_refuse
set_option maxRecDepth 100000 in
theorem gX14_ofPart_X14_refuse : GoodIn wsX14_ofPart (wsV RX14 55 RX14 yX14_refuse wsX14_refuse) := goodIn_app (wk_h rfl wm_X14_ofPart [7196, 7198, 1046, 2007] (by decide +kernel) (by decide +kernel) (by decide +kernel)) ggX14_ofPart_X14_refuse
set_option maxRecDepth 100000 in
theorem ggX14_ofPart_X14_is : GoodIn wsX14_ofPart wsX14_is := wk_g rfl wm_X14_ofPart 7195 wc_X14_is rfl (by decide +kernel) (by decide +kernel) wq_X14_is
set_option maxRecDepth 100000 in
theorem gX14_ofPart_X14_is : GoodIn wsX14_ofPart (va_wsS RX14 43 yX14_is wsX14_is) := goodIn_app (wk_h rfl wm_X14_ofPart [7193, 7194, 2007] (by decide +kernel) (by decide +kernel) (by decide +kernel)) ggX14_ofPart_X14_is
set_option maxRecDepth 100000 in
theorem ggX14_ofPart_X14_ofPartNow : GoodIn wsX14_ofPart wsX14_ofPartNow := wk_g rfl wm_X14_ofPart 9082 wc_X14_ofPartNow rfl (by decide +kernel) (by decide +kernel) wq_X14_ofPartNow
set_option maxRecDepth 100000 in
theorem gX14_ofPart_X14_ofPartNow : GoodIn wsX14_ofPart (wsV RX14 299 RX14 yX14_ofPartNow wsX14_ofPartNow) := goodIn_app (wk_h rfl wm_X14_ofPart [9079, 9081, 1065, 2007] (by decide +kernel) (by decide +kernel) (by decide +kernel)) ggX14_ofPart_X14_ofPartNow
theorem dX14_ofPart_0 : decode cX14_ofPart 0 = .ok (.aload_n 0, 1) := by decide +kernel
theorem dX14_ofPart_1 : decode cX14_ofPart 1 = .ok (.iconst 0, 1) := by decide +kernel
theorem dX14_ofPart_2 : decode cX14_ofPart 2 = .ok (.putfield 40, 3) := by decide +kernel
theorem dX14_ofPart_5 : decode cX14_ofPart 5 = .ok (.aload_n 0, 1) := by decide +kernel
theorem dX14_ofPart_6 : decode cX14_ofPart 6 = .ok (.iload_n 1, 1) := by decide +kernel
theorem dX14_ofPart_7 : decode cX14_ofPart 7 = .ok (.invokevirtual 134, 3) := by decide +kernel
theorem dX14_ofPart_10 : decode cX14_ofPart 10 = .ok (.ifCond .ne 9, 3) := by decide +kernel
theorem dX14_ofPart_13 : decode cX14_ofPart 13 = .ok (.aload_n 0, 1) := by decide +kernel
theorem dX14_ofPart_14 : decode cX14_ofPart 14 = .ok (.iconst 1, 1) := by decide +kernel
theorem dX14_ofPart_15 : decode cX14_ofPart 15 = .ok (.invokevirtual 55, 3) := by decide +kernel
theorem dX14_ofPart_18 : decode cX14_ofPart 18 = .ok (.ireturn, 1) := by decide +kernel
theorem dX14_ofPart_19 : decode cX14_ofPart 19 = .ok (.iload_n 2, 1) := by decide +kernel
theorem dX14_ofPart_20 : decode cX14_ofPart 20 = .ok (.iconst 0, 1) := by decide +kernel
theorem dX14_ofPart_21 : decode cX14_ofPart 21 = .ok (.iconst 5, 1) := by decide +kernel
theorem dX14_ofPart_22 : decode cX14_ofPart 22 = .ok (.invokestatic 43, 3) := by decide +kernel
theorem dX14_ofPart_25 : decode cX14_ofPart 25 = .ok (.ifCond .eq 12, 3) := by decide +kernel
theorem dX14_ofPart_28 : decode cX14_ofPart 28 = .ok (.aload_n 0, 1) := by decide +kernel
theorem dX14_ofPart_29 : decode cX14_ofPart 29 = .ok (.iload_n 1, 1) := by decide +kernel
theorem dX14_ofPart_30 : decode cX14_ofPart 30 = .ok (.iload_n 2, 1) := by decide +kernel
theorem dX14_ofPart_31 : decode cX14_ofPart 31 = .ok (.invokevirtual 299, 3) := by decide +kernel
theorem dX14_ofPart_34 : decode cX14_ofPart 34 = .ok (.goto 8, 3) := by decide +kernel
theorem dX14_ofPart_37 : decode cX14_ofPart 37 = .ok (.aload_n 0, 1) := by decide +kernel
theorem dX14_ofPart_38 : decode cX14_ofPart 38 = .ok (.iconst 2, 1) := by decide +kernel
theorem dX14_ofPart_39 : decode cX14_ofPart 39 = .ok (.invokevirtual 55, 3) := by decide +kernel
theorem dX14_ofPart_42 : decode cX14_ofPart 42 = .ok (.ireturn, 1) := by decide +kernel
set_option maxRecDepth 100000 in
theorem ggX14_isGood_X14_isSleeper : GoodIn wsX14_isGood wsX14_isSleeper := wk_g rfl wm_X14_isGood 8072 wc_X14_isSleeper rfl (by decide +kernel) (by decide +kernel) wq_X14_isSleeper
set_option maxRecDepth 100000 in
theorem gX14_isGood_X14_isSleeper : GoodIn wsX14_isGood (wsV RX14 113 RX14 yX14_isSleeper wsX14_isSleeper) := goodIn_app (wk_h rfl wm_X14_isGood [8069, 8071, 1048, 2007] (by decide +kernel) (by decide +kernel) (by decide +kernel)) ggX14_isGood_X14_isSleeper
set_option maxRecDepth 100000 in
theorem ggX14_isGood_X14_isGate : GoodIn wsX14_isGood wsX14_isGate := wk_g rfl wm_X14_isGood 8018 wc_X14_isGate rfl (by decide +kernel) (by decide +kernel) wq_X14_isGate
set_option maxRecDepth 100000 in
theorem gX14_isGood_X14_isGate : GoodIn wsX14_isGood (wsV RX14 87 RX14 yX14_isGate wsX14_isGate) := goodIn_app (wk_h rfl wm_X14_isGood [8015, 8017, 1047, 2007] (by decide +kernel) (by decide +kernel) (by decide +kernel)) ggX14_isGood_X14_isGate
set_option maxRecDepth 100000 in
theorem ggX14_isGood_X14_isGoodNow : GoodIn wsX14_isGood wsX14_isGoodNow := wk_g rfl wm_X14_isGood 8186 wc_X14_isGoodNow rfl (by decide +kernel) (by decide +kernel) wq_X14_isGoodNow
set_option maxRecDepth 100000 in
theorem gX14_isGood_X14_isGoodNow : GoodIn wsX14_isGood (wsV RX14 253 RX14 yX14_isGoodNow wsX14_isGoodNow) := goodIn_app (wk_h rfl wm_X14_isGood [8183, 8185, 1052, 2007] (by decide +kernel) (by decide +kernel) (by decide +kernel)) ggX14_isGood_X14_isGoodNow
theorem dX14_isGood_0 : decode cX14_isGood 0 = .ok (.aload_n 0, 1) := by decide +kernel
theorem dX14_isGood_1 : decode cX14_isGood 1 = .ok (.aload_n 0, 1) := by decide +kernel
theorem dX14_isGood_2 : decode cX14_isGood 2 = .ok (.iload_n 1, 1) := by decide +kernel
theorem dX14_isGood_3 : decode cX14_isGood 3 = .ok (.invokevirtual 113, 3) := by decide +kernel
theorem dX14_isGood_6 : decode cX14_isGood 6 = .ok (.ifCond .eq 15, 3) := by decide +kernel
theorem dX14_isGood_9 : decode cX14_isGood 9 = .ok (.aload_n 0, 1) := by decide +kernel
theorem dX14_isGood_10 : decode cX14_isGood 10 = .ok (.iload_n 2, 1) := by decide +kernel
theorem dX14_isGood_11 : decode cX14_isGood 11 = .ok (.invokevirtual 87, 3) := by decide +kernel
theorem dX14_isGood_14 : decode cX14_isGood 14 = .ok (.ifCond .eq 7, 3) := by decide +kernel
theorem dX14_isGood_17 : decode cX14_isGood 17 = .ok (.iconst 0, 1) := by decide +kernel
theorem dX14_isGood_18 : decode cX14_isGood 18 = .ok (.goto 4, 3) := by decide +kernel
theorem dX14_isGood_21 : decode cX14_isGood 21 = .ok (.iconst 1, 1) := by decide +kernel
theorem dX14_isGood_22 : decode cX14_isGood 22 = .ok (.putfield 40, 3) := by decide +kernel
theorem dX14_isGood_25 : decode cX14_isGood 25 = .ok (.aload_n 0, 1) := by decide +kernel
theorem dX14_isGood_26 : decode cX14_isGood 26 = .ok (.getfield 40, 3) := by decide +kernel
theorem dX14_isGood_29 : decode cX14_isGood 29 = .ok (.ifCond .ne 16, 3) := by decide +kernel
theorem dX14_isGood_32 : decode cX14_isGood 32 = .ok (.aload_n 0, 1) := by decide +kernel
theorem dX14_isGood_33 : decode cX14_isGood 33 = .ok (.iload_n 1, 1) := by decide +kernel
theorem dX14_isGood_34 : decode cX14_isGood 34 = .ok (.iload_n 2, 1) := by decide +kernel
theorem dX14_isGood_35 : decode cX14_isGood 35 = .ok (.invokevirtual 253, 3) := by decide +kernel
theorem dX14_isGood_38 : decode cX14_isGood 38 = .ok (.ifCond .eq 7, 3) := by decide +kernel
theorem dX14_isGood_41 : decode cX14_isGood 41 = .ok (.iconst 1, 1) := by decide +kernel
theorem dX14_isGood_42 : decode cX14_isGood 42 = .ok (.goto 4, 3) := by decide +kernel
theorem dX14_isGood_45 : decode cX14_isGood 45 = .ok (.iconst 0, 1) := by decide +kernel
theorem dX14_isGood_46 : decode cX14_isGood 46 = .ok (.ireturn, 1) := by decide +kernel
set_option maxRecDepth 100000 in
theorem ggX14_queue_X14_isGate : GoodIn wsX14_queue wsX14_isGate := wk_g bm_X14_queue wm_X14_queue 8018 wc_X14_isGate rfl (by decide +kernel) (by decide +kernel) wq_X14_isGate
set_option maxRecDepth 100000 in
theorem gX14_queue_X14_isGate : GoodIn wsX14_queue (wsV RX14 87 RX14 yX14_isGate wsX14_isGate) := goodIn_app (wk_h bm_X14_queue wm_X14_queue [8015, 8017, 1047, 2007] (by decide +kernel) (by decide +kernel) (by decide +kernel)) ggX14_queue_X14_isGate
set_option maxRecDepth 100000 in
theorem ggX14_queue_J4_init_da8c8 : GoodIn wsX14_queue wsJ4_init_da8c8 := wk_g bm_X14_queue wm_X14_queue 5169 wc_J4_init_da8c8 rfl (by decide +kernel) (by decide +kernel) wq_J4_init_da8c8
set_option maxRecDepth 100000 in
theorem gX14_queue_J4_init_da8c8 : GoodIn wsX14_queue (wsJ4_init_da8c8) := ggX14_queue_J4_init_da8c8
set_option maxRecDepth 100000 in
theorem ggX14_queue_Jx4a65c_get_915e3 : GoodIn wsX14_queue wsJx4a65c_get_915e3 := wk_g bm_X14_queue wm_X14_queue 2177 wc_Jx4a65c_get_915e3 rfl (by decide +kernel) (by decide +kernel) wq_Jx4a65c_get_915e3
set_option maxRecDepth 100000 in
theorem gX14_queue_Jx4a65c_get_915e3 : GoodIn wsX14_queue (wsV RX14 90 RJx4a65c yJx4a65c_get_915e3 wsJx4a65c_get_915e3) := goodIn_app (wk_h bm_X14_queue wm_X14_queue [8019, 2175, 2176, 2004] (by decide +kernel) (by decide +kernel) (by decide +kernel)) ggX14_queue_Jx4a65c_get_915e3
set_option maxRecDepth 100000 in
theorem ggX14_queue_Jx4a65c_size_8abf5 : GoodIn wsX14_queue wsJx4a65c_size_8abf5 := wk_g bm_X14_queue wm_X14_queue 2173 wc_Jx4a65c_size_8abf5 rfl (by decide +kernel) (by decide +kernel) wq_Jx4a65c_size_8abf5
set_option maxRecDepth 100000 in
theorem gX14_queue_Jx4a65c_size_8abf5 : GoodIn wsX14_queue (wsV RX14 47 RJx4a65c yJx4a65c_size_8abf5 wsJx4a65c_size_8abf5) := goodIn_app (wk_h bm_X14_queue wm_X14_queue [7208, 2171, 2172, 2004] (by decide +kernel) (by decide +kernel) (by decide +kernel)) ggX14_queue_Jx4a65c_size_8abf5
set_option maxRecDepth 100000 in
theorem ggX14_queue_J6_intValue_8abf5 : GoodIn wsX14_queue wsJ6_intValue_8abf5 := wk_g bm_X14_queue wm_X14_queue 8135 wc_J6_intValue_8abf5 rfl (by decide +kernel) (by decide +kernel) wq_J6_intValue_8abf5
set_option maxRecDepth 100000 in
theorem gX14_queue_J6_intValue_8abf5 : GoodIn wsX14_queue (wsV RX14 167 RJ6 yJ6_intValue_8abf5 wsJ6_intValue_8abf5) := goodIn_app (wk_h bm_X14_queue wm_X14_queue [8132, 8133, 8134, 2036] (by decide +kernel) (by decide +kernel) (by decide +kernel)) ggX14_queue_J6_intValue_8abf5
set_option maxRecDepth 100000 in
theorem ggX14_queue_J4_append_15ec4 : GoodIn wsX14_queue wsJ4_append_15ec4 := wk_g bm_X14_queue wm_X14_queue 5200 wc_J4_append_15ec4 rfl (by decide +kernel) (by decide +kernel) wq_J4_append_15ec4
set_option maxRecDepth 100000 in
theorem gX14_queue_J4_append_15ec4 : GoodIn wsX14_queue (wsV RX14 309 RJ4 yJ4_append_15ec4 wsJ4_append_15ec4) := goodIn_app (wk_h bm_X14_queue wm_X14_queue [9095, 5198, 5199, 2031] (by decide +kernel) (by decide +kernel) (by decide +kernel)) ggX14_queue_J4_append_15ec4
set_option maxRecDepth 100000 in
theorem ggX14_queue_J4_append_bf812 : GoodIn wsX14_queue wsJ4_append_bf812 := wk_g bm_X14_queue wm_X14_queue 6065 wc_J4_append_bf812 rfl (by decide +kernel) (by decide +kernel) wq_J4_append_bf812
set_option maxRecDepth 100000 in
theorem gX14_queue_J4_append_bf812 : GoodIn wsX14_queue (wsV RX14 313 RJ4 yJ4_append_bf812 wsJ4_append_bf812) := goodIn_app (wk_h bm_X14_queue wm_X14_queue [9096, 6063, 6064, 2031] (by decide +kernel) (by decide +kernel) (by decide +kernel)) ggX14_queue_J4_append_bf812
set_option maxRecDepth 100000 in
theorem ggX14_queue_Jx4a65c_isEmpty_aae02 : GoodIn wsX14_queue wsJx4a65c_isEmpty_aae02 := wk_g bm_X14_queue wm_X14_queue 3133 wc_Jx4a65c_isEmpty_aae02 rfl (by decide +kernel) (by decide +kernel) wq_Jx4a65c_isEmpty_aae02
set_option maxRecDepth 100000 in
theorem gX14_queue_Jx4a65c_isEmpty_aae02 : GoodIn wsX14_queue (wsV RX14 247 RJx4a65c yJx4a65c_isEmpty_aae02 wsJx4a65c_isEmpty_aae02) := goodIn_app (wk_h bm_X14_queue wm_X14_queue [8182, 3131, 3132, 2004] (by decide +kernel) (by decide +kernel) (by decide +kernel)) ggX14_queue_Jx4a65c_isEmpty_aae02
set_option maxRecDepth 100000 in
theorem ggX14_queue_J4_toString_0e30d : GoodIn wsX14_queue wsJ4_toString_0e30d := wk_g bm_X14_queue wm_X14_queue 6091 wc_J4_toString_0e30d rfl (by decide +kernel) (by decide +kernel) wq_J4_toString_0e30d
set_option maxRecDepth 100000 in
theorem gX14_queue_J4_toString_0e30d : GoodIn wsX14_queue (wsV RX14 320 RJ4 yJ4_toString_0e30d wsJ4_toString_0e30d) := goodIn_app (wk_h bm_X14_queue wm_X14_queue [9099, 6089, 6090, 2031] (by decide +kernel) (by decide +kernel) (by decide +kernel)) ggX14_queue_J4_toString_0e30d
theorem dX14_queue_0 : decode cX14_queue 0 = .ok (.aload_n 0, 1) := by decide +kernel
theorem dX14_queue_1 : decode cX14_queue 1 = .ok (.aload_n 0, 1) := by decide +kernel
theorem dX14_queue_2 : decode cX14_queue 2 = .ok (.iload_n 1, 1) := by decide +kernel
theorem dX14_queue_3 : decode cX14_queue 3 = .ok (.invokevirtual 87, 3) := by decide +kernel
theorem dX14_queue_6 : decode cX14_queue 6 = .ok (.ifCond .eq 7, 3) := by decide +kernel
theorem dX14_queue_9 : decode cX14_queue 9 = .ok (.iconst 0, 1) := by decide +kernel
theorem dX14_queue_10 : decode cX14_queue 10 = .ok (.goto 4, 3) := by decide +kernel
theorem dX14_queue_13 : decode cX14_queue 13 = .ok (.iconst 1, 1) := by decide +kernel
theorem dX14_queue_14 : decode cX14_queue 14 = .ok (.putfield 40, 3) := by decide +kernel
theorem dX14_queue_17 : decode cX14_queue 17 = .ok (.aload_n 0, 1) := by decide +kernel
theorem dX14_queue_18 : decode cX14_queue 18 = .ok (.getfield 40, 3) := by decide +kernel
theorem dX14_queue_21 : decode cX14_queue 21 = .ok (.ifCond .le 7, 3) := by decide +kernel
theorem dX14_queue_24 : decode cX14_queue 24 = .ok (.ldc_w 302, 3) := by decide +kernel
theorem dX14_queue_27 : decode cX14_queue 27 = .ok (.areturn, 1) := by decide +kernel
theorem dX14_queue_28 : decode cX14_queue 28 = .ok (.new 304, 3) := by decide +kernel
theorem dX14_queue_31 : decode cX14_queue 31 = .ok (.dup, 1) := by decide +kernel
theorem dX14_queue_32 : decode cX14_queue 32 = .ok (.invokespecial 306, 3) := by decide +kernel
theorem dX14_queue_35 : decode cX14_queue 35 = .ok (.astore_n 2, 1) := by decide +kernel
theorem dX14_queue_36 : decode cX14_queue 36 = .ok (.aload_n 0, 1) := by decide +kernel
theorem dX14_queue_37 : decode cX14_queue 37 = .ok (.getfield 22, 3) := by decide +kernel
theorem dX14_queue_40 : decode cX14_queue 40 = .ok (.iload_n 1, 1) := by decide +kernel
theorem dX14_queue_41 : decode cX14_queue 41 = .ok (.invokevirtual 90, 3) := by decide +kernel
theorem dX14_queue_44 : decode cX14_queue 44 = .ok (.checkcast 68, 3) := by decide +kernel
theorem dX14_queue_47 : decode cX14_queue 47 = .ok (.getfield 162, 3) := by decide +kernel
theorem dX14_queue_50 : decode cX14_queue 50 = .ok (.astore_n 3, 1) := by decide +kernel
theorem dX14_queue_51 : decode cX14_queue 51 = .ok (.iconst 0, 1) := by decide +kernel
theorem dX14_queue_52 : decode cX14_queue 52 = .ok (.istore 4, 2) := by decide +kernel
theorem dX14_queue_54 : decode cX14_queue 54 = .ok (.iload 4, 2) := by decide +kernel
theorem dX14_queue_56 : decode cX14_queue 56 = .ok (.aload_n 3, 1) := by decide +kernel
theorem dX14_queue_57 : decode cX14_queue 57 = .ok (.invokevirtual 47, 3) := by decide +kernel
theorem dX14_queue_60 : decode cX14_queue 60 = .ok (.if_icmp .ge 77, 3) := by decide +kernel
theorem dX14_queue_63 : decode cX14_queue 63 = .ok (.aload_n 3, 1) := by decide +kernel
theorem dX14_queue_64 : decode cX14_queue 64 = .ok (.iload 4, 2) := by decide +kernel
theorem dX14_queue_66 : decode cX14_queue 66 = .ok (.invokevirtual 90, 3) := by decide +kernel
theorem dX14_queue_69 : decode cX14_queue 69 = .ok (.checkcast 165, 3) := by decide +kernel
theorem dX14_queue_72 : decode cX14_queue 72 = .ok (.invokevirtual 167, 3) := by decide +kernel
theorem dX14_queue_75 : decode cX14_queue 75 = .ok (.istore 5, 2) := by decide +kernel
theorem dX14_queue_77 : decode cX14_queue 77 = .ok (.aload_n 2, 1) := by decide +kernel
theorem dX14_queue_78 : decode cX14_queue 78 = .ok (.iload 4, 2) := by decide +kernel
theorem dX14_queue_80 : decode cX14_queue 80 = .ok (.ifCond .le 9, 3) := by decide +kernel
theorem dX14_queue_83 : decode cX14_queue 83 = .ok (.ldc_w 307, 3) := by decide +kernel
theorem dX14_queue_86 : decode cX14_queue 86 = .ok (.goto 6, 3) := by decide +kernel
theorem dX14_queue_89 : decode cX14_queue 89 = .ok (.ldc_w 302, 3) := by decide +kernel
theorem dX14_queue_92 : decode cX14_queue 92 = .ok (.invokevirtual 309, 3) := by decide +kernel
theorem dX14_queue_95 : decode cX14_queue 95 = .ok (.iload 5, 2) := by decide +kernel
theorem dX14_queue_97 : decode cX14_queue 97 = .ok (.invokevirtual 313, 3) := by decide +kernel
theorem dX14_queue_100 : decode cX14_queue 100 = .ok (.aload_n 0, 1) := by decide +kernel
theorem dX14_queue_101 : decode cX14_queue 101 = .ok (.getfield 26, 3) := by decide +kernel
theorem dX14_queue_104 : decode cX14_queue 104 = .ok (.iload 5, 2) := by decide +kernel
theorem dX14_queue_106 : decode cX14_queue 106 = .ok (.invokevirtual 90, 3) := by decide +kernel
theorem dX14_queue_109 : decode cX14_queue 109 = .ok (.checkcast 100, 3) := by decide +kernel
theorem dX14_queue_112 : decode cX14_queue 112 = .ok (.getfield 106, 3) := by decide +kernel
theorem dX14_queue_115 : decode cX14_queue 115 = .ok (.ifCond .eq 9, 3) := by decide +kernel
theorem dX14_queue_118 : decode cX14_queue 118 = .ok (.ldc_w 316, 3) := by decide +kernel
theorem dX14_queue_121 : decode cX14_queue 121 = .ok (.goto 6, 3) := by decide +kernel
theorem dX14_queue_124 : decode cX14_queue 124 = .ok (.ldc_w 302, 3) := by decide +kernel
theorem dX14_queue_127 : decode cX14_queue 127 = .ok (.invokevirtual 309, 3) := by decide +kernel
theorem dX14_queue_130 : decode cX14_queue 130 = .ok (.pop, 1) := by decide +kernel
theorem dX14_queue_131 : decode cX14_queue 131 = .ok (.iinc 4 1, 3) := by decide +kernel
theorem dX14_queue_134 : decode cX14_queue 134 = .ok (.goto (-80), 3) := by decide +kernel
theorem dX14_queue_137 : decode cX14_queue 137 = .ok (.aload_n 3, 1) := by decide +kernel
theorem dX14_queue_138 : decode cX14_queue 138 = .ok (.invokevirtual 247, 3) := by decide +kernel
theorem dX14_queue_141 : decode cX14_queue 141 = .ok (.ifCond .eq 9, 3) := by decide +kernel
theorem dX14_queue_144 : decode cX14_queue 144 = .ok (.ldc_w 318, 3) := by decide +kernel
theorem dX14_queue_147 : decode cX14_queue 147 = .ok (.goto 7, 3) := by decide +kernel
theorem dX14_queue_150 : decode cX14_queue 150 = .ok (.aload_n 2, 1) := by decide +kernel
theorem dX14_queue_151 : decode cX14_queue 151 = .ok (.invokevirtual 320, 3) := by decide +kernel
theorem dX14_queue_154 : decode cX14_queue 154 = .ok (.areturn, 1) := by decide +kernel
set_option maxRecDepth 100000 in
theorem ggX14_nightNow_Jx4a65c_size_8abf5 : GoodIn wsX14_nightNow wsJx4a65c_size_8abf5 := wk_g rfl wm_X14_nightNow 2173 wc_Jx4a65c_size_8abf5 rfl (by decide +kernel) (by decide +kernel) wq_Jx4a65c_size_8abf5
set_option maxRecDepth 100000 in
theorem gX14_nightNow_Jx4a65c_size_8abf5 : GoodIn wsX14_nightNow (wsV RX14 47 RJx4a65c yJx4a65c_size_8abf5 wsJx4a65c_size_8abf5) := goodIn_app (wk_h rfl wm_X14_nightNow [7208, 2171, 2172, 2004] (by decide +kernel) (by decide +kernel) (by decide +kernel)) ggX14_nightNow_Jx4a65c_size_8abf5
set_option maxRecDepth 100000 in
theorem ggX14_nightNow_Jx4a65c_iterator_32c93 : GoodIn wsX14_nightNow wsJx4a65c_iterator_32c93 := wk_g rfl wm_X14_nightNow 8232 wc_Jx4a65c_iterator_32c93 rfl (by decide +kernel) (by decide +kernel) wq_Jx4a65c_iterator_32c93
set_option maxRecDepth 100000 in
theorem gX14_nightNow_Jx4a65c_iterator_32c93 : GoodIn wsX14_nightNow (wsV RX14 264 RJx4a65c yJx4a65c_iterator_32c93 wsJx4a65c_iterator_32c93) := goodIn_app (wk_h rfl wm_X14_nightNow [8229, 8230, 8231, 2004] (by decide +kernel) (by decide +kernel) (by decide +kernel)) ggX14_nightNow_Jx4a65c_iterator_32c93
set_option maxRecDepth 100000 in
theorem ggX14_nightNow_Jx35411_hasNext_aae02 : GoodIn wsX14_nightNow wsJx35411_hasNext_aae02 := wk_g rfl wm_X14_nightNow 9021 wc_Jx35411_hasNext_aae02 rfl (by decide +kernel) (by decide +kernel) wq_Jx35411_hasNext_aae02
set_option maxRecDepth 100000 in
theorem gX14_nightNow_Jx35411_hasNext_aae02_f268Jx35411 : GoodIn wsX14_nightNow (va_wsF RX14 268 RJx35411 ⟨"java/util/Iterator", "hasNext", "()Z"⟩ yJx35411_hasNext_aae02 wsJx35411_hasNext_aae02) := goodIn_app (wk_h rfl wm_X14_nightNow [9013, 9017, 9019, 2039] (by decide +kernel) (by decide +kernel) (by decide +kernel)) ggX14_nightNow_Jx35411_hasNext_aae02
set_option maxRecDepth 100000 in
theorem ggX14_nightNow_Jx35411_next_0502b : GoodIn wsX14_nightNow wsJx35411_next_0502b := wk_g rfl wm_X14_nightNow 9030 wc_Jx35411_next_0502b rfl (by decide +kernel) (by decide +kernel) wq_Jx35411_next_0502b
set_option maxRecDepth 100000 in
theorem gX14_nightNow_Jx35411_next_0502b_f273Jx35411 : GoodIn wsX14_nightNow (va_wsF RX14 273 RJx35411 ⟨"java/util/Iterator", "next", "()Ljava/lang/Object;"⟩ yJx35411_next_0502b wsJx35411_next_0502b) := goodIn_app (wk_h rfl wm_X14_nightNow [9023, 9026, 9028, 2039] (by decide +kernel) (by decide +kernel) (by decide +kernel)) ggX14_nightNow_Jx35411_next_0502b
theorem dX14_nightNow_0 : decode cX14_nightNow 0 = .ok (.iconst 0, 1) := by decide +kernel
theorem dX14_nightNow_1 : decode cX14_nightNow 1 = .ok (.istore_n 2, 1) := by decide +kernel
theorem dX14_nightNow_2 : decode cX14_nightNow 2 = .ok (.iload_n 1, 1) := by decide +kernel
theorem dX14_nightNow_3 : decode cX14_nightNow 3 = .ok (.tableswitch 326 0 15 #[77, 82, 87, 95, 103, 153, 161, 161, 161, 161, 161, 213, 265, 275, 280, 285], 77) := by decide +kernel
theorem dX14_nightNow_80 : decode cX14_nightNow 80 = .ok (.aload_n 0, 1) := by decide +kernel
theorem dX14_nightNow_81 : decode cX14_nightNow 81 = .ok (.getfield 137, 3) := by decide +kernel
theorem dX14_nightNow_84 : decode cX14_nightNow 84 = .ok (.ireturn, 1) := by decide +kernel
theorem dX14_nightNow_85 : decode cX14_nightNow 85 = .ok (.aload_n 0, 1) := by decide +kernel
theorem dX14_nightNow_86 : decode cX14_nightNow 86 = .ok (.getfield 241, 3) := by decide +kernel
theorem dX14_nightNow_89 : decode cX14_nightNow 89 = .ok (.ireturn, 1) := by decide +kernel
theorem dX14_nightNow_90 : decode cX14_nightNow 90 = .ok (.aload_n 0, 1) := by decide +kernel
theorem dX14_nightNow_91 : decode cX14_nightNow 91 = .ok (.getfield 22, 3) := by decide +kernel
theorem dX14_nightNow_94 : decode cX14_nightNow 94 = .ok (.invokevirtual 47, 3) := by decide +kernel
theorem dX14_nightNow_97 : decode cX14_nightNow 97 = .ok (.ireturn, 1) := by decide +kernel
theorem dX14_nightNow_98 : decode cX14_nightNow 98 = .ok (.aload_n 0, 1) := by decide +kernel
theorem dX14_nightNow_99 : decode cX14_nightNow 99 = .ok (.getfield 26, 3) := by decide +kernel
theorem dX14_nightNow_102 : decode cX14_nightNow 102 = .ok (.invokevirtual 47, 3) := by decide +kernel
theorem dX14_nightNow_105 : decode cX14_nightNow 105 = .ok (.ireturn, 1) := by decide +kernel
theorem dX14_nightNow_106 : decode cX14_nightNow 106 = .ok (.aload_n 0, 1) := by decide +kernel
theorem dX14_nightNow_107 : decode cX14_nightNow 107 = .ok (.getfield 26, 3) := by decide +kernel
theorem dX14_nightNow_110 : decode cX14_nightNow 110 = .ok (.invokevirtual 264, 3) := by decide +kernel
theorem dX14_nightNow_113 : decode cX14_nightNow 113 = .ok (.astore_n 3, 1) := by decide +kernel
theorem dX14_nightNow_114 : decode cX14_nightNow 114 = .ok (.aload_n 3, 1) := by decide +kernel
theorem dX14_nightNow_115 : decode cX14_nightNow 115 = .ok (.invokeinterface 268 1, 5) := by decide +kernel
theorem dX14_nightNow_120 : decode cX14_nightNow 120 = .ok (.ifCond .eq 34, 3) := by decide +kernel
theorem dX14_nightNow_123 : decode cX14_nightNow 123 = .ok (.aload_n 3, 1) := by decide +kernel
theorem dX14_nightNow_124 : decode cX14_nightNow 124 = .ok (.invokeinterface 273 1, 5) := by decide +kernel
theorem dX14_nightNow_129 : decode cX14_nightNow 129 = .ok (.checkcast 100, 3) := by decide +kernel
theorem dX14_nightNow_132 : decode cX14_nightNow 132 = .ok (.astore 4, 2) := by decide +kernel
theorem dX14_nightNow_134 : decode cX14_nightNow 134 = .ok (.iload_n 2, 1) := by decide +kernel
theorem dX14_nightNow_135 : decode cX14_nightNow 135 = .ok (.aload 4, 2) := by decide +kernel
theorem dX14_nightNow_137 : decode cX14_nightNow 137 = .ok (.getfield 116, 3) := by decide +kernel
theorem dX14_nightNow_140 : decode cX14_nightNow 140 = .ok (.iconst 2, 1) := by decide +kernel
theorem dX14_nightNow_141 : decode cX14_nightNow 141 = .ok (.if_icmp .ne 7, 3) := by decide +kernel
theorem dX14_nightNow_144 : decode cX14_nightNow 144 = .ok (.iconst 1, 1) := by decide +kernel
theorem dX14_nightNow_145 : decode cX14_nightNow 145 = .ok (.goto 4, 3) := by decide +kernel
theorem dX14_nightNow_148 : decode cX14_nightNow 148 = .ok (.iconst 0, 1) := by decide +kernel
theorem dX14_nightNow_149 : decode cX14_nightNow 149 = .ok (.iadd, 1) := by decide +kernel
theorem dX14_nightNow_150 : decode cX14_nightNow 150 = .ok (.istore_n 2, 1) := by decide +kernel
theorem dX14_nightNow_151 : decode cX14_nightNow 151 = .ok (.goto (-37), 3) := by decide +kernel
theorem dX14_nightNow_154 : decode cX14_nightNow 154 = .ok (.iload_n 2, 1) := by decide +kernel
theorem dX14_nightNow_155 : decode cX14_nightNow 155 = .ok (.ireturn, 1) := by decide +kernel
theorem dX14_nightNow_156 : decode cX14_nightNow 156 = .ok (.aload_n 0, 1) := by decide +kernel
theorem dX14_nightNow_157 : decode cX14_nightNow 157 = .ok (.getfield 29, 3) := by decide +kernel
theorem dX14_nightNow_160 : decode cX14_nightNow 160 = .ok (.invokevirtual 47, 3) := by decide +kernel
theorem dX14_nightNow_163 : decode cX14_nightNow 163 = .ok (.ireturn, 1) := by decide +kernel
theorem dX14_nightNow_164 : decode cX14_nightNow 164 = .ok (.aload_n 0, 1) := by decide +kernel
theorem dX14_nightNow_165 : decode cX14_nightNow 165 = .ok (.getfield 29, 3) := by decide +kernel
theorem dX14_nightNow_168 : decode cX14_nightNow 168 = .ok (.invokevirtual 264, 3) := by decide +kernel
theorem dX14_nightNow_171 : decode cX14_nightNow 171 = .ok (.astore_n 3, 1) := by decide +kernel
theorem dX14_nightNow_172 : decode cX14_nightNow 172 = .ok (.aload_n 3, 1) := by decide +kernel
theorem dX14_nightNow_173 : decode cX14_nightNow 173 = .ok (.invokeinterface 268 1, 5) := by decide +kernel
theorem dX14_nightNow_178 : decode cX14_nightNow 178 = .ok (.ifCond .eq 36, 3) := by decide +kernel
theorem dX14_nightNow_181 : decode cX14_nightNow 181 = .ok (.aload_n 3, 1) := by decide +kernel
theorem dX14_nightNow_182 : decode cX14_nightNow 182 = .ok (.invokeinterface 273 1, 5) := by decide +kernel
theorem dX14_nightNow_187 : decode cX14_nightNow 187 = .ok (.checkcast 119, 3) := by decide +kernel
theorem dX14_nightNow_190 : decode cX14_nightNow 190 = .ok (.astore 4, 2) := by decide +kernel
theorem dX14_nightNow_192 : decode cX14_nightNow 192 = .ok (.iload_n 2, 1) := by decide +kernel
theorem dX14_nightNow_193 : decode cX14_nightNow 193 = .ok (.aload 4, 2) := by decide +kernel
theorem dX14_nightNow_195 : decode cX14_nightNow 195 = .ok (.getfield 208, 3) := by decide +kernel
theorem dX14_nightNow_198 : decode cX14_nightNow 198 = .ok (.iload_n 1, 1) := by decide +kernel
theorem dX14_nightNow_199 : decode cX14_nightNow 199 = .ok (.iconst 5, 1) := by decide +kernel
theorem dX14_nightNow_200 : decode cX14_nightNow 200 = .ok (.isub, 1) := by decide +kernel
theorem dX14_nightNow_201 : decode cX14_nightNow 201 = .ok (.if_icmp .ne 7, 3) := by decide +kernel
theorem dX14_nightNow_204 : decode cX14_nightNow 204 = .ok (.iconst 1, 1) := by decide +kernel
theorem dX14_nightNow_205 : decode cX14_nightNow 205 = .ok (.goto 4, 3) := by decide +kernel
theorem dX14_nightNow_208 : decode cX14_nightNow 208 = .ok (.iconst 0, 1) := by decide +kernel
theorem dX14_nightNow_209 : decode cX14_nightNow 209 = .ok (.iadd, 1) := by decide +kernel
theorem dX14_nightNow_210 : decode cX14_nightNow 210 = .ok (.istore_n 2, 1) := by decide +kernel
theorem dX14_nightNow_211 : decode cX14_nightNow 211 = .ok (.goto (-39), 3) := by decide +kernel
theorem dX14_nightNow_214 : decode cX14_nightNow 214 = .ok (.iload_n 2, 1) := by decide +kernel
theorem dX14_nightNow_215 : decode cX14_nightNow 215 = .ok (.ireturn, 1) := by decide +kernel
theorem dX14_nightNow_216 : decode cX14_nightNow 216 = .ok (.aload_n 0, 1) := by decide +kernel
theorem dX14_nightNow_217 : decode cX14_nightNow 217 = .ok (.getfield 29, 3) := by decide +kernel
theorem dX14_nightNow_220 : decode cX14_nightNow 220 = .ok (.invokevirtual 264, 3) := by decide +kernel
theorem dX14_nightNow_223 : decode cX14_nightNow 223 = .ok (.astore_n 3, 1) := by decide +kernel
theorem dX14_nightNow_224 : decode cX14_nightNow 224 = .ok (.aload_n 3, 1) := by decide +kernel
theorem dX14_nightNow_225 : decode cX14_nightNow 225 = .ok (.invokeinterface 268 1, 5) := by decide +kernel
theorem dX14_nightNow_230 : decode cX14_nightNow 230 = .ok (.ifCond .eq 36, 3) := by decide +kernel
theorem dX14_nightNow_233 : decode cX14_nightNow 233 = .ok (.aload_n 3, 1) := by decide +kernel
theorem dX14_nightNow_234 : decode cX14_nightNow 234 = .ok (.invokeinterface 273 1, 5) := by decide +kernel
theorem dX14_nightNow_239 : decode cX14_nightNow 239 = .ok (.checkcast 119, 3) := by decide +kernel
theorem dX14_nightNow_242 : decode cX14_nightNow 242 = .ok (.astore 4, 2) := by decide +kernel
theorem dX14_nightNow_244 : decode cX14_nightNow 244 = .ok (.iload_n 2, 1) := by decide +kernel
theorem dX14_nightNow_245 : decode cX14_nightNow 245 = .ok (.aload 4, 2) := by decide +kernel
theorem dX14_nightNow_247 : decode cX14_nightNow 247 = .ok (.getfield 131, 3) := by decide +kernel
theorem dX14_nightNow_250 : decode cX14_nightNow 250 = .ok (.sipush 999, 3) := by decide +kernel
theorem dX14_nightNow_253 : decode cX14_nightNow 253 = .ok (.if_icmp .ne 7, 3) := by decide +kernel
theorem dX14_nightNow_256 : decode cX14_nightNow 256 = .ok (.iconst 1, 1) := by decide +kernel
theorem dX14_nightNow_257 : decode cX14_nightNow 257 = .ok (.goto 4, 3) := by decide +kernel
theorem dX14_nightNow_260 : decode cX14_nightNow 260 = .ok (.iconst 0, 1) := by decide +kernel
theorem dX14_nightNow_261 : decode cX14_nightNow 261 = .ok (.iadd, 1) := by decide +kernel
theorem dX14_nightNow_262 : decode cX14_nightNow 262 = .ok (.istore_n 2, 1) := by decide +kernel
theorem dX14_nightNow_263 : decode cX14_nightNow 263 = .ok (.goto (-39), 3) := by decide +kernel
theorem dX14_nightNow_266 : decode cX14_nightNow 266 = .ok (.iload_n 2, 1) := by decide +kernel
theorem dX14_nightNow_267 : decode cX14_nightNow 267 = .ok (.ireturn, 1) := by decide +kernel
theorem dX14_nightNow_268 : decode cX14_nightNow 268 = .ok (.aload_n 0, 1) := by decide +kernel
theorem dX14_nightNow_269 : decode cX14_nightNow 269 = .ok (.getfield 32, 3) := by decide +kernel
theorem dX14_nightNow_272 : decode cX14_nightNow 272 = .ok (.invokevirtual 47, 3) := by decide +kernel
theorem dX14_nightNow_275 : decode cX14_nightNow 275 = .ok (.iconst 3, 1) := by decide +kernel
theorem dX14_nightNow_276 : decode cX14_nightNow 276 = .ok (.idiv, 1) := by decide +kernel
theorem dX14_nightNow_277 : decode cX14_nightNow 277 = .ok (.ireturn, 1) := by decide +kernel
theorem dX14_nightNow_278 : decode cX14_nightNow 278 = .ok (.aload_n 0, 1) := by decide +kernel
theorem dX14_nightNow_279 : decode cX14_nightNow 279 = .ok (.getfield 218, 3) := by decide +kernel
theorem dX14_nightNow_282 : decode cX14_nightNow 282 = .ok (.ireturn, 1) := by decide +kernel
theorem dX14_nightNow_283 : decode cX14_nightNow 283 = .ok (.aload_n 0, 1) := by decide +kernel
theorem dX14_nightNow_284 : decode cX14_nightNow 284 = .ok (.getfield 250, 3) := by decide +kernel
theorem dX14_nightNow_287 : decode cX14_nightNow 287 = .ok (.ireturn, 1) := by decide +kernel
theorem dX14_nightNow_288 : decode cX14_nightNow 288 = .ok (.aload_n 0, 1) := by decide +kernel
theorem dX14_nightNow_289 : decode cX14_nightNow 289 = .ok (.getfield 15, 3) := by decide +kernel
theorem dX14_nightNow_292 : decode cX14_nightNow 292 = .ok (.astore_n 3, 1) := by decide +kernel
theorem dX14_nightNow_293 : decode cX14_nightNow 293 = .ok (.aload_n 3, 1) := by decide +kernel
theorem dX14_nightNow_294 : decode cX14_nightNow 294 = .ok (.arraylength, 1) := by decide +kernel
theorem dX14_nightNow_295 : decode cX14_nightNow 295 = .ok (.istore 4, 2) := by decide +kernel
theorem dX14_nightNow_297 : decode cX14_nightNow 297 = .ok (.iconst 0, 1) := by decide +kernel
theorem dX14_nightNow_298 : decode cX14_nightNow 298 = .ok (.istore 5, 2) := by decide +kernel
theorem dX14_nightNow_300 : decode cX14_nightNow 300 = .ok (.iload 5, 2) := by decide +kernel
theorem dX14_nightNow_302 : decode cX14_nightNow 302 = .ok (.iload 4, 2) := by decide +kernel
theorem dX14_nightNow_304 : decode cX14_nightNow 304 = .ok (.if_icmp .ge 23, 3) := by decide +kernel
theorem dX14_nightNow_307 : decode cX14_nightNow 307 = .ok (.aload_n 3, 1) := by decide +kernel
theorem dX14_nightNow_308 : decode cX14_nightNow 308 = .ok (.iload 5, 2) := by decide +kernel
theorem dX14_nightNow_310 : decode cX14_nightNow 310 = .ok (.aaload, 1) := by decide +kernel
theorem dX14_nightNow_311 : decode cX14_nightNow 311 = .ok (.astore 6, 2) := by decide +kernel
theorem dX14_nightNow_313 : decode cX14_nightNow 313 = .ok (.iload_n 2, 1) := by decide +kernel
theorem dX14_nightNow_314 : decode cX14_nightNow 314 = .ok (.aload 6, 2) := by decide +kernel
theorem dX14_nightNow_316 : decode cX14_nightNow 316 = .ok (.getfield 234, 3) := by decide +kernel
theorem dX14_nightNow_319 : decode cX14_nightNow 319 = .ok (.iadd, 1) := by decide +kernel
theorem dX14_nightNow_320 : decode cX14_nightNow 320 = .ok (.istore_n 2, 1) := by decide +kernel
theorem dX14_nightNow_321 : decode cX14_nightNow 321 = .ok (.iinc 5 1, 3) := by decide +kernel
theorem dX14_nightNow_324 : decode cX14_nightNow 324 = .ok (.goto (-24), 3) := by decide +kernel
theorem dX14_nightNow_327 : decode cX14_nightNow 327 = .ok (.iload_n 2, 1) := by decide +kernel
theorem dX14_nightNow_328 : decode cX14_nightNow 328 = .ok (.ireturn, 1) := by decide +kernel
theorem dX14_nightNow_329 : decode cX14_nightNow 329 = .ok (.aload_n 0, 1) := by decide +kernel
theorem dX14_nightNow_330 : decode cX14_nightNow 330 = .ok (.getfield 15, 3) := by decide +kernel
theorem dX14_nightNow_333 : decode cX14_nightNow 333 = .ok (.astore_n 3, 1) := by decide +kernel
theorem dX14_nightNow_334 : decode cX14_nightNow 334 = .ok (.aload_n 3, 1) := by decide +kernel
theorem dX14_nightNow_335 : decode cX14_nightNow 335 = .ok (.arraylength, 1) := by decide +kernel
theorem dX14_nightNow_336 : decode cX14_nightNow 336 = .ok (.istore 4, 2) := by decide +kernel
theorem dX14_nightNow_338 : decode cX14_nightNow 338 = .ok (.iconst 0, 1) := by decide +kernel
theorem dX14_nightNow_339 : decode cX14_nightNow 339 = .ok (.istore 5, 2) := by decide +kernel
theorem dX14_nightNow_341 : decode cX14_nightNow 341 = .ok (.iload 5, 2) := by decide +kernel
theorem dX14_nightNow_343 : decode cX14_nightNow 343 = .ok (.iload 4, 2) := by decide +kernel
theorem dX14_nightNow_345 : decode cX14_nightNow 345 = .ok (.if_icmp .ge 23, 3) := by decide +kernel
theorem dX14_nightNow_348 : decode cX14_nightNow 348 = .ok (.aload_n 3, 1) := by decide +kernel
theorem dX14_nightNow_349 : decode cX14_nightNow 349 = .ok (.iload 5, 2) := by decide +kernel
theorem dX14_nightNow_351 : decode cX14_nightNow 351 = .ok (.aaload, 1) := by decide +kernel
theorem dX14_nightNow_352 : decode cX14_nightNow 352 = .ok (.astore 6, 2) := by decide +kernel
theorem dX14_nightNow_354 : decode cX14_nightNow 354 = .ok (.iload_n 2, 1) := by decide +kernel
theorem dX14_nightNow_355 : decode cX14_nightNow 355 = .ok (.aload 6, 2) := by decide +kernel
theorem dX14_nightNow_357 : decode cX14_nightNow 357 = .ok (.getfield 227, 3) := by decide +kernel
theorem dX14_nightNow_360 : decode cX14_nightNow 360 = .ok (.iadd, 1) := by decide +kernel
theorem dX14_nightNow_361 : decode cX14_nightNow 361 = .ok (.istore_n 2, 1) := by decide +kernel
theorem dX14_nightNow_362 : decode cX14_nightNow 362 = .ok (.iinc 5 1, 3) := by decide +kernel
theorem dX14_nightNow_365 : decode cX14_nightNow 365 = .ok (.goto (-24), 3) := by decide +kernel
theorem dX14_nightNow_368 : decode cX14_nightNow 368 = .ok (.iload_n 2, 1) := by decide +kernel
theorem dX14_nightNow_369 : decode cX14_nightNow 369 = .ok (.ireturn, 1) := by decide +kernel
set_option maxRecDepth 100000 in
theorem ggX14_night_X14_is : GoodIn wsX14_night wsX14_is := wk_g rfl wm_X14_night 7195 wc_X14_is rfl (by decide +kernel) (by decide +kernel) wq_X14_is
set_option maxRecDepth 100000 in
theorem gX14_night_X14_is : GoodIn wsX14_night (va_wsS RX14 43 yX14_is wsX14_is) := goodIn_app (wk_h rfl wm_X14_night [7193, 7194, 2007] (by decide +kernel) (by decide +kernel) (by decide +kernel)) ggX14_night_X14_is
set_option maxRecDepth 100000 in
theorem ggX14_night_X14_nightNow : GoodIn wsX14_night wsX14_nightNow := wk_g rfl wm_X14_night 9107 wc_X14_nightNow rfl (by decide +kernel) (by decide +kernel) wq_X14_nightNow
set_option maxRecDepth 100000 in
theorem gX14_night_X14_nightNow : GoodIn wsX14_night (wsV RX14 324 RX14 yX14_nightNow wsX14_nightNow) := goodIn_app (wk_h rfl wm_X14_night [9104, 9106, 1066, 2007] (by decide +kernel) (by decide +kernel) (by decide +kernel)) ggX14_night_X14_nightNow
set_option maxRecDepth 100000 in
theorem ggX14_night_X14_refuse : GoodIn wsX14_night wsX14_refuse := wk_g rfl wm_X14_night 7199 wc_X14_refuse rfl (by decide +kernel) (by decide +kernel) wq_X14_refuse
set_option maxRecDepth 100000 in
theorem gX14_night_X14_refuse : GoodIn wsX14_night (wsV RX14 55 RX14 yX14_refuse wsX14_refuse) := goodIn_app (wk_h rfl wm_X14_night [7196, 7198, 1046, 2007] (by decide +kernel) (by decide +kernel) (by decide +kernel)) ggX14_night_X14_refuse
theorem dX14_night_0 : decode cX14_night 0 = .ok (.aload_n 0, 1) := by decide +kernel
theorem dX14_night_1 : decode cX14_night 1 = .ok (.iconst 0, 1) := by decide +kernel
theorem dX14_night_2 : decode cX14_night 2 = .ok (.putfield 40, 3) := by decide +kernel
theorem dX14_night_5 : decode cX14_night 5 = .ok (.iload_n 1, 1) := by decide +kernel
theorem dX14_night_6 : decode cX14_night 6 = .ok (.iconst 0, 1) := by decide +kernel
theorem dX14_night_7 : decode cX14_night 7 = .ok (.bipush 16, 2) := by decide +kernel
theorem dX14_night_9 : decode cX14_night 9 = .ok (.invokestatic 43, 3) := by decide +kernel
theorem dX14_night_12 : decode cX14_night 12 = .ok (.ifCond .eq 11, 3) := by decide +kernel
theorem dX14_night_15 : decode cX14_night 15 = .ok (.aload_n 0, 1) := by decide +kernel
theorem dX14_night_16 : decode cX14_night 16 = .ok (.iload_n 1, 1) := by decide +kernel
theorem dX14_night_17 : decode cX14_night 17 = .ok (.invokevirtual 324, 3) := by decide +kernel
theorem dX14_night_20 : decode cX14_night 20 = .ok (.goto 8, 3) := by decide +kernel
theorem dX14_night_23 : decode cX14_night 23 = .ok (.aload_n 0, 1) := by decide +kernel
theorem dX14_night_24 : decode cX14_night 24 = .ok (.iconst 1, 1) := by decide +kernel
theorem dX14_night_25 : decode cX14_night 25 = .ok (.invokevirtual 55, 3) := by decide +kernel
theorem dX14_night_28 : decode cX14_night 28 = .ok (.ireturn, 1) := by decide +kernel
set_option maxRecDepth 100000 in
theorem ggX14_wayNow_Jx4a65c_size_8abf5 : GoodIn wsX14_wayNow wsJx4a65c_size_8abf5 := wk_g rfl wm_X14_wayNow 2173 wc_Jx4a65c_size_8abf5 rfl (by decide +kernel) (by decide +kernel) wq_Jx4a65c_size_8abf5
set_option maxRecDepth 100000 in
theorem gX14_wayNow_Jx4a65c_size_8abf5 : GoodIn wsX14_wayNow (wsV RX14 47 RJx4a65c yJx4a65c_size_8abf5 wsJx4a65c_size_8abf5) := goodIn_app (wk_h rfl wm_X14_wayNow [7208, 2171, 2172, 2004] (by decide +kernel) (by decide +kernel) (by decide +kernel)) ggX14_wayNow_Jx4a65c_size_8abf5
set_option maxRecDepth 100000 in
theorem ggX14_wayNow_Jx4a65c_get_915e3 : GoodIn wsX14_wayNow wsJx4a65c_get_915e3 := wk_g rfl wm_X14_wayNow 2177 wc_Jx4a65c_get_915e3 rfl (by decide +kernel) (by decide +kernel) wq_Jx4a65c_get_915e3
set_option maxRecDepth 100000 in
theorem gX14_wayNow_Jx4a65c_get_915e3 : GoodIn wsX14_wayNow (wsV RX14 90 RJx4a65c yJx4a65c_get_915e3 wsJx4a65c_get_915e3) := goodIn_app (wk_h rfl wm_X14_wayNow [8019, 2175, 2176, 2004] (by decide +kernel) (by decide +kernel) (by decide +kernel)) ggX14_wayNow_Jx4a65c_get_915e3
set_option maxRecDepth 100000 in
theorem ggX14_wayNow_X10_isOpen : GoodIn wsX14_wayNow wsX10_isOpen := wk_g rfl wm_X14_wayNow 8181 wc_X10_isOpen rfl (by decide +kernel) (by decide +kernel) wq_X10_isOpen
set_option maxRecDepth 100000 in
theorem gX14_wayNow_X10_isOpen : GoodIn wsX14_wayNow (wsV RX14 244 RX10 yX10_isOpen wsX10_isOpen) := goodIn_app (wk_h rfl wm_X14_wayNow [8178, 8179, 8180, 2022] (by decide +kernel) (by decide +kernel) (by decide +kernel)) ggX14_wayNow_X10_isOpen
theorem dX14_wayNow_0 : decode cX14_wayNow 0 = .ok (.iconst 1, 1) := by decide +kernel
theorem dX14_wayNow_1 : decode cX14_wayNow 1 = .ok (.iload_n 1, 1) := by decide +kernel
theorem dX14_wayNow_2 : decode cX14_wayNow 2 = .ok (.ishl, 1) := by decide +kernel
theorem dX14_wayNow_3 : decode cX14_wayNow 3 = .ok (.istore_n 3, 1) := by decide +kernel
theorem dX14_wayNow_4 : decode cX14_wayNow 4 = .ok (.iconst 0, 1) := by decide +kernel
theorem dX14_wayNow_5 : decode cX14_wayNow 5 = .ok (.istore 4, 2) := by decide +kernel
theorem dX14_wayNow_7 : decode cX14_wayNow 7 = .ok (.iload 4, 2) := by decide +kernel
theorem dX14_wayNow_9 : decode cX14_wayNow 9 = .ok (.bipush 72, 2) := by decide +kernel
theorem dX14_wayNow_11 : decode cX14_wayNow 11 = .ok (.if_icmp .gt 133, 3) := by decide +kernel
theorem dX14_wayNow_14 : decode cX14_wayNow 14 = .ok (.iload_n 3, 1) := by decide +kernel
theorem dX14_wayNow_15 : decode cX14_wayNow 15 = .ok (.iload_n 2, 1) := by decide +kernel
theorem dX14_wayNow_16 : decode cX14_wayNow 16 = .ok (.ishr, 1) := by decide +kernel
theorem dX14_wayNow_17 : decode cX14_wayNow 17 = .ok (.iconst 1, 1) := by decide +kernel
theorem dX14_wayNow_18 : decode cX14_wayNow 18 = .ok (.iand, 1) := by decide +kernel
theorem dX14_wayNow_19 : decode cX14_wayNow 19 = .ok (.iconst 1, 1) := by decide +kernel
theorem dX14_wayNow_20 : decode cX14_wayNow 20 = .ok (.if_icmp .ne 6, 3) := by decide +kernel
theorem dX14_wayNow_23 : decode cX14_wayNow 23 = .ok (.iload 4, 2) := by decide +kernel
theorem dX14_wayNow_25 : decode cX14_wayNow 25 = .ok (.ireturn, 1) := by decide +kernel
theorem dX14_wayNow_26 : decode cX14_wayNow 26 = .ok (.iload_n 3, 1) := by decide +kernel
theorem dX14_wayNow_27 : decode cX14_wayNow 27 = .ok (.istore 5, 2) := by decide +kernel
theorem dX14_wayNow_29 : decode cX14_wayNow 29 = .ok (.iconst 0, 1) := by decide +kernel
theorem dX14_wayNow_30 : decode cX14_wayNow 30 = .ok (.istore 6, 2) := by decide +kernel
theorem dX14_wayNow_32 : decode cX14_wayNow 32 = .ok (.iload 6, 2) := by decide +kernel
theorem dX14_wayNow_34 : decode cX14_wayNow 34 = .ok (.aload_n 0, 1) := by decide +kernel
theorem dX14_wayNow_35 : decode cX14_wayNow 35 = .ok (.getfield 22, 3) := by decide +kernel
theorem dX14_wayNow_38 : decode cX14_wayNow 38 = .ok (.invokevirtual 47, 3) := by decide +kernel
theorem dX14_wayNow_41 : decode cX14_wayNow 41 = .ok (.if_icmp .ge 94, 3) := by decide +kernel
theorem dX14_wayNow_44 : decode cX14_wayNow 44 = .ok (.aload_n 0, 1) := by decide +kernel
theorem dX14_wayNow_45 : decode cX14_wayNow 45 = .ok (.getfield 22, 3) := by decide +kernel
theorem dX14_wayNow_48 : decode cX14_wayNow 48 = .ok (.iload 6, 2) := by decide +kernel
theorem dX14_wayNow_50 : decode cX14_wayNow 50 = .ok (.invokevirtual 90, 3) := by decide +kernel
theorem dX14_wayNow_53 : decode cX14_wayNow 53 = .ok (.checkcast 68, 3) := by decide +kernel
theorem dX14_wayNow_56 : decode cX14_wayNow 56 = .ok (.astore 7, 2) := by decide +kernel
theorem dX14_wayNow_58 : decode cX14_wayNow 58 = .ok (.aload 7, 2) := by decide +kernel
theorem dX14_wayNow_60 : decode cX14_wayNow 60 = .ok (.aload_n 0, 1) := by decide +kernel
theorem dX14_wayNow_61 : decode cX14_wayNow 61 = .ok (.getfield 241, 3) := by decide +kernel
theorem dX14_wayNow_64 : decode cX14_wayNow 64 = .ok (.iload 4, 2) := by decide +kernel
theorem dX14_wayNow_66 : decode cX14_wayNow 66 = .ok (.iadd, 1) := by decide +kernel
theorem dX14_wayNow_67 : decode cX14_wayNow 67 = .ok (.bipush 24, 2) := by decide +kernel
theorem dX14_wayNow_69 : decode cX14_wayNow 69 = .ok (.irem, 1) := by decide +kernel
theorem dX14_wayNow_70 : decode cX14_wayNow 70 = .ok (.invokevirtual 244, 3) := by decide +kernel
theorem dX14_wayNow_73 : decode cX14_wayNow 73 = .ok (.ifCond .ne 6, 3) := by decide +kernel
theorem dX14_wayNow_76 : decode cX14_wayNow 76 = .ok (.goto 53, 3) := by decide +kernel
theorem dX14_wayNow_79 : decode cX14_wayNow 79 = .ok (.iload_n 3, 1) := by decide +kernel
theorem dX14_wayNow_80 : decode cX14_wayNow 80 = .ok (.aload 7, 2) := by decide +kernel
theorem dX14_wayNow_82 : decode cX14_wayNow 82 = .ok (.getfield 71, 3) := by decide +kernel
theorem dX14_wayNow_85 : decode cX14_wayNow 85 = .ok (.ishr, 1) := by decide +kernel
theorem dX14_wayNow_86 : decode cX14_wayNow 86 = .ok (.iconst 1, 1) := by decide +kernel
theorem dX14_wayNow_87 : decode cX14_wayNow 87 = .ok (.iand, 1) := by decide +kernel
theorem dX14_wayNow_88 : decode cX14_wayNow 88 = .ok (.iconst 1, 1) := by decide +kernel
theorem dX14_wayNow_89 : decode cX14_wayNow 89 = .ok (.if_icmp .ne 15, 3) := by decide +kernel
theorem dX14_wayNow_92 : decode cX14_wayNow 92 = .ok (.iload 5, 2) := by decide +kernel
theorem dX14_wayNow_94 : decode cX14_wayNow 94 = .ok (.iconst 1, 1) := by decide +kernel
theorem dX14_wayNow_95 : decode cX14_wayNow 95 = .ok (.aload 7, 2) := by decide +kernel
theorem dX14_wayNow_97 : decode cX14_wayNow 97 = .ok (.getfield 74, 3) := by decide +kernel
theorem dX14_wayNow_100 : decode cX14_wayNow 100 = .ok (.ishl, 1) := by decide +kernel
theorem dX14_wayNow_101 : decode cX14_wayNow 101 = .ok (.ior, 1) := by decide +kernel
theorem dX14_wayNow_102 : decode cX14_wayNow 102 = .ok (.istore 5, 2) := by decide +kernel
theorem dX14_wayNow_104 : decode cX14_wayNow 104 = .ok (.iload_n 3, 1) := by decide +kernel
theorem dX14_wayNow_105 : decode cX14_wayNow 105 = .ok (.aload 7, 2) := by decide +kernel
theorem dX14_wayNow_107 : decode cX14_wayNow 107 = .ok (.getfield 74, 3) := by decide +kernel
theorem dX14_wayNow_110 : decode cX14_wayNow 110 = .ok (.ishr, 1) := by decide +kernel
theorem dX14_wayNow_111 : decode cX14_wayNow 111 = .ok (.iconst 1, 1) := by decide +kernel
theorem dX14_wayNow_112 : decode cX14_wayNow 112 = .ok (.iand, 1) := by decide +kernel
theorem dX14_wayNow_113 : decode cX14_wayNow 113 = .ok (.iconst 1, 1) := by decide +kernel
theorem dX14_wayNow_114 : decode cX14_wayNow 114 = .ok (.if_icmp .ne 15, 3) := by decide +kernel
theorem dX14_wayNow_117 : decode cX14_wayNow 117 = .ok (.iload 5, 2) := by decide +kernel
theorem dX14_wayNow_119 : decode cX14_wayNow 119 = .ok (.iconst 1, 1) := by decide +kernel
theorem dX14_wayNow_120 : decode cX14_wayNow 120 = .ok (.aload 7, 2) := by decide +kernel
theorem dX14_wayNow_122 : decode cX14_wayNow 122 = .ok (.getfield 71, 3) := by decide +kernel
theorem dX14_wayNow_125 : decode cX14_wayNow 125 = .ok (.ishl, 1) := by decide +kernel
theorem dX14_wayNow_126 : decode cX14_wayNow 126 = .ok (.ior, 1) := by decide +kernel
theorem dX14_wayNow_127 : decode cX14_wayNow 127 = .ok (.istore 5, 2) := by decide +kernel
theorem dX14_wayNow_129 : decode cX14_wayNow 129 = .ok (.iinc 6 1, 3) := by decide +kernel
theorem dX14_wayNow_132 : decode cX14_wayNow 132 = .ok (.goto (-100), 3) := by decide +kernel
theorem dX14_wayNow_135 : decode cX14_wayNow 135 = .ok (.iload 5, 2) := by decide +kernel
theorem dX14_wayNow_137 : decode cX14_wayNow 137 = .ok (.istore_n 3, 1) := by decide +kernel
theorem dX14_wayNow_138 : decode cX14_wayNow 138 = .ok (.iinc 4 1, 3) := by decide +kernel
theorem dX14_wayNow_141 : decode cX14_wayNow 141 = .ok (.goto (-134), 3) := by decide +kernel
theorem dX14_wayNow_144 : decode cX14_wayNow 144 = .ok (.iconst (-1), 1) := by decide +kernel
theorem dX14_wayNow_145 : decode cX14_wayNow 145 = .ok (.ireturn, 1) := by decide +kernel
set_option maxRecDepth 100000 in
theorem ggX14_way_X14_isLand : GoodIn wsX14_way wsX14_isLand := wk_g rfl wm_X14_way 7192 wc_X14_isLand rfl (by decide +kernel) (by decide +kernel) wq_X14_isLand
set_option maxRecDepth 100000 in
theorem gX14_way_X14_isLand : GoodIn wsX14_way (wsV RX14 51 RX14 yX14_isLand wsX14_isLand) := goodIn_app (wk_h rfl wm_X14_way [7189, 7191, 1045, 2007] (by decide +kernel) (by decide +kernel) (by decide +kernel)) ggX14_way_X14_isLand
set_option maxRecDepth 100000 in
theorem ggX14_way_X14_wayNow : GoodIn wsX14_way wsX14_wayNow := wk_g rfl wm_X14_way 9115 wc_X14_wayNow rfl (by decide +kernel) (by decide +kernel) wq_X14_wayNow
set_option maxRecDepth 100000 in
theorem gX14_way_X14_wayNow : GoodIn wsX14_way (wsV RX14 327 RX14 yX14_wayNow wsX14_wayNow) := goodIn_app (wk_h rfl wm_X14_way [9112, 9114, 1067, 2007] (by decide +kernel) (by decide +kernel) (by decide +kernel)) ggX14_way_X14_wayNow
set_option maxRecDepth 100000 in
theorem ggX14_way_X14_refuse : GoodIn wsX14_way wsX14_refuse := wk_g rfl wm_X14_way 7199 wc_X14_refuse rfl (by decide +kernel) (by decide +kernel) wq_X14_refuse
set_option maxRecDepth 100000 in
theorem gX14_way_X14_refuse : GoodIn wsX14_way (wsV RX14 55 RX14 yX14_refuse wsX14_refuse) := goodIn_app (wk_h rfl wm_X14_way [7196, 7198, 1046, 2007] (by decide +kernel) (by decide +kernel) (by decide +kernel)) ggX14_way_X14_refuse
theorem dX14_way_0 : decode cX14_way 0 = .ok (.aload_n 0, 1) := by decide +kernel
theorem dX14_way_1 : decode cX14_way 1 = .ok (.iconst 0, 1) := by decide +kernel
theorem dX14_way_2 : decode cX14_way 2 = .ok (.putfield 40, 3) := by decide +kernel
theorem dX14_way_5 : decode cX14_way 5 = .ok (.aload_n 0, 1) := by decide +kernel
theorem dX14_way_6 : decode cX14_way 6 = .ok (.iload_n 1, 1) := by decide +kernel
theorem dX14_way_7 : decode cX14_way 7 = .ok (.invokevirtual 51, 3) := by decide +kernel
theorem dX14_way_10 : decode cX14_way 10 = .ok (.ifCond .eq 20, 3) := by decide +kernel
theorem dX14_way_13 : decode cX14_way 13 = .ok (.aload_n 0, 1) := by decide +kernel
theorem dX14_way_14 : decode cX14_way 14 = .ok (.iload_n 2, 1) := by decide +kernel
theorem dX14_way_15 : decode cX14_way 15 = .ok (.invokevirtual 51, 3) := by decide +kernel
theorem dX14_way_18 : decode cX14_way 18 = .ok (.ifCond .eq 12, 3) := by decide +kernel
theorem dX14_way_21 : decode cX14_way 21 = .ok (.aload_n 0, 1) := by decide +kernel
theorem dX14_way_22 : decode cX14_way 22 = .ok (.iload_n 1, 1) := by decide +kernel
theorem dX14_way_23 : decode cX14_way 23 = .ok (.iload_n 2, 1) := by decide +kernel
theorem dX14_way_24 : decode cX14_way 24 = .ok (.invokevirtual 327, 3) := by decide +kernel
theorem dX14_way_27 : decode cX14_way 27 = .ok (.goto 8, 3) := by decide +kernel
theorem dX14_way_30 : decode cX14_way 30 = .ok (.aload_n 0, 1) := by decide +kernel
theorem dX14_way_31 : decode cX14_way 31 = .ok (.iconst 1, 1) := by decide +kernel
theorem dX14_way_32 : decode cX14_way 32 = .ok (.invokevirtual 55, 3) := by decide +kernel
theorem dX14_way_35 : decode cX14_way 35 = .ok (.ireturn, 1) := by decide +kernel
set_option maxRecDepth 100000 in
theorem ggX14_catches_Jx4a65c_size_8abf5 : GoodIn wsX14_catches wsJx4a65c_size_8abf5 := wk_g rfl wm_X14_catches 2173 wc_Jx4a65c_size_8abf5 rfl (by decide +kernel) (by decide +kernel) wq_Jx4a65c_size_8abf5
set_option maxRecDepth 100000 in
theorem gX14_catches_Jx4a65c_size_8abf5 : GoodIn wsX14_catches (wsV RX14 47 RJx4a65c yJx4a65c_size_8abf5 wsJx4a65c_size_8abf5) := goodIn_app (wk_h rfl wm_X14_catches [7208, 2171, 2172, 2004] (by decide +kernel) (by decide +kernel) (by decide +kernel)) ggX14_catches_Jx4a65c_size_8abf5
set_option maxRecDepth 100000 in
theorem ggX14_catches_Jx4a65c_get_915e3 : GoodIn wsX14_catches wsJx4a65c_get_915e3 := wk_g rfl wm_X14_catches 2177 wc_Jx4a65c_get_915e3 rfl (by decide +kernel) (by decide +kernel) wq_Jx4a65c_get_915e3
set_option maxRecDepth 100000 in
theorem gX14_catches_Jx4a65c_get_915e3 : GoodIn wsX14_catches (wsV RX14 90 RJx4a65c yJx4a65c_get_915e3 wsJx4a65c_get_915e3) := goodIn_app (wk_h rfl wm_X14_catches [8019, 2175, 2176, 2004] (by decide +kernel) (by decide +kernel) (by decide +kernel)) ggX14_catches_Jx4a65c_get_915e3
set_option maxRecDepth 100000 in
theorem ggX14_catches_X14_hiddenWorth : GoodIn wsX14_catches wsX14_hiddenWorth := wk_g rfl wm_X14_catches 9062 wc_X14_hiddenWorth rfl (by decide +kernel) (by decide +kernel) wq_X14_hiddenWorth
set_option maxRecDepth 100000 in
theorem gX14_catches_X14_hiddenWorth : GoodIn wsX14_catches (wsV RX14 286 RX14 yX14_hiddenWorth wsX14_hiddenWorth) := goodIn_app (wk_h rfl wm_X14_catches [9059, 9061, 1062, 2007] (by decide +kernel) (by decide +kernel) (by decide +kernel)) ggX14_catches_X14_hiddenWorth
theorem dX14_catches_0 : decode cX14_catches 0 = .ok (.bipush 81, 2) := by decide +kernel
theorem dX14_catches_2 : decode cX14_catches 2 = .ok (.istore_n 1, 1) := by decide +kernel
theorem dX14_catches_3 : decode cX14_catches 3 = .ok (.aload_n 0, 1) := by decide +kernel
theorem dX14_catches_4 : decode cX14_catches 4 = .ok (.getfield 22, 3) := by decide +kernel
theorem dX14_catches_7 : decode cX14_catches 7 = .ok (.invokevirtual 47, 3) := by decide +kernel
theorem dX14_catches_10 : decode cX14_catches 10 = .ok (.iconst 1, 1) := by decide +kernel
theorem dX14_catches_11 : decode cX14_catches 11 = .ok (.iadd, 1) := by decide +kernel
theorem dX14_catches_12 : decode cX14_catches 12 = .ok (.iload_n 1, 1) := by decide +kernel
theorem dX14_catches_13 : decode cX14_catches 13 = .ok (.imul, 1) := by decide +kernel
theorem dX14_catches_14 : decode cX14_catches 14 = .ok (.newarray .int, 2) := by decide +kernel
theorem dX14_catches_16 : decode cX14_catches 16 = .ok (.astore_n 2, 1) := by decide +kernel
theorem dX14_catches_17 : decode cX14_catches 17 = .ok (.aload_n 0, 1) := by decide +kernel
theorem dX14_catches_18 : decode cX14_catches 18 = .ok (.getfield 22, 3) := by decide +kernel
theorem dX14_catches_21 : decode cX14_catches 21 = .ok (.invokevirtual 47, 3) := by decide +kernel
theorem dX14_catches_24 : decode cX14_catches 24 = .ok (.iconst 1, 1) := by decide +kernel
theorem dX14_catches_25 : decode cX14_catches 25 = .ok (.isub, 1) := by decide +kernel
theorem dX14_catches_26 : decode cX14_catches 26 = .ok (.istore_n 3, 1) := by decide +kernel
theorem dX14_catches_27 : decode cX14_catches 27 = .ok (.iload_n 3, 1) := by decide +kernel
theorem dX14_catches_28 : decode cX14_catches 28 = .ok (.ifCond .lt 103, 3) := by decide +kernel
theorem dX14_catches_31 : decode cX14_catches 31 = .ok (.aload_n 0, 1) := by decide +kernel
theorem dX14_catches_32 : decode cX14_catches 32 = .ok (.aload_n 0, 1) := by decide +kernel
theorem dX14_catches_33 : decode cX14_catches 33 = .ok (.getfield 22, 3) := by decide +kernel
theorem dX14_catches_36 : decode cX14_catches 36 = .ok (.iload_n 3, 1) := by decide +kernel
theorem dX14_catches_37 : decode cX14_catches 37 = .ok (.invokevirtual 90, 3) := by decide +kernel
theorem dX14_catches_40 : decode cX14_catches 40 = .ok (.checkcast 68, 3) := by decide +kernel
theorem dX14_catches_43 : decode cX14_catches 43 = .ok (.invokevirtual 286, 3) := by decide +kernel
theorem dX14_catches_46 : decode cX14_catches 46 = .ok (.istore 4, 2) := by decide +kernel
theorem dX14_catches_48 : decode cX14_catches 48 = .ok (.iconst 0, 1) := by decide +kernel
theorem dX14_catches_49 : decode cX14_catches 49 = .ok (.istore 5, 2) := by decide +kernel
theorem dX14_catches_51 : decode cX14_catches 51 = .ok (.iload 5, 2) := by decide +kernel
theorem dX14_catches_53 : decode cX14_catches 53 = .ok (.iload_n 1, 1) := by decide +kernel
theorem dX14_catches_54 : decode cX14_catches 54 = .ok (.if_icmp .ge 71, 3) := by decide +kernel
theorem dX14_catches_57 : decode cX14_catches 57 = .ok (.iconst 0, 1) := by decide +kernel
theorem dX14_catches_58 : decode cX14_catches 58 = .ok (.istore 6, 2) := by decide +kernel
theorem dX14_catches_60 : decode cX14_catches 60 = .ok (.iload 6, 2) := by decide +kernel
theorem dX14_catches_62 : decode cX14_catches 62 = .ok (.bipush 10, 2) := by decide +kernel
theorem dX14_catches_64 : decode cX14_catches 64 = .ok (.iload 5, 2) := by decide +kernel
theorem dX14_catches_66 : decode cX14_catches 66 = .ok (.invokestatic 330, 3) := by decide +kernel
theorem dX14_catches_69 : decode cX14_catches 69 = .ok (.if_icmp .gt 50, 3) := by decide +kernel
theorem dX14_catches_72 : decode cX14_catches 72 = .ok (.aload_n 2, 1) := by decide +kernel
theorem dX14_catches_73 : decode cX14_catches 73 = .ok (.iload_n 3, 1) := by decide +kernel
theorem dX14_catches_74 : decode cX14_catches 74 = .ok (.iload_n 1, 1) := by decide +kernel
theorem dX14_catches_75 : decode cX14_catches 75 = .ok (.imul, 1) := by decide +kernel
theorem dX14_catches_76 : decode cX14_catches 76 = .ok (.iload 5, 2) := by decide +kernel
theorem dX14_catches_78 : decode cX14_catches 78 = .ok (.iadd, 1) := by decide +kernel
theorem dX14_catches_79 : decode cX14_catches 79 = .ok (.aload_n 2, 1) := by decide +kernel
theorem dX14_catches_80 : decode cX14_catches 80 = .ok (.iload_n 3, 1) := by decide +kernel
theorem dX14_catches_81 : decode cX14_catches 81 = .ok (.iload_n 1, 1) := by decide +kernel
theorem dX14_catches_82 : decode cX14_catches 82 = .ok (.imul, 1) := by decide +kernel
theorem dX14_catches_83 : decode cX14_catches 83 = .ok (.iload 5, 2) := by decide +kernel
theorem dX14_catches_85 : decode cX14_catches 85 = .ok (.iadd, 1) := by decide +kernel
theorem dX14_catches_86 : decode cX14_catches 86 = .ok (.iaload, 1) := by decide +kernel
theorem dX14_catches_87 : decode cX14_catches 87 = .ok (.iload 4, 2) := by decide +kernel
theorem dX14_catches_89 : decode cX14_catches 89 = .ok (.iload 6, 2) := by decide +kernel
theorem dX14_catches_91 : decode cX14_catches 91 = .ok (.imul, 1) := by decide +kernel
theorem dX14_catches_92 : decode cX14_catches 92 = .ok (.bipush 10, 2) := by decide +kernel
theorem dX14_catches_94 : decode cX14_catches 94 = .ok (.idiv, 1) := by decide +kernel
theorem dX14_catches_95 : decode cX14_catches 95 = .ok (.aload_n 2, 1) := by decide +kernel
theorem dX14_catches_96 : decode cX14_catches 96 = .ok (.iload_n 3, 1) := by decide +kernel
theorem dX14_catches_97 : decode cX14_catches 97 = .ok (.iconst 1, 1) := by decide +kernel
theorem dX14_catches_98 : decode cX14_catches 98 = .ok (.iadd, 1) := by decide +kernel
theorem dX14_catches_99 : decode cX14_catches 99 = .ok (.iload_n 1, 1) := by decide +kernel
theorem dX14_catches_100 : decode cX14_catches 100 = .ok (.imul, 1) := by decide +kernel
theorem dX14_catches_101 : decode cX14_catches 101 = .ok (.iload 5, 2) := by decide +kernel
theorem dX14_catches_103 : decode cX14_catches 103 = .ok (.iadd, 1) := by decide +kernel
theorem dX14_catches_104 : decode cX14_catches 104 = .ok (.iload 6, 2) := by decide +kernel
theorem dX14_catches_106 : decode cX14_catches 106 = .ok (.isub, 1) := by decide +kernel
theorem dX14_catches_107 : decode cX14_catches 107 = .ok (.iaload, 1) := by decide +kernel
theorem dX14_catches_108 : decode cX14_catches 108 = .ok (.iadd, 1) := by decide +kernel
theorem dX14_catches_109 : decode cX14_catches 109 = .ok (.invokestatic 211, 3) := by decide +kernel
theorem dX14_catches_112 : decode cX14_catches 112 = .ok (.iastore, 1) := by decide +kernel
theorem dX14_catches_113 : decode cX14_catches 113 = .ok (.iinc 6 1, 3) := by decide +kernel
theorem dX14_catches_116 : decode cX14_catches 116 = .ok (.goto (-56), 3) := by decide +kernel
theorem dX14_catches_119 : decode cX14_catches 119 = .ok (.iinc 5 1, 3) := by decide +kernel
theorem dX14_catches_122 : decode cX14_catches 122 = .ok (.goto (-71), 3) := by decide +kernel
theorem dX14_catches_125 : decode cX14_catches 125 = .ok (.iinc 3 (-1), 3) := by decide +kernel
theorem dX14_catches_128 : decode cX14_catches 128 = .ok (.goto (-101), 3) := by decide +kernel
theorem dX14_catches_131 : decode cX14_catches 131 = .ok (.aload_n 2, 1) := by decide +kernel
theorem dX14_catches_132 : decode cX14_catches 132 = .ok (.areturn, 1) := by decide +kernel
set_option maxRecDepth 100000 in
theorem ggX14_planNow_X14_catches : GoodIn wsX14_planNow wsX14_catches := wk_g rfl wm_X14_planNow 9127 wc_X14_catches rfl (by decide +kernel) (by decide +kernel) wq_X14_catches
set_option maxRecDepth 100000 in
theorem gX14_planNow_X14_catches : GoodIn wsX14_planNow (wsV RX14 333 RX14 yX14_catches wsX14_catches) := goodIn_app (wk_h rfl wm_X14_planNow [9124, 9126, 1069, 2007] (by decide +kernel) (by decide +kernel) (by decide +kernel)) ggX14_planNow_X14_catches
set_option maxRecDepth 100000 in
theorem ggX14_planNow_Jx4a65c_size_8abf5 : GoodIn wsX14_planNow wsJx4a65c_size_8abf5 := wk_g rfl wm_X14_planNow 2173 wc_Jx4a65c_size_8abf5 rfl (by decide +kernel) (by decide +kernel) wq_Jx4a65c_size_8abf5
set_option maxRecDepth 100000 in
theorem gX14_planNow_Jx4a65c_size_8abf5 : GoodIn wsX14_planNow (wsV RX14 47 RJx4a65c yJx4a65c_size_8abf5 wsJx4a65c_size_8abf5) := goodIn_app (wk_h rfl wm_X14_planNow [7208, 2171, 2172, 2004] (by decide +kernel) (by decide +kernel) (by decide +kernel)) ggX14_planNow_Jx4a65c_size_8abf5
set_option maxRecDepth 100000 in
theorem ggX14_planNow_Jx4a65c_get_915e3 : GoodIn wsX14_planNow wsJx4a65c_get_915e3 := wk_g rfl wm_X14_planNow 2177 wc_Jx4a65c_get_915e3 rfl (by decide +kernel) (by decide +kernel) wq_Jx4a65c_get_915e3
set_option maxRecDepth 100000 in
theorem gX14_planNow_Jx4a65c_get_915e3 : GoodIn wsX14_planNow (wsV RX14 90 RJx4a65c yJx4a65c_get_915e3 wsJx4a65c_get_915e3) := goodIn_app (wk_h rfl wm_X14_planNow [8019, 2175, 2176, 2004] (by decide +kernel) (by decide +kernel) (by decide +kernel)) ggX14_planNow_Jx4a65c_get_915e3
set_option maxRecDepth 100000 in
theorem ggX14_planNow_X14_hiddenWorth : GoodIn wsX14_planNow wsX14_hiddenWorth := wk_g rfl wm_X14_planNow 9062 wc_X14_hiddenWorth rfl (by decide +kernel) (by decide +kernel) wq_X14_hiddenWorth
set_option maxRecDepth 100000 in
theorem gX14_planNow_X14_hiddenWorth : GoodIn wsX14_planNow (wsV RX14 286 RX14 yX14_hiddenWorth wsX14_hiddenWorth) := goodIn_app (wk_h rfl wm_X14_planNow [9059, 9061, 1062, 2007] (by decide +kernel) (by decide +kernel) (by decide +kernel)) ggX14_planNow_X14_hiddenWorth
theorem dX14_planNow_0 : decode cX14_planNow 0 = .ok (.bipush 81, 2) := by decide +kernel
theorem dX14_planNow_2 : decode cX14_planNow 2 = .ok (.istore_n 3, 1) := by decide +kernel
theorem dX14_planNow_3 : decode cX14_planNow 3 = .ok (.aload_n 0, 1) := by decide +kernel
theorem dX14_planNow_4 : decode cX14_planNow 4 = .ok (.invokevirtual 333, 3) := by decide +kernel
theorem dX14_planNow_7 : decode cX14_planNow 7 = .ok (.astore 4, 2) := by decide +kernel
theorem dX14_planNow_9 : decode cX14_planNow 9 = .ok (.iconst 0, 1) := by decide +kernel
theorem dX14_planNow_10 : decode cX14_planNow 10 = .ok (.istore 5, 2) := by decide +kernel
theorem dX14_planNow_12 : decode cX14_planNow 12 = .ok (.iload 5, 2) := by decide +kernel
theorem dX14_planNow_14 : decode cX14_planNow 14 = .ok (.iload_n 3, 1) := by decide +kernel
theorem dX14_planNow_15 : decode cX14_planNow 15 = .ok (.if_icmp .ge 18, 3) := by decide +kernel
theorem dX14_planNow_18 : decode cX14_planNow 18 = .ok (.aload 4, 2) := by decide +kernel
theorem dX14_planNow_20 : decode cX14_planNow 20 = .ok (.iload 5, 2) := by decide +kernel
theorem dX14_planNow_22 : decode cX14_planNow 22 = .ok (.iaload, 1) := by decide +kernel
theorem dX14_planNow_23 : decode cX14_planNow 23 = .ok (.iload_n 1, 1) := by decide +kernel
theorem dX14_planNow_24 : decode cX14_planNow 24 = .ok (.if_icmp .ge 9, 3) := by decide +kernel
theorem dX14_planNow_27 : decode cX14_planNow 27 = .ok (.iinc 5 1, 3) := by decide +kernel
theorem dX14_planNow_30 : decode cX14_planNow 30 = .ok (.goto (-18), 3) := by decide +kernel
theorem dX14_planNow_33 : decode cX14_planNow 33 = .ok (.iload 5, 2) := by decide +kernel
theorem dX14_planNow_35 : decode cX14_planNow 35 = .ok (.iload_n 3, 1) := by decide +kernel
theorem dX14_planNow_36 : decode cX14_planNow 36 = .ok (.if_icmp .ne 5, 3) := by decide +kernel
theorem dX14_planNow_39 : decode cX14_planNow 39 = .ok (.iconst (-1), 1) := by decide +kernel
theorem dX14_planNow_40 : decode cX14_planNow 40 = .ok (.ireturn, 1) := by decide +kernel
theorem dX14_planNow_41 : decode cX14_planNow 41 = .ok (.iload_n 2, 1) := by decide +kernel
theorem dX14_planNow_42 : decode cX14_planNow 42 = .ok (.iconst (-1), 1) := by decide +kernel
theorem dX14_planNow_43 : decode cX14_planNow 43 = .ok (.if_icmp .ne 6, 3) := by decide +kernel
theorem dX14_planNow_46 : decode cX14_planNow 46 = .ok (.iload 5, 2) := by decide +kernel
theorem dX14_planNow_48 : decode cX14_planNow 48 = .ok (.ireturn, 1) := by decide +kernel
theorem dX14_planNow_49 : decode cX14_planNow 49 = .ok (.iload_n 1, 1) := by decide +kernel
theorem dX14_planNow_50 : decode cX14_planNow 50 = .ok (.istore 6, 2) := by decide +kernel
theorem dX14_planNow_52 : decode cX14_planNow 52 = .ok (.iconst 0, 1) := by decide +kernel
theorem dX14_planNow_53 : decode cX14_planNow 53 = .ok (.istore 7, 2) := by decide +kernel
theorem dX14_planNow_55 : decode cX14_planNow 55 = .ok (.iload 7, 2) := by decide +kernel
theorem dX14_planNow_57 : decode cX14_planNow 57 = .ok (.aload_n 0, 1) := by decide +kernel
theorem dX14_planNow_58 : decode cX14_planNow 58 = .ok (.getfield 22, 3) := by decide +kernel
theorem dX14_planNow_61 : decode cX14_planNow 61 = .ok (.invokevirtual 47, 3) := by decide +kernel
theorem dX14_planNow_64 : decode cX14_planNow 64 = .ok (.if_icmp .ge 94, 3) := by decide +kernel
theorem dX14_planNow_67 : decode cX14_planNow 67 = .ok (.aload_n 0, 1) := by decide +kernel
theorem dX14_planNow_68 : decode cX14_planNow 68 = .ok (.aload_n 0, 1) := by decide +kernel
theorem dX14_planNow_69 : decode cX14_planNow 69 = .ok (.getfield 22, 3) := by decide +kernel
theorem dX14_planNow_72 : decode cX14_planNow 72 = .ok (.iload 7, 2) := by decide +kernel
theorem dX14_planNow_74 : decode cX14_planNow 74 = .ok (.invokevirtual 90, 3) := by decide +kernel
theorem dX14_planNow_77 : decode cX14_planNow 77 = .ok (.checkcast 68, 3) := by decide +kernel
theorem dX14_planNow_80 : decode cX14_planNow 80 = .ok (.invokevirtual 286, 3) := by decide +kernel
theorem dX14_planNow_83 : decode cX14_planNow 83 = .ok (.istore 8, 2) := by decide +kernel
theorem dX14_planNow_85 : decode cX14_planNow 85 = .ok (.iconst 0, 1) := by decide +kernel
theorem dX14_planNow_86 : decode cX14_planNow 86 = .ok (.istore 9, 2) := by decide +kernel
theorem dX14_planNow_88 : decode cX14_planNow 88 = .ok (.iload 8, 2) := by decide +kernel
theorem dX14_planNow_90 : decode cX14_planNow 90 = .ok (.iload 9, 2) := by decide +kernel
theorem dX14_planNow_92 : decode cX14_planNow 92 = .ok (.imul, 1) := by decide +kernel
theorem dX14_planNow_93 : decode cX14_planNow 93 = .ok (.bipush 10, 2) := by decide +kernel
theorem dX14_planNow_95 : decode cX14_planNow 95 = .ok (.idiv, 1) := by decide +kernel
theorem dX14_planNow_96 : decode cX14_planNow 96 = .ok (.aload 4, 2) := by decide +kernel
theorem dX14_planNow_98 : decode cX14_planNow 98 = .ok (.iload 7, 2) := by decide +kernel
theorem dX14_planNow_100 : decode cX14_planNow 100 = .ok (.iconst 1, 1) := by decide +kernel
theorem dX14_planNow_101 : decode cX14_planNow 101 = .ok (.iadd, 1) := by decide +kernel
theorem dX14_planNow_102 : decode cX14_planNow 102 = .ok (.iload_n 3, 1) := by decide +kernel
theorem dX14_planNow_103 : decode cX14_planNow 103 = .ok (.imul, 1) := by decide +kernel
theorem dX14_planNow_104 : decode cX14_planNow 104 = .ok (.iload 5, 2) := by decide +kernel
theorem dX14_planNow_106 : decode cX14_planNow 106 = .ok (.iadd, 1) := by decide +kernel
theorem dX14_planNow_107 : decode cX14_planNow 107 = .ok (.iload 9, 2) := by decide +kernel
theorem dX14_planNow_109 : decode cX14_planNow 109 = .ok (.isub, 1) := by decide +kernel
theorem dX14_planNow_110 : decode cX14_planNow 110 = .ok (.iaload, 1) := by decide +kernel
theorem dX14_planNow_111 : decode cX14_planNow 111 = .ok (.iadd, 1) := by decide +kernel
theorem dX14_planNow_112 : decode cX14_planNow 112 = .ok (.iload 6, 2) := by decide +kernel
theorem dX14_planNow_114 : decode cX14_planNow 114 = .ok (.if_icmp .ge 9, 3) := by decide +kernel
theorem dX14_planNow_117 : decode cX14_planNow 117 = .ok (.iinc 9 1, 3) := by decide +kernel
theorem dX14_planNow_120 : decode cX14_planNow 120 = .ok (.goto (-32), 3) := by decide +kernel
theorem dX14_planNow_123 : decode cX14_planNow 123 = .ok (.iload 7, 2) := by decide +kernel
theorem dX14_planNow_125 : decode cX14_planNow 125 = .ok (.iload_n 2, 1) := by decide +kernel
theorem dX14_planNow_126 : decode cX14_planNow 126 = .ok (.if_icmp .ne 6, 3) := by decide +kernel
theorem dX14_planNow_129 : decode cX14_planNow 129 = .ok (.iload 9, 2) := by decide +kernel
theorem dX14_planNow_131 : decode cX14_planNow 131 = .ok (.ireturn, 1) := by decide +kernel
theorem dX14_planNow_132 : decode cX14_planNow 132 = .ok (.iload 5, 2) := by decide +kernel
theorem dX14_planNow_134 : decode cX14_planNow 134 = .ok (.iload 9, 2) := by decide +kernel
theorem dX14_planNow_136 : decode cX14_planNow 136 = .ok (.isub, 1) := by decide +kernel
theorem dX14_planNow_137 : decode cX14_planNow 137 = .ok (.istore 5, 2) := by decide +kernel
theorem dX14_planNow_139 : decode cX14_planNow 139 = .ok (.iload 6, 2) := by decide +kernel
theorem dX14_planNow_141 : decode cX14_planNow 141 = .ok (.iload 8, 2) := by decide +kernel
theorem dX14_planNow_143 : decode cX14_planNow 143 = .ok (.iload 9, 2) := by decide +kernel
theorem dX14_planNow_145 : decode cX14_planNow 145 = .ok (.imul, 1) := by decide +kernel
theorem dX14_planNow_146 : decode cX14_planNow 146 = .ok (.bipush 10, 2) := by decide +kernel
theorem dX14_planNow_148 : decode cX14_planNow 148 = .ok (.idiv, 1) := by decide +kernel
theorem dX14_planNow_149 : decode cX14_planNow 149 = .ok (.isub, 1) := by decide +kernel
theorem dX14_planNow_150 : decode cX14_planNow 150 = .ok (.istore 6, 2) := by decide +kernel
theorem dX14_planNow_152 : decode cX14_planNow 152 = .ok (.iinc 7 1, 3) := by decide +kernel
theorem dX14_planNow_155 : decode cX14_planNow 155 = .ok (.goto (-100), 3) := by decide +kernel
theorem dX14_planNow_158 : decode cX14_planNow 158 = .ok (.iconst (-1), 1) := by decide +kernel
theorem dX14_planNow_159 : decode cX14_planNow 159 = .ok (.ireturn, 1) := by decide +kernel
set_option maxRecDepth 100000 in
theorem ggX14_plan_X14_isGate : GoodIn wsX14_plan wsX14_isGate := wk_g rfl wm_X14_plan 8018 wc_X14_isGate rfl (by decide +kernel) (by decide +kernel) wq_X14_isGate
set_option maxRecDepth 100000 in
theorem gX14_plan_X14_isGate : GoodIn wsX14_plan (wsV RX14 87 RX14 yX14_isGate wsX14_isGate) := goodIn_app (wk_h rfl wm_X14_plan [8015, 8017, 1047, 2007] (by decide +kernel) (by decide +kernel) (by decide +kernel)) ggX14_plan_X14_isGate
set_option maxRecDepth 100000 in
theorem ggX14_plan_X14_refuse : GoodIn wsX14_plan wsX14_refuse := wk_g rfl wm_X14_plan 7199 wc_X14_refuse rfl (by decide +kernel) (by decide +kernel) wq_X14_refuse
set_option maxRecDepth 100000 in
theorem gX14_plan_X14_refuse : GoodIn wsX14_plan (wsV RX14 55 RX14 yX14_refuse wsX14_refuse) := goodIn_app (wk_h rfl wm_X14_plan [7196, 7198, 1046, 2007] (by decide +kernel) (by decide +kernel) (by decide +kernel)) ggX14_plan_X14_refuse
set_option maxRecDepth 100000 in
theorem ggX14_plan_X14_is : GoodIn wsX14_plan wsX14_is := wk_g rfl wm_X14_plan 7195 wc_X14_is rfl (by decide +kernel) (by decide +kernel) wq_X14_is
set_option maxRecDepth 100000 in
theorem gX14_plan_X14_is : GoodIn wsX14_plan (va_wsS RX14 43 yX14_is wsX14_is) := goodIn_app (wk_h rfl wm_X14_plan [7193, 7194, 2007] (by decide +kernel) (by decide +kernel) (by decide +kernel)) ggX14_plan_X14_is
set_option maxRecDepth 100000 in
theorem ggX14_plan_X14_planNow : GoodIn wsX14_plan wsX14_planNow := wk_g rfl wm_X14_plan 9123 wc_X14_planNow rfl (by decide +kernel) (by decide +kernel) wq_X14_planNow
set_option maxRecDepth 100000 in
theorem gX14_plan_X14_planNow : GoodIn wsX14_plan (wsV RX14 337 RX14 yX14_planNow wsX14_planNow) := goodIn_app (wk_h rfl wm_X14_plan [9120, 9122, 1068, 2007] (by decide +kernel) (by decide +kernel) (by decide +kernel)) ggX14_plan_X14_planNow
theorem dX14_plan_0 : decode cX14_plan 0 = .ok (.aload_n 0, 1) := by decide +kernel
theorem dX14_plan_1 : decode cX14_plan 1 = .ok (.iconst 0, 1) := by decide +kernel
theorem dX14_plan_2 : decode cX14_plan 2 = .ok (.putfield 40, 3) := by decide +kernel
theorem dX14_plan_5 : decode cX14_plan 5 = .ok (.iload_n 2, 1) := by decide +kernel
theorem dX14_plan_6 : decode cX14_plan 6 = .ok (.iconst (-1), 1) := by decide +kernel
theorem dX14_plan_7 : decode cX14_plan 7 = .ok (.if_icmp .eq 17, 3) := by decide +kernel
theorem dX14_plan_10 : decode cX14_plan 10 = .ok (.aload_n 0, 1) := by decide +kernel
theorem dX14_plan_11 : decode cX14_plan 11 = .ok (.iload_n 2, 1) := by decide +kernel
theorem dX14_plan_12 : decode cX14_plan 12 = .ok (.invokevirtual 87, 3) := by decide +kernel
theorem dX14_plan_15 : decode cX14_plan 15 = .ok (.ifCond .ne 9, 3) := by decide +kernel
theorem dX14_plan_18 : decode cX14_plan 18 = .ok (.aload_n 0, 1) := by decide +kernel
theorem dX14_plan_19 : decode cX14_plan 19 = .ok (.iconst 1, 1) := by decide +kernel
theorem dX14_plan_20 : decode cX14_plan 20 = .ok (.invokevirtual 55, 3) := by decide +kernel
theorem dX14_plan_23 : decode cX14_plan 23 = .ok (.ireturn, 1) := by decide +kernel
theorem dX14_plan_24 : decode cX14_plan 24 = .ok (.iload_n 1, 1) := by decide +kernel
theorem dX14_plan_25 : decode cX14_plan 25 = .ok (.iconst 0, 1) := by decide +kernel
theorem dX14_plan_26 : decode cX14_plan 26 = .ok (.sipush 2000, 3) := by decide +kernel
theorem dX14_plan_29 : decode cX14_plan 29 = .ok (.invokestatic 43, 3) := by decide +kernel
theorem dX14_plan_32 : decode cX14_plan 32 = .ok (.ifCond .eq 12, 3) := by decide +kernel
theorem dX14_plan_35 : decode cX14_plan 35 = .ok (.aload_n 0, 1) := by decide +kernel
theorem dX14_plan_36 : decode cX14_plan 36 = .ok (.iload_n 1, 1) := by decide +kernel
theorem dX14_plan_37 : decode cX14_plan 37 = .ok (.iload_n 2, 1) := by decide +kernel
theorem dX14_plan_38 : decode cX14_plan 38 = .ok (.invokevirtual 337, 3) := by decide +kernel
theorem dX14_plan_41 : decode cX14_plan 41 = .ok (.goto 8, 3) := by decide +kernel
theorem dX14_plan_44 : decode cX14_plan 44 = .ok (.aload_n 0, 1) := by decide +kernel
theorem dX14_plan_45 : decode cX14_plan 45 = .ok (.iconst 2, 1) := by decide +kernel
theorem dX14_plan_46 : decode cX14_plan 46 = .ok (.invokevirtual 55, 3) := by decide +kernel
theorem dX14_plan_49 : decode cX14_plan 49 = .ok (.ireturn, 1) := by decide +kernel
set_option maxRecDepth 100000 in
theorem ggX14_wouldPayNow_Jx4a65c_get_915e3 : GoodIn wsX14_wouldPayNow wsJx4a65c_get_915e3 := wk_g rfl wm_X14_wouldPayNow 2177 wc_Jx4a65c_get_915e3 rfl (by decide +kernel) (by decide +kernel) wq_Jx4a65c_get_915e3
set_option maxRecDepth 100000 in
theorem gX14_wouldPayNow_Jx4a65c_get_915e3 : GoodIn wsX14_wouldPayNow (wsV RX14 90 RJx4a65c yJx4a65c_get_915e3 wsJx4a65c_get_915e3) := goodIn_app (wk_h rfl wm_X14_wouldPayNow [8019, 2175, 2176, 2004] (by decide +kernel) (by decide +kernel) (by decide +kernel)) ggX14_wouldPayNow_Jx4a65c_get_915e3
set_option maxRecDepth 100000 in
theorem ggX14_wouldPayNow_Jx4a65c_isEmpty_aae02 : GoodIn wsX14_wouldPayNow wsJx4a65c_isEmpty_aae02 := wk_g rfl wm_X14_wouldPayNow 3133 wc_Jx4a65c_isEmpty_aae02 rfl (by decide +kernel) (by decide +kernel) wq_Jx4a65c_isEmpty_aae02
set_option maxRecDepth 100000 in
theorem gX14_wouldPayNow_Jx4a65c_isEmpty_aae02 : GoodIn wsX14_wouldPayNow (wsV RX14 247 RJx4a65c yJx4a65c_isEmpty_aae02 wsJx4a65c_isEmpty_aae02) := goodIn_app (wk_h rfl wm_X14_wouldPayNow [8182, 3131, 3132, 2004] (by decide +kernel) (by decide +kernel) (by decide +kernel)) ggX14_wouldPayNow_Jx4a65c_isEmpty_aae02
set_option maxRecDepth 100000 in
theorem ggX14_wouldPayNow_J6_intValue_8abf5 : GoodIn wsX14_wouldPayNow wsJ6_intValue_8abf5 := wk_g rfl wm_X14_wouldPayNow 8135 wc_J6_intValue_8abf5 rfl (by decide +kernel) (by decide +kernel) wq_J6_intValue_8abf5
set_option maxRecDepth 100000 in
theorem gX14_wouldPayNow_J6_intValue_8abf5 : GoodIn wsX14_wouldPayNow (wsV RX14 167 RJ6 yJ6_intValue_8abf5 wsJ6_intValue_8abf5) := goodIn_app (wk_h rfl wm_X14_wouldPayNow [8132, 8133, 8134, 2036] (by decide +kernel) (by decide +kernel) (by decide +kernel)) ggX14_wouldPayNow_J6_intValue_8abf5
set_option maxRecDepth 100000 in
theorem ggX14_wouldPayNow_X14_isGoodNow : GoodIn wsX14_wouldPayNow wsX14_isGoodNow := wk_g rfl wm_X14_wouldPayNow 8186 wc_X14_isGoodNow rfl (by decide +kernel) (by decide +kernel) wq_X14_isGoodNow
set_option maxRecDepth 100000 in
theorem gX14_wouldPayNow_X14_isGoodNow : GoodIn wsX14_wouldPayNow (wsV RX14 253 RX14 yX14_isGoodNow wsX14_isGoodNow) := goodIn_app (wk_h rfl wm_X14_wouldPayNow [8183, 8185, 1052, 2007] (by decide +kernel) (by decide +kernel) (by decide +kernel)) ggX14_wouldPayNow_X14_isGoodNow
set_option maxRecDepth 100000 in
theorem ggX14_wouldPayNow_X10_beyond : GoodIn wsX14_wouldPayNow wsX10_beyond := wk_g rfl wm_X14_wouldPayNow 8199 wc_X10_beyond rfl (by decide +kernel) (by decide +kernel) wq_X10_beyond
set_option maxRecDepth 100000 in
theorem gX14_wouldPayNow_X10_beyond : GoodIn wsX14_wouldPayNow (wsV RX14 215 RX10 yX10_beyond wsX10_beyond) := goodIn_app (wk_h rfl wm_X14_wouldPayNow [8196, 8197, 8198, 2022] (by decide +kernel) (by decide +kernel) (by decide +kernel)) ggX14_wouldPayNow_X10_beyond
set_option maxRecDepth 100000 in
theorem ggX14_wouldPayNow_X14_comeIn : GoodIn wsX14_wouldPayNow wsX14_comeIn := wk_g rfl wm_X14_wouldPayNow 8207 wc_X14_comeIn rfl (by decide +kernel) (by decide +kernel) wq_X14_comeIn
set_option maxRecDepth 100000 in
theorem gX14_wouldPayNow_X14_comeIn : GoodIn wsX14_wouldPayNow (wsV RX14 230 RX14 yX14_comeIn wsX14_comeIn) := goodIn_app (wk_h rfl wm_X14_wouldPayNow [8204, 8206, 1055, 2007] (by decide +kernel) (by decide +kernel) (by decide +kernel)) ggX14_wouldPayNow_X14_comeIn
set_option maxRecDepth 100000 in
theorem ggX14_wouldPayNow_X14_duty : GoodIn wsX14_wouldPayNow wsX14_duty := wk_g rfl wm_X14_wouldPayNow 8215 wc_X14_duty rfl (by decide +kernel) (by decide +kernel) wq_X14_duty
set_option maxRecDepth 100000 in
theorem gX14_wouldPayNow_X14_duty : GoodIn wsX14_wouldPayNow (wsV RX14 237 RX14 yX14_duty wsX14_duty) := goodIn_app (wk_h rfl wm_X14_wouldPayNow [8212, 8214, 1056, 2007] (by decide +kernel) (by decide +kernel) (by decide +kernel)) ggX14_wouldPayNow_X14_duty
theorem dX14_wouldPayNow_0 : decode cX14_wouldPayNow 0 = .ok (.aload_n 0, 1) := by decide +kernel
theorem dX14_wouldPayNow_1 : decode cX14_wouldPayNow 1 = .ok (.getfield 22, 3) := by decide +kernel
theorem dX14_wouldPayNow_4 : decode cX14_wouldPayNow 4 = .ok (.iload_n 1, 1) := by decide +kernel
theorem dX14_wouldPayNow_5 : decode cX14_wouldPayNow 5 = .ok (.invokevirtual 90, 3) := by decide +kernel
theorem dX14_wouldPayNow_8 : decode cX14_wouldPayNow 8 = .ok (.checkcast 68, 3) := by decide +kernel
theorem dX14_wouldPayNow_11 : decode cX14_wouldPayNow 11 = .ok (.astore_n 2, 1) := by decide +kernel
theorem dX14_wouldPayNow_12 : decode cX14_wouldPayNow 12 = .ok (.aload_n 2, 1) := by decide +kernel
theorem dX14_wouldPayNow_13 : decode cX14_wouldPayNow 13 = .ok (.getfield 162, 3) := by decide +kernel
theorem dX14_wouldPayNow_16 : decode cX14_wouldPayNow 16 = .ok (.invokevirtual 247, 3) := by decide +kernel
theorem dX14_wouldPayNow_19 : decode cX14_wouldPayNow 19 = .ok (.ifCond .ne 25, 3) := by decide +kernel
theorem dX14_wouldPayNow_22 : decode cX14_wouldPayNow 22 = .ok (.aload_n 0, 1) := by decide +kernel
theorem dX14_wouldPayNow_23 : decode cX14_wouldPayNow 23 = .ok (.aload_n 2, 1) := by decide +kernel
theorem dX14_wouldPayNow_24 : decode cX14_wouldPayNow 24 = .ok (.getfield 162, 3) := by decide +kernel
theorem dX14_wouldPayNow_27 : decode cX14_wouldPayNow 27 = .ok (.iconst 0, 1) := by decide +kernel
theorem dX14_wouldPayNow_28 : decode cX14_wouldPayNow 28 = .ok (.invokevirtual 90, 3) := by decide +kernel
theorem dX14_wouldPayNow_31 : decode cX14_wouldPayNow 31 = .ok (.checkcast 165, 3) := by decide +kernel
theorem dX14_wouldPayNow_34 : decode cX14_wouldPayNow 34 = .ok (.invokevirtual 167, 3) := by decide +kernel
theorem dX14_wouldPayNow_37 : decode cX14_wouldPayNow 37 = .ok (.iload_n 1, 1) := by decide +kernel
theorem dX14_wouldPayNow_38 : decode cX14_wouldPayNow 38 = .ok (.invokevirtual 253, 3) := by decide +kernel
theorem dX14_wouldPayNow_41 : decode cX14_wouldPayNow 41 = .ok (.ifCond .ne 5, 3) := by decide +kernel
theorem dX14_wouldPayNow_44 : decode cX14_wouldPayNow 44 = .ok (.iconst 0, 1) := by decide +kernel
theorem dX14_wouldPayNow_45 : decode cX14_wouldPayNow 45 = .ok (.ireturn, 1) := by decide +kernel
theorem dX14_wouldPayNow_46 : decode cX14_wouldPayNow 46 = .ok (.aload_n 2, 1) := by decide +kernel
theorem dX14_wouldPayNow_47 : decode cX14_wouldPayNow 47 = .ok (.getfield 162, 3) := by decide +kernel
theorem dX14_wouldPayNow_50 : decode cX14_wouldPayNow 50 = .ok (.iconst 0, 1) := by decide +kernel
theorem dX14_wouldPayNow_51 : decode cX14_wouldPayNow 51 = .ok (.invokevirtual 90, 3) := by decide +kernel
theorem dX14_wouldPayNow_54 : decode cX14_wouldPayNow 54 = .ok (.checkcast 165, 3) := by decide +kernel
theorem dX14_wouldPayNow_57 : decode cX14_wouldPayNow 57 = .ok (.invokevirtual 167, 3) := by decide +kernel
theorem dX14_wouldPayNow_60 : decode cX14_wouldPayNow 60 = .ok (.istore_n 3, 1) := by decide +kernel
theorem dX14_wouldPayNow_61 : decode cX14_wouldPayNow 61 = .ok (.aload_n 2, 1) := by decide +kernel
theorem dX14_wouldPayNow_62 : decode cX14_wouldPayNow 62 = .ok (.aload_n 0, 1) := by decide +kernel
theorem dX14_wouldPayNow_63 : decode cX14_wouldPayNow 63 = .ok (.getfield 26, 3) := by decide +kernel
theorem dX14_wouldPayNow_66 : decode cX14_wouldPayNow 66 = .ok (.iload_n 3, 1) := by decide +kernel
theorem dX14_wouldPayNow_67 : decode cX14_wouldPayNow 67 = .ok (.invokevirtual 90, 3) := by decide +kernel
theorem dX14_wouldPayNow_70 : decode cX14_wouldPayNow 70 = .ok (.checkcast 100, 3) := by decide +kernel
theorem dX14_wouldPayNow_73 : decode cX14_wouldPayNow 73 = .ok (.getfield 103, 3) := by decide +kernel
theorem dX14_wouldPayNow_76 : decode cX14_wouldPayNow 76 = .ok (.invokevirtual 215, 3) := by decide +kernel
theorem dX14_wouldPayNow_79 : decode cX14_wouldPayNow 79 = .ok (.istore 4, 2) := by decide +kernel
theorem dX14_wouldPayNow_81 : decode cX14_wouldPayNow 81 = .ok (.aload_n 0, 1) := by decide +kernel
theorem dX14_wouldPayNow_82 : decode cX14_wouldPayNow 82 = .ok (.aload_n 0, 1) := by decide +kernel
theorem dX14_wouldPayNow_83 : decode cX14_wouldPayNow 83 = .ok (.iload_n 3, 1) := by decide +kernel
theorem dX14_wouldPayNow_84 : decode cX14_wouldPayNow 84 = .ok (.iload 4, 2) := by decide +kernel
theorem dX14_wouldPayNow_86 : decode cX14_wouldPayNow 86 = .ok (.iconst 0, 1) := by decide +kernel
theorem dX14_wouldPayNow_87 : decode cX14_wouldPayNow 87 = .ok (.invokevirtual 230, 3) := by decide +kernel
theorem dX14_wouldPayNow_90 : decode cX14_wouldPayNow 90 = .ok (.aload_n 0, 1) := by decide +kernel
theorem dX14_wouldPayNow_91 : decode cX14_wouldPayNow 91 = .ok (.getfield 15, 3) := by decide +kernel
theorem dX14_wouldPayNow_94 : decode cX14_wouldPayNow 94 = .ok (.iload 4, 2) := by decide +kernel
theorem dX14_wouldPayNow_96 : decode cX14_wouldPayNow 96 = .ok (.aaload, 1) := by decide +kernel
theorem dX14_wouldPayNow_97 : decode cX14_wouldPayNow 97 = .ok (.invokevirtual 237, 3) := by decide +kernel
theorem dX14_wouldPayNow_100 : decode cX14_wouldPayNow 100 = .ok (.ireturn, 1) := by decide +kernel
set_option maxRecDepth 100000 in
theorem ggX14_wouldPay_X14_isGate : GoodIn wsX14_wouldPay wsX14_isGate := wk_g rfl wm_X14_wouldPay 8018 wc_X14_isGate rfl (by decide +kernel) (by decide +kernel) wq_X14_isGate
set_option maxRecDepth 100000 in
theorem gX14_wouldPay_X14_isGate : GoodIn wsX14_wouldPay (wsV RX14 87 RX14 yX14_isGate wsX14_isGate) := goodIn_app (wk_h rfl wm_X14_wouldPay [8015, 8017, 1047, 2007] (by decide +kernel) (by decide +kernel) (by decide +kernel)) ggX14_wouldPay_X14_isGate
set_option maxRecDepth 100000 in
theorem ggX14_wouldPay_X14_wouldPayNow : GoodIn wsX14_wouldPay wsX14_wouldPayNow := wk_g rfl wm_X14_wouldPay 9136 wc_X14_wouldPayNow rfl (by decide +kernel) (by decide +kernel) wq_X14_wouldPayNow
set_option maxRecDepth 100000 in
theorem gX14_wouldPay_X14_wouldPayNow : GoodIn wsX14_wouldPay (wsV RX14 340 RX14 yX14_wouldPayNow wsX14_wouldPayNow) := goodIn_app (wk_h rfl wm_X14_wouldPay [9133, 9135, 1070, 2007] (by decide +kernel) (by decide +kernel) (by decide +kernel)) ggX14_wouldPay_X14_wouldPayNow
set_option maxRecDepth 100000 in
theorem ggX14_wouldPay_X14_refuse : GoodIn wsX14_wouldPay wsX14_refuse := wk_g rfl wm_X14_wouldPay 7199 wc_X14_refuse rfl (by decide +kernel) (by decide +kernel) wq_X14_refuse
set_option maxRecDepth 100000 in
theorem gX14_wouldPay_X14_refuse : GoodIn wsX14_wouldPay (wsV RX14 55 RX14 yX14_refuse wsX14_refuse) := goodIn_app (wk_h rfl wm_X14_wouldPay [7196, 7198, 1046, 2007] (by decide +kernel) (by decide +kernel) (by decide +kernel)) ggX14_wouldPay_X14_refuse
theorem dX14_wouldPay_0 : decode cX14_wouldPay 0 = .ok (.aload_n 0, 1) := by decide +kernel
theorem dX14_wouldPay_1 : decode cX14_wouldPay 1 = .ok (.iconst 0, 1) := by decide +kernel
theorem dX14_wouldPay_2 : decode cX14_wouldPay 2 = .ok (.putfield 40, 3) := by decide +kernel
theorem dX14_wouldPay_5 : decode cX14_wouldPay 5 = .ok (.aload_n 0, 1) := by decide +kernel
theorem dX14_wouldPay_6 : decode cX14_wouldPay 6 = .ok (.iload_n 1, 1) := by decide +kernel
theorem dX14_wouldPay_7 : decode cX14_wouldPay 7 = .ok (.invokevirtual 87, 3) := by decide +kernel
theorem dX14_wouldPay_10 : decode cX14_wouldPay 10 = .ok (.ifCond .eq 11, 3) := by decide +kernel
theorem dX14_wouldPay_13 : decode cX14_wouldPay 13 = .ok (.aload_n 0, 1) := by decide +kernel
theorem dX14_wouldPay_14 : decode cX14_wouldPay 14 = .ok (.iload_n 1, 1) := by decide +kernel
theorem dX14_wouldPay_15 : decode cX14_wouldPay 15 = .ok (.invokevirtual 340, 3) := by decide +kernel
theorem dX14_wouldPay_18 : decode cX14_wouldPay 18 = .ok (.goto 8, 3) := by decide +kernel
theorem dX14_wouldPay_21 : decode cX14_wouldPay 21 = .ok (.aload_n 0, 1) := by decide +kernel
theorem dX14_wouldPay_22 : decode cX14_wouldPay 22 = .ok (.iconst 1, 1) := by decide +kernel
theorem dX14_wouldPay_23 : decode cX14_wouldPay 23 = .ok (.invokevirtual 55, 3) := by decide +kernel
theorem dX14_wouldPay_26 : decode cX14_wouldPay 26 = .ok (.ireturn, 1) := by decide +kernel
set_option maxRecDepth 100000 in
theorem ggX14_isSoundNow_Jx4a65c_iterator_32c93 : GoodIn wsX14_isSoundNow wsJx4a65c_iterator_32c93 := wk_g rfl wm_X14_isSoundNow 8232 wc_Jx4a65c_iterator_32c93 rfl (by decide +kernel) (by decide +kernel) wq_Jx4a65c_iterator_32c93
set_option maxRecDepth 100000 in
theorem gX14_isSoundNow_Jx4a65c_iterator_32c93 : GoodIn wsX14_isSoundNow (wsV RX14 264 RJx4a65c yJx4a65c_iterator_32c93 wsJx4a65c_iterator_32c93) := goodIn_app (wk_h rfl wm_X14_isSoundNow [8229, 8230, 8231, 2004] (by decide +kernel) (by decide +kernel) (by decide +kernel)) ggX14_isSoundNow_Jx4a65c_iterator_32c93
set_option maxRecDepth 100000 in
theorem ggX14_isSoundNow_Jx35411_hasNext_aae02 : GoodIn wsX14_isSoundNow wsJx35411_hasNext_aae02 := wk_g rfl wm_X14_isSoundNow 9021 wc_Jx35411_hasNext_aae02 rfl (by decide +kernel) (by decide +kernel) wq_Jx35411_hasNext_aae02
set_option maxRecDepth 100000 in
theorem gX14_isSoundNow_Jx35411_hasNext_aae02_f268Jx35411 : GoodIn wsX14_isSoundNow (va_wsF RX14 268 RJx35411 ⟨"java/util/Iterator", "hasNext", "()Z"⟩ yJx35411_hasNext_aae02 wsJx35411_hasNext_aae02) := goodIn_app (wk_h rfl wm_X14_isSoundNow [9013, 9017, 9019, 2039] (by decide +kernel) (by decide +kernel) (by decide +kernel)) ggX14_isSoundNow_Jx35411_hasNext_aae02
set_option maxRecDepth 100000 in
theorem ggX14_isSoundNow_Jx35411_next_0502b : GoodIn wsX14_isSoundNow wsJx35411_next_0502b := wk_g rfl wm_X14_isSoundNow 9030 wc_Jx35411_next_0502b rfl (by decide +kernel) (by decide +kernel) wq_Jx35411_next_0502b
set_option maxRecDepth 100000 in
theorem gX14_isSoundNow_Jx35411_next_0502b_f273Jx35411 : GoodIn wsX14_isSoundNow (va_wsF RX14 273 RJx35411 ⟨"java/util/Iterator", "next", "()Ljava/lang/Object;"⟩ yJx35411_next_0502b wsJx35411_next_0502b) := goodIn_app (wk_h rfl wm_X14_isSoundNow [9023, 9026, 9028, 2039] (by decide +kernel) (by decide +kernel) (by decide +kernel)) ggX14_isSoundNow_Jx35411_next_0502b
set_option maxRecDepth 100000 in
theorem ggX14_isSoundNow_Jx4a65c_size_8abf5 : GoodIn wsX14_isSoundNow wsJx4a65c_size_8abf5 := wk_g rfl wm_X14_isSoundNow 2173 wc_Jx4a65c_size_8abf5 rfl (by decide +kernel) (by decide +kernel) wq_Jx4a65c_size_8abf5
set_option maxRecDepth 100000 in
theorem gX14_isSoundNow_Jx4a65c_size_8abf5 : GoodIn wsX14_isSoundNow (wsV RX14 47 RJx4a65c yJx4a65c_size_8abf5 wsJx4a65c_size_8abf5) := goodIn_app (wk_h rfl wm_X14_isSoundNow [7208, 2171, 2172, 2004] (by decide +kernel) (by decide +kernel) (by decide +kernel)) ggX14_isSoundNow_Jx4a65c_size_8abf5
set_option maxRecDepth 100000 in
theorem ggX14_isSoundNow_Jx4a65c_get_915e3 : GoodIn wsX14_isSoundNow wsJx4a65c_get_915e3 := wk_g rfl wm_X14_isSoundNow 2177 wc_Jx4a65c_get_915e3 rfl (by decide +kernel) (by decide +kernel) wq_Jx4a65c_get_915e3
set_option maxRecDepth 100000 in
theorem gX14_isSoundNow_Jx4a65c_get_915e3 : GoodIn wsX14_isSoundNow (wsV RX14 90 RJx4a65c yJx4a65c_get_915e3 wsJx4a65c_get_915e3) := goodIn_app (wk_h rfl wm_X14_isSoundNow [8019, 2175, 2176, 2004] (by decide +kernel) (by decide +kernel) (by decide +kernel)) ggX14_isSoundNow_Jx4a65c_get_915e3
set_option maxRecDepth 100000 in
theorem ggX14_isSoundNow_J6_intValue_8abf5 : GoodIn wsX14_isSoundNow wsJ6_intValue_8abf5 := wk_g rfl wm_X14_isSoundNow 8135 wc_J6_intValue_8abf5 rfl (by decide +kernel) (by decide +kernel) wq_J6_intValue_8abf5
set_option maxRecDepth 100000 in
theorem gX14_isSoundNow_J6_intValue_8abf5 : GoodIn wsX14_isSoundNow (wsV RX14 167 RJ6 yJ6_intValue_8abf5 wsJ6_intValue_8abf5) := goodIn_app (wk_h rfl wm_X14_isSoundNow [8132, 8133, 8134, 2036] (by decide +kernel) (by decide +kernel) (by decide +kernel)) ggX14_isSoundNow_J6_intValue_8abf5
set_option maxRecDepth 100000 in
theorem ggX14_isSoundNow_X10_has : GoodIn wsX14_isSoundNow wsX10_has := wk_g rfl wm_X14_isSoundNow 8130 wc_X10_has rfl (by decide +kernel) (by decide +kernel) wq_X10_has
set_option maxRecDepth 100000 in
theorem gX14_isSoundNow_X10_has : GoodIn wsX14_isSoundNow (wsV RX14 159 RX10 yX10_has wsX10_has) := goodIn_app (wk_h rfl wm_X14_isSoundNow [8127, 8128, 8129, 2022] (by decide +kernel) (by decide +kernel) (by decide +kernel)) ggX14_isSoundNow_X10_has
set_option maxRecDepth 100000 in
theorem ggX14_isSoundNow_X14_is : GoodIn wsX14_isSoundNow wsX14_is := wk_g rfl wm_X14_isSoundNow 7195 wc_X14_is rfl (by decide +kernel) (by decide +kernel) wq_X14_is
set_option maxRecDepth 100000 in
theorem gX14_isSoundNow_X14_is : GoodIn wsX14_isSoundNow (va_wsS RX14 43 yX14_is wsX14_is) := goodIn_app (wk_h rfl wm_X14_isSoundNow [7193, 7194, 2007] (by decide +kernel) (by decide +kernel) (by decide +kernel)) ggX14_isSoundNow_X14_is
set_option maxRecDepth 100000 in
theorem ggX14_isSoundNow_X14_head : GoodIn wsX14_isSoundNow wsX14_head := wk_g rfl wm_X14_isSoundNow 8126 wc_X14_head rfl (by decide +kernel) (by decide +kernel) wq_X14_head
set_option maxRecDepth 100000 in
theorem gX14_isSoundNow_X14_head : GoodIn wsX14_isSoundNow (wsV RX14 156 RX14 yX14_head wsX14_head) := goodIn_app (wk_h rfl wm_X14_isSoundNow [8123, 8125, 1050, 2007] (by decide +kernel) (by decide +kernel) (by decide +kernel)) ggX14_isSoundNow_X14_head
theorem dX14_isSoundNow_0 : decode cX14_isSoundNow 0 = .ok (.bipush 12, 2) := by decide +kernel
theorem dX14_isSoundNow_2 : decode cX14_isSoundNow 2 = .ok (.newarray .int, 2) := by decide +kernel
theorem dX14_isSoundNow_4 : decode cX14_isSoundNow 4 = .ok (.astore_n 1, 1) := by decide +kernel
theorem dX14_isSoundNow_5 : decode cX14_isSoundNow 5 = .ok (.aload_n 0, 1) := by decide +kernel
theorem dX14_isSoundNow_6 : decode cX14_isSoundNow 6 = .ok (.getfield 22, 3) := by decide +kernel
theorem dX14_isSoundNow_9 : decode cX14_isSoundNow 9 = .ok (.invokevirtual 264, 3) := by decide +kernel
theorem dX14_isSoundNow_12 : decode cX14_isSoundNow 12 = .ok (.astore_n 2, 1) := by decide +kernel
theorem dX14_isSoundNow_13 : decode cX14_isSoundNow 13 = .ok (.aload_n 2, 1) := by decide +kernel
theorem dX14_isSoundNow_14 : decode cX14_isSoundNow 14 = .ok (.invokeinterface 268 1, 5) := by decide +kernel
theorem dX14_isSoundNow_19 : decode cX14_isSoundNow 19 = .ok (.ifCond .eq 140, 3) := by decide +kernel
theorem dX14_isSoundNow_22 : decode cX14_isSoundNow 22 = .ok (.aload_n 2, 1) := by decide +kernel
theorem dX14_isSoundNow_23 : decode cX14_isSoundNow 23 = .ok (.invokeinterface 273 1, 5) := by decide +kernel
theorem dX14_isSoundNow_28 : decode cX14_isSoundNow 28 = .ok (.checkcast 68, 3) := by decide +kernel
theorem dX14_isSoundNow_31 : decode cX14_isSoundNow 31 = .ok (.astore_n 3, 1) := by decide +kernel
theorem dX14_isSoundNow_32 : decode cX14_isSoundNow 32 = .ok (.iconst 0, 1) := by decide +kernel
theorem dX14_isSoundNow_33 : decode cX14_isSoundNow 33 = .ok (.istore 4, 2) := by decide +kernel
theorem dX14_isSoundNow_35 : decode cX14_isSoundNow 35 = .ok (.iconst 0, 1) := by decide +kernel
theorem dX14_isSoundNow_36 : decode cX14_isSoundNow 36 = .ok (.istore 5, 2) := by decide +kernel
theorem dX14_isSoundNow_38 : decode cX14_isSoundNow 38 = .ok (.iload 5, 2) := by decide +kernel
theorem dX14_isSoundNow_40 : decode cX14_isSoundNow 40 = .ok (.aload_n 3, 1) := by decide +kernel
theorem dX14_isSoundNow_41 : decode cX14_isSoundNow 41 = .ok (.getfield 162, 3) := by decide +kernel
theorem dX14_isSoundNow_44 : decode cX14_isSoundNow 44 = .ok (.invokevirtual 47, 3) := by decide +kernel
theorem dX14_isSoundNow_47 : decode cX14_isSoundNow 47 = .ok (.if_icmp .ge 109, 3) := by decide +kernel
theorem dX14_isSoundNow_50 : decode cX14_isSoundNow 50 = .ok (.aload_n 3, 1) := by decide +kernel
theorem dX14_isSoundNow_51 : decode cX14_isSoundNow 51 = .ok (.getfield 162, 3) := by decide +kernel
theorem dX14_isSoundNow_54 : decode cX14_isSoundNow 54 = .ok (.iload 5, 2) := by decide +kernel
theorem dX14_isSoundNow_56 : decode cX14_isSoundNow 56 = .ok (.invokevirtual 90, 3) := by decide +kernel
theorem dX14_isSoundNow_59 : decode cX14_isSoundNow 59 = .ok (.checkcast 165, 3) := by decide +kernel
theorem dX14_isSoundNow_62 : decode cX14_isSoundNow 62 = .ok (.invokevirtual 167, 3) := by decide +kernel
theorem dX14_isSoundNow_65 : decode cX14_isSoundNow 65 = .ok (.istore 6, 2) := by decide +kernel
theorem dX14_isSoundNow_67 : decode cX14_isSoundNow 67 = .ok (.aload_n 1, 1) := by decide +kernel
theorem dX14_isSoundNow_68 : decode cX14_isSoundNow 68 = .ok (.iload 6, 2) := by decide +kernel
theorem dX14_isSoundNow_70 : decode cX14_isSoundNow 70 = .ok (.dup2, 1) := by decide +kernel
theorem dX14_isSoundNow_71 : decode cX14_isSoundNow 71 = .ok (.iaload, 1) := by decide +kernel
theorem dX14_isSoundNow_72 : decode cX14_isSoundNow 72 = .ok (.iconst 1, 1) := by decide +kernel
theorem dX14_isSoundNow_73 : decode cX14_isSoundNow 73 = .ok (.iadd, 1) := by decide +kernel
theorem dX14_isSoundNow_74 : decode cX14_isSoundNow 74 = .ok (.iastore, 1) := by decide +kernel
theorem dX14_isSoundNow_75 : decode cX14_isSoundNow 75 = .ok (.aload_n 3, 1) := by decide +kernel
theorem dX14_isSoundNow_76 : decode cX14_isSoundNow 76 = .ok (.aload_n 0, 1) := by decide +kernel
theorem dX14_isSoundNow_77 : decode cX14_isSoundNow 77 = .ok (.getfield 26, 3) := by decide +kernel
theorem dX14_isSoundNow_80 : decode cX14_isSoundNow 80 = .ok (.iload 6, 2) := by decide +kernel
theorem dX14_isSoundNow_82 : decode cX14_isSoundNow 82 = .ok (.invokevirtual 90, 3) := by decide +kernel
theorem dX14_isSoundNow_85 : decode cX14_isSoundNow 85 = .ok (.checkcast 100, 3) := by decide +kernel
theorem dX14_isSoundNow_88 : decode cX14_isSoundNow 88 = .ok (.getfield 103, 3) := by decide +kernel
theorem dX14_isSoundNow_91 : decode cX14_isSoundNow 91 = .ok (.invokevirtual 159, 3) := by decide +kernel
theorem dX14_isSoundNow_94 : decode cX14_isSoundNow 94 = .ok (.ifCond .eq 26, 3) := by decide +kernel
theorem dX14_isSoundNow_97 : decode cX14_isSoundNow 97 = .ok (.iload 4, 2) := by decide +kernel
theorem dX14_isSoundNow_99 : decode cX14_isSoundNow 99 = .ok (.ifCond .eq 23, 3) := by decide +kernel
theorem dX14_isSoundNow_102 : decode cX14_isSoundNow 102 = .ok (.aload_n 0, 1) := by decide +kernel
theorem dX14_isSoundNow_103 : decode cX14_isSoundNow 103 = .ok (.getfield 26, 3) := by decide +kernel
theorem dX14_isSoundNow_106 : decode cX14_isSoundNow 106 = .ok (.iload 6, 2) := by decide +kernel
theorem dX14_isSoundNow_108 : decode cX14_isSoundNow 108 = .ok (.invokevirtual 90, 3) := by decide +kernel
theorem dX14_isSoundNow_111 : decode cX14_isSoundNow 111 = .ok (.checkcast 100, 3) := by decide +kernel
theorem dX14_isSoundNow_114 : decode cX14_isSoundNow 114 = .ok (.getfield 106, 3) := by decide +kernel
theorem dX14_isSoundNow_117 : decode cX14_isSoundNow 117 = .ok (.ifCond .eq 5, 3) := by decide +kernel
theorem dX14_isSoundNow_120 : decode cX14_isSoundNow 120 = .ok (.iconst 0, 1) := by decide +kernel
theorem dX14_isSoundNow_121 : decode cX14_isSoundNow 121 = .ok (.ireturn, 1) := by decide +kernel
theorem dX14_isSoundNow_122 : decode cX14_isSoundNow 122 = .ok (.iload 4, 2) := by decide +kernel
theorem dX14_isSoundNow_124 : decode cX14_isSoundNow 124 = .ok (.aload_n 0, 1) := by decide +kernel
theorem dX14_isSoundNow_125 : decode cX14_isSoundNow 125 = .ok (.getfield 26, 3) := by decide +kernel
theorem dX14_isSoundNow_128 : decode cX14_isSoundNow 128 = .ok (.iload 6, 2) := by decide +kernel
theorem dX14_isSoundNow_130 : decode cX14_isSoundNow 130 = .ok (.invokevirtual 90, 3) := by decide +kernel
theorem dX14_isSoundNow_133 : decode cX14_isSoundNow 133 = .ok (.checkcast 100, 3) := by decide +kernel
theorem dX14_isSoundNow_136 : decode cX14_isSoundNow 136 = .ok (.getfield 106, 3) := by decide +kernel
theorem dX14_isSoundNow_139 : decode cX14_isSoundNow 139 = .ok (.ifCond .ne 7, 3) := by decide +kernel
theorem dX14_isSoundNow_142 : decode cX14_isSoundNow 142 = .ok (.iconst 1, 1) := by decide +kernel
theorem dX14_isSoundNow_143 : decode cX14_isSoundNow 143 = .ok (.goto 4, 3) := by decide +kernel
theorem dX14_isSoundNow_146 : decode cX14_isSoundNow 146 = .ok (.iconst 0, 1) := by decide +kernel
theorem dX14_isSoundNow_147 : decode cX14_isSoundNow 147 = .ok (.ior, 1) := by decide +kernel
theorem dX14_isSoundNow_148 : decode cX14_isSoundNow 148 = .ok (.istore 4, 2) := by decide +kernel
theorem dX14_isSoundNow_150 : decode cX14_isSoundNow 150 = .ok (.iinc 5 1, 3) := by decide +kernel
theorem dX14_isSoundNow_153 : decode cX14_isSoundNow 153 = .ok (.goto (-115), 3) := by decide +kernel
theorem dX14_isSoundNow_156 : decode cX14_isSoundNow 156 = .ok (.goto (-143), 3) := by decide +kernel
theorem dX14_isSoundNow_159 : decode cX14_isSoundNow 159 = .ok (.iconst 0, 1) := by decide +kernel
theorem dX14_isSoundNow_160 : decode cX14_isSoundNow 160 = .ok (.istore_n 2, 1) := by decide +kernel
theorem dX14_isSoundNow_161 : decode cX14_isSoundNow 161 = .ok (.aload_n 0, 1) := by decide +kernel
theorem dX14_isSoundNow_162 : decode cX14_isSoundNow 162 = .ok (.getfield 15, 3) := by decide +kernel
theorem dX14_isSoundNow_165 : decode cX14_isSoundNow 165 = .ok (.astore_n 3, 1) := by decide +kernel
theorem dX14_isSoundNow_166 : decode cX14_isSoundNow 166 = .ok (.aload_n 3, 1) := by decide +kernel
theorem dX14_isSoundNow_167 : decode cX14_isSoundNow 167 = .ok (.arraylength, 1) := by decide +kernel
theorem dX14_isSoundNow_168 : decode cX14_isSoundNow 168 = .ok (.istore 4, 2) := by decide +kernel
theorem dX14_isSoundNow_170 : decode cX14_isSoundNow 170 = .ok (.iconst 0, 1) := by decide +kernel
theorem dX14_isSoundNow_171 : decode cX14_isSoundNow 171 = .ok (.istore 5, 2) := by decide +kernel
theorem dX14_isSoundNow_173 : decode cX14_isSoundNow 173 = .ok (.iload 5, 2) := by decide +kernel
theorem dX14_isSoundNow_175 : decode cX14_isSoundNow 175 = .ok (.iload 4, 2) := by decide +kernel
theorem dX14_isSoundNow_177 : decode cX14_isSoundNow 177 = .ok (.if_icmp .ge 23, 3) := by decide +kernel
theorem dX14_isSoundNow_180 : decode cX14_isSoundNow 180 = .ok (.aload_n 3, 1) := by decide +kernel
theorem dX14_isSoundNow_181 : decode cX14_isSoundNow 181 = .ok (.iload 5, 2) := by decide +kernel
theorem dX14_isSoundNow_183 : decode cX14_isSoundNow 183 = .ok (.aaload, 1) := by decide +kernel
theorem dX14_isSoundNow_184 : decode cX14_isSoundNow 184 = .ok (.astore 6, 2) := by decide +kernel
theorem dX14_isSoundNow_186 : decode cX14_isSoundNow 186 = .ok (.iload_n 2, 1) := by decide +kernel
theorem dX14_isSoundNow_187 : decode cX14_isSoundNow 187 = .ok (.aload 6, 2) := by decide +kernel
theorem dX14_isSoundNow_189 : decode cX14_isSoundNow 189 = .ok (.getfield 65, 3) := by decide +kernel
theorem dX14_isSoundNow_192 : decode cX14_isSoundNow 192 = .ok (.iadd, 1) := by decide +kernel
theorem dX14_isSoundNow_193 : decode cX14_isSoundNow 193 = .ok (.istore_n 2, 1) := by decide +kernel
theorem dX14_isSoundNow_194 : decode cX14_isSoundNow 194 = .ok (.iinc 5 1, 3) := by decide +kernel
theorem dX14_isSoundNow_197 : decode cX14_isSoundNow 197 = .ok (.goto (-24), 3) := by decide +kernel
theorem dX14_isSoundNow_200 : decode cX14_isSoundNow 200 = .ok (.iconst 0, 1) := by decide +kernel
theorem dX14_isSoundNow_201 : decode cX14_isSoundNow 201 = .ok (.istore_n 3, 1) := by decide +kernel
theorem dX14_isSoundNow_202 : decode cX14_isSoundNow 202 = .ok (.iload_n 3, 1) := by decide +kernel
theorem dX14_isSoundNow_203 : decode cX14_isSoundNow 203 = .ok (.aload_n 0, 1) := by decide +kernel
theorem dX14_isSoundNow_204 : decode cX14_isSoundNow 204 = .ok (.getfield 26, 3) := by decide +kernel
theorem dX14_isSoundNow_207 : decode cX14_isSoundNow 207 = .ok (.invokevirtual 47, 3) := by decide +kernel
theorem dX14_isSoundNow_210 : decode cX14_isSoundNow 210 = .ok (.if_icmp .ge 75, 3) := by decide +kernel
theorem dX14_isSoundNow_213 : decode cX14_isSoundNow 213 = .ok (.aload_n 0, 1) := by decide +kernel
theorem dX14_isSoundNow_214 : decode cX14_isSoundNow 214 = .ok (.getfield 26, 3) := by decide +kernel
theorem dX14_isSoundNow_217 : decode cX14_isSoundNow 217 = .ok (.iload_n 3, 1) := by decide +kernel
theorem dX14_isSoundNow_218 : decode cX14_isSoundNow 218 = .ok (.invokevirtual 90, 3) := by decide +kernel
theorem dX14_isSoundNow_221 : decode cX14_isSoundNow 221 = .ok (.checkcast 100, 3) := by decide +kernel
theorem dX14_isSoundNow_224 : decode cX14_isSoundNow 224 = .ok (.astore 4, 2) := by decide +kernel
theorem dX14_isSoundNow_226 : decode cX14_isSoundNow 226 = .ok (.aload_n 1, 1) := by decide +kernel
theorem dX14_isSoundNow_227 : decode cX14_isSoundNow 227 = .ok (.iload_n 3, 1) := by decide +kernel
theorem dX14_isSoundNow_228 : decode cX14_isSoundNow 228 = .ok (.iaload, 1) := by decide +kernel
theorem dX14_isSoundNow_229 : decode cX14_isSoundNow 229 = .ok (.aload 4, 2) := by decide +kernel
theorem dX14_isSoundNow_231 : decode cX14_isSoundNow 231 = .ok (.getfield 116, 3) := by decide +kernel
theorem dX14_isSoundNow_234 : decode cX14_isSoundNow 234 = .ok (.iconst 1, 1) := by decide +kernel
theorem dX14_isSoundNow_235 : decode cX14_isSoundNow 235 = .ok (.if_icmp .ne 7, 3) := by decide +kernel
theorem dX14_isSoundNow_238 : decode cX14_isSoundNow 238 = .ok (.iconst 1, 1) := by decide +kernel
theorem dX14_isSoundNow_239 : decode cX14_isSoundNow 239 = .ok (.goto 4, 3) := by decide +kernel
theorem dX14_isSoundNow_242 : decode cX14_isSoundNow 242 = .ok (.iconst 0, 1) := by decide +kernel
theorem dX14_isSoundNow_243 : decode cX14_isSoundNow 243 = .ok (.if_icmp .ne 34, 3) := by decide +kernel
theorem dX14_isSoundNow_246 : decode cX14_isSoundNow 246 = .ok (.aload 4, 2) := by decide +kernel
theorem dX14_isSoundNow_248 : decode cX14_isSoundNow 248 = .ok (.getfield 110, 3) := by decide +kernel
theorem dX14_isSoundNow_251 : decode cX14_isSoundNow 251 = .ok (.iconst 0, 1) := by decide +kernel
theorem dX14_isSoundNow_252 : decode cX14_isSoundNow 252 = .ok (.bipush 9, 2) := by decide +kernel
theorem dX14_isSoundNow_254 : decode cX14_isSoundNow 254 = .ok (.invokestatic 43, 3) := by decide +kernel
theorem dX14_isSoundNow_257 : decode cX14_isSoundNow 257 = .ok (.ifCond .eq 20, 3) := by decide +kernel
theorem dX14_isSoundNow_260 : decode cX14_isSoundNow 260 = .ok (.aload 4, 2) := by decide +kernel
theorem dX14_isSoundNow_262 : decode cX14_isSoundNow 262 = .ok (.getfield 116, 3) := by decide +kernel
theorem dX14_isSoundNow_265 : decode cX14_isSoundNow 265 = .ok (.iconst 2, 1) := by decide +kernel
theorem dX14_isSoundNow_266 : decode cX14_isSoundNow 266 = .ok (.if_icmp .ne 13, 3) := by decide +kernel
theorem dX14_isSoundNow_269 : decode cX14_isSoundNow 269 = .ok (.aload_n 0, 1) := by decide +kernel
theorem dX14_isSoundNow_270 : decode cX14_isSoundNow 270 = .ok (.iload_n 3, 1) := by decide +kernel
theorem dX14_isSoundNow_271 : decode cX14_isSoundNow 271 = .ok (.invokevirtual 156, 3) := by decide +kernel
theorem dX14_isSoundNow_274 : decode cX14_isSoundNow 274 = .ok (.ifCond .eq 5, 3) := by decide +kernel
theorem dX14_isSoundNow_277 : decode cX14_isSoundNow 277 = .ok (.iconst 0, 1) := by decide +kernel
theorem dX14_isSoundNow_278 : decode cX14_isSoundNow 278 = .ok (.ireturn, 1) := by decide +kernel
theorem dX14_isSoundNow_279 : decode cX14_isSoundNow 279 = .ok (.iinc 3 1, 3) := by decide +kernel
theorem dX14_isSoundNow_282 : decode cX14_isSoundNow 282 = .ok (.goto (-80), 3) := by decide +kernel
theorem dX14_isSoundNow_285 : decode cX14_isSoundNow 285 = .ok (.iload_n 2, 1) := by decide +kernel
theorem dX14_isSoundNow_286 : decode cX14_isSoundNow 286 = .ok (.bipush 30, 2) := by decide +kernel
theorem dX14_isSoundNow_288 : decode cX14_isSoundNow 288 = .ok (.if_icmp .ne 19, 3) := by decide +kernel
theorem dX14_isSoundNow_291 : decode cX14_isSoundNow 291 = .ok (.aload_n 0, 1) := by decide +kernel
theorem dX14_isSoundNow_292 : decode cX14_isSoundNow 292 = .ok (.getfield 32, 3) := by decide +kernel
theorem dX14_isSoundNow_295 : decode cX14_isSoundNow 295 = .ok (.invokevirtual 47, 3) := by decide +kernel
theorem dX14_isSoundNow_298 : decode cX14_isSoundNow 298 = .ok (.bipush 120, 2) := by decide +kernel
theorem dX14_isSoundNow_300 : decode cX14_isSoundNow 300 = .ok (.if_icmp .gt 7, 3) := by decide +kernel
theorem dX14_isSoundNow_303 : decode cX14_isSoundNow 303 = .ok (.iconst 1, 1) := by decide +kernel
theorem dX14_isSoundNow_304 : decode cX14_isSoundNow 304 = .ok (.goto 4, 3) := by decide +kernel
theorem dX14_isSoundNow_307 : decode cX14_isSoundNow 307 = .ok (.iconst 0, 1) := by decide +kernel
theorem dX14_isSoundNow_308 : decode cX14_isSoundNow 308 = .ok (.ireturn, 1) := by decide +kernel
set_option maxRecDepth 100000 in
theorem ggX14_isSound_X14_isSoundNow : GoodIn wsX14_isSound wsX14_isSoundNow := wk_g rfl wm_X14_isSound 9144 wc_X14_isSoundNow rfl (by decide +kernel) (by decide +kernel) wq_X14_isSoundNow
set_option maxRecDepth 100000 in
theorem gX14_isSound_X14_isSoundNow : GoodIn wsX14_isSound (wsV RX14 343 RX14 yX14_isSoundNow wsX14_isSoundNow) := goodIn_app (wk_h rfl wm_X14_isSound [9141, 9143, 1071, 2007] (by decide +kernel) (by decide +kernel) (by decide +kernel)) ggX14_isSound_X14_isSoundNow
theorem dX14_isSound_0 : decode cX14_isSound 0 = .ok (.aload_n 0, 1) := by decide +kernel
theorem dX14_isSound_1 : decode cX14_isSound 1 = .ok (.iconst 0, 1) := by decide +kernel
theorem dX14_isSound_2 : decode cX14_isSound 2 = .ok (.putfield 40, 3) := by decide +kernel
theorem dX14_isSound_5 : decode cX14_isSound 5 = .ok (.aload_n 0, 1) := by decide +kernel
theorem dX14_isSound_6 : decode cX14_isSound 6 = .ok (.invokevirtual 343, 3) := by decide +kernel
theorem dX14_isSound_9 : decode cX14_isSound 9 = .ok (.ireturn, 1) := by decide +kernel
theorem dX14_add_0 : decode cX14_add 0 = .ok (.aload_n 0, 1) := by decide +kernel
theorem dX14_add_1 : decode cX14_add 1 = .ok (.aload_n 0, 1) := by decide +kernel
theorem dX14_add_2 : decode cX14_add 2 = .ok (.getfield 346, 3) := by decide +kernel
theorem dX14_add_5 : decode cX14_add 5 = .ok (.ldc2_w 350, 3) := by decide +kernel
theorem dX14_add_8 : decode cX14_add 8 = .ok (.lmul, 1) := by decide +kernel
theorem dX14_add_9 : decode cX14_add 9 = .ok (.lload_n 1, 1) := by decide +kernel
theorem dX14_add_10 : decode cX14_add 10 = .ok (.ladd, 1) := by decide +kernel
theorem dX14_add_11 : decode cX14_add 11 = .ok (.putfield 346, 3) := by decide +kernel
theorem dX14_add_14 : decode cX14_add 14 = .ok (.return_, 1) := by decide +kernel
set_option maxRecDepth 100000 in
theorem ggX14_digest_X14_nightNow : GoodIn wsX14_digest wsX14_nightNow := wk_g bm_X14_digest wm_X14_digest 9107 wc_X14_nightNow rfl (by decide +kernel) (by decide +kernel) wq_X14_nightNow
set_option maxRecDepth 100000 in
theorem gX14_digest_X14_nightNow : GoodIn wsX14_digest (wsV RX14 324 RX14 yX14_nightNow wsX14_nightNow) := goodIn_app (wk_h bm_X14_digest wm_X14_digest [9104, 9106, 1066, 2007] (by decide +kernel) (by decide +kernel) (by decide +kernel)) ggX14_digest_X14_nightNow
set_option maxRecDepth 100000 in
theorem ggX14_digest_X14_add : GoodIn wsX14_digest wsX14_add := wk_g bm_X14_digest wm_X14_digest 9153 wc_X14_add rfl (by decide +kernel) (by decide +kernel) wq_X14_add
set_option maxRecDepth 100000 in
theorem gX14_digest_X14_add : GoodIn wsX14_digest (wsV RX14 354 RX14 yX14_add wsX14_add) := goodIn_app (wk_h bm_X14_digest wm_X14_digest [9150, 9152, 1072, 2007] (by decide +kernel) (by decide +kernel) (by decide +kernel)) ggX14_digest_X14_add
set_option maxRecDepth 100000 in
theorem ggX14_digest_X14_ofLandNow : GoodIn wsX14_digest wsX14_ofLandNow := wk_g bm_X14_digest wm_X14_digest 9042 wc_X14_ofLandNow rfl (by decide +kernel) (by decide +kernel) wq_X14_ofLandNow
set_option maxRecDepth 100000 in
theorem gX14_digest_X14_ofLandNow : GoodIn wsX14_digest (wsV RX14 283 RX14 yX14_ofLandNow wsX14_ofLandNow) := goodIn_app (wk_h bm_X14_digest wm_X14_digest [9039, 9041, 1058, 2007] (by decide +kernel) (by decide +kernel) (by decide +kernel)) ggX14_digest_X14_ofLandNow
set_option maxRecDepth 100000 in
theorem ggX14_digest_Jx4a65c_size_8abf5 : GoodIn wsX14_digest wsJx4a65c_size_8abf5 := wk_g bm_X14_digest wm_X14_digest 2173 wc_Jx4a65c_size_8abf5 rfl (by decide +kernel) (by decide +kernel) wq_Jx4a65c_size_8abf5
set_option maxRecDepth 100000 in
theorem gX14_digest_Jx4a65c_size_8abf5 : GoodIn wsX14_digest (wsV RX14 47 RJx4a65c yJx4a65c_size_8abf5 wsJx4a65c_size_8abf5) := goodIn_app (wk_h bm_X14_digest wm_X14_digest [7208, 2171, 2172, 2004] (by decide +kernel) (by decide +kernel) (by decide +kernel)) ggX14_digest_Jx4a65c_size_8abf5
set_option maxRecDepth 100000 in
theorem ggX14_digest_X14_ofGateNow : GoodIn wsX14_digest wsX14_ofGateNow := wk_g bm_X14_digest wm_X14_digest 9058 wc_X14_ofGateNow rfl (by decide +kernel) (by decide +kernel) wq_X14_ofGateNow
set_option maxRecDepth 100000 in
theorem gX14_digest_X14_ofGateNow : GoodIn wsX14_digest (wsV RX14 290 RX14 yX14_ofGateNow wsX14_ofGateNow) := goodIn_app (wk_h bm_X14_digest wm_X14_digest [9055, 9057, 1061, 2007] (by decide +kernel) (by decide +kernel) (by decide +kernel)) ggX14_digest_X14_ofGateNow
set_option maxRecDepth 100000 in
theorem ggX14_digest_X14_wouldPayNow : GoodIn wsX14_digest wsX14_wouldPayNow := wk_g bm_X14_digest wm_X14_digest 9136 wc_X14_wouldPayNow rfl (by decide +kernel) (by decide +kernel) wq_X14_wouldPayNow
set_option maxRecDepth 100000 in
theorem gX14_digest_X14_wouldPayNow : GoodIn wsX14_digest (wsV RX14 340 RX14 yX14_wouldPayNow wsX14_wouldPayNow) := goodIn_app (wk_h bm_X14_digest wm_X14_digest [9133, 9135, 1070, 2007] (by decide +kernel) (by decide +kernel) (by decide +kernel)) ggX14_digest_X14_wouldPayNow
set_option maxRecDepth 100000 in
theorem ggX14_digest_X14_ofSleeperNow : GoodIn wsX14_digest wsX14_ofSleeperNow := wk_g bm_X14_digest wm_X14_digest 9070 wc_X14_ofSleeperNow rfl (by decide +kernel) (by decide +kernel) wq_X14_ofSleeperNow
set_option maxRecDepth 100000 in
theorem gX14_digest_X14_ofSleeperNow : GoodIn wsX14_digest (wsV RX14 296 RX14 yX14_ofSleeperNow wsX14_ofSleeperNow) := goodIn_app (wk_h bm_X14_digest wm_X14_digest [9067, 9069, 1063, 2007] (by decide +kernel) (by decide +kernel) (by decide +kernel)) ggX14_digest_X14_ofSleeperNow
set_option maxRecDepth 100000 in
theorem ggX14_digest_X14_ofPartNow : GoodIn wsX14_digest wsX14_ofPartNow := wk_g bm_X14_digest wm_X14_digest 9082 wc_X14_ofPartNow rfl (by decide +kernel) (by decide +kernel) wq_X14_ofPartNow
set_option maxRecDepth 100000 in
theorem gX14_digest_X14_ofPartNow : GoodIn wsX14_digest (wsV RX14 299 RX14 yX14_ofPartNow wsX14_ofPartNow) := goodIn_app (wk_h bm_X14_digest wm_X14_digest [9079, 9081, 1065, 2007] (by decide +kernel) (by decide +kernel) (by decide +kernel)) ggX14_digest_X14_ofPartNow
set_option maxRecDepth 100000 in
theorem ggX14_digest_X14_wayNow : GoodIn wsX14_digest wsX14_wayNow := wk_g bm_X14_digest wm_X14_digest 9115 wc_X14_wayNow rfl (by decide +kernel) (by decide +kernel) wq_X14_wayNow
set_option maxRecDepth 100000 in
theorem gX14_digest_X14_wayNow : GoodIn wsX14_digest (wsV RX14 327 RX14 yX14_wayNow wsX14_wayNow) := goodIn_app (wk_h bm_X14_digest wm_X14_digest [9112, 9114, 1067, 2007] (by decide +kernel) (by decide +kernel) (by decide +kernel)) ggX14_digest_X14_wayNow
set_option maxRecDepth 100000 in
theorem ggX14_digest_X14_planNow : GoodIn wsX14_digest wsX14_planNow := wk_g bm_X14_digest wm_X14_digest 9123 wc_X14_planNow rfl (by decide +kernel) (by decide +kernel) wq_X14_planNow
set_option maxRecDepth 100000 in
theorem gX14_digest_X14_planNow : GoodIn wsX14_digest (wsV RX14 337 RX14 yX14_planNow wsX14_planNow) := goodIn_app (wk_h bm_X14_digest wm_X14_digest [9120, 9122, 1068, 2007] (by decide +kernel) (by decide +kernel) (by decide +kernel)) ggX14_digest_X14_planNow
set_option maxRecDepth 100000 in
theorem ggX14_digest_X14_isSoundNow : GoodIn wsX14_digest wsX14_isSoundNow := wk_g bm_X14_digest wm_X14_digest 9144 wc_X14_isSoundNow rfl (by decide +kernel) (by decide +kernel) wq_X14_isSoundNow
set_option maxRecDepth 100000 in
theorem gX14_digest_X14_isSoundNow : GoodIn wsX14_digest (wsV RX14 343 RX14 yX14_isSoundNow wsX14_isSoundNow) := goodIn_app (wk_h bm_X14_digest wm_X14_digest [9141, 9143, 1071, 2007] (by decide +kernel) (by decide +kernel) (by decide +kernel)) ggX14_digest_X14_isSoundNow
theorem dX14_digest_0 : decode cX14_digest 0 = .ok (.aload_n 0, 1) := by decide +kernel
theorem dX14_digest_1 : decode cX14_digest 1 = .ok (.iconst 0, 1) := by decide +kernel
theorem dX14_digest_2 : decode cX14_digest 2 = .ok (.putfield 40, 3) := by decide +kernel
theorem dX14_digest_5 : decode cX14_digest 5 = .ok (.aload_n 0, 1) := by decide +kernel
theorem dX14_digest_6 : decode cX14_digest 6 = .ok (.ldc2_w 352, 3) := by decide +kernel
theorem dX14_digest_9 : decode cX14_digest 9 = .ok (.putfield 346, 3) := by decide +kernel
theorem dX14_digest_12 : decode cX14_digest 12 = .ok (.iconst 0, 1) := by decide +kernel
theorem dX14_digest_13 : decode cX14_digest 13 = .ok (.istore_n 1, 1) := by decide +kernel
theorem dX14_digest_14 : decode cX14_digest 14 = .ok (.iload_n 1, 1) := by decide +kernel
theorem dX14_digest_15 : decode cX14_digest 15 = .ok (.bipush 17, 2) := by decide +kernel
theorem dX14_digest_17 : decode cX14_digest 17 = .ok (.if_icmp .ge 19, 3) := by decide +kernel
theorem dX14_digest_20 : decode cX14_digest 20 = .ok (.aload_n 0, 1) := by decide +kernel
theorem dX14_digest_21 : decode cX14_digest 21 = .ok (.aload_n 0, 1) := by decide +kernel
theorem dX14_digest_22 : decode cX14_digest 22 = .ok (.iload_n 1, 1) := by decide +kernel
theorem dX14_digest_23 : decode cX14_digest 23 = .ok (.invokevirtual 324, 3) := by decide +kernel
theorem dX14_digest_26 : decode cX14_digest 26 = .ok (.i2l, 1) := by decide +kernel
theorem dX14_digest_27 : decode cX14_digest 27 = .ok (.invokevirtual 354, 3) := by decide +kernel
theorem dX14_digest_30 : decode cX14_digest 30 = .ok (.iinc 1 1, 3) := by decide +kernel
theorem dX14_digest_33 : decode cX14_digest 33 = .ok (.goto (-19), 3) := by decide +kernel
theorem dX14_digest_36 : decode cX14_digest 36 = .ok (.iconst 0, 1) := by decide +kernel
theorem dX14_digest_37 : decode cX14_digest 37 = .ok (.istore_n 1, 1) := by decide +kernel
theorem dX14_digest_38 : decode cX14_digest 38 = .ok (.iload_n 1, 1) := by decide +kernel
theorem dX14_digest_39 : decode cX14_digest 39 = .ok (.bipush 6, 2) := by decide +kernel
theorem dX14_digest_41 : decode cX14_digest 41 = .ok (.if_icmp .ge 34, 3) := by decide +kernel
theorem dX14_digest_44 : decode cX14_digest 44 = .ok (.iconst 0, 1) := by decide +kernel
theorem dX14_digest_45 : decode cX14_digest 45 = .ok (.istore_n 2, 1) := by decide +kernel
theorem dX14_digest_46 : decode cX14_digest 46 = .ok (.iload_n 2, 1) := by decide +kernel
theorem dX14_digest_47 : decode cX14_digest 47 = .ok (.bipush 9, 2) := by decide +kernel
theorem dX14_digest_49 : decode cX14_digest 49 = .ok (.if_icmp .ge 20, 3) := by decide +kernel
theorem dX14_digest_52 : decode cX14_digest 52 = .ok (.aload_n 0, 1) := by decide +kernel
theorem dX14_digest_53 : decode cX14_digest 53 = .ok (.aload_n 0, 1) := by decide +kernel
theorem dX14_digest_54 : decode cX14_digest 54 = .ok (.iload_n 1, 1) := by decide +kernel
theorem dX14_digest_55 : decode cX14_digest 55 = .ok (.iload_n 2, 1) := by decide +kernel
theorem dX14_digest_56 : decode cX14_digest 56 = .ok (.invokevirtual 283, 3) := by decide +kernel
theorem dX14_digest_59 : decode cX14_digest 59 = .ok (.i2l, 1) := by decide +kernel
theorem dX14_digest_60 : decode cX14_digest 60 = .ok (.invokevirtual 354, 3) := by decide +kernel
theorem dX14_digest_63 : decode cX14_digest 63 = .ok (.iinc 2 1, 3) := by decide +kernel
theorem dX14_digest_66 : decode cX14_digest 66 = .ok (.goto (-20), 3) := by decide +kernel
theorem dX14_digest_69 : decode cX14_digest 69 = .ok (.iinc 1 1, 3) := by decide +kernel
theorem dX14_digest_72 : decode cX14_digest 72 = .ok (.goto (-34), 3) := by decide +kernel
theorem dX14_digest_75 : decode cX14_digest 75 = .ok (.iconst 0, 1) := by decide +kernel
theorem dX14_digest_76 : decode cX14_digest 76 = .ok (.istore_n 1, 1) := by decide +kernel
theorem dX14_digest_77 : decode cX14_digest 77 = .ok (.iload_n 1, 1) := by decide +kernel
theorem dX14_digest_78 : decode cX14_digest 78 = .ok (.aload_n 0, 1) := by decide +kernel
theorem dX14_digest_79 : decode cX14_digest 79 = .ok (.getfield 22, 3) := by decide +kernel
theorem dX14_digest_82 : decode cX14_digest 82 = .ok (.invokevirtual 47, 3) := by decide +kernel
theorem dX14_digest_85 : decode cX14_digest 85 = .ok (.if_icmp .ge 44, 3) := by decide +kernel
theorem dX14_digest_88 : decode cX14_digest 88 = .ok (.iconst 2, 1) := by decide +kernel
theorem dX14_digest_89 : decode cX14_digest 89 = .ok (.istore_n 2, 1) := by decide +kernel
theorem dX14_digest_90 : decode cX14_digest 90 = .ok (.iload_n 2, 1) := by decide +kernel
theorem dX14_digest_91 : decode cX14_digest 91 = .ok (.bipush 10, 2) := by decide +kernel
theorem dX14_digest_93 : decode cX14_digest 93 = .ok (.if_icmp .ge 20, 3) := by decide +kernel
theorem dX14_digest_96 : decode cX14_digest 96 = .ok (.aload_n 0, 1) := by decide +kernel
theorem dX14_digest_97 : decode cX14_digest 97 = .ok (.aload_n 0, 1) := by decide +kernel
theorem dX14_digest_98 : decode cX14_digest 98 = .ok (.iload_n 1, 1) := by decide +kernel
theorem dX14_digest_99 : decode cX14_digest 99 = .ok (.iload_n 2, 1) := by decide +kernel
theorem dX14_digest_100 : decode cX14_digest 100 = .ok (.invokevirtual 290, 3) := by decide +kernel
theorem dX14_digest_103 : decode cX14_digest 103 = .ok (.i2l, 1) := by decide +kernel
theorem dX14_digest_104 : decode cX14_digest 104 = .ok (.invokevirtual 354, 3) := by decide +kernel
theorem dX14_digest_107 : decode cX14_digest 107 = .ok (.iinc 2 1, 3) := by decide +kernel
