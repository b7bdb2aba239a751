set_option maxRecDepth 20000 in
theorem gvX14_digest_1 : GoodIn wsL_law (wsX14_digest_r1) := wk_b (I := [7141, 9149, 7153, 7148, 7149, 7150, 9104, 9106, 1066, 2007, 9107, 7142, 7143, 8028, 8073, 7151, 7145, 7146, 7147, 7208, 2171, 2172, 2004, 2173]) (by decide +kernel) (by decide +kernel)
set_option maxRecDepth 20000 in
theorem gvX14_digest_2 : GoodIn wsL_law (wsX14_digest_r2) := wk_b (I := [2068, 8229, 8230, 8231, 8232, 8233, 8234, 2039, 8235, 8236, 8237, 9002, 8238, 2047, 2048, 9000, 2070, 2071, 9001, 9013, 9017, 9019, 9021, 8239]) (by decide +kernel) (by decide +kernel)
set_option maxRecDepth 20000 in
theorem gvX14_digest_3 : GoodIn wsL_law (wsX14_digest_r3) := wk_b (I := [9023, 9026, 9028, 9030, 2066, 9031, 9032, 9033, 9034, 9150, 9152, 1072, 9153, 9154, 9039, 9041, 1058, 9042, 8019, 2175, 2176, 2177, 2178, 2179]) (by decide +kernel) (by decide +kernel)
set_option maxRecDepth 20000 in
theorem gvX14_digest_4 : GoodIn wsL_law (wsX14_digest_r4) := wk_b (I := [2023, 2180, 2181, 2182, 2024, 2183, 2184, 2185, 2186, 2187, 2065, 9043, 9045, 1059, 9046, 9047, 9049, 1060, 9050, 9055, 9057, 1061, 9058, 7209]) (by decide +kernel) (by decide +kernel)
set_option maxRecDepth 20000 in
theorem gvX14_digest_5 : GoodIn wsL_law (wsX14_digest_r5) := wk_b (I := [8131, 8178, 8179, 8180, 2022, 8181, 7221, 7223, 8188, 8189, 8190, 8191, 7227, 8182, 3131, 3132, 3133, 8132, 8133, 8134, 2036, 8135, 8152, 9059]) (by decide +kernel) (by decide +kernel)
set_option maxRecDepth 20000 in
theorem gvX14_digest_6 : GoodIn wsL_law (wsX14_digest_r6) := wk_b (I := [9061, 1062, 9062, 8161, 8162, 8163, 8164, 7229, 8167, 8165, 8166, 8168, 9133, 9135, 1070, 9136, 8183, 8185, 1052, 8186, 8187, 3169, 2019, 3170]) (by decide +kernel) (by decide +kernel)
set_option maxRecDepth 20000 in
theorem gvX14_digest_7 : GoodIn wsL_law (wsX14_digest_r7) := wk_b (I := [8112, 8113, 8114, 8196, 8197, 8198, 8199, 7217, 7219, 8204, 8206, 1055, 8207, 8208, 8209, 8210, 2028, 8211, 8081, 8212, 8214, 1056, 8215, 8216]) (by decide +kernel) (by decide +kernel)
set_option maxRecDepth 20000 in
theorem gvX14_digest_8 : GoodIn wsL_law (wsX14_digest_r8) := wk_b (I := [4027, 4028, 9067, 9069, 1063, 9070, 8123, 8125, 1050, 8126, 9071, 9073, 1064, 9074, 9079, 9081, 1065, 9082, 9112, 9114, 1067, 9115, 9120, 9122]) (by decide +kernel) (by decide +kernel)
set_option maxRecDepth 20000 in
theorem gvX14_digest_9 : GoodIn wsL_law (wsX14_digest_r9) := wk_b (I := [1068, 9123, 9124, 9126, 1069, 9127, 2127, 9128, 4021, 4022, 9141, 9143, 1071, 9144, 8127, 8128, 8129, 8130, 7193, 7194, 7195]) (by decide +kernel) (by decide +kernel)
set_option maxRecDepth 20000 in
theorem gvX14_digest_10 : GoodIn wsL_law (wsX140) := wk_b (I := [7154, 7156, 7158, 7160, 7162, 7164, 7166, 7168, 7170, 7172, 7174, 7176, 7178]) (by decide +kernel) (by decide +kernel)
set_option maxRecDepth 20000 in
theorem gvX14_digest_11 : GoodIn wsL_law (wsX130) := wk_b (I := [8046, 8048, 8050, 8052, 8054, 8056, 8058, 8060, 8062]) (by decide +kernel) (by decide +kernel)
set_option maxRecDepth 20000 in
theorem gvX14_digest_12 : GoodIn wsL_law (wsX120) := wk_b (I := [8087, 8089, 8091, 8093, 8095, 8097]) (by decide +kernel) (by decide +kernel)
set_option maxRecDepth 20000 in
theorem gvX14_digest_13 : GoodIn wsL_law (wsX110) := wk_b (I := [7127, 7129, 7131, 7133, 7135, 7137]) (by decide +kernel) (by decide +kernel)
set_option maxRecDepth 20000 in
theorem gvX14_digest_14 : GoodIn wsL_law (wsJx4a65c0) := wk_b (I := [2077, 2073, 2075]) (by decide +kernel) (by decide +kernel)
set_option maxRecDepth 20000 in
theorem gvX14_digest_15 : GoodIn wsL_law (wsJx354110) := wk_b (I := [9003, 9005, 9007, 9009]) (by decide +kernel) (by decide +kernel)
set_option maxRecDepth 20000 in
theorem gvX14_digest_16 : GoodIn wsL_law (wsX100) := wk_b (I := [7233, 7235, 7237, 7239, 8001, 8003, 8005, 8007]) (by decide +kernel) (by decide +kernel)
set_option maxRecDepth 20000 in
theorem gvX14_digest_17 : GoodIn wsL_law (wsJ60) := wk_b (I := [8153]) (by decide +kernel) (by decide +kernel)
set_option maxRecDepth 20000 in
theorem gvX14_digest_h : GoodIn wsL_law [.code yX14_digest cX14_digest 3 (some .long)] := wk_b (I := [9148]) (by decide +kernel) (by decide +kernel)
set_option maxRecDepth 20000 in
theorem ggL_law_X14_digest : GoodIn wsL_law wsX14_digest := goodIn_app (a := [.code yX14_digest cX14_digest 3 (some .long)]) gvX14_digest_h (goodIn_app (goodIn_app (goodIn_app (goodIn_app (goodIn_app (goodIn_app (goodIn_app (goodIn_app (goodIn_app (gvX14_digest_1) (goodIn_app (gvX14_digest_2) (goodIn_app (gvX14_digest_3) (goodIn_app (gvX14_digest_4) (goodIn_app (gvX14_digest_5) (goodIn_app (gvX14_digest_6) (goodIn_app (gvX14_digest_7) (goodIn_app (gvX14_digest_8) (gvX14_digest_9))))))))) (gvX14_digest_10)) (gvX14_digest_11)) (gvX14_digest_12)) (gvX14_digest_13)) (gvX14_digest_14)) (gvX14_digest_15)) (gvX14_digest_16)) (gvX14_digest_17))
set_option maxRecDepth 20000 in
theorem gL_law_X14_digest : GoodIn wsL_law (wsV RL 208 RX14 yX14_digest wsX14_digest) := goodIn_app (wk_b (I := [9145, 9146, 9147, 2007]) (by decide +kernel) (by decide +kernel)) ggL_law_X14_digest
