set_option maxRecDepth 20000 in
theorem gvX8_digest_1 : GoodIn wsL_law (wsX8_digest_r1) := wk_b (I := [2218, 2219, 2129, 2130, 2131, 2220, 2221, 2222, 2001, 2223, 3008, 2014, 2136, 2137, 2132, 2133, 2087, 2138, 2170, 2171, 2172, 2004, 2173, 2068]) (by decide +kernel) (by decide +kernel)
set_option maxRecDepth 20000 in
theorem gvX8_digest_2 : GoodIn wsL_law (wsX8_digest_r2) := wk_b (I := [2224, 2226, 1003, 2227, 2188, 5021, 2174, 2175, 2176, 2177, 2178, 2179, 2023, 2180, 2181, 2182, 2024, 2183, 2184, 2185, 2186, 2187, 2065, 2228]) (by decide +kernel) (by decide +kernel)
set_option maxRecDepth 20000 in
theorem gvX8_digest_3 : GoodIn wsL_law (wsX8_digest_r3) := wk_b (I := [2230, 1004, 2231, 2208, 5070, 2232, 2234, 1005, 2235, 2236, 2237, 2238, 2027, 2239, 5073, 5071, 5016, 3000, 3002, 1006, 3003, 2128, 2110, 3004]) (by decide +kernel) (by decide +kernel)
set_option maxRecDepth 20000 in
theorem gvX8_digest_4 : GoodIn wsL_law (wsX8_digest_r4) := wk_b (I := [3006, 1007, 3007, 2111, 3076, 3077, 3078, 3079, 2104, 2106, 2108, 2109, 3080, 3082, 1009, 3083, 3084, 2013, 3100, 3102, 1010, 3103, 5074, 3104]) (by decide +kernel) (by decide +kernel)
set_option maxRecDepth 20000 in
theorem gvX8_digest_5 : GoodIn wsL_law (wsX8_digest_r5) := wk_b (I := [3106, 1011, 3107, 5017, 3108, 3110, 1012, 3111, 5064, 3113, 3114, 3115, 3116, 4121, 2102, 4123, 4133, 4135, 4127, 5011, 4129, 3117, 3119, 1013]) (by decide +kernel) (by decide +kernel)
set_option maxRecDepth 20000 in
theorem gvX8_digest_6 : GoodIn wsL_law (wsX8_digest_r6) := wk_b (I := [3120, 2193, 3122, 3123, 3124, 2016, 3125, 4124, 4125, 3126, 3127, 3128, 3129, 4134, 3130, 3131, 3132, 3133, 3134, 3136, 1014, 3137, 5072, 5023]) (by decide +kernel) (by decide +kernel)
set_option maxRecDepth 20000 in
theorem gvX8_digest_7 : GoodIn wsL_law (wsX8_digest_r7) := wk_b (I := [5066, 3138, 3139, 3140, 3141, 5025, 3142, 3143, 3144, 3145, 5061, 3146, 3147, 3148, 2017, 3149, 4111, 4112, 3150, 3151, 2040, 3152, 3153, 3154]) (by decide +kernel) (by decide +kernel)
set_option maxRecDepth 20000 in
theorem gvX8_digest_8 : GoodIn wsL_law (wsX8_digest_r8) := wk_b (I := [3155, 3157, 3158, 3159, 3160, 3161, 3163, 1015, 3164, 5027, 5116, 5118, 5120, 3168, 3169, 2019, 3170, 3165, 3166, 3167, 4119, 3171, 3172, 3173]) (by decide +kernel) (by decide +kernel)
set_option maxRecDepth 20000 in
theorem gvX8_digest_9 : GoodIn wsL_law (wsX8_digest_r9) := wk_b (I := [3174, 3175, 3176, 3177, 3178, 4120, 4122, 3179, 3181, 1016, 3182, 5026, 5062, 3183, 3184, 3185, 3186, 3187, 5067, 3188, 3190, 1017, 3191, 3192]) (by decide +kernel) (by decide +kernel)
set_option maxRecDepth 20000 in
theorem gvX8_digest_10 : GoodIn wsL_law (wsX8_digest_r10) := wk_b (I := [3193, 3194, 2006, 3195, 2105, 2103, 3196, 3197, 3198, 3199, 5019, 3200, 3202, 1018, 3203, 3205, 3206, 3207, 2204, 2206, 1002, 2207, 3208, 3210]) (by decide +kernel) (by decide +kernel)
set_option maxRecDepth 20000 in
theorem gvX8_digest_11 : GoodIn wsL_law (wsX8_digest_r11) := wk_b (I := [1019, 3211, 3212, 3214, 1020, 3215, 5028, 3216, 3218, 1021, 3219, 3220, 6212, 3222, 3223, 3224, 3225, 5068, 3226, 3228, 1022, 3229, 3232, 3233]) (by decide +kernel) (by decide +kernel)
set_option maxRecDepth 20000 in
theorem gvX8_digest_12 : GoodIn wsL_law (wsX8_digest_r12) := wk_b (I := [3234, 3235, 2135, 3236, 3238, 1023, 3239, 4000, 4002, 1024, 4003, 4004, 4005, 4006, 4007, 4008, 4009, 4010, 4012, 4014, 1025, 4015, 2134, 4016]) (by decide +kernel) (by decide +kernel)
set_option maxRecDepth 20000 in
theorem gvX8_digest_13 : GoodIn wsL_law (wsX8_digest_r13) := wk_b (I := [4018, 1026, 4019, 4020, 4021, 4022, 4026, 4027, 4028, 4023, 4024, 4025, 4029, 4031, 1027, 4032, 4033, 4035, 1028, 4036, 4037, 4039, 1029, 4040]) (by decide +kernel) (by decide +kernel)
set_option maxRecDepth 20000 in
theorem gvX8_digest_14 : GoodIn wsL_law (wsX8_digest_r14) := wk_b (I := [4041, 2163, 2164, 2165, 2166, 2168, 1000, 2169, 2189, 2191, 1001, 2192, 2194, 2195, 2196, 2197, 4126, 2198, 2199, 2200, 2201, 2202, 2203, 2209]) (by decide +kernel) (by decide +kernel)
set_option maxRecDepth 20000 in
theorem gvX8_digest_15 : GoodIn wsL_law (wsX8_digest_r15) := wk_b (I := [2210, 2211, 2212, 2213, 5013]) (by decide +kernel) (by decide +kernel)
set_option maxRecDepth 20000 in
theorem gvX8_digest_16 : GoodIn wsL_law (wsX80) := wk_b (I := [2139, 2141, 2143, 2145, 2147, 2149, 2151, 2153, 2155, 2157, 2159]) (by decide +kernel) (by decide +kernel)
set_option maxRecDepth 20000 in
theorem gvX8_digest_17 : GoodIn wsL_law (wsX50) := wk_b (I := [2089, 2091]) (by decide +kernel) (by decide +kernel)
set_option maxRecDepth 20000 in
theorem gvX8_digest_18 : GoodIn wsL_law (wsJx4a65c0) := wk_b (I := [2077, 2073, 2075]) (by decide +kernel) (by decide +kernel)
set_option maxRecDepth 20000 in
theorem gvX8_digest_19 : GoodIn wsL_law (wsX60) := wk_b (I := [5029, 5031, 5033, 5035, 5037, 5039, 5041, 5043, 5045]) (by decide +kernel) (by decide +kernel)
set_option maxRecDepth 20000 in
theorem gvX8_digest_20 : GoodIn wsL_law (wsX30) := wk_b (I := [5076, 5078, 5080, 5082, 5084, 5086, 5088, 5090]) (by decide +kernel) (by decide +kernel)
set_option maxRecDepth 20000 in
theorem gvX8_digest_21 : GoodIn wsL_law (wsX20) := wk_b (I := [2112, 2114, 2116, 2118, 2120, 2122, 2124]) (by decide +kernel) (by decide +kernel)
set_option maxRecDepth 20000 in
theorem gvX8_digest_22 : GoodIn wsL_law (wsX00) := wk_b (I := [4136, 4138, 4140, 4142, 4144, 4146, 4148, 4150, 4152, 4154]) (by decide +kernel) (by decide +kernel)
set_option maxRecDepth 20000 in
theorem gvX8_digest_23 : GoodIn wsL_law (wsX70) := wk_b (I := [4113, 4115]) (by decide +kernel) (by decide +kernel)
set_option maxRecDepth 20000 in
theorem gvX8_digest_24 : GoodIn wsL_law (wsX40) := wk_b (I := [5121, 5123, 5125]) (by decide +kernel) (by decide +kernel)
set_option maxRecDepth 20000 in
theorem gvX8_digest_25 : GoodIn wsL_law (wsX10) := wk_b (I := [6217, 6219, 6221]) (by decide +kernel) (by decide +kernel)
set_option maxRecDepth 20000 in
theorem gvX8_digest_26 : GoodIn wsL_law ((vx_atS RX8 69 "java/lang/IllegalArgumentException" ["java/lang/RuntimeException", "java/lang/Exception"]).filter goodWord) := goodIn_sub (fun _ h => List.mem_append_left _ (List.mem_append_right _ h)) (by decide +kernel)
set_option maxRecDepth 20000 in
theorem gvX8_digest_27 : GoodIn wsL_law ((vx_atS RX8 446 "java/lang/IndexOutOfBoundsException" ["java/lang/RuntimeException", "java/lang/Exception"]).filter goodWord) := goodIn_sub (fun _ h => List.mem_append_left _ (List.mem_append_left _ (List.mem_append_right _ h))) (by decide +kernel)
set_option maxRecDepth 20000 in
theorem gvX8_digest_h : GoodIn wsL_law [.code yX8_digest cX8_digest 5 (some .long)] := wk_b (I := [2217]) (by decide +kernel) (by decide +kernel)
set_option maxRecDepth 20000 in
theorem ggL_law_X8_digest : GoodIn wsL_law wsX8_digest := goodIn_app (a := [.code yX8_digest cX8_digest 5 (some .long)]) gvX8_digest_h (goodIn_app (goodIn_app (goodIn_app (goodIn_app (goodIn_app (goodIn_app (goodIn_app (goodIn_app (goodIn_app (goodIn_app (goodIn_app (goodIn_app (goodIn_app (gvX8_digest_1) (goodIn_app (gvX8_digest_2) (goodIn_app (gvX8_digest_3) (goodIn_app (gvX8_digest_4) (goodIn_app (gvX8_digest_5) (goodIn_app (gvX8_digest_6) (goodIn_app (gvX8_digest_7) (goodIn_app (gvX8_digest_8) (goodIn_app (gvX8_digest_9) (goodIn_app (gvX8_digest_10) (goodIn_app (gvX8_digest_11) (goodIn_app (gvX8_digest_12) (goodIn_app (gvX8_digest_13) (goodIn_app (gvX8_digest_14) (gvX8_digest_15))))))))))))))) (gvX8_digest_16)) (gvX8_digest_17)) (gvX8_digest_18)) (gvX8_digest_19)) (gvX8_digest_20)) (gvX8_digest_21)) (gvX8_digest_22)) (gvX8_digest_23)) (gvX8_digest_24)) (gvX8_digest_25)) (gvX8_digest_26)) (gvX8_digest_27))
set_option maxRecDepth 20000 in
theorem gL_law_X8_digest : GoodIn wsL_law (wsV RL 204 RX8 yX8_digest wsX8_digest) := goodIn_app (wk_b (I := [2214, 2215, 2216, 2001]) (by decide +kernel) (by decide +kernel)) ggL_law_X8_digest
