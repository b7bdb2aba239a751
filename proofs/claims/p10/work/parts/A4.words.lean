/-! words by their places in the tables: 1000 * chunk + place -/
def m_six : List MethodName := [yJ5_ensureCapacityInternal_d00df, yJ5_newCapacity_0f7a4, yJ5_inflate_da8c8, yJ5_appendNull_278bc, yJ5_putStringAt_47b60, yJ5_inflateIfNeededFor_a7421]
def m_lw : List Cond := m_six.map (fun y => Cond.selects RJ4 y y) ++ lw_tbl
def wk_tb : List (List Cond) := [m_six.map (fun y => Cond.selects RJ4 y y), k2_sels lw_privs, tables_1_1, tables_1_2, tables_1_3, tables_1_4, tables_1_5, tables_1_6, tables_1_7, tables_1_8]
def wk_at (i : Nat) : Option Cond := (wk_tb[i / 1000]?).bind (fun l => l[i % 1000]?)
def wk (is : List Nat) : List Cond := is.filterMap wk_at
theorem wk_tbin : ∀ l ∈ wk_tb, ∀ w ∈ l, w ∈ m_lw := by
  intro l hl w hw
  rcases List.mem_cons.mp hl with rfl | hl
  · exact List.mem_append_left _ hw
  refine List.mem_append_right _ ?_
  rcases List.mem_cons.mp hl with rfl | hl
  · exact List.mem_append_left _ hw
  refine List.mem_append_right _ ?_
  show w ∈ tables_1_1 ++ (tables_1_2 ++ (tables_1_3 ++ (tables_1_4 ++ (tables_1_5 ++ (tables_1_6 ++ (tables_1_7 ++ (tables_1_8)))))))
  rcases List.mem_cons.mp hl with rfl | hl
  · exact List.mem_append_left _ hw
  rcases List.mem_cons.mp hl with rfl | hl
  · exact List.mem_append_right _ (List.mem_append_left _ hw)
  rcases List.mem_cons.mp hl with rfl | hl
  · exact List.mem_append_right _ (List.mem_append_right _ (List.mem_append_left _ hw))
  rcases List.mem_cons.mp hl with rfl | hl
  · exact List.mem_append_right _ (List.mem_append_right _ (List.mem_append_right _ (List.mem_append_left _ hw)))
  rcases List.mem_cons.mp hl with rfl | hl
  · exact List.mem_append_right _ (List.mem_append_right _ (List.mem_append_right _ (List.mem_append_right _ (List.mem_append_left _ hw))))
  rcases List.mem_cons.mp hl with rfl | hl
  · exact List.mem_append_right _ (List.mem_append_right _ (List.mem_append_right _ (List.mem_append_right _ (List.mem_append_right _ (List.mem_append_left _ hw)))))
  rcases List.mem_cons.mp hl with rfl | hl
  · exact List.mem_append_right _ (List.mem_append_right _ (List.mem_append_right _ (List.mem_append_right _ (List.mem_append_right _ (List.mem_append_right _ (List.mem_append_left _ hw))))))
  rcases List.mem_cons.mp hl with rfl | hl
  · exact List.mem_append_right _ (List.mem_append_right _ (List.mem_append_right _ (List.mem_append_right _ (List.mem_append_right _ (List.mem_append_right _ (List.mem_append_right _ (hw)))))))
  · cases hl
theorem wk_atin {i : Nat} {w : Cond} (h : wk_at i = some w) : w ∈ m_lw := by
  unfold wk_at at h
  cases hl : wk_tb[i / 1000]? with
  | none => rw [hl] at h; cases h
  | some l =>
    rw [hl] at h
    exact wk_tbin l (List.mem_of_getElem? hl) w (List.mem_of_getElem? h)
theorem wk_in {is : List Nat} {w : Cond} (h : w ∈ wk is) : w ∈ m_lw := by
  obtain ⟨i, -, hi⟩ := List.mem_filterMap.mp h
  exact wk_atin hi
/-- of two ascending lists: the first lies in the second -/
def wk_sub : List Nat → List Nat → Bool
  | [], [] => true
  | _ :: _, [] => false
  | [], _ :: _ => true
  | i :: I, j :: J => bif Nat.beq i j then wk_sub I J else wk_sub (i :: I) J
theorem wk_sub_ok : ∀ (J I : List Nat), wk_sub I J = true → ∀ i ∈ I, i ∈ J := by
  intro J
  induction J with
  | nil =>
    intro I h i hi
    cases I with
    | nil => cases hi
    | cons a I => cases h
  | cons j J ih =>
    intro I h i hi
    cases I with
    | nil => cases hi
    | cons a I =>
      have h' : (bif Nat.beq a j then wk_sub I J else wk_sub (a :: I) J) = true := h
      cases hb : Nat.beq a j with
      | true =>
        rw [hb] at h'
        have e := Nat.eq_of_beq_eq_true hb
        rcases List.mem_cons.mp hi with rfl | hi
        · rw [e]; exact List.mem_cons_self
        · exact List.mem_cons_of_mem _ (ih I h' i hi)
      | false =>
        rw [hb] at h'
        exact List.mem_cons_of_mem _ (ih (a :: I) h' i hi)
theorem wk_mem {J I : List Nat} (h : wk_sub I J = true) : ∀ w ∈ wk I, w ∈ wk J := by
  intro w hw
  obtain ⟨i, hi, hx⟩ := List.mem_filterMap.mp hw
  exact List.mem_filterMap.mpr ⟨i, wk_sub_ok J I h i hi, hx⟩
theorem wk_g {big : List Cond} {J I : List Nat} {c : Cond} (hb : ∀ w ∈ wk J, w ∈ big) (ic : Nat) (hc : wk_at ic = some c) (hg : goodWord c = true) (hi : wk_sub [ic] J = true) (hs : wk_sub I J = true) (hq : (wk I).all goodWord = true) : GoodIn big (c :: wk I) := by
  intro w h
  rcases List.mem_cons.mp h with rfl | h
  · exact ⟨hb _ (List.mem_filterMap.mpr ⟨ic, wk_sub_ok J [ic] hi ic List.mem_cons_self, hc⟩), good_of_word hg⟩
  · exact ⟨hb _ (wk_mem hs w h), good_of_word (List.all_eq_true.mp hq w h)⟩
theorem wk_h {big : List Cond} {J : List Nat} {ws : List Cond} (hb : ∀ w ∈ wk J, w ∈ big) (I : List Nat) (hs : I.all (fun i => wk_sub [i] J) = true) (hw : ws = wk I) (h : ws.all goodWord = true) : GoodIn big ws := by
  intro w hx
  refine ⟨hb w ?_, good_of_word (List.all_eq_true.mp h w hx)⟩
  rw [hw] at hx
  obtain ⟨i, hi, hx⟩ := List.mem_filterMap.mp hx
  exact List.mem_filterMap.mpr ⟨i, wk_sub_ok J [i] (List.all_eq_true.mp hs i hi) i List.mem_cons_self, hx⟩
theorem wk_good {I G : List Nat} (hG : (wk G).all goodWord = true) (h : wk_sub I G = true) : (wk I).all goodWord = true := List.all_eq_true.mpr (fun w hw => List.all_eq_true.mp hG w (wk_mem h w hw))
def gdx : List Nat := [0, 1, 2, 3, 4, 5, 1000, 1001, 1002, 1003, 1004, 1005, 1006, 1007, 1009, 1010, 1011, 1012, 1013, 1014, 1015, 1016, 1017, 1018, 1019, 1020, 1021, 1022, 1023, 1024, 1025, 1026, 1027, 1028, 1029, 1030, 1031, 1032, 1033, 1035, 1036, 1037, 1038, 1039, 1040, 1041, 1042, 1043, 1044, 1045, 1046, 1047, 1048, 1049, 1050, 1051, 1052, 1053, 1054, 1055, 1056, 1057, 1058, 1059, 1060, 1061, 1062, 1063, 1064, 1065, 1066, 1067, 1068, 1069, 1070, 1071, 1072, 2000, 2001, 2002, 2003, 2004, 2005, 2006, 2007, 2008, 2009, 2013, 2014, 2015, 2016, 2017, 2018, 2019, 2020, 2021, 2022, 2023, 2024, 2025, 2026, 2027, 2028, 2029, 2030, 2031, 2032, 2033, 2034, 2035, 2036, 2038, 2039, 2040, 2041, 2042, 2043, 2044, 2045, 2046, 2047, 2048, 2049, 2051, 2052, 2053, 2054, 2055, 2056, 2057, 2058, 2059, 2060, 2061, 2062, 2063, 2065, 2066, 2068, 2069, 2070, 2071, 2072, 2073, 2075, 2077, 2080, 2081, 2083, 2084, 2085, 2086, 2087, 2088, 2089, 2091, 2094, 2096, 2097, 2098, 2099, 2100, 2101, 2102, 2103, 2104, 2105, 2106, 2107, 2108, 2109, 2110, 2111, 2112, 2114, 2116, 2118, 2120, 2122, 2124, 2127, 2128, 2129, 2130, 2131, 2132, 2133, 2134, 2135, 2136, 2137, 2138, 2139, 2141, 2143, 2145, 2147, 2149, 2151, 2153, 2155, 2157, 2159, 2162, 2163, 2164, 2165, 2166, 2168, 2169, 2170, 2171, 2172, 2173, 2174, 2175, 2176, 2177, 2178, 2179, 2180, 2181, 2182, 2183, 2184, 2185, 2186, 2187, 2188, 2189, 2191, 2192, 2193, 2194, 2195, 2196, 2197, 2198, 2199, 2200, 2201, 2202, 2203, 2204, 2206, 2207, 2208, 2209, 2210, 2211, 2212, 2213, 2214, 2215, 2216, 2217, 2218, 2219, 2220, 2221, 2222, 2223, 2224, 2226, 2227, 2228, 2230, 2231, 2232, 2234, 2235, 2236, 2237, 2238, 2239, 3000, 3002, 3003, 3004, 3006, 3007, 3008, 3075, 3076, 3077, 3078, 3079, 3080, 3082, 3083, 3084, 3100, 3102, 3103, 3104, 3106, 3107, 3108, 3110, 3111, 3113, 3114, 3115, 3116, 3117, 3119, 3120, 3122, 3123, 3124, 3125, 3126, 3127, 3128, 3129, 3130, 3131, 3132, 3133, 3134, 3136, 3137, 3138, 3139, 3140, 3141, 3142, 3143, 3144, 3145, 3146, 3147, 3148, 3149, 3150, 3151, 3152, 3153, 3154, 3155, 3157, 3158, 3159, 3160, 3161, 3163, 3164, 3165, 3166, 3167, 3168, 3169, 3170, 3171, 3172, 3173, 3174, 3175, 3176, 3177, 3178, 3179, 3181, 3182, 3183, 3184, 3185, 3186, 3187, 3188, 3190, 3191, 3192, 3193, 3194, 3195, 3196, 3197, 3198, 3199, 3200, 3202, 3203, 3205, 3206, 3207, 3208, 3210, 3211, 3212, 3214, 3215, 3216, 3218, 3219, 3220, 3222, 3223, 3224, 3225, 3226, 3228, 3229, 3232, 3233, 3234, 3235, 3236, 3238, 3239, 4000, 4002, 4003, 4004, 4005, 4006, 4007, 4008, 4009, 4010, 4012, 4014, 4015, 4016, 4018, 4019, 4020, 4021, 4022, 4023, 4024, 4025, 4026, 4027, 4028, 4029, 4031, 4032, 4033, 4035, 4036, 4037, 4039, 4040, 4041, 4042, 4043, 4045, 4046, 4047, 4050, 4052, 4055, 4056, 4057, 4058, 4059, 4060, 4061, 4062, 4063, 4064, 4065, 4066, 4068, 4069, 4070, 4071, 4073, 4089, 4090, 4091, 4092, 4093, 4094, 4095, 4098, 4099, 4100, 4101, 4102, 4103, 4104, 4105, 4106, 4108, 4109, 4110, 4111, 4112, 4113, 4115, 4118, 4119, 4120, 4121, 4122, 4123, 4124, 4125, 4126, 4127, 4128, 4129, 4130, 4131, 4132, 4133, 4134, 4135, 4136, 4138, 4140, 4142, 4144, 4146, 4148, 4150, 4152, 4154, 4157, 4158, 4159, 4160, 4161, 4163, 4164, 4165, 4167, 4168, 4169, 4171, 4172, 4173, 4174, 4175, 4176, 4177, 4178, 4179, 4180, 4181, 4182, 4183, 4184, 4185, 4210, 4211, 4212, 4213, 4214, 4216, 4217, 4218, 4219, 4220, 4221, 4222, 4223, 4224, 4225, 4226, 4227, 4228, 4229, 4230, 4231, 4232, 4233, 4234, 4235, 4236, 4237, 4238, 4239, 5000, 5001, 5002, 5003, 5005, 5006, 5007, 5008, 5009, 5010, 5011, 5012, 5013, 5014, 5015, 5016, 5017, 5018, 5019, 5020, 5021, 5022, 5023, 5024, 5025, 5026, 5027, 5028, 5029, 5031, 5033, 5035, 5037, 5039, 5041, 5043, 5045, 5048, 5049, 5050, 5051, 5052, 5053, 5054, 5056, 5057, 5058, 5059, 5060, 5061, 5062, 5063, 5064, 5065, 5066, 5067, 5068, 5069, 5070, 5071, 5072, 5073, 5074, 5075, 5076, 5078, 5080, 5082, 5084, 5086, 5088, 5090, 5093, 5094, 5095, 5096, 5097, 5098, 5099, 5102, 5103, 5104, 5105, 5106, 5107, 5108, 5109, 5110, 5111, 5112, 5113, 5114, 5115, 5116, 5117, 5118, 5119, 5120, 5121, 5123, 5125, 5128, 5129, 5130, 5131, 5132, 5133, 5134, 5135, 5136, 5137, 5138, 5139, 5140, 5141, 5142, 5143, 5144, 5145, 5148, 5149, 5150, 5151, 5152, 5153, 5154, 5155, 5156, 5158, 5159, 5165, 5166, 5167, 5168, 5169, 5170, 5171, 5172, 5173, 5174, 5176, 5177, 5178, 5179, 5180, 5181, 5182, 5183, 5184, 5185, 5186, 5187, 5189, 5191, 5193, 5195, 5197, 5198, 5199, 5200, 5201, 5202, 5203, 5204, 5206, 5207, 5208, 5210, 5211, 5212, 5214, 5215, 5216, 5217, 5218, 5219, 5220, 5221, 5222, 5223, 5224, 5225, 5227, 5228, 5229, 5230, 5231, 5232, 5233, 5234, 5235, 5236, 5237, 5238, 5239, 6000, 6001, 6002, 6003, 6004, 6005, 6007, 6008, 6009, 6010, 6011, 6012, 6013, 6015, 6017, 6019, 6020, 6021, 6022, 6023, 6024, 6025, 6026, 6027, 6028, 6030, 6031, 6032, 6034, 6035, 6036, 6037, 6039, 6040, 6041, 6042, 6043, 6044, 6045, 6046, 6047, 6048, 6049, 6050, 6051, 6052, 6053, 6054, 6055, 6056, 6057, 6058, 6059, 6060, 6061, 6062, 6063, 6064, 6065, 6066, 6067, 6068, 6069, 6070, 6071, 6072, 6073, 6074, 6075, 6077, 6079, 6080, 6081, 6082, 6083, 6084, 6085, 6086, 6088, 6089, 6090, 6091, 6092, 6093, 6094, 6095, 6096, 6097, 6098, 6099, 6100, 6101, 6102, 6103, 6104, 6105, 6106, 6107, 6108, 6109, 6110, 6111, 6112, 6113, 6114, 6115, 6116, 6117, 6118, 6119, 6120, 6121, 6122, 6123, 6125, 6132, 6133, 6134, 6135, 6136, 6137, 6138, 6139, 6140, 6141, 6142, 6143, 6144, 6145, 6146, 6147, 6149, 6151, 6153, 6157, 6158, 6159, 6160, 6161, 6162, 6163, 6164, 6165, 6166, 6167, 6168, 6170, 6171, 6172, 6173, 6174, 6176, 6177, 6178, 6179, 6180, 6181, 6182, 6183, 6184, 6185, 6186, 6187, 6188, 6190, 6192, 6193, 6194, 6195, 6196, 6197, 6198, 6200, 6201, 6202, 6204, 6205, 6206, 6207, 6208, 6209, 6210, 6211, 6212, 6213, 6214, 6215, 6216, 6217, 6219, 6221, 6224, 6225, 6226, 6227, 6228, 6230, 6231, 6232, 6234, 6235, 6236, 6238, 6239, 7000, 7001, 7002, 7003, 7004, 7005, 7006, 7008, 7009, 7010, 7011, 7012, 7013, 7014, 7016, 7018, 7019, 7020, 7022, 7023, 7024, 7026, 7027, 7028, 7029, 7030, 7031, 7032, 7033, 7034, 7035, 7036, 7037, 7038, 7039, 7040, 7041, 7042, 7043, 7044, 7045, 7046, 7047, 7048, 7049, 7050, 7051, 7052, 7053, 7054, 7055, 7056, 7057, 7058, 7059, 7060, 7061, 7063, 7064, 7065, 7066, 7067, 7068, 7069, 7070, 7071, 7072, 7073, 7074, 7075, 7076, 7077, 7078, 7079, 7080, 7081, 7082, 7083, 7084, 7085, 7086, 7087, 7088, 7089, 7090, 7091, 7092, 7093, 7094, 7095, 7096, 7097, 7098, 7099, 7100, 7101, 7102, 7103, 7104, 7105, 7106, 7107, 7108, 7109, 7111, 7112, 7113, 7115, 7116, 7117, 7118, 7120, 7122, 7127, 7129, 7131, 7133, 7135, 7137, 7140, 7141, 7142, 7143, 7144, 7145, 7146, 7147, 7148, 7149, 7150, 7151, 7152, 7153, 7154, 7156, 7158, 7160, 7162, 7164, 7166, 7168, 7170, 7172, 7174, 7176, 7178, 7181, 7182, 7183, 7184, 7185, 7186, 7187, 7188, 7189, 7191, 7192, 7193, 7194, 7195, 7196, 7198, 7199, 7200, 7201, 7202, 7203, 7204, 7205, 7206, 7207, 7208, 7209, 7210, 7212, 7213, 7214, 7215, 7216, 7217, 7219, 7221, 7223, 7225, 7227, 7229, 7231, 7233, 7235, 7237, 7239, 8001, 8003, 8005, 8007, 8010, 8011, 8012, 8013, 8014, 8015, 8017, 8018, 8019, 8020, 8021, 8022, 8023, 8024, 8025, 8026, 8027, 8028, 8029, 8031, 8032, 8033, 8038, 8041, 8044, 8046, 8048, 8050, 8052, 8054, 8056, 8058, 8060, 8062, 8065, 8066, 8067, 8068, 8069, 8071, 8072, 8073, 8074, 8076, 8077, 8078, 8081, 8085, 8087, 8089, 8091, 8093, 8095, 8097, 8100, 8101, 8102, 8103, 8104, 8106, 8107, 8108, 8109, 8110, 8111, 8112, 8113, 8114, 8115, 8116, 8117, 8118, 8119, 8120, 8121, 8122, 8123, 8125, 8126, 8127, 8128, 8129, 8130, 8131, 8132, 8133, 8134, 8135, 8136, 8137, 8138, 8139, 8141, 8143, 8144, 8145, 8146, 8147, 8148, 8149, 8150, 8151, 8152, 8153, 8156, 8157, 8158, 8159, 8160, 8161, 8162, 8163, 8164, 8165, 8166, 8167, 8168, 8169, 8171, 8172, 8173, 8174, 8175, 8176, 8177, 8178, 8179, 8180, 8181, 8182, 8183, 8185, 8186, 8187, 8188, 8189, 8190, 8191, 8192, 8194, 8195, 8196, 8197, 8198, 8199, 8200, 8202, 8203, 8204, 8206, 8207, 8208, 8209, 8210, 8211, 8212, 8214, 8215, 8216, 8217, 8218, 8219, 8220, 8221, 8222, 8223, 8224, 8225, 8227, 8228, 8229, 8230, 8231, 8232, 8233, 8234, 8235, 8236, 8237, 8238, 8239, 9000, 9001, 9002, 9003, 9005, 9007, 9009, 9013, 9017, 9019, 9021, 9023, 9026, 9028, 9030, 9031, 9032, 9033, 9034, 9035, 9036, 9037, 9038, 9039, 9041, 9042, 9043, 9045, 9046, 9047, 9049, 9050, 9051, 9052, 9053, 9054, 9055, 9057, 9058, 9059, 9061, 9062, 9063, 9064, 9065, 9066, 9067, 9069, 9070, 9071, 9073, 9074, 9075, 9076, 9077, 9078, 9079, 9081, 9082, 9083, 9084, 9085, 9086, 9087, 9088, 9089, 9090, 9092, 9093, 9095, 9096, 9099, 9100, 9101, 9102, 9103, 9104, 9106, 9107, 9108, 9109, 9110, 9111, 9112, 9114, 9115, 9116, 9117, 9118, 9119, 9120, 9122, 9123, 9124, 9126, 9127, 9128, 9129, 9130, 9131, 9132, 9133, 9135, 9136, 9137, 9138, 9139, 9140, 9141, 9143, 9144, 9145, 9146, 9147, 9148, 9149, 9150, 9152, 9153, 9154, 9156, 9157, 9158, 9159, 9160, 9161, 9162, 9163, 9164, 9190]
set_option maxRecDepth 100000 in
theorem gdx_ok : (wk gdx).all goodWord = true := by decide +kernel
theorem wk_u {big ws : List Cond} {J I : List Nat} (hb : ∀ w ∈ wk J, w ∈ big) (e : ws = wk I) (hs : I.all (fun i => wk_sub [i] J) = true) : ∀ w ∈ ws, w ∈ big := by
  intro w hw
  rw [e] at hw
  obtain ⟨i, hi, hx⟩ := List.mem_filterMap.mp hw
  exact hb w (List.mem_filterMap.mpr ⟨i, wk_sub_ok J [i] (List.all_eq_true.mp hs i hi) i List.mem_cons_self, hx⟩)
theorem uq_X0 : u_ws RX0 TX0 10 = wk [4136, 4138, 4140, 4142, 4144, 4146, 4148, 4150, 4152, 4154] := by decide +kernel
theorem uq_X1 : u_ws RX1 TX1 3 = wk [6217, 6219, 6221] := by decide +kernel
theorem uq_X2 : u_ws RX2 TX2 7 = wk [2112, 2114, 2116, 2118, 2120, 2122, 2124] := by decide +kernel
theorem uq_X3 : u_ws RX3 TX3 8 = wk [5076, 5078, 5080, 5082, 5084, 5086, 5088, 5090] := by decide +kernel
theorem uq_X4 : u_ws RX4 TX4 3 = wk [5121, 5123, 5125] := by decide +kernel
theorem uq_X5 : u_ws RX5 TX5 2 = wk [2089, 2091] := by decide +kernel
theorem uq_X6 : u_ws RX6 TX6 9 = wk [5029, 5031, 5033, 5035, 5037, 5039, 5041, 5043, 5045] := by decide +kernel
theorem uq_X7 : u_ws RX7 TX7 2 = wk [4113, 4115] := by decide +kernel
theorem uq_X8 : u_ws RX8 TX8 11 = wk [2139, 2141, 2143, 2145, 2147, 2149, 2151, 2153, 2155, 2157, 2159] := by decide +kernel
theorem uq_X9 : u_ws RX9 TX9 2 = wk [4050, 4052] := by decide +kernel
theorem uq_X10 : u_ws RX10 TX10 8 = wk [7233, 7235, 7237, 7239, 8001, 8003, 8005, 8007] := by decide +kernel
theorem uq_X11 : u_ws RX11 TX11 6 = wk [7127, 7129, 7131, 7133, 7135, 7137] := by decide +kernel
theorem uq_X12 : u_ws RX12 TX12 6 = wk [8087, 8089, 8091, 8093, 8095, 8097] := by decide +kernel
theorem uq_X13 : u_ws RX13 TX13 9 = wk [8046, 8048, 8050, 8052, 8054, 8056, 8058, 8060, 8062] := by decide +kernel
theorem uq_X14 : u_ws RX14 TX14 13 = wk [7154, 7156, 7158, 7160, 7162, 7164, 7166, 7168, 7170, 7172, 7174, 7176, 7178] := by decide +kernel
theorem uq_J6 : u_ws RJ6 TJ6 1 = wk [8153] := by decide +kernel
theorem uq_J0 : u_ws RJ0 TJ0 4 = wk [6147, 6149, 6151, 6153] := by decide +kernel
theorem uq_J4 : u_ws RJ4 TJ4 4 = wk [5187, 5189, 5191, 5193] := by decide +kernel
theorem uq_Jx35411 : u_ws RJx35411 TJx35411 4 = wk [9003, 9005, 9007, 9009] := by decide +kernel
theorem uq_Jx4a65c : u_ws RJx4a65c TJx4a65c 3 = wk [2077, 2073, 2075] := by decide +kernel
def ix_Jxa1e45_init_da8c8 : List Nat := [2047, 2048, 2062]
def wsJxa1e45_init_da8c8 : List Cond := .code yJxa1e45_init_da8c8 cJxa1e45_init_da8c8 1 none :: (wk ix_Jxa1e45_init_da8c8)
theorem wm_Jxa1e45_init_da8c8 : ∀ w ∈ wk ix_Jxa1e45_init_da8c8, w ∈ wsJxa1e45_init_da8c8 := fun _ h => List.mem_cons_of_mem _ (h)
theorem wc_Jxa1e45_init_da8c8 : wk_at 2061 = some (.code yJxa1e45_init_da8c8 cJxa1e45_init_da8c8 1 none) := rfl
theorem wq_Jxa1e45_init_da8c8 : (wk ix_Jxa1e45_init_da8c8).all goodWord = true := wk_good gdx_ok (by decide +kernel)
def ix_Jxc12de_init_da8c8 : List Nat := [2002, 2047, 2048, 2059, 2060, 2061, 2062, 2069, 2073, 2075, 2077]
def wsJxc12de_init_da8c8 : List Cond := .code yJxc12de_init_da8c8 cJxc12de_init_da8c8 1 none :: (wk ix_Jxc12de_init_da8c8)
theorem wm_Jxc12de_init_da8c8 : ∀ w ∈ wk ix_Jxc12de_init_da8c8, w ∈ wsJxc12de_init_da8c8 := fun _ h => List.mem_cons_of_mem _ (h)
theorem wc_Jxc12de_init_da8c8 : wk_at 2058 = some (.code yJxc12de_init_da8c8 cJxc12de_init_da8c8 1 none) := rfl
theorem wq_Jxc12de_init_da8c8 : (wk ix_Jxc12de_init_da8c8).all goodWord = true := wk_good gdx_ok (by decide +kernel)
def ix_Jx4a65c_init_da8c8 : List Nat := [2002, 2003, 2047, 2048, 2056, 2057, 2058, 2059, 2060, 2061, 2062, 2063, 2065, 2069, 2073, 2075, 2077]
def wsJx4a65c_init_da8c8 : List Cond := .code yJx4a65c_init_da8c8 cJx4a65c_init_da8c8 1 none :: (wk ix_Jx4a65c_init_da8c8)
theorem wm_Jx4a65c_init_da8c8 : ∀ w ∈ wk ix_Jx4a65c_init_da8c8, w ∈ wsJx4a65c_init_da8c8 := fun _ h => List.mem_cons_of_mem _ (h)
theorem wc_Jx4a65c_init_da8c8 : wk_at 2055 = some (.code yJx4a65c_init_da8c8 cJx4a65c_init_da8c8 1 none) := rfl
theorem wq_Jx4a65c_init_da8c8 : (wk ix_Jx4a65c_init_da8c8).all goodWord = true := wk_good gdx_ok (by decide +kernel)
def ix_X7_init : List Nat := [2047, 2048, 4110]
def wsX7_init : List Cond := .code yX7_init cX7_init 1 none :: (wk ix_X7_init)
theorem wm_X7_init : ∀ w ∈ wk ix_X7_init, w ∈ wsX7_init := fun _ h => List.mem_cons_of_mem _ (h)
theorem wc_X7_init : wk_at 4109 = some (.code yX7_init cX7_init 1 none) := rfl
theorem wq_X7_init : (wk ix_X7_init).all goodWord = true := wk_good gdx_ok (by decide +kernel)
def ix_X0_init : List Nat := [2002, 2003, 2004, 2017, 2047, 2048, 2052, 2054, 2055, 2056, 2057, 2058, 2059, 2060, 2061, 2062, 2063, 2065, 2069, 2073, 2075, 2077, 4102, 4103, 4104, 4105, 4106, 4108, 4109, 4110, 4113, 4115, 4118, 4120, 4122, 4124, 4125, 4126, 4128, 4130, 4132, 4136, 4138, 4140, 4142, 4144, 4146, 4148, 4150, 4152, 4154]
def wsX0_init : List Cond := .code yX0_init cX0_init 6 none :: (wk ix_X0_init)
theorem wm_X0_init : ∀ w ∈ wk ix_X0_init, w ∈ wsX0_init := fun _ h => List.mem_cons_of_mem _ (h)
theorem wc_X0_init : wk_at 4101 = some (.code yX0_init cX0_init 6 none) := rfl
theorem wq_X0_init : (wk ix_X0_init).all goodWord = true := wk_good gdx_ok (by decide +kernel)
def ix_X0_isOpenAt : List Nat := [4124, 4125, 4136, 4138, 4140, 4142, 4144, 4146, 4148, 4150, 4152, 4154]
def wsX0_isOpenAt : List Cond := .code yX0_isOpenAt cX0_isOpenAt 2 (some .boolean) :: (wk ix_X0_isOpenAt)
theorem wm_X0_isOpenAt : ∀ w ∈ wk ix_X0_isOpenAt, w ∈ wsX0_isOpenAt := fun _ h => List.mem_cons_of_mem _ (h)
theorem wc_X0_isOpenAt : wk_at 3125 = some (.code yX0_isOpenAt cX0_isOpenAt 2 (some .boolean)) := rfl
theorem wq_X0_isOpenAt : (wk ix_X0_isOpenAt).all goodWord = true := wk_good gdx_ok (by decide +kernel)
def ix_X0_dozes : List Nat := [4134, 4136, 4138, 4140, 4142, 4144, 4146, 4148, 4150, 4152, 4154]
def wsX0_dozes : List Cond := .code yX0_dozes cX0_dozes 1 (some .boolean) :: (wk ix_X0_dozes)
theorem wm_X0_dozes : ∀ w ∈ wk ix_X0_dozes, w ∈ wsX0_dozes := fun _ h => List.mem_cons_of_mem _ (h)
theorem wc_X0_dozes : wk_at 3129 = some (.code yX0_dozes cX0_dozes 1 (some .boolean)) := rfl
theorem wq_X0_dozes : (wk ix_X0_dozes).all goodWord = true := wk_good gdx_ok (by decide +kernel)
def ix_X0_isAt : List Nat := [4120, 4122, 4136, 4138, 4140, 4142, 4144, 4146, 4148, 4150, 4152, 4154]
def wsX0_isAt : List Cond := .code yX0_isAt cX0_isAt 2 (some .boolean) :: (wk ix_X0_isAt)
theorem wm_X0_isAt : ∀ w ∈ wk ix_X0_isAt, w ∈ wsX0_isAt := fun _ h => List.mem_cons_of_mem _ (h)
theorem wc_X0_isAt : wk_at 2203 = some (.code yX0_isAt cX0_isAt 2 (some .boolean)) := rfl
theorem wq_X0_isAt : (wk ix_X0_isAt).all goodWord = true := wk_good gdx_ok (by decide +kernel)
def ix_X0_across : List Nat := [4120, 4122, 4136, 4138, 4140, 4142, 4144, 4146, 4148, 4150, 4152, 4154]
def wsX0_across : List Cond := .code yX0_across cX0_across 2 (some (.object "Lullabygate$Land")) :: (wk ix_X0_across)
theorem wm_X0_across : ∀ w ∈ wk ix_X0_across, w ∈ wsX0_across := fun _ h => List.mem_cons_of_mem _ (h)
theorem wc_X0_across : wk_at 3178 = some (.code yX0_across cX0_across 2 (some (.object "Lullabygate$Land"))) := rfl
theorem wq_X0_across : (wk ix_X0_across).all goodWord = true := wk_good gdx_ok (by decide +kernel)
def ix_Jx4a65c_size_8abf5 : List Nat := [2068, 2073, 2075, 2077]
def wsJx4a65c_size_8abf5 : List Cond := .code yJx4a65c_size_8abf5 cJx4a65c_size_8abf5 1 (some .int) :: (wk ix_Jx4a65c_size_8abf5)
theorem wm_Jx4a65c_size_8abf5 : ∀ w ∈ wk ix_Jx4a65c_size_8abf5, w ∈ wsJx4a65c_size_8abf5 := fun _ h => List.mem_cons_of_mem _ (h)
theorem wc_Jx4a65c_size_8abf5 : wk_at 2173 = some (.code yJx4a65c_size_8abf5 cJx4a65c_size_8abf5 1 (some .int)) := rfl
theorem wq_Jx4a65c_size_8abf5 : (wk ix_Jx4a65c_size_8abf5).all goodWord = true := wk_good gdx_ok (by decide +kernel)
def ix_J3_checkIndex_8e157 : List Nat := []
def wsJ3_checkIndex_8e157 : List Cond := .code yJ3_checkIndex_8e157 cJ3_checkIndex_8e157 3 (some .int) :: (wk ix_J3_checkIndex_8e157)
theorem wm_J3_checkIndex_8e157 : ∀ w ∈ wk ix_J3_checkIndex_8e157, w ∈ wsJ3_checkIndex_8e157 := fun _ h => List.mem_cons_of_mem _ (h)
theorem wc_J3_checkIndex_8e157 : wk_at 2183 = some (.code yJ3_checkIndex_8e157 cJ3_checkIndex_8e157 3 (some .int)) := rfl
theorem wq_J3_checkIndex_8e157 : (wk ix_J3_checkIndex_8e157).all goodWord = true := wk_good gdx_ok (by decide +kernel)
def ix_J15_checkIndex_7cf53 : List Nat := [2024, 2181, 2182, 2183]
def wsJ15_checkIndex_7cf53 : List Cond := .code yJ15_checkIndex_7cf53 cJ15_checkIndex_7cf53 2 (some .int) :: (wk ix_J15_checkIndex_7cf53)
theorem wm_J15_checkIndex_7cf53 : ∀ w ∈ wk ix_J15_checkIndex_7cf53, w ∈ wsJ15_checkIndex_7cf53 := fun _ h => List.mem_cons_of_mem _ (h)
theorem wc_J15_checkIndex_7cf53 : wk_at 2180 = some (.code yJ15_checkIndex_7cf53 cJ15_checkIndex_7cf53 2 (some .int)) := rfl
theorem wq_J15_checkIndex_7cf53 : (wk ix_J15_checkIndex_7cf53).all goodWord = true := wk_good gdx_ok (by decide +kernel)
def ix_Jx4a65c_elementData_915e3 : List Nat := [2065, 2073, 2075, 2077]
def wsJx4a65c_elementData_915e3 : List Cond := .code yJx4a65c_elementData_915e3 cJx4a65c_elementData_915e3 2 (some (.object "java/lang/Object")) :: (wk ix_Jx4a65c_elementData_915e3)
theorem wm_Jx4a65c_elementData_915e3 : ∀ w ∈ wk ix_Jx4a65c_elementData_915e3, w ∈ wsJx4a65c_elementData_915e3 := fun _ h => List.mem_cons_of_mem _ (h)
theorem wc_Jx4a65c_elementData_915e3 : wk_at 2187 = some (.code yJx4a65c_elementData_915e3 cJx4a65c_elementData_915e3 2 (some (.object "java/lang/Object"))) := rfl
theorem wq_Jx4a65c_elementData_915e3 : (wk ix_Jx4a65c_elementData_915e3).all goodWord = true := wk_good gdx_ok (by decide +kernel)
def ix_Jx4a65c_get_915e3 : List Nat := [2004, 2023, 2024, 2065, 2068, 2073, 2075, 2077, 2178, 2179, 2180, 2181, 2182, 2183, 2184, 2185, 2186, 2187]
def wsJx4a65c_get_915e3 : List Cond := .code yJx4a65c_get_915e3 cJx4a65c_get_915e3 2 (some (.object "java/lang/Object")) :: (wk ix_Jx4a65c_get_915e3)
theorem wm_Jx4a65c_get_915e3 : ∀ w ∈ wk ix_Jx4a65c_get_915e3, w ∈ wsJx4a65c_get_915e3 := fun _ h => List.mem_cons_of_mem _ (h)
theorem wc_Jx4a65c_get_915e3 : wk_at 2177 = some (.code yJx4a65c_get_915e3 cJx4a65c_get_915e3 2 (some (.object "java/lang/Object"))) := rfl
theorem wq_Jx4a65c_get_915e3 : (wk ix_Jx4a65c_get_915e3).all goodWord = true := wk_good gdx_ok (by decide +kernel)
def ix_X0_babiesInLine : List Nat := [2004, 2023, 2024, 2065, 2068, 2073, 2075, 2077, 2171, 2172, 2173, 2175, 2176, 2177, 2178, 2179, 2180, 2181, 2182, 2183, 2184, 2185, 2186, 2187, 2198, 2199, 2213, 4126, 4136, 4138, 4140, 4142, 4144, 4146, 4148, 4150, 4152, 4154, 5013, 5029, 5031, 5033, 5035, 5037, 5039, 5041, 5043, 5045]
def wsX0_babiesInLine : List Cond := .code yX0_babiesInLine cX0_babiesInLine 3 (some .int) :: (wk ix_X0_babiesInLine)
theorem wm_X0_babiesInLine : ∀ w ∈ wk ix_X0_babiesInLine, w ∈ wsX0_babiesInLine := fun _ h => List.mem_cons_of_mem _ (h)
theorem wc_X0_babiesInLine : wk_at 5151 = some (.code yX0_babiesInLine cX0_babiesInLine 3 (some .int)) := rfl
theorem wq_X0_babiesInLine : (wk ix_X0_babiesInLine).all goodWord = true := wk_good gdx_ok (by decide +kernel)
def ix_X0_babiesAreAhead : List Nat := [2004, 2023, 2024, 2065, 2068, 2073, 2075, 2077, 2171, 2172, 2173, 2175, 2176, 2177, 2178, 2179, 2180, 2181, 2182, 2183, 2184, 2185, 2186, 2187, 2198, 2199, 2213, 4126, 4136, 4138, 4140, 4142, 4144, 4146, 4148, 4150, 4152, 4154, 5013, 5029, 5031, 5033, 5035, 5037, 5039, 5041, 5043, 5045]
def wsX0_babiesAreAhead : List Cond := .code yX0_babiesAreAhead cX0_babiesAreAhead 2 (some .boolean) :: (wk ix_X0_babiesAreAhead)
theorem wm_X0_babiesAreAhead : ∀ w ∈ wk ix_X0_babiesAreAhead, w ∈ wsX0_babiesAreAhead := fun _ h => List.mem_cons_of_mem _ (h)
theorem wc_X0_babiesAreAhead : wk_at 2212 = some (.code yX0_babiesAreAhead cX0_babiesAreAhead 2 (some .boolean)) := rfl
theorem wq_X0_babiesAreAhead : (wk ix_X0_babiesAreAhead).all goodWord = true := wk_good gdx_ok (by decide +kernel)
def ix_X0_timesInLine : List Nat := [2004, 2023, 2024, 2065, 2068, 2073, 2075, 2077, 2171, 2172, 2173, 2175, 2176, 2177, 2178, 2179, 2180, 2181, 2182, 2183, 2184, 2185, 2186, 2187, 2198, 2199, 4126, 4136, 4138, 4140, 4142, 4144, 4146, 4148, 4150, 4152, 4154]
def wsX0_timesInLine : List Cond := .code yX0_timesInLine cX0_timesInLine 4 (some .int) :: (wk ix_X0_timesInLine)
theorem wm_X0_timesInLine : ∀ w ∈ wk ix_X0_timesInLine, w ∈ wsX0_timesInLine := fun _ h => List.mem_cons_of_mem _ (h)
theorem wc_X0_timesInLine : wk_at 2197 = some (.code yX0_timesInLine cX0_timesInLine 4 (some .int)) := rfl
theorem wq_X0_timesInLine : (wk ix_X0_timesInLine).all goodWord = true := wk_good gdx_ok (by decide +kernel)
def ix_X1_init : List Nat := [2047, 2048, 6210, 6211, 6213, 6215, 6217, 6219, 6221]
def wsX1_init : List Cond := .code yX1_init cX1_init 4 none :: (wk ix_X1_init)
theorem wm_X1_init : ∀ w ∈ wk ix_X1_init, w ∈ wsX1_init := fun _ h => List.mem_cons_of_mem _ (h)
theorem wc_X1_init : wk_at 6209 = some (.code yX1_init cX1_init 4 none) := rfl
theorem wq_X1_init : (wk ix_X1_init).all goodWord = true := wk_good gdx_ok (by decide +kernel)
def ix_X2_init : List Nat := [2047, 2048, 2100, 2101, 2103, 2105, 2107, 2112, 2114, 2116, 2118, 2120, 2122, 2124]
def wsX2_init : List Cond := .code yX2_init cX2_init 2 none :: (wk ix_X2_init)
theorem wm_X2_init : ∀ w ∈ wk ix_X2_init, w ∈ wsX2_init := fun _ h => List.mem_cons_of_mem _ (h)
theorem wc_X2_init : wk_at 2099 = some (.code yX2_init cX2_init 2 none) := rfl
theorem wq_X2_init : (wk ix_X2_init).all goodWord = true := wk_good gdx_ok (by decide +kernel)
def ix_X2_dutyOn : List Nat := [2103, 2105, 2112, 2114, 2116, 2118, 2120, 2122, 2124]
def wsX2_dutyOn : List Cond := .code yX2_dutyOn cX2_dutyOn 2 (some .int) :: (wk ix_X2_dutyOn)
theorem wm_X2_dutyOn : ∀ w ∈ wk ix_X2_dutyOn, w ∈ wsX2_dutyOn := fun _ h => List.mem_cons_of_mem _ (h)
theorem wc_X2_dutyOn : wk_at 3195 = some (.code yX2_dutyOn cX2_dutyOn 2 (some .int)) := rfl
theorem wq_X2_dutyOn : (wk ix_X2_dutyOn).all goodWord = true := wk_good gdx_ok (by decide +kernel)
def ix_X3_init : List Nat := [2047, 2048, 5060, 5061, 5063, 5065, 5067, 5071, 5076, 5078, 5080, 5082, 5084, 5086, 5088, 5090]
def wsX3_init : List Cond := .code yX3_init cX3_init 6 none :: (wk ix_X3_init)
theorem wm_X3_init : ∀ w ∈ wk ix_X3_init, w ∈ wsX3_init := fun _ h => List.mem_cons_of_mem _ (h)
theorem wc_X3_init : wk_at 5059 = some (.code yX3_init cX3_init 6 none) := rfl
theorem wq_X3_init : (wk ix_X3_init).all goodWord = true := wk_good gdx_ok (by decide +kernel)
def ix_X3_isNightmare : List Nat := [5067, 5076, 5078, 5080, 5082, 5084, 5086, 5088, 5090]
def wsX3_isNightmare : List Cond := .code yX3_isNightmare cX3_isNightmare 1 (some .boolean) :: (wk ix_X3_isNightmare)
theorem wm_X3_isNightmare : ∀ w ∈ wk ix_X3_isNightmare, w ∈ wsX3_isNightmare := fun _ h => List.mem_cons_of_mem _ (h)
theorem wc_X3_isNightmare : wk_at 3187 = some (.code yX3_isNightmare cX3_isNightmare 1 (some .boolean)) := rfl
theorem wq_X3_isNightmare : (wk ix_X3_isNightmare).all goodWord = true := wk_good gdx_ok (by decide +kernel)
def ix_X3_isIn : List Nat := [5061, 5076, 5078, 5080, 5082, 5084, 5086, 5088, 5090]
def wsX3_isIn : List Cond := .code yX3_isIn cX3_isIn 2 (some .boolean) :: (wk ix_X3_isIn)
theorem wm_X3_isIn : ∀ w ∈ wk ix_X3_isIn, w ∈ wsX3_isIn := fun _ h => List.mem_cons_of_mem _ (h)
theorem wc_X3_isIn : wk_at 3145 = some (.code yX3_isIn cX3_isIn 2 (some .boolean)) := rfl
theorem wq_X3_isIn : (wk ix_X3_isIn).all goodWord = true := wk_good gdx_ok (by decide +kernel)
def ix_X3_isHidden : List Nat := [2027, 3142, 3143, 3144, 3145, 5025, 5029, 5031, 5033, 5035, 5037, 5039, 5041, 5043, 5045, 5061, 5071, 5076, 5078, 5080, 5082, 5084, 5086, 5088, 5090]
def wsX3_isHidden : List Cond := .code yX3_isHidden cX3_isHidden 1 (some .boolean) :: (wk ix_X3_isHidden)
theorem wm_X3_isHidden : ∀ w ∈ wk ix_X3_isHidden, w ∈ wsX3_isHidden := fun _ h => List.mem_cons_of_mem _ (h)
theorem wc_X3_isHidden : wk_at 3141 = some (.code yX3_isHidden cX3_isHidden 1 (some .boolean)) := rfl
theorem wq_X3_isHidden : (wk ix_X3_isHidden).all goodWord = true := wk_good gdx_ok (by decide +kernel)
def ix_X3_whereabouts : List Nat := [5016, 5029, 5031, 5033, 5035, 5037, 5039, 5041, 5043, 5045, 5071, 5073, 5076, 5078, 5080, 5082, 5084, 5086, 5088, 5090]
def wsX3_whereabouts : List Cond := .code yX3_whereabouts cX3_whereabouts 1 (some (.object "Lullabygate$Land")) :: (wk ix_X3_whereabouts)
theorem wm_X3_whereabouts : ∀ w ∈ wk ix_X3_whereabouts, w ∈ wsX3_whereabouts := fun _ h => List.mem_cons_of_mem _ (h)
theorem wc_X3_whereabouts : wk_at 2239 = some (.code yX3_whereabouts cX3_whereabouts 1 (some (.object "Lullabygate$Land"))) := rfl
theorem wq_X3_whereabouts : (wk ix_X3_whereabouts).all goodWord = true := wk_good gdx_ok (by decide +kernel)
def ix_X3_putInStore : List Nat := [5069, 5071, 5073, 5076, 5078, 5080, 5082, 5084, 5086, 5088, 5090]
def wsX3_putInStore : List Cond := .code yX3_putInStore cX3_putInStore 3 none :: (wk ix_X3_putInStore)
theorem wm_X3_putInStore : ∀ w ∈ wk ix_X3_putInStore, w ∈ wsX3_putInStore := fun _ h => List.mem_cons_of_mem _ (h)
theorem wc_X3_putInStore : wk_at 6227 = some (.code yX3_putInStore cX3_putInStore 3 none) := rfl
theorem wq_X3_putInStore : (wk ix_X3_putInStore).all goodWord = true := wk_good gdx_ok (by decide +kernel)
def ix_X4_init : List Nat := [2047, 2048, 5114, 5115, 5117, 5119, 5121, 5123, 5125]
def wsX4_init : List Cond := .code yX4_init cX4_init 4 none :: (wk ix_X4_init)
theorem wm_X4_init : ∀ w ∈ wk ix_X4_init, w ∈ wsX4_init := fun _ h => List.mem_cons_of_mem _ (h)
theorem wc_X4_init : wk_at 5113 = some (.code yX4_init cX4_init 4 none) := rfl
theorem wq_X4_init : (wk ix_X4_init).all goodWord = true := wk_good gdx_ok (by decide +kernel)
def ix_X5_init : List Nat := [2047, 2048, 2085, 2088, 2089, 2091]
def wsX5_init : List Cond := .code yX5_init cX5_init 1 none :: (wk ix_X5_init)
theorem wm_X5_init : ∀ w ∈ wk ix_X5_init, w ∈ wsX5_init := fun _ h => List.mem_cons_of_mem _ (h)
theorem wc_X5_init : wk_at 2084 = some (.code yX5_init cX5_init 1 none) := rfl
theorem wq_X5_init : (wk ix_X5_init).all goodWord = true := wk_good gdx_ok (by decide +kernel)
def ix_X5_draw : List Nat := [2086, 2088, 2089, 2091]
def wsX5_draw : List Cond := .code yX5_draw cX5_draw 2 (some .int) :: (wk ix_X5_draw)
theorem wm_X5_draw : ∀ w ∈ wk ix_X5_draw, w ∈ wsX5_draw := fun _ h => List.mem_cons_of_mem _ (h)
theorem wc_X5_draw : wk_at 6197 = some (.code yX5_draw cX5_draw 2 (some .int)) := rfl
theorem wq_X5_draw : (wk ix_X5_draw).all goodWord = true := wk_good gdx_ok (by decide +kernel)
def ix_X6_init : List Nat := [2047, 2048, 5009, 5010, 5012, 5015, 5018, 5020, 5029, 5031, 5033, 5035, 5037, 5039, 5041, 5043, 5045]
def wsX6_init : List Cond := .code yX6_init cX6_init 5 none :: (wk ix_X6_init)
theorem wm_X6_init : ∀ w ∈ wk ix_X6_init, w ∈ wsX6_init := fun _ h => List.mem_cons_of_mem _ (h)
theorem wc_X6_init : wk_at 5008 = some (.code yX6_init cX6_init 5 none) := rfl
theorem wq_X6_init : (wk ix_X6_init).all goodWord = true := wk_good gdx_ok (by decide +kernel)
def ix_X6_standAt : List Nat := [5020, 5022, 5024, 5029, 5031, 5033, 5035, 5037, 5039, 5041, 5043, 5045]
def wsX6_standAt : List Cond := .code yX6_standAt cX6_standAt 3 none :: (wk ix_X6_standAt)
theorem wm_X6_standAt : ∀ w ∈ wk ix_X6_standAt, w ∈ wsX6_standAt := fun _ h => List.mem_cons_of_mem _ (h)
theorem wc_X6_standAt : wk_at 6161 = some (.code yX6_standAt cX6_standAt 3 none) := rfl
theorem wq_X6_standAt : (wk ix_X6_standAt).all goodWord = true := wk_good gdx_ok (by decide +kernel)
def ix_X6_stepOut : List Nat := [5020, 5022, 5024, 5029, 5031, 5033, 5035, 5037, 5039, 5041, 5043, 5045]
def wsX6_stepOut : List Cond := .code yX6_stepOut cX6_stepOut 2 none :: (wk ix_X6_stepOut)
theorem wm_X6_stepOut : ∀ w ∈ wk ix_X6_stepOut, w ∈ wsX6_stepOut := fun _ h => List.mem_cons_of_mem _ (h)
theorem wc_X6_stepOut : wk_at 6181 = some (.code yX6_stepOut cX6_stepOut 2 none) := rfl
theorem wq_X6_stepOut : (wk ix_X6_stepOut).all goodWord = true := wk_good gdx_ok (by decide +kernel)
def ix_X7_has : List Nat := [4111, 4112, 4113, 4115]
def wsX7_has : List Cond := .code yX7_has cX7_has 4 (some .boolean) :: (wk ix_X7_has)
theorem wm_X7_has : ∀ w ∈ wk ix_X7_has, w ∈ wsX7_has := fun _ h => List.mem_cons_of_mem _ (h)
theorem wc_X7_has : wk_at 3174 = some (.code yX7_has cX7_has 4 (some .boolean)) := rfl
theorem wq_X7_has : (wk ix_X7_has).all goodWord = true := wk_good gdx_ok (by decide +kernel)
def ix_X7_put : List Nat := [4111, 4112, 4113, 4115]
def wsX7_put : List Cond := .code yX7_put cX7_put 2 none :: (wk ix_X7_put)
theorem wm_X7_put : ∀ w ∈ wk ix_X7_put, w ∈ wsX7_put := fun _ h => List.mem_cons_of_mem _ (h)
theorem wc_X7_put : wk_at 5138 = some (.code yX7_put cX7_put 2 none) := rfl
theorem wq_X7_put : (wk ix_X7_put).all goodWord = true := wk_good gdx_ok (by decide +kernel)
def ix_X7_putAll : List Nat := [4111, 4112, 4113, 4115]
def wsX7_putAll : List Cond := .code yX7_putAll cX7_putAll 2 none :: (wk ix_X7_putAll)
theorem wm_X7_putAll : ∀ w ∈ wk ix_X7_putAll, w ∈ wsX7_putAll := fun _ h => List.mem_cons_of_mem _ (h)
theorem wc_X7_putAll : wk_at 7031 = some (.code yX7_putAll cX7_putAll 2 none) := rfl
theorem wq_X7_putAll : (wk ix_X7_putAll).all goodWord = true := wk_good gdx_ok (by decide +kernel)
def ix_J13_bitCount_95d88 : List Nat := [3153, 3154, 3155]
def wsJ13_bitCount_95d88 : List Cond := .code yJ13_bitCount_95d88 cJ13_bitCount_95d88 2 (some .int) :: (wk ix_J13_bitCount_95d88)
theorem wm_J13_bitCount_95d88 : ∀ w ∈ wk ix_J13_bitCount_95d88, w ∈ wsJ13_bitCount_95d88 := fun _ h => List.mem_cons_of_mem _ (h)
theorem wc_J13_bitCount_95d88 : wk_at 3152 = some (.code yJ13_bitCount_95d88 cJ13_bitCount_95d88 2 (some .int)) := rfl
theorem wq_J13_bitCount_95d88 : (wk ix_J13_bitCount_95d88).all goodWord = true := wk_good gdx_ok (by decide +kernel)
def ix_X7_size : List Nat := [2040, 3150, 3151, 3152, 3153, 3154, 3155, 4111, 4112, 4113, 4115]
def wsX7_size : List Cond := .code yX7_size cX7_size 1 (some .int) :: (wk ix_X7_size)
theorem wm_X7_size : ∀ w ∈ wk ix_X7_size, w ∈ wsX7_size := fun _ h => List.mem_cons_of_mem _ (h)
theorem wc_X7_size : wk_at 3149 = some (.code yX7_size cX7_size 1 (some .int)) := rfl
theorem wq_X7_size : (wk ix_X7_size).all goodWord = true := wk_good gdx_ok (by decide +kernel)
def ix_X8_init : List Nat := [2002, 2003, 2004, 2005, 2006, 2046, 2047, 2048, 2049, 2051, 2052, 2053, 2054, 2055, 2056, 2057, 2058, 2059, 2060, 2061, 2062, 2063, 2065, 2069, 2073, 2075, 2077, 2080, 2081, 2083, 2084, 2085, 2088, 2089, 2091, 2094, 2096, 2097, 2098, 2099, 2100, 2101, 2103, 2105, 2107, 2112, 2114, 2116, 2118, 2120, 2122, 2124, 2127, 2128, 2129, 2130, 2131, 2132, 2133, 2134, 2135, 2139, 2141, 2143, 2145, 2147, 2149, 2151, 2153, 2155, 2157, 2159]
def wsX8_init : List Cond := .code yX8_init cX8_init 2 none :: (wk ix_X8_init)
theorem wm_X8_init : ∀ w ∈ wk ix_X8_init, w ∈ wsX8_init := fun _ h => List.mem_cons_of_mem _ (h)
theorem wc_X8_init : wk_at 2045 = some (.code yX8_init cX8_init 2 none) := rfl
theorem wq_X8_init : (wk ix_X8_init).all goodWord = true := wk_good gdx_ok (by decide +kernel)
def ix_X8_landNumbered : List Nat := [2013, 2128, 2139, 2141, 2143, 2145, 2147, 2149, 2151, 2153, 2155, 2157, 2159, 3084]
def wsX8_landNumbered : List Cond := .code yX8_landNumbered cX8_landNumbered 2 (some (.object "Lullabygate$Land")) :: (wk ix_X8_landNumbered ++ (vx_atS RX8 446 "java/lang/IndexOutOfBoundsException" ["java/lang/RuntimeException", "java/lang/Exception"]).filter goodWord)
theorem wm_X8_landNumbered : ∀ w ∈ wk ix_X8_landNumbered, w ∈ wsX8_landNumbered := fun _ h => List.mem_cons_of_mem _ (List.mem_append_left _ (h))
theorem wc_X8_landNumbered : wk_at 3083 = some (.code yX8_landNumbered cX8_landNumbered 2 (some (.object "Lullabygate$Land"))) := rfl
theorem wq_X8_landNumbered : (wk ix_X8_landNumbered).all goodWord = true := wk_good gdx_ok (by decide +kernel)
def ix_X8_demandRange : List Nat := [2014, 3008]
def wsX8_demandRange : List Cond := .code yX8_demandRange cX8_demandRange 3 none :: (wk ix_X8_demandRange ++ (vx_atS RX8 69 "java/lang/IllegalArgumentException" ["java/lang/RuntimeException", "java/lang/Exception"]).filter goodWord)
theorem wm_X8_demandRange : ∀ w ∈ wk ix_X8_demandRange, w ∈ wsX8_demandRange := fun _ h => List.mem_cons_of_mem _ (List.mem_append_left _ (h))
theorem wc_X8_demandRange : wk_at 4010 = some (.code yX8_demandRange cX8_demandRange 3 none) := rfl
theorem wq_X8_demandRange : (wk ix_X8_demandRange).all goodWord = true := wk_good gdx_ok (by decide +kernel)
def ix_X8_land : List Nat := [1009, 2001, 2013, 2014, 2104, 2106, 2112, 2114, 2116, 2118, 2120, 2122, 2124, 2128, 2139, 2141, 2143, 2145, 2147, 2149, 2151, 2153, 2155, 2157, 2159, 3008, 3080, 3082, 3083, 3084, 4008, 4009, 4010]
def wsX8_land : List Cond := .code yX8_land cX8_land 6 (some .int) :: (wk ix_X8_land ++ (vx_atS RX8 446 "java/lang/IndexOutOfBoundsException" ["java/lang/RuntimeException", "java/lang/Exception"]).filter goodWord ++ (vx_atS RX8 69 "java/lang/IllegalArgumentException" ["java/lang/RuntimeException", "java/lang/Exception"]).filter goodWord)
theorem wm_X8_land : ∀ w ∈ wk ix_X8_land, w ∈ wsX8_land := fun _ h => List.mem_cons_of_mem _ (List.mem_append_left _ (List.mem_append_left _ (h)))
theorem wc_X8_land : wk_at 4063 = some (.code yX8_land cX8_land 6 (some .int)) := rfl
theorem wq_X8_land : (wk ix_X8_land).all goodWord = true := wk_good gdx_ok (by decide +kernel)
def ix_X8_trade : List Nat := [1009, 2001, 2013, 2014, 2015, 2108, 2112, 2114, 2116, 2118, 2120, 2122, 2124, 2128, 2139, 2141, 2143, 2145, 2147, 2149, 2151, 2153, 2155, 2157, 2159, 3008, 3080, 3082, 3083, 3084, 4073]
def wsX8_trade : List Cond := .code yX8_trade cX8_trade 6 (some .int) :: (wk ix_X8_trade ++ (vx_atS RX8 69 "java/lang/IllegalArgumentException" ["java/lang/RuntimeException", "java/lang/Exception"]).filter goodWord ++ (vx_atS RX8 79 "java/lang/IllegalStateException" ["java/lang/RuntimeException", "java/lang/Exception"]).filter goodWord ++ (vx_atS RX8 446 "java/lang/IndexOutOfBoundsException" ["java/lang/RuntimeException", "java/lang/Exception"]).filter goodWord)
theorem wm_X8_trade : ∀ w ∈ wk ix_X8_trade, w ∈ wsX8_trade := fun _ h => List.mem_cons_of_mem _ (List.mem_append_left _ (List.mem_append_left _ (List.mem_append_left _ (h))))
theorem wc_X8_trade : wk_at 4071 = some (.code yX8_trade cX8_trade 6 (some .int)) := rfl
theorem wq_X8_trade : (wk ix_X8_trade).all goodWord = true := wk_good gdx_ok (by decide +kernel)
def ix_J8_hugeLength_7cf53 : List Nat := [4177]
def wsJ8_hugeLength_7cf53 : List Cond := .code yJ8_hugeLength_7cf53 cJ8_hugeLength_7cf53 3 (some .int) :: (wk ix_J8_hugeLength_7cf53)
theorem wm_J8_hugeLength_7cf53 : ∀ w ∈ wk ix_J8_hugeLength_7cf53, w ∈ wsJ8_hugeLength_7cf53 := fun _ h => List.mem_cons_of_mem _ (h)
theorem wc_J8_hugeLength_7cf53 : wk_at 4180 = some (.code yJ8_hugeLength_7cf53 cJ8_hugeLength_7cf53 3 (some .int)) := rfl
theorem wq_J8_hugeLength_7cf53 : (wk ix_J8_hugeLength_7cf53).all goodWord = true := wk_good gdx_ok (by decide +kernel)
def ix_J8_newLength_cabcc : List Nat := [2018, 2019, 4027, 4028, 4176, 4177, 4178, 4179, 4180]
def wsJ8_newLength_cabcc : List Cond := .code yJ8_newLength_cabcc cJ8_newLength_cabcc 4 (some .int) :: (wk ix_J8_newLength_cabcc)
theorem wm_J8_newLength_cabcc : ∀ w ∈ wk ix_J8_newLength_cabcc, w ∈ wsJ8_newLength_cabcc := fun _ h => List.mem_cons_of_mem _ (h)
theorem wc_J8_newLength_cabcc : wk_at 4175 = some (.code yJ8_newLength_cabcc cJ8_newLength_cabcc 4 (some .int)) := rfl
theorem wq_J8_newLength_cabcc : (wk ix_J8_newLength_cabcc).all goodWord = true := wk_good gdx_ok (by decide +kernel)
def ix_J7_copyOf_6403c : List Nat := [2019, 2021, 4021, 4022, 4214, 4216, 4217, 4218, 4219, 4220]
def wsJ7_copyOf_6403c : List Cond := .code yJ7_copyOf_6403c cJ7_copyOf_6403c 4 (some (.array (.object "java/lang/Object"))) :: (wk ix_J7_copyOf_6403c)
theorem wm_J7_copyOf_6403c : ∀ w ∈ wk ix_J7_copyOf_6403c, w ∈ wsJ7_copyOf_6403c := fun _ h => List.mem_cons_of_mem _ (h)
theorem wc_J7_copyOf_6403c : wk_at 4213 = some (.code yJ7_copyOf_6403c cJ7_copyOf_6403c 4 (some (.array (.object "java/lang/Object")))) := rfl
theorem wq_J7_copyOf_6403c : (wk ix_J7_copyOf_6403c).all goodWord = true := wk_good gdx_ok (by decide +kernel)
def ix_J7_copyOf_1904c : List Nat := [2019, 2020, 2021, 4021, 4022, 4184, 4185, 4210, 4211, 4212, 4213, 4214, 4216, 4217, 4218, 4219, 4220, 9190]
def wsJ7_copyOf_1904c : List Cond := .code yJ7_copyOf_1904c cJ7_copyOf_1904c 2 (some (.array (.object "java/lang/Object"))) :: (wk ix_J7_copyOf_1904c)
theorem wm_J7_copyOf_1904c : ∀ w ∈ wk ix_J7_copyOf_1904c, w ∈ wsJ7_copyOf_1904c := fun _ h => List.mem_cons_of_mem _ (h)
theorem wc_J7_copyOf_1904c : wk_at 4183 = some (.code yJ7_copyOf_1904c cJ7_copyOf_1904c 2 (some (.array (.object "java/lang/Object")))) := rfl
theorem wq_J7_copyOf_1904c : (wk ix_J7_copyOf_1904c).all goodWord = true := wk_good gdx_ok (by decide +kernel)
def ix_Jx4a65c_grow_92f84 : List Nat := [2018, 2019, 2020, 2021, 2063, 2065, 2073, 2075, 2077, 4021, 4022, 4027, 4028, 4173, 4174, 4175, 4176, 4177, 4178, 4179, 4180, 4181, 4182, 4183, 4184, 4185, 4210, 4211, 4212, 4213, 4214, 4216, 4217, 4218, 4219, 4220, 4221, 4222, 9190]
def wsJx4a65c_grow_92f84 : List Cond := .code yJx4a65c_grow_92f84 cJx4a65c_grow_92f84 4 (some (.array (.object "java/lang/Object"))) :: (wk ix_Jx4a65c_grow_92f84)
theorem wm_Jx4a65c_grow_92f84 : ∀ w ∈ wk ix_Jx4a65c_grow_92f84, w ∈ wsJx4a65c_grow_92f84 := fun _ h => List.mem_cons_of_mem _ (h)
theorem wc_Jx4a65c_grow_92f84 : wk_at 4172 = some (.code yJx4a65c_grow_92f84 cJx4a65c_grow_92f84 4 (some (.array (.object "java/lang/Object")))) := rfl
theorem wq_Jx4a65c_grow_92f84 : (wk ix_Jx4a65c_grow_92f84).all goodWord = true := wk_good gdx_ok (by decide +kernel)
def ix_Jx4a65c_grow_d5877 : List Nat := [1032, 2004, 2018, 2019, 2020, 2021, 2063, 2065, 2068, 2073, 2075, 2077, 4021, 4022, 4027, 4028, 4169, 4171, 4172, 4173, 4174, 4175, 4176, 4177, 4178, 4179, 4180, 4181, 4182, 4183, 4184, 4185, 4210, 4211, 4212, 4213, 4214, 4216, 4217, 4218, 4219, 4220, 4221, 4222, 9190]
def wsJx4a65c_grow_d5877 : List Cond := .code yJx4a65c_grow_d5877 cJx4a65c_grow_d5877 1 (some (.array (.object "java/lang/Object"))) :: (wk ix_Jx4a65c_grow_d5877)
theorem wm_Jx4a65c_grow_d5877 : ∀ w ∈ wk ix_Jx4a65c_grow_d5877, w ∈ wsJx4a65c_grow_d5877 := fun _ h => List.mem_cons_of_mem _ (h)
theorem wc_Jx4a65c_grow_d5877 : wk_at 4168 = some (.code yJx4a65c_grow_d5877 cJx4a65c_grow_d5877 1 (some (.array (.object "java/lang/Object")))) := rfl
theorem wq_Jx4a65c_grow_d5877 : (wk ix_Jx4a65c_grow_d5877).all goodWord = true := wk_good gdx_ok (by decide +kernel)
def ix_Jx4a65c_add_72be8 : List Nat := [1031, 1032, 2004, 2018, 2019, 2020, 2021, 2063, 2065, 2068, 2073, 2075, 2077, 4021, 4022, 4027, 4028, 4165, 4167, 4168, 4169, 4171, 4172, 4173, 4174, 4175, 4176, 4177, 4178, 4179, 4180, 4181, 4182, 4183, 4184, 4185, 4210, 4211, 4212, 4213, 4214, 4216, 4217, 4218, 4219, 4220, 4221, 4222, 9190]
def wsJx4a65c_add_72be8 : List Cond := .code yJx4a65c_add_72be8 cJx4a65c_add_72be8 4 none :: (wk ix_Jx4a65c_add_72be8)
theorem wm_Jx4a65c_add_72be8 : ∀ w ∈ wk ix_Jx4a65c_add_72be8, w ∈ wsJx4a65c_add_72be8 := fun _ h => List.mem_cons_of_mem _ (h)
theorem wc_Jx4a65c_add_72be8 : wk_at 4164 = some (.code yJx4a65c_add_72be8 cJx4a65c_add_72be8 4 none) := rfl
theorem wq_Jx4a65c_add_72be8 : (wk ix_Jx4a65c_add_72be8).all goodWord = true := wk_good gdx_ok (by decide +kernel)
def ix_Jx4a65c_add_9ea2d : List Nat := [1030, 1031, 1032, 2004, 2018, 2019, 2020, 2021, 2063, 2065, 2068, 2071, 2072, 2073, 2075, 2077, 4021, 4022, 4027, 4028, 4161, 4163, 4164, 4165, 4167, 4168, 4169, 4171, 4172, 4173, 4174, 4175, 4176, 4177, 4178, 4179, 4180, 4181, 4182, 4183, 4184, 4185, 4210, 4211, 4212, 4213, 4214, 4216, 4217, 4218, 4219, 4220, 4221, 4222, 9190]
def wsJx4a65c_add_9ea2d : List Cond := .code yJx4a65c_add_9ea2d cJx4a65c_add_9ea2d 2 (some .boolean) :: (wk ix_Jx4a65c_add_9ea2d)
theorem wm_Jx4a65c_add_9ea2d : ∀ w ∈ wk ix_Jx4a65c_add_9ea2d, w ∈ wsJx4a65c_add_9ea2d := fun _ h => List.mem_cons_of_mem _ (h)
theorem wc_Jx4a65c_add_9ea2d : wk_at 4160 = some (.code yJx4a65c_add_9ea2d cJx4a65c_add_9ea2d 2 (some .boolean)) := rfl
theorem wq_Jx4a65c_add_9ea2d : (wk ix_Jx4a65c_add_9ea2d).all goodWord = true := wk_good gdx_ok (by decide +kernel)
def ix_X8_gate : List Nat := [1009, 1030, 1031, 1032, 2001, 2002, 2003, 2004, 2013, 2014, 2015, 2016, 2017, 2018, 2019, 2020, 2021, 2047, 2048, 2052, 2054, 2055, 2056, 2057, 2058, 2059, 2060, 2061, 2062, 2063, 2065, 2068, 2069, 2071, 2072, 2073, 2075, 2077, 2128, 2129, 2139, 2141, 2143, 2145, 2147, 2149, 2151, 2153, 2155, 2157, 2159, 2170, 2171, 2172, 2173, 2193, 3008, 3080, 3082, 3083, 3084, 4008, 4009, 4010, 4021, 4022, 4027, 4028, 4073, 4098, 4099, 4100, 4101, 4102, 4103, 4104, 4105, 4106, 4108, 4109, 4110, 4113, 4115, 4118, 4119, 4120, 4122, 4124, 4125, 4126, 4128, 4130, 4132, 4136, 4138, 4140, 4142, 4144, 4146, 4148, 4150, 4152, 4154, 4157, 4158, 4159, 4160, 4161, 4163, 4164, 4165, 4167, 4168, 4169, 4171, 4172, 4173, 4174, 4175, 4176, 4177, 4178, 4179, 4180, 4181, 4182, 4183, 4184, 4185, 4210, 4211, 4212, 4213, 4214, 4216, 4217, 4218, 4219, 4220, 4221, 4222, 9190]
def wsX8_gate : List Cond := .code yX8_gate cX8_gate 8 (some .int) :: (wk ix_X8_gate ++ (vx_atS RX8 69 "java/lang/IllegalArgumentException" ["java/lang/RuntimeException", "java/lang/Exception"]).filter goodWord ++ (vx_atS RX8 79 "java/lang/IllegalStateException" ["java/lang/RuntimeException", "java/lang/Exception"]).filter goodWord ++ (vx_atS RX8 446 "java/lang/IndexOutOfBoundsException" ["java/lang/RuntimeException", "java/lang/Exception"]).filter goodWord)
theorem wm_X8_gate : ∀ w ∈ wk ix_X8_gate, w ∈ wsX8_gate := fun _ h => List.mem_cons_of_mem _ (List.mem_append_left _ (List.mem_append_left _ (List.mem_append_left _ (h))))
theorem wc_X8_gate : wk_at 4095 = some (.code yX8_gate cX8_gate 8 (some .int)) := rfl
theorem wq_X8_gate : (wk ix_X8_gate).all goodWord = true := wk_good gdx_ok (by decide +kernel)
def ix_X8_gateNumbered : List Nat := [2004, 2013, 2023, 2024, 2065, 2068, 2073, 2075, 2077, 2129, 2139, 2141, 2143, 2145, 2147, 2149, 2151, 2153, 2155, 2157, 2159, 2170, 2171, 2172, 2173, 2174, 2175, 2176, 2177, 2178, 2179, 2180, 2181, 2182, 2183, 2184, 2185, 2186, 2187, 2193, 3084]
def wsX8_gateNumbered : List Cond := .code yX8_gateNumbered cX8_gateNumbered 2 (some (.object "Lullabygate$Gate")) :: (wk ix_X8_gateNumbered ++ (vx_atS RX8 446 "java/lang/IndexOutOfBoundsException" ["java/lang/RuntimeException", "java/lang/Exception"]).filter goodWord)
theorem wm_X8_gateNumbered : ∀ w ∈ wk ix_X8_gateNumbered, w ∈ wsX8_gateNumbered := fun _ h => List.mem_cons_of_mem _ (List.mem_append_left _ (h))
theorem wc_X8_gateNumbered : wk_at 3120 = some (.code yX8_gateNumbered cX8_gateNumbered 2 (some (.object "Lullabygate$Gate"))) := rfl
theorem wq_X8_gateNumbered : (wk ix_X8_gateNumbered).all goodWord = true := wk_good gdx_ok (by decide +kernel)
def ix_X8_odds : List Nat := [1013, 2001, 2004, 2013, 2014, 2023, 2024, 2065, 2068, 2073, 2075, 2077, 2129, 2139, 2141, 2143, 2145, 2147, 2149, 2151, 2153, 2155, 2157, 2159, 2170, 2171, 2172, 2173, 2174, 2175, 2176, 2177, 2178, 2179, 2180, 2181, 2182, 2183, 2184, 2185, 2186, 2187, 2193, 3008, 3084, 3117, 3119, 3120, 4008, 4009, 4010, 4133, 4136, 4138, 4140, 4142, 4144, 4146, 4148, 4150, 4152, 4154]
def wsX8_odds : List Cond := .code yX8_odds cX8_odds 5 (some .int) :: (wk ix_X8_odds ++ (vx_atS RX8 446 "java/lang/IndexOutOfBoundsException" ["java/lang/RuntimeException", "java/lang/Exception"]).filter goodWord ++ (vx_atS RX8 69 "java/lang/IllegalArgumentException" ["java/lang/RuntimeException", "java/lang/Exception"]).filter goodWord)
theorem wm_X8_odds : ∀ w ∈ wk ix_X8_odds, w ∈ wsX8_odds := fun _ h => List.mem_cons_of_mem _ (List.mem_append_left _ (List.mem_append_left _ (h)))
theorem wc_X8_odds : wk_at 4229 = some (.code yX8_odds cX8_odds 5 (some .int)) := rfl
theorem wq_X8_odds : (wk ix_X8_odds).all goodWord = true := wk_good gdx_ok (by decide +kernel)
def ix_X8_relieve : List Nat := [1013, 2001, 2004, 2013, 2023, 2024, 2065, 2068, 2073, 2075, 2077, 2129, 2139, 2141, 2143, 2145, 2147, 2149, 2151, 2153, 2155, 2157, 2159, 2170, 2171, 2172, 2173, 2174, 2175, 2176, 2177, 2178, 2179, 2180, 2181, 2182, 2183, 2184, 2185, 2186, 2187, 2193, 3084, 3117, 3119, 3120, 4135, 4136, 4138, 4140, 4142, 4144, 4146, 4148, 4150, 4152, 4154]
def wsX8_relieve : List Cond := .code yX8_relieve cX8_relieve 4 (some .int) :: (wk ix_X8_relieve ++ (vx_atS RX8 446 "java/lang/IndexOutOfBoundsException" ["java/lang/RuntimeException", "java/lang/Exception"]).filter goodWord)
theorem wm_X8_relieve : ∀ w ∈ wk ix_X8_relieve, w ∈ wsX8_relieve := fun _ h => List.mem_cons_of_mem _ (List.mem_append_left _ (h))
theorem wc_X8_relieve : wk_at 4236 = some (.code yX8_relieve cX8_relieve 4 (some .int)) := rfl
theorem wq_X8_relieve : (wk ix_X8_relieve).all goodWord = true := wk_good gdx_ok (by decide +kernel)
def ix_X8_sleeper : List Nat := [1009, 1030, 1031, 1032, 2001, 2004, 2013, 2014, 2015, 2018, 2019, 2020, 2021, 2025, 2047, 2048, 2063, 2065, 2068, 2071, 2072, 2073, 2075, 2077, 2128, 2130, 2139, 2141, 2143, 2145, 2147, 2149, 2151, 2153, 2155, 2157, 2159, 2170, 2171, 2172, 2173, 2188, 3008, 3080, 3082, 3083, 3084, 4008, 4009, 4010, 4021, 4022, 4027, 4028, 4073, 4157, 4158, 4159, 4160, 4161, 4163, 4164, 4165, 4167, 4168, 4169, 4171, 4172, 4173, 4174, 4175, 4176, 4177, 4178, 4179, 4180, 4181, 4182, 4183, 4184, 4185, 4210, 4211, 4212, 4213, 4214, 4216, 4217, 4218, 4219, 4220, 4221, 4222, 5005, 5006, 5007, 5008, 5009, 5010, 5011, 5012, 5015, 5018, 5020, 5029, 5031, 5033, 5035, 5037, 5039, 5041, 5043, 5045, 9190]
def wsX8_sleeper : List Cond := .code yX8_sleeper cX8_sleeper 6 (some .int) :: (wk ix_X8_sleeper ++ (vx_atS RX8 79 "java/lang/IllegalStateException" ["java/lang/RuntimeException", "java/lang/Exception"]).filter goodWord ++ (vx_atS RX8 446 "java/lang/IndexOutOfBoundsException" ["java/lang/RuntimeException", "java/lang/Exception"]).filter goodWord ++ (vx_atS RX8 69 "java/lang/IllegalArgumentException" ["java/lang/RuntimeException", "java/lang/Exception"]).filter goodWord)
theorem wm_X8_sleeper : ∀ w ∈ wk ix_X8_sleeper, w ∈ wsX8_sleeper := fun _ h => List.mem_cons_of_mem _ (List.mem_append_left _ (List.mem_append_left _ (List.mem_append_left _ (h))))
theorem wc_X8_sleeper : wk_at 5003 = some (.code yX8_sleeper cX8_sleeper 6 (some .int)) := rfl
theorem wq_X8_sleeper : (wk ix_X8_sleeper).all goodWord = true := wk_good gdx_ok (by decide +kernel)
def ix_X8_sleeperNumbered : List Nat := [2004, 2013, 2023, 2024, 2065, 2068, 2073, 2075, 2077, 2130, 2139, 2141, 2143, 2145, 2147, 2149, 2151, 2153, 2155, 2157, 2159, 2170, 2171, 2172, 2173, 2174, 2175, 2176, 2177, 2178, 2179, 2180, 2181, 2182, 2183, 2184, 2185, 2186, 2187, 2188, 3084]
def wsX8_sleeperNumbered : List Cond := .code yX8_sleeperNumbered cX8_sleeperNumbered 2 (some (.object "Lullabygate$Sleeper")) :: (wk ix_X8_sleeperNumbered ++ (vx_atS RX8 446 "java/lang/IndexOutOfBoundsException" ["java/lang/RuntimeException", "java/lang/Exception"]).filter goodWord)
theorem wm_X8_sleeperNumbered : ∀ w ∈ wk ix_X8_sleeperNumbered, w ∈ wsX8_sleeperNumbered := fun _ h => List.mem_cons_of_mem _ (List.mem_append_left _ (h))
theorem wc_X8_sleeperNumbered : wk_at 3203 = some (.code yX8_sleeperNumbered cX8_sleeperNumbered 2 (some (.object "Lullabygate$Sleeper"))) := rfl
theorem wq_X8_sleeperNumbered : (wk ix_X8_sleeperNumbered).all goodWord = true := wk_good gdx_ok (by decide +kernel)
def ix_X8_part : List Nat := [1018, 1030, 1031, 1032, 2001, 2004, 2013, 2014, 2015, 2018, 2019, 2020, 2021, 2023, 2024, 2027, 2047, 2048, 2063, 2065, 2068, 2071, 2072, 2073, 2075, 2077, 2130, 2131, 2139, 2141, 2143, 2145, 2147, 2149, 2151, 2153, 2155, 2157, 2159, 2170, 2171, 2172, 2173, 2174, 2175, 2176, 2177, 2178, 2179, 2180, 2181, 2182, 2183, 2184, 2185, 2186, 2187, 2188, 2208, 3008, 3084, 3200, 3202, 3203, 4008, 4009, 4010, 4021, 4022, 4027, 4028, 4073, 4157, 4158, 4159, 4160, 4161, 4163, 4164, 4165, 4167, 4168, 4169, 4171, 4172, 4173, 4174, 4175, 4176, 4177, 4178, 4179, 4180, 4181, 4182, 4183, 4184, 4185, 4210, 4211, 4212, 4213, 4214, 4216, 4217, 4218, 4219, 4220, 4221, 4222, 5021, 5029, 5031, 5033, 5035, 5037, 5039, 5041, 5043, 5045, 5056, 5057, 5058, 5059, 5060, 5061, 5062, 5063, 5065, 5067, 5071, 5076, 5078, 5080, 5082, 5084, 5086, 5088, 5090, 9190]
def wsX8_part : List Cond := .code yX8_part cX8_part 7 (some .int) :: (wk ix_X8_part ++ (vx_atS RX8 79 "java/lang/IllegalStateException" ["java/lang/RuntimeException", "java/lang/Exception"]).filter goodWord ++ (vx_atS RX8 446 "java/lang/IndexOutOfBoundsException" ["java/lang/RuntimeException", "java/lang/Exception"]).filter goodWord ++ (vx_atS RX8 69 "java/lang/IllegalArgumentException" ["java/lang/RuntimeException", "java/lang/Exception"]).filter goodWord)
theorem wm_X8_part : ∀ w ∈ wk ix_X8_part, w ∈ wsX8_part := fun _ h => List.mem_cons_of_mem _ (List.mem_append_left _ (List.mem_append_left _ (List.mem_append_left _ (h))))
theorem wc_X8_part : wk_at 5054 = some (.code yX8_part cX8_part 7 (some .int)) := rfl
theorem wq_X8_part : (wk ix_X8_part).all goodWord = true := wk_good gdx_ok (by decide +kernel)
def ix_X8_partNumbered : List Nat := [2004, 2013, 2023, 2024, 2065, 2068, 2073, 2075, 2077, 2131, 2139, 2141, 2143, 2145, 2147, 2149, 2151, 2153, 2155, 2157, 2159, 2170, 2171, 2172, 2173, 2174, 2175, 2176, 2177, 2178, 2179, 2180, 2181, 2182, 2183, 2184, 2185, 2186, 2187, 2208, 3084]
def wsX8_partNumbered : List Cond := .code yX8_partNumbered cX8_partNumbered 2 (some (.object "Lullabygate$Part")) :: (wk ix_X8_partNumbered ++ (vx_atS RX8 446 "java/lang/IndexOutOfBoundsException" ["java/lang/RuntimeException", "java/lang/Exception"]).filter goodWord)
theorem wm_X8_partNumbered : ∀ w ∈ wk ix_X8_partNumbered, w ∈ wsX8_partNumbered := fun _ h => List.mem_cons_of_mem _ (List.mem_append_left _ (h))
theorem wc_X8_partNumbered : wk_at 3229 = some (.code yX8_partNumbered cX8_partNumbered 2 (some (.object "Lullabygate$Part"))) := rfl
theorem wq_X8_partNumbered : (wk ix_X8_partNumbered).all goodWord = true := wk_good gdx_ok (by decide +kernel)
def ix_X8_give : List Nat := [1018, 1022, 2001, 2004, 2013, 2015, 2023, 2024, 2065, 2068, 2073, 2075, 2077, 2130, 2131, 2139, 2141, 2143, 2145, 2147, 2149, 2151, 2153, 2155, 2157, 2159, 2170, 2171, 2172, 2173, 2174, 2175, 2176, 2177, 2178, 2179, 2180, 2181, 2182, 2183, 2184, 2185, 2186, 2187, 2188, 2208, 3084, 3200, 3202, 3203, 3226, 3228, 3229, 4073, 5011, 5017, 5021, 5029, 5031, 5033, 5035, 5037, 5039, 5041, 5043, 5045, 5072, 5076, 5078, 5080, 5082, 5084, 5086, 5088, 5090]
def wsX8_give : List Cond := .code yX8_give cX8_give 6 (some .int) :: (wk ix_X8_give ++ (vx_atS RX8 79 "java/lang/IllegalStateException" ["java/lang/RuntimeException", "java/lang/Exception"]).filter goodWord ++ (vx_atS RX8 446 "java/lang/IndexOutOfBoundsException" ["java/lang/RuntimeException", "java/lang/Exception"]).filter goodWord)
theorem wm_X8_give : ∀ w ∈ wk ix_X8_give, w ∈ wsX8_give := fun _ h => List.mem_cons_of_mem _ (List.mem_append_left _ (List.mem_append_left _ (h)))
theorem wc_X8_give : wk_at 5099 = some (.code yX8_give cX8_give 6 (some .int)) := rfl
theorem wq_X8_give : (wk ix_X8_give).all goodWord = true := wk_good gdx_ok (by decide +kernel)
def ix_X8_rightVerse : List Nat := [4119, 4136, 4138, 4140, 4142, 4144, 4146, 4148, 4150, 4152, 4154, 5011, 5029, 5031, 5033, 5035, 5037, 5039, 5041, 5043, 5045]
def wsX8_rightVerse : List Cond := .code yX8_rightVerse cX8_rightVerse 3 (some .int) :: (wk ix_X8_rightVerse)
theorem wm_X8_rightVerse : ∀ w ∈ wk ix_X8_rightVerse, w ∈ wsX8_rightVerse := fun _ h => List.mem_cons_of_mem _ (h)
theorem wc_X8_rightVerse : wk_at 3167 = some (.code yX8_rightVerse cX8_rightVerse 3 (some .int)) := rfl
theorem wq_X8_rightVerse : (wk ix_X8_rightVerse).all goodWord = true := wk_good gdx_ok (by decide +kernel)
def ix_X8_sing : List Nat := [1013, 1018, 2001, 2004, 2013, 2014, 2023, 2024, 2029, 2047, 2048, 2065, 2068, 2073, 2075, 2077, 2129, 2130, 2136, 2139, 2141, 2143, 2145, 2147, 2149, 2151, 2153, 2155, 2157, 2159, 2170, 2171, 2172, 2173, 2174, 2175, 2176, 2177, 2178, 2179, 2180, 2181, 2182, 2183, 2184, 2185, 2186, 2187, 2188, 2193, 3008, 3084, 3117, 3119, 3120, 3165, 3166, 3167, 3200, 3202, 3203, 4008, 4009, 4010, 4119, 4136, 4138, 4140, 4142, 4144, 4146, 4148, 4150, 4152, 4154, 5011, 5027, 5029, 5031, 5033, 5035, 5037, 5039, 5041, 5043, 5045, 5109, 5110, 5111, 5112, 5113, 5114, 5115, 5117, 5119, 5121, 5123, 5125]
def wsX8_sing : List Cond := .code yX8_sing cX8_sing 7 (some .int) :: (wk ix_X8_sing ++ (vx_atS RX8 446 "java/lang/IndexOutOfBoundsException" ["java/lang/RuntimeException", "java/lang/Exception"]).filter goodWord ++ (vx_atS RX8 69 "java/lang/IllegalArgumentException" ["java/lang/RuntimeException", "java/lang/Exception"]).filter goodWord)
theorem wm_X8_sing : ∀ w ∈ wk ix_X8_sing, w ∈ wsX8_sing := fun _ h => List.mem_cons_of_mem _ (List.mem_append_left _ (List.mem_append_left _ (h)))
theorem wc_X8_sing : wk_at 5108 = some (.code yX8_sing cX8_sing 7 (some .int)) := rfl
theorem wq_X8_sing : (wk ix_X8_sing).all goodWord = true := wk_good gdx_ok (by decide +kernel)
def ix_X8_revoke : List Nat := [1013, 2001, 2004, 2013, 2014, 2017, 2023, 2024, 2065, 2068, 2073, 2075, 2077, 2129, 2139, 2141, 2143, 2145, 2147, 2149, 2151, 2153, 2155, 2157, 2159, 2170, 2171, 2172, 2173, 2174, 2175, 2176, 2177, 2178, 2179, 2180, 2181, 2182, 2183, 2184, 2185, 2186, 2187, 2193, 3008, 3084, 3117, 3119, 3120, 3171, 3172, 3173, 3174, 4008, 4009, 4010, 4111, 4112, 4113, 4115, 4129, 4136, 4138, 4140, 4142, 4144, 4146, 4148, 4150, 4152, 4154, 5135, 5136, 5137, 5138]
def wsX8_revoke : List Cond := .code yX8_revoke cX8_revoke 5 (some .boolean) :: (wk ix_X8_revoke ++ (vx_atS RX8 446 "java/lang/IndexOutOfBoundsException" ["java/lang/RuntimeException", "java/lang/Exception"]).filter goodWord ++ (vx_atS RX8 69 "java/lang/IllegalArgumentException" ["java/lang/RuntimeException", "java/lang/Exception"]).filter goodWord)
theorem wm_X8_revoke : ∀ w ∈ wk ix_X8_revoke, w ∈ wsX8_revoke := fun _ h => List.mem_cons_of_mem _ (List.mem_append_left _ (List.mem_append_left _ (h)))
theorem wc_X8_revoke : wk_at 5134 = some (.code yX8_revoke cX8_revoke 5 (some .boolean)) := rfl
theorem wq_X8_revoke : (wk ix_X8_revoke).all goodWord = true := wk_good gdx_ok (by decide +kernel)
def ix_X8_headOf : List Nat := [2004, 2023, 2024, 2065, 2068, 2073, 2075, 2077, 2131, 2139, 2141, 2143, 2145, 2147, 2149, 2151, 2153, 2155, 2157, 2159, 2170, 2171, 2172, 2173, 2174, 2175, 2176, 2177, 2178, 2179, 2180, 2181, 2182, 2183, 2184, 2185, 2186, 2187, 2208, 5062, 5072, 5076, 5078, 5080, 5082, 5084, 5086, 5088, 5090]
def wsX8_headOf : List Cond := .code yX8_headOf cX8_headOf 5 (some .int) :: (wk ix_X8_headOf)
theorem wm_X8_headOf : ∀ w ∈ wk ix_X8_headOf, w ∈ wsX8_headOf := fun _ h => List.mem_cons_of_mem _ (h)
theorem wc_X8_headOf : wk_at 2207 = some (.code yX8_headOf cX8_headOf 5 (some .int)) := rfl
theorem wq_X8_headOf : (wk ix_X8_headOf).all goodWord = true := wk_good gdx_ok (by decide +kernel)
def ix_Jx4a65c_rangeCheckForAdd_d00df : List Nat := [2068, 2073, 2075, 2077]
def wsJx4a65c_rangeCheckForAdd_d00df : List Cond := .code yJx4a65c_rangeCheckForAdd_d00df cJx4a65c_rangeCheckForAdd_d00df 2 none :: (wk ix_Jx4a65c_rangeCheckForAdd_d00df)
theorem wm_Jx4a65c_rangeCheckForAdd_d00df : ∀ w ∈ wk ix_Jx4a65c_rangeCheckForAdd_d00df, w ∈ wsJx4a65c_rangeCheckForAdd_d00df := fun _ h => List.mem_cons_of_mem _ (h)
theorem wc_Jx4a65c_rangeCheckForAdd_d00df : wk_at 5159 = some (.code yJx4a65c_rangeCheckForAdd_d00df cJx4a65c_rangeCheckForAdd_d00df 2 none) := rfl
theorem wq_Jx4a65c_rangeCheckForAdd_d00df : (wk ix_Jx4a65c_rangeCheckForAdd_d00df).all goodWord = true := wk_good gdx_ok (by decide +kernel)
def ix_Jx4a65c_add_7a177 : List Nat := [1031, 1032, 1033, 2004, 2018, 2019, 2020, 2021, 2063, 2065, 2068, 2071, 2072, 2073, 2075, 2077, 4021, 4022, 4027, 4028, 4165, 4167, 4168, 4169, 4171, 4172, 4173, 4174, 4175, 4176, 4177, 4178, 4179, 4180, 4181, 4182, 4183, 4184, 4185, 4210, 4211, 4212, 4213, 4214, 4216, 4217, 4218, 4219, 4220, 4221, 4222, 5156, 5158, 5159, 6157, 9190]
def wsJx4a65c_add_7a177 : List Cond := .code yJx4a65c_add_7a177 cJx4a65c_add_7a177 5 none :: (wk ix_Jx4a65c_add_7a177)
theorem wm_Jx4a65c_add_7a177 : ∀ w ∈ wk ix_Jx4a65c_add_7a177, w ∈ wsJx4a65c_add_7a177 := fun _ h => List.mem_cons_of_mem _ (h)
theorem wc_Jx4a65c_add_7a177 : wk_at 5155 = some (.code yJx4a65c_add_7a177 cJx4a65c_add_7a177 5 none) := rfl
theorem wq_Jx4a65c_add_7a177 : (wk ix_Jx4a65c_add_7a177).all goodWord = true := wk_good gdx_ok (by decide +kernel)
def ix_X8_join : List Nat := [1002, 1013, 1018, 1031, 1032, 1033, 2001, 2004, 2013, 2014, 2015, 2016, 2018, 2019, 2020, 2021, 2023, 2024, 2025, 2063, 2065, 2068, 2071, 2072, 2073, 2075, 2077, 2129, 2130, 2131, 2139, 2141, 2143, 2145, 2147, 2149, 2151, 2153, 2155, 2157, 2159, 2170, 2171, 2172, 2173, 2174, 2175, 2176, 2177, 2178, 2179, 2180, 2181, 2182, 2183, 2184, 2185, 2186, 2187, 2188, 2193, 2198, 2199, 2200, 2201, 2202, 2203, 2204, 2206, 2207, 2208, 2213, 3008, 3084, 3117, 3119, 3120, 3200, 3202, 3203, 4021, 4022, 4027, 4028, 4073, 4120, 4122, 4126, 4127, 4136, 4138, 4140, 4142, 4144, 4146, 4148, 4150, 4152, 4154, 4165, 4167, 4168, 4169, 4171, 4172, 4173, 4174, 4175, 4176, 4177, 4178, 4179, 4180, 4181, 4182, 4183, 4184, 4185, 4210, 4211, 4212, 4213, 4214, 4216, 4217, 4218, 4219, 4220, 4221, 4222, 5013, 5014, 5017, 5020, 5021, 5022, 5024, 5029, 5031, 5033, 5035, 5037, 5039, 5041, 5043, 5045, 5062, 5072, 5076, 5078, 5080, 5082, 5084, 5086, 5088, 5090, 5148, 5149, 5150, 5151, 5152, 5153, 5154, 5155, 5156, 5158, 5159, 6157, 6158, 6159, 6160, 6161, 9190]
def wsX8_join : List Cond := .code yX8_join cX8_join 7 (some .int) :: (wk ix_X8_join ++ (vx_atS RX8 69 "java/lang/IllegalArgumentException" ["java/lang/RuntimeException", "java/lang/Exception"]).filter goodWord ++ (vx_atS RX8 79 "java/lang/IllegalStateException" ["java/lang/RuntimeException", "java/lang/Exception"]).filter goodWord ++ (vx_atS RX8 446 "java/lang/IndexOutOfBoundsException" ["java/lang/RuntimeException", "java/lang/Exception"]).filter goodWord)
theorem wm_X8_join : ∀ w ∈ wk ix_X8_join, w ∈ wsX8_join := fun _ h => List.mem_cons_of_mem _ (List.mem_append_left _ (List.mem_append_left _ (List.mem_append_left _ (h))))
theorem wc_X8_join : wk_at 5145 = some (.code yX8_join cX8_join 7 (some .int)) := rfl
theorem wq_X8_join : (wk ix_X8_join).all goodWord = true := wk_good gdx_ok (by decide +kernel)
def ix_X8_placeOf : List Nat := [2004, 2023, 2024, 2065, 2068, 2073, 2075, 2077, 2170, 2171, 2172, 2173, 2174, 2175, 2176, 2177, 2178, 2179, 2180, 2181, 2182, 2183, 2184, 2185, 2186, 2187, 4127, 4136, 4138, 4140, 4142, 4144, 4146, 4148, 4150, 4152, 4154, 5023, 5029, 5031, 5033, 5035, 5037, 5039, 5041, 5043, 5045]
def wsX8_placeOf : List Cond := .code yX8_placeOf cX8_placeOf 3 (some .int) :: (wk ix_X8_placeOf)
theorem wm_X8_placeOf : ∀ w ∈ wk ix_X8_placeOf, w ∈ wsX8_placeOf := fun _ h => List.mem_cons_of_mem _ (h)
theorem wc_X8_placeOf : wk_at 3207 = some (.code yX8_placeOf cX8_placeOf 3 (some .int)) := rfl
theorem wq_X8_placeOf : (wk ix_X8_placeOf).all goodWord = true := wk_good gdx_ok (by decide +kernel)
def ix_Jx4a65c_fastRemove_b59b0 : List Nat := [2021, 2068, 2071, 2072, 2073, 2075, 2077, 4219, 4220, 6157]
def wsJx4a65c_fastRemove_b59b0 : List Cond := .code yJx4a65c_fastRemove_b59b0 cJx4a65c_fastRemove_b59b0 4 none :: (wk ix_Jx4a65c_fastRemove_b59b0)
theorem wm_Jx4a65c_fastRemove_b59b0 : ∀ w ∈ wk ix_Jx4a65c_fastRemove_b59b0, w ∈ wsJx4a65c_fastRemove_b59b0 := fun _ h => List.mem_cons_of_mem _ (h)
theorem wc_Jx4a65c_fastRemove_b59b0 : wk_at 6177 = some (.code yJx4a65c_fastRemove_b59b0 cJx4a65c_fastRemove_b59b0 4 none) := rfl
theorem wq_Jx4a65c_fastRemove_b59b0 : (wk ix_Jx4a65c_fastRemove_b59b0).all goodWord = true := wk_good gdx_ok (by decide +kernel)
def ix_Jx4a65c_remove_915e3 : List Nat := [1035, 2004, 2021, 2023, 2024, 2065, 2068, 2071, 2072, 2073, 2075, 2077, 2178, 2179, 2180, 2181, 2182, 2183, 4219, 4220, 6157, 6174, 6176, 6177]
def wsJx4a65c_remove_915e3 : List Cond := .code yJx4a65c_remove_915e3 cJx4a65c_remove_915e3 4 (some (.object "java/lang/Object")) :: (wk ix_Jx4a65c_remove_915e3)
theorem wm_Jx4a65c_remove_915e3 : ∀ w ∈ wk ix_Jx4a65c_remove_915e3, w ∈ wsJx4a65c_remove_915e3 := fun _ h => List.mem_cons_of_mem _ (h)
theorem wc_Jx4a65c_remove_915e3 : wk_at 6173 = some (.code yJx4a65c_remove_915e3 cJx4a65c_remove_915e3 4 (some (.object "java/lang/Object"))) := rfl
theorem wq_Jx4a65c_remove_915e3 : (wk ix_Jx4a65c_remove_915e3).all goodWord = true := wk_good gdx_ok (by decide +kernel)
def ix_X8_leave : List Nat := [1018, 1035, 2001, 2004, 2013, 2015, 2021, 2023, 2024, 2025, 2065, 2068, 2071, 2072, 2073, 2075, 2077, 2130, 2139, 2141, 2143, 2145, 2147, 2149, 2151, 2153, 2155, 2157, 2159, 2170, 2171, 2172, 2173, 2174, 2175, 2176, 2177, 2178, 2179, 2180, 2181, 2182, 2183, 2184, 2185, 2186, 2187, 2188, 3084, 3200, 3202, 3203, 3205, 3206, 3207, 4073, 4127, 4136, 4138, 4140, 4142, 4144, 4146, 4148, 4150, 4152, 4154, 4219, 4220, 5020, 5022, 5023, 5024, 5029, 5031, 5033, 5035, 5037, 5039, 5041, 5043, 5045, 6157, 6170, 6171, 6172, 6173, 6174, 6176, 6177, 6178, 6179, 6180, 6181]
def wsX8_leave : List Cond := .code yX8_leave cX8_leave 4 (some .int) :: (wk ix_X8_leave ++ (vx_atS RX8 79 "java/lang/IllegalStateException" ["java/lang/RuntimeException", "java/lang/Exception"]).filter goodWord ++ (vx_atS RX8 446 "java/lang/IndexOutOfBoundsException" ["java/lang/RuntimeException", "java/lang/Exception"]).filter goodWord)
theorem wm_X8_leave : ∀ w ∈ wk ix_X8_leave, w ∈ wsX8_leave := fun _ h => List.mem_cons_of_mem _ (List.mem_append_left _ (List.mem_append_left _ (h)))
theorem wc_X8_leave : wk_at 6168 = some (.code yX8_leave cX8_leave 4 (some .int)) := rfl
theorem wq_X8_leave : (wk ix_X8_leave).all goodWord = true := wk_good gdx_ok (by decide +kernel)
def ix_Jx4a65c_isEmpty_aae02 : List Nat := [2068, 2073, 2075, 2077]
def wsJx4a65c_isEmpty_aae02 : List Cond := .code yJx4a65c_isEmpty_aae02 cJx4a65c_isEmpty_aae02 1 (some .boolean) :: (wk ix_Jx4a65c_isEmpty_aae02)
theorem wm_Jx4a65c_isEmpty_aae02 : ∀ w ∈ wk ix_Jx4a65c_isEmpty_aae02, w ∈ wsJx4a65c_isEmpty_aae02 := fun _ h => List.mem_cons_of_mem _ (h)
theorem wc_Jx4a65c_isEmpty_aae02 : wk_at 3133 = some (.code yJx4a65c_isEmpty_aae02 cJx4a65c_isEmpty_aae02 1 (some .boolean)) := rfl
theorem wq_Jx4a65c_isEmpty_aae02 : (wk ix_Jx4a65c_isEmpty_aae02).all goodWord = true := wk_good gdx_ok (by decide +kernel)
def ix_X8_passIsGood : List Nat := [2001, 2016, 2017, 2019, 2136, 2139, 2141, 2143, 2145, 2147, 2149, 2151, 2153, 2155, 2157, 2159, 3126, 3127, 3128, 3129, 3165, 3166, 3167, 3168, 3169, 3170, 3171, 3172, 3173, 3174, 4111, 4112, 4113, 4115, 4119, 4129, 4134, 4136, 4138, 4140, 4142, 4144, 4146, 4148, 4150, 4152, 4154, 5011, 5027, 5029, 5031, 5033, 5035, 5037, 5039, 5041, 5043, 5045, 5116, 5118, 5120, 5121, 5123, 5125]
def wsX8_passIsGood : List Cond := .code yX8_passIsGood cX8_passIsGood 5 (some .boolean) :: (wk ix_X8_passIsGood)
theorem wm_X8_passIsGood : ∀ w ∈ wk ix_X8_passIsGood, w ∈ wsX8_passIsGood := fun _ h => List.mem_cons_of_mem _ (h)
theorem wc_X8_passIsGood : wk_at 3164 = some (.code yX8_passIsGood cX8_passIsGood 5 (some .boolean)) := rfl
theorem wq_X8_passIsGood : (wk ix_X8_passIsGood).all goodWord = true := wk_good gdx_ok (by decide +kernel)
def ix_X8_keepHiding : List Nat := [1030, 1031, 1032, 2004, 2018, 2019, 2020, 2021, 2023, 2024, 2038, 2047, 2048, 2063, 2065, 2068, 2071, 2072, 2073, 2075, 2077, 2132, 2136, 2139, 2141, 2143, 2145, 2147, 2149, 2151, 2153, 2155, 2157, 2159, 2170, 2171, 2172, 2173, 2174, 2175, 2176, 2177, 2178, 2179, 2180, 2181, 2182, 2183, 2184, 2185, 2186, 2187, 3220, 4021, 4022, 4027, 4028, 4157, 4158, 4159, 4160, 4161, 4163, 4164, 4165, 4167, 4168, 4169, 4171, 4172, 4173, 4174, 4175, 4176, 4177, 4178, 4179, 4180, 4181, 4182, 4183, 4184, 4185, 4210, 4211, 4212, 4213, 4214, 4216, 4217, 4218, 4219, 4220, 4221, 4222, 5011, 5028, 5029, 5031, 5033, 5035, 5037, 5039, 5041, 5043, 5045, 6206, 6207, 6208, 6209, 6210, 6211, 6212, 6213, 6214, 6215, 6216, 6217, 6219, 6221, 9190]
def wsX8_keepHiding : List Cond := .code yX8_keepHiding cX8_keepHiding 5 none :: (wk ix_X8_keepHiding)
theorem wm_X8_keepHiding : ∀ w ∈ wk ix_X8_keepHiding, w ∈ wsX8_keepHiding := fun _ h => List.mem_cons_of_mem _ (h)
theorem wc_X8_keepHiding : wk_at 6205 = some (.code yX8_keepHiding cX8_keepHiding 5 none) := rfl
theorem wq_X8_keepHiding : (wk ix_X8_keepHiding).all goodWord = true := wk_good gdx_ok (by decide +kernel)
def ix_X8_bringHidden : List Nat := [1030, 1031, 1032, 1038, 2001, 2004, 2018, 2019, 2020, 2021, 2023, 2024, 2027, 2038, 2047, 2048, 2063, 2065, 2068, 2071, 2072, 2073, 2075, 2077, 2111, 2112, 2114, 2116, 2118, 2120, 2122, 2124, 2131, 2132, 2136, 2139, 2141, 2143, 2145, 2147, 2149, 2151, 2153, 2155, 2157, 2159, 2170, 2171, 2172, 2173, 2174, 2175, 2176, 2177, 2178, 2179, 2180, 2181, 2182, 2183, 2184, 2185, 2186, 2187, 2208, 3138, 3139, 3140, 3141, 3142, 3143, 3144, 3145, 3220, 4021, 4022, 4027, 4028, 4157, 4158, 4159, 4160, 4161, 4163, 4164, 4165, 4167, 4168, 4169, 4171, 4172, 4173, 4174, 4175, 4176, 4177, 4178, 4179, 4180, 4181, 4182, 4183, 4184, 4185, 4210, 4211, 4212, 4213, 4214, 4216, 4217, 4218, 4219, 4220, 4221, 4222, 5011, 5025, 5028, 5029, 5031, 5033, 5035, 5037, 5039, 5041, 5043, 5045, 5061, 5064, 5066, 5069, 5070, 5071, 5072, 5073, 5075, 5076, 5078, 5080, 5082, 5084, 5086, 5088, 5090, 6202, 6204, 6205, 6206, 6207, 6208, 6209, 6210, 6211, 6212, 6213, 6214, 6215, 6216, 6217, 6219, 6221, 6224, 6225, 6226, 6227, 9190]
def wsX8_bringHidden : List Cond := .code yX8_bringHidden cX8_bringHidden 7 (some .int) :: (wk ix_X8_bringHidden)
theorem wm_X8_bringHidden : ∀ w ∈ wk ix_X8_bringHidden, w ∈ wsX8_bringHidden := fun _ h => List.mem_cons_of_mem _ (h)
theorem wc_X8_bringHidden : wk_at 6201 = some (.code yX8_bringHidden cX8_bringHidden 7 (some .int)) := rfl
theorem wq_X8_bringHidden : (wk ix_X8_bringHidden).all goodWord = true := wk_good gdx_ok (by decide +kernel)
def ix_X8_partsThatComeIn : List Nat := [2004, 2023, 2024, 2027, 2065, 2068, 2073, 2075, 2077, 2108, 2109, 2112, 2114, 2116, 2118, 2120, 2122, 2124, 2131, 2139, 2141, 2143, 2145, 2147, 2149, 2151, 2153, 2155, 2157, 2159, 2170, 2171, 2172, 2173, 2174, 2175, 2176, 2177, 2178, 2179, 2180, 2181, 2182, 2183, 2184, 2185, 2186, 2187, 2208, 3143, 3144, 3145, 3183, 3184, 3185, 3186, 3187, 5026, 5029, 5031, 5033, 5035, 5037, 5039, 5041, 5043, 5045, 5061, 5062, 5067, 5076, 5078, 5080, 5082, 5084, 5086, 5088, 5090]
def wsX8_partsThatComeIn : List Cond := .code yX8_partsThatComeIn cX8_partsThatComeIn 7 (some .int) :: (wk ix_X8_partsThatComeIn)
theorem wm_X8_partsThatComeIn : ∀ w ∈ wk ix_X8_partsThatComeIn, w ∈ wsX8_partsThatComeIn := fun _ h => List.mem_cons_of_mem _ (h)
theorem wc_X8_partsThatComeIn : wk_at 3182 = some (.code yX8_partsThatComeIn cX8_partsThatComeIn 7 (some .int)) := rfl
theorem wq_X8_partsThatComeIn : (wk ix_X8_partsThatComeIn).all goodWord = true := wk_good gdx_ok (by decide +kernel)
def ix_X8_worthOf : List Nat := [2004, 2023, 2024, 2027, 2065, 2068, 2073, 2075, 2077, 2131, 2139, 2141, 2143, 2145, 2147, 2149, 2151, 2153, 2155, 2157, 2159, 2170, 2171, 2172, 2173, 2174, 2175, 2176, 2177, 2178, 2179, 2180, 2181, 2182, 2183, 2184, 2185, 2186, 2187, 2208, 3143, 3144, 3145, 3183, 5061, 5066, 5076, 5078, 5080, 5082, 5084, 5086, 5088, 5090]
def wsX8_worthOf : List Cond := .code yX8_worthOf cX8_worthOf 5 (some .int) :: (wk ix_X8_worthOf)
theorem wm_X8_worthOf : ∀ w ∈ wk ix_X8_worthOf, w ∈ wsX8_worthOf := fun _ h => List.mem_cons_of_mem _ (h)
theorem wc_X8_worthOf : wk_at 3191 = some (.code yX8_worthOf cX8_worthOf 5 (some .int)) := rfl
theorem wq_X8_worthOf : (wk ix_X8_worthOf).all goodWord = true := wk_good gdx_ok (by decide +kernel)
def ix_X8_bringDeclared : List Nat := [1016, 1017, 2001, 2004, 2006, 2023, 2024, 2027, 2065, 2068, 2073, 2075, 2077, 2103, 2105, 2106, 2108, 2109, 2110, 2112, 2114, 2116, 2118, 2120, 2122, 2124, 2131, 2139, 2141, 2143, 2145, 2147, 2149, 2151, 2153, 2155, 2157, 2159, 2170, 2171, 2172, 2173, 2174, 2175, 2176, 2177, 2178, 2179, 2180, 2181, 2182, 2183, 2184, 2185, 2186, 2187, 2208, 3143, 3144, 3145, 3179, 3181, 3182, 3183, 3184, 3185, 3186, 3187, 3188, 3190, 3191, 3192, 3193, 3194, 3195, 5017, 5026, 5029, 5031, 5033, 5035, 5037, 5039, 5041, 5043, 5045, 5061, 5062, 5066, 5067, 5069, 5070, 5071, 5073, 5076, 5078, 5080, 5082, 5084, 5086, 5088, 5090, 6224, 6225, 6226, 6227]
def wsX8_bringDeclared : List Cond := .code yX8_bringDeclared cX8_bringDeclared 8 none :: (wk ix_X8_bringDeclared)
theorem wm_X8_bringDeclared : ∀ w ∈ wk ix_X8_bringDeclared, w ∈ wsX8_bringDeclared := fun _ h => List.mem_cons_of_mem _ (h)
theorem wc_X8_bringDeclared : wk_at 6231 = some (.code yX8_bringDeclared cX8_bringDeclared 8 none) := rfl
theorem wq_X8_bringDeclared : (wk ix_X8_bringDeclared).all goodWord = true := wk_good gdx_ok (by decide +kernel)
def ix_X8_comeThrough : List Nat := [1016, 1017, 1030, 1031, 1032, 1037, 1038, 1039, 2001, 2004, 2005, 2006, 2016, 2018, 2019, 2020, 2021, 2023, 2024, 2027, 2038, 2047, 2048, 2063, 2065, 2068, 2071, 2072, 2073, 2075, 2077, 2086, 2088, 2089, 2091, 2103, 2105, 2106, 2108, 2109, 2110, 2111, 2112, 2114, 2116, 2118, 2120, 2122, 2124, 2131, 2132, 2133, 2136, 2139, 2141, 2143, 2145, 2147, 2149, 2151, 2153, 2155, 2157, 2159, 2170, 2171, 2172, 2173, 2174, 2175, 2176, 2177, 2178, 2179, 2180, 2181, 2182, 2183, 2184, 2185, 2186, 2187, 2208, 3126, 3127, 3128, 3129, 3138, 3139, 3140, 3141, 3142, 3143, 3144, 3145, 3175, 3176, 3177, 3178, 3179, 3181, 3182, 3183, 3184, 3185, 3186, 3187, 3188, 3190, 3191, 3192, 3193, 3194, 3195, 3220, 4021, 4022, 4027, 4028, 4120, 4122, 4133, 4134, 4136, 4138, 4140, 4142, 4144, 4146, 4148, 4150, 4152, 4154, 4157, 4158, 4159, 4160, 4161, 4163, 4164, 4165, 4167, 4168, 4169, 4171, 4172, 4173, 4174, 4175, 4176, 4177, 4178, 4179, 4180, 4181, 4182, 4183, 4184, 4185, 4210, 4211, 4212, 4213, 4214, 4216, 4217, 4218, 4219, 4220, 4221, 4222, 5011, 5017, 5025, 5026, 5027, 5028, 5029, 5031, 5033, 5035, 5037, 5039, 5041, 5043, 5045, 5061, 5062, 5064, 5066, 5067, 5069, 5070, 5071, 5072, 5073, 5075, 5076, 5078, 5080, 5082, 5084, 5086, 5088, 5090, 6194, 6195, 6196, 6197, 6198, 6200, 6201, 6202, 6204, 6205, 6206, 6207, 6208, 6209, 6210, 6211, 6212, 6213, 6214, 6215, 6216, 6217, 6219, 6221, 6224, 6225, 6226, 6227, 6228, 6230, 6231, 9190]
def wsX8_comeThrough : List Cond := .code yX8_comeThrough cX8_comeThrough 6 (some .int) :: (wk ix_X8_comeThrough)
theorem wm_X8_comeThrough : ∀ w ∈ wk ix_X8_comeThrough, w ∈ wsX8_comeThrough := fun _ h => List.mem_cons_of_mem _ (h)
theorem wc_X8_comeThrough : wk_at 6193 = some (.code yX8_comeThrough cX8_comeThrough 6 (some .int)) := rfl
theorem wq_X8_comeThrough : (wk ix_X8_comeThrough).all goodWord = true := wk_good gdx_ok (by decide +kernel)
def ix_X8_wake : List Nat := [2004, 2023, 2024, 2025, 2065, 2068, 2073, 2075, 2077, 2131, 2139, 2141, 2143, 2145, 2147, 2149, 2151, 2153, 2155, 2157, 2159, 2170, 2171, 2172, 2173, 2174, 2175, 2176, 2177, 2178, 2179, 2180, 2181, 2182, 2183, 2184, 2185, 2186, 2187, 2208, 5020, 5022, 5024, 5029, 5031, 5033, 5035, 5037, 5039, 5041, 5043, 5045, 5072, 5076, 5078, 5080, 5082, 5084, 5086, 5088, 5090, 6178, 6179, 6180, 6181]
def wsX8_wake : List Cond := .code yX8_wake cX8_wake 4 none :: (wk ix_X8_wake)
theorem wm_X8_wake : ∀ w ∈ wk ix_X8_wake, w ∈ wsX8_wake := fun _ h => List.mem_cons_of_mem _ (h)
theorem wc_X8_wake : wk_at 6239 = some (.code yX8_wake cX8_wake 4 none) := rfl
theorem wq_X8_wake : (wk ix_X8_wake).all goodWord = true := wk_good gdx_ok (by decide +kernel)
def ix_X8_tireThoseWhoStand : List Nat := [1035, 1041, 2001, 2004, 2021, 2023, 2024, 2025, 2065, 2068, 2071, 2072, 2073, 2075, 2077, 2131, 2139, 2141, 2143, 2145, 2147, 2149, 2151, 2153, 2155, 2157, 2159, 2170, 2171, 2172, 2173, 2174, 2175, 2176, 2177, 2178, 2179, 2180, 2181, 2182, 2183, 2184, 2185, 2186, 2187, 2188, 2208, 4127, 4136, 4138, 4140, 4142, 4144, 4146, 4148, 4150, 4152, 4154, 4219, 4220, 5019, 5020, 5022, 5024, 5029, 5031, 5033, 5035, 5037, 5039, 5041, 5043, 5045, 5072, 5076, 5078, 5080, 5082, 5084, 5086, 5088, 5090, 6157, 6170, 6171, 6172, 6173, 6174, 6176, 6177, 6178, 6179, 6180, 6181, 6236, 6238, 6239]
def wsX8_tireThoseWhoStand : List Cond := .code yX8_tireThoseWhoStand cX8_tireThoseWhoStand 4 none :: (wk ix_X8_tireThoseWhoStand)
theorem wm_X8_tireThoseWhoStand : ∀ w ∈ wk ix_X8_tireThoseWhoStand, w ∈ wsX8_tireThoseWhoStand := fun _ h => List.mem_cons_of_mem _ (h)
theorem wc_X8_tireThoseWhoStand : wk_at 6235 = some (.code yX8_tireThoseWhoStand cX8_tireThoseWhoStand 4 none) := rfl
theorem wq_X8_tireThoseWhoStand : (wk ix_X8_tireThoseWhoStand).all goodWord = true := wk_good gdx_ok (by decide +kernel)
def ix_X8_yawn : List Nat := [1013, 1015, 1016, 1017, 1030, 1031, 1032, 1035, 1036, 1037, 1038, 1039, 1040, 1041, 2001, 2004, 2005, 2006, 2013, 2015, 2016, 2017, 2018, 2019, 2020, 2021, 2023, 2024, 2025, 2027, 2038, 2047, 2048, 2063, 2065, 2068, 2071, 2072, 2073, 2075, 2077, 2086, 2088, 2089, 2091, 2103, 2105, 2106, 2108, 2109, 2110, 2111, 2112, 2114, 2116, 2118, 2120, 2122, 2124, 2129, 2131, 2132, 2133, 2136, 2137, 2138, 2139, 2141, 2143, 2145, 2147, 2149, 2151, 2153, 2155, 2157, 2159, 2170, 2171, 2172, 2173, 2174, 2175, 2176, 2177, 2178, 2179, 2180, 2181, 2182, 2183, 2184, 2185, 2186, 2187, 2188, 2193, 2208, 3084, 3117, 3119, 3120, 3122, 3123, 3124, 3125, 3126, 3127, 3128, 3129, 3130, 3131, 3132, 3133, 3138, 3139, 3140, 3141, 3142, 3143, 3144, 3145, 3161, 3163, 3164, 3165, 3166, 3167, 3168, 3169, 3170, 3171, 3172, 3173, 3174, 3175, 3176, 3177, 3178, 3179, 3181, 3182, 3183, 3184, 3185, 3186, 3187, 3188, 3190, 3191, 3192, 3193, 3194, 3195, 3220, 4021, 4022, 4027, 4028, 4073, 4111, 4112, 4113, 4115, 4119, 4120, 4122, 4124, 4125, 4127, 4129, 4133, 4134, 4136, 4138, 4140, 4142, 4144, 4146, 4148, 4150, 4152, 4154, 4157, 4158, 4159, 4160, 4161, 4163, 4164, 4165, 4167, 4168, 4169, 4171, 4172, 4173, 4174, 4175, 4176, 4177, 4178, 4179, 4180, 4181, 4182, 4183, 4184, 4185, 4210, 4211, 4212, 4213, 4214, 4216, 4217, 4218, 4219, 4220, 4221, 4222, 5011, 5017, 5019, 5020, 5022, 5024, 5025, 5026, 5027, 5028, 5029, 5031, 5033, 5035, 5037, 5039, 5041, 5043, 5045, 5061, 5062, 5064, 5066, 5067, 5069, 5070, 5071, 5072, 5073, 5075, 5076, 5078, 5080, 5082, 5084, 5086, 5088, 5090, 5116, 5118, 5120, 5121, 5123, 5125, 6157, 6170, 6171, 6172, 6173, 6174, 6176, 6177, 6178, 6179, 6180, 6181, 6190, 6192, 6193, 6194, 6195, 6196, 6197, 6198, 6200, 6201, 6202, 6204, 6205, 6206, 6207, 6208, 6209, 6210, 6211, 6212, 6213, 6214, 6215, 6216, 6217, 6219, 6221, 6224, 6225, 6226, 6227, 6228, 6230, 6231, 6232, 6234, 6235, 6236, 6238, 6239, 9190]
def wsX8_yawn : List Cond := .code yX8_yawn cX8_yawn 5 (some .int) :: (wk ix_X8_yawn ++ (vx_atS RX8 79 "java/lang/IllegalStateException" ["java/lang/RuntimeException", "java/lang/Exception"]).filter goodWord ++ (vx_atS RX8 446 "java/lang/IndexOutOfBoundsException" ["java/lang/RuntimeException", "java/lang/Exception"]).filter goodWord)
theorem wm_X8_yawn : ∀ w ∈ wk ix_X8_yawn, w ∈ wsX8_yawn := fun _ h => List.mem_cons_of_mem _ (List.mem_append_left _ (List.mem_append_left _ (h)))
theorem wc_X8_yawn : wk_at 6188 = some (.code yX8_yawn cX8_yawn 5 (some .int)) := rfl
theorem wq_X8_yawn : (wk ix_X8_yawn).all goodWord = true := wk_good gdx_ok (by decide +kernel)
def ix_X8_appeal : List Nat := [1022, 2001, 2004, 2013, 2015, 2023, 2024, 2065, 2068, 2073, 2075, 2077, 2106, 2111, 2112, 2114, 2116, 2118, 2120, 2122, 2124, 2131, 2139, 2141, 2143, 2145, 2147, 2149, 2151, 2153, 2155, 2157, 2159, 2170, 2171, 2172, 2173, 2174, 2175, 2176, 2177, 2178, 2179, 2180, 2181, 2182, 2183, 2184, 2185, 2186, 2187, 2208, 3084, 3226, 3228, 3229, 4073, 5017, 5021, 5029, 5031, 5033, 5035, 5037, 5039, 5041, 5043, 5045, 5066, 5070, 5072, 5074, 5075, 5076, 5078, 5080, 5082, 5084, 5086, 5088, 5090]
def wsX8_appeal : List Cond := .code yX8_appeal cX8_appeal 5 (some .boolean) :: (wk ix_X8_appeal ++ (vx_atS RX8 79 "java/lang/IllegalStateException" ["java/lang/RuntimeException", "java/lang/Exception"]).filter goodWord ++ (vx_atS RX8 446 "java/lang/IndexOutOfBoundsException" ["java/lang/RuntimeException", "java/lang/Exception"]).filter goodWord)
theorem wm_X8_appeal : ∀ w ∈ wk ix_X8_appeal, w ∈ wsX8_appeal := fun _ h => List.mem_cons_of_mem _ (List.mem_append_left _ (List.mem_append_left _ (h)))
theorem wc_X8_appeal : wk_at 7006 = some (.code yX8_appeal cX8_appeal 5 (some .boolean)) := rfl
theorem wq_X8_appeal : (wk ix_X8_appeal).all goodWord = true := wk_good gdx_ok (by decide +kernel)
def ix_X8_beginNight : List Nat := [2004, 2023, 2024, 2065, 2068, 2073, 2075, 2077, 2109, 2112, 2114, 2116, 2118, 2120, 2122, 2124, 2128, 2130, 2136, 2139, 2141, 2143, 2145, 2147, 2149, 2151, 2153, 2155, 2157, 2159, 2170, 2171, 2172, 2173, 2174, 2175, 2176, 2177, 2178, 2179, 2180, 2181, 2182, 2183, 2184, 2185, 2186, 2187, 2188, 5027, 5029, 5031, 5033, 5035, 5037, 5039, 5041, 5043, 5045, 5118, 5121, 5123, 5125]
def wsX8_beginNight : List Cond := .code yX8_beginNight cX8_beginNight 5 none :: (wk ix_X8_beginNight)
theorem wm_X8_beginNight : ∀ w ∈ wk ix_X8_beginNight, w ∈ wsX8_beginNight := fun _ h => List.mem_cons_of_mem _ (h)
theorem wc_X8_beginNight : wk_at 7023 = some (.code yX8_beginNight cX8_beginNight 5 none) := rfl
theorem wq_X8_beginNight : (wk ix_X8_beginNight).all goodWord = true := wk_good gdx_ok (by decide +kernel)
def ix_X8_spreadRevoked : List Nat := [2004, 2016, 2017, 2023, 2024, 2065, 2068, 2073, 2075, 2077, 2129, 2139, 2141, 2143, 2145, 2147, 2149, 2151, 2153, 2155, 2157, 2159, 2170, 2171, 2172, 2173, 2174, 2175, 2176, 2177, 2178, 2179, 2180, 2181, 2182, 2183, 2184, 2185, 2186, 2187, 2193, 2200, 2201, 2202, 2203, 4111, 4112, 4113, 4115, 4120, 4121, 4122, 4123, 4129, 4131, 4136, 4138, 4140, 4142, 4144, 4146, 4148, 4150, 4152, 4154, 7028, 7029, 7030, 7031]
def wsX8_spreadRevoked : List Cond := .code yX8_spreadRevoked cX8_spreadRevoked 5 none :: (wk ix_X8_spreadRevoked)
theorem wm_X8_spreadRevoked : ∀ w ∈ wk ix_X8_spreadRevoked, w ∈ wsX8_spreadRevoked := fun _ h => List.mem_cons_of_mem _ (h)
theorem wc_X8_spreadRevoked : wk_at 7027 = some (.code yX8_spreadRevoked cX8_spreadRevoked 5 none) := rfl
theorem wq_X8_spreadRevoked : (wk ix_X8_spreadRevoked).all goodWord = true := wk_good gdx_ok (by decide +kernel)
def ix_X8_beginHour : List Nat := [1043, 1044, 2001, 2004, 2016, 2017, 2023, 2024, 2065, 2068, 2073, 2075, 2077, 2109, 2112, 2114, 2116, 2118, 2120, 2122, 2124, 2128, 2129, 2130, 2136, 2137, 2139, 2141, 2143, 2145, 2147, 2149, 2151, 2153, 2155, 2157, 2159, 2170, 2171, 2172, 2173, 2174, 2175, 2176, 2177, 2178, 2179, 2180, 2181, 2182, 2183, 2184, 2185, 2186, 2187, 2188, 2193, 2200, 2201, 2202, 2203, 3122, 3123, 3124, 3125, 4111, 4112, 4113, 4115, 4120, 4121, 4122, 4123, 4124, 4125, 4129, 4131, 4135, 4136, 4138, 4140, 4142, 4144, 4146, 4148, 4150, 4152, 4154, 5027, 5029, 5031, 5033, 5035, 5037, 5039, 5041, 5043, 5045, 5118, 5121, 5123, 5125, 7020, 7022, 7023, 7024, 7026, 7027, 7028, 7029, 7030, 7031]
def wsX8_beginHour : List Cond := .code yX8_beginHour cX8_beginHour 3 none :: (wk ix_X8_beginHour)
theorem wm_X8_beginHour : ∀ w ∈ wk ix_X8_beginHour, w ∈ wsX8_beginHour := fun _ h => List.mem_cons_of_mem _ (h)
theorem wc_X8_beginHour : wk_at 7019 = some (.code yX8_beginHour cX8_beginHour 3 none) := rfl
theorem wq_X8_beginHour : (wk ix_X8_beginHour).all goodWord = true := wk_good gdx_ok (by decide +kernel)
def ix_X8_pass : List Nat := [1042, 1043, 1044, 2001, 2004, 2014, 2015, 2016, 2017, 2023, 2024, 2065, 2068, 2073, 2075, 2077, 2109, 2112, 2114, 2116, 2118, 2120, 2122, 2124, 2128, 2129, 2130, 2136, 2137, 2139, 2141, 2143, 2145, 2147, 2149, 2151, 2153, 2155, 2157, 2159, 2170, 2171, 2172, 2173, 2174, 2175, 2176, 2177, 2178, 2179, 2180, 2181, 2182, 2183, 2184, 2185, 2186, 2187, 2188, 2193, 2200, 2201, 2202, 2203, 3008, 3122, 3123, 3124, 3125, 4008, 4009, 4010, 4073, 4111, 4112, 4113, 4115, 4120, 4121, 4122, 4123, 4124, 4125, 4129, 4131, 4135, 4136, 4138, 4140, 4142, 4144, 4146, 4148, 4150, 4152, 4154, 5027, 5029, 5031, 5033, 5035, 5037, 5039, 5041, 5043, 5045, 5118, 5121, 5123, 5125, 7016, 7018, 7019, 7020, 7022, 7023, 7024, 7026, 7027, 7028, 7029, 7030, 7031]
def wsX8_pass : List Cond := .code yX8_pass cX8_pass 3 (some .int) :: (wk ix_X8_pass ++ (vx_atS RX8 79 "java/lang/IllegalStateException" ["java/lang/RuntimeException", "java/lang/Exception"]).filter goodWord ++ (vx_atS RX8 69 "java/lang/IllegalArgumentException" ["java/lang/RuntimeException", "java/lang/Exception"]).filter goodWord)
theorem wm_X8_pass : ∀ w ∈ wk ix_X8_pass, w ∈ wsX8_pass := fun _ h => List.mem_cons_of_mem _ (List.mem_append_left _ (List.mem_append_left _ (h)))
theorem wc_X8_pass : wk_at 7014 = some (.code yX8_pass cX8_pass 3 (some .int)) := rfl
theorem wq_X8_pass : (wk ix_X8_pass).all goodWord = true := wk_good gdx_ok (by decide +kernel)
def ix_X8_partsInStore : List Nat := [2004, 2023, 2024, 2065, 2068, 2073, 2075, 2077, 2131, 2139, 2141, 2143, 2145, 2147, 2149, 2151, 2153, 2155, 2157, 2159, 2170, 2171, 2172, 2173, 2174, 2175, 2176, 2177, 2178, 2179, 2180, 2181, 2182, 2183, 2184, 2185, 2186, 2187, 2208, 5074, 5076, 5078, 5080, 5082, 5084, 5086, 5088, 5090]
def wsX8_partsInStore : List Cond := .code yX8_partsInStore cX8_partsInStore 4 (some .int) :: (wk ix_X8_partsInStore)
theorem wm_X8_partsInStore : ∀ w ∈ wk ix_X8_partsInStore, w ∈ wsX8_partsInStore := fun _ h => List.mem_cons_of_mem _ (h)
theorem wc_X8_partsInStore : wk_at 3103 = some (.code yX8_partsInStore cX8_partsInStore 4 (some .int)) := rfl
theorem wq_X8_partsInStore : (wk ix_X8_partsInStore).all goodWord = true := wk_good gdx_ok (by decide +kernel)
def ix_X8_sleepersIn : List Nat := [2004, 2023, 2024, 2065, 2068, 2073, 2075, 2077, 2130, 2139, 2141, 2143, 2145, 2147, 2149, 2151, 2153, 2155, 2157, 2159, 2170, 2171, 2172, 2173, 2174, 2175, 2176, 2177, 2178, 2179, 2180, 2181, 2182, 2183, 2184, 2185, 2186, 2187, 2188, 5017, 5021, 5029, 5031, 5033, 5035, 5037, 5039, 5041, 5043, 5045]
def wsX8_sleepersIn : List Cond := .code yX8_sleepersIn cX8_sleepersIn 5 (some .int) :: (wk ix_X8_sleepersIn)
theorem wm_X8_sleepersIn : ∀ w ∈ wk ix_X8_sleepersIn, w ∈ wsX8_sleepersIn := fun _ h => List.mem_cons_of_mem _ (h)
theorem wc_X8_sleepersIn : wk_at 3107 = some (.code yX8_sleepersIn cX8_sleepersIn 5 (some .int)) := rfl
theorem wq_X8_sleepersIn : (wk ix_X8_sleepersIn).all goodWord = true := wk_good gdx_ok (by decide +kernel)
def ix_X8_wholeDreams : List Nat := [2004, 2023, 2024, 2027, 2065, 2068, 2073, 2075, 2077, 2131, 2139, 2141, 2143, 2145, 2147, 2149, 2151, 2153, 2155, 2157, 2159, 2170, 2171, 2172, 2173, 2174, 2175, 2176, 2177, 2178, 2179, 2180, 2181, 2182, 2183, 2184, 2185, 2186, 2187, 2208, 2236, 2237, 2238, 2239, 5016, 5029, 5031, 5033, 5035, 5037, 5039, 5041, 5043, 5045, 5064, 5071, 5073, 5076, 5078, 5080, 5082, 5084, 5086, 5088, 5090]
def wsX8_wholeDreams : List Cond := .code yX8_wholeDreams cX8_wholeDreams 6 (some .int) :: (wk ix_X8_wholeDreams)
theorem wm_X8_wholeDreams : ∀ w ∈ wk ix_X8_wholeDreams, w ∈ wsX8_wholeDreams := fun _ h => List.mem_cons_of_mem _ (h)
theorem wc_X8_wholeDreams : wk_at 3111 = some (.code yX8_wholeDreams cX8_wholeDreams 6 (some .int)) := rfl
theorem wq_X8_wholeDreams : (wk ix_X8_wholeDreams).all goodWord = true := wk_good gdx_ok (by decide +kernel)
def ix_X8_ofLand : List Nat := [1009, 1010, 1011, 1012, 2001, 2004, 2013, 2014, 2023, 2024, 2027, 2065, 2068, 2073, 2075, 2077, 2104, 2106, 2108, 2109, 2110, 2111, 2112, 2114, 2116, 2118, 2120, 2122, 2124, 2128, 2130, 2131, 2139, 2141, 2143, 2145, 2147, 2149, 2151, 2153, 2155, 2157, 2159, 2170, 2171, 2172, 2173, 2174, 2175, 2176, 2177, 2178, 2179, 2180, 2181, 2182, 2183, 2184, 2185, 2186, 2187, 2188, 2208, 2236, 2237, 2238, 2239, 3008, 3080, 3082, 3083, 3084, 3100, 3102, 3103, 3104, 3106, 3107, 3108, 3110, 3111, 5016, 5017, 5021, 5029, 5031, 5033, 5035, 5037, 5039, 5041, 5043, 5045, 5064, 5071, 5073, 5074, 5076, 5078, 5080, 5082, 5084, 5086, 5088, 5090]
def wsX8_ofLand : List Cond := .code yX8_ofLand cX8_ofLand 4 (some .int) :: (wk ix_X8_ofLand ++ (vx_atS RX8 69 "java/lang/IllegalArgumentException" ["java/lang/RuntimeException", "java/lang/Exception"]).filter goodWord ++ (vx_atS RX8 446 "java/lang/IndexOutOfBoundsException" ["java/lang/RuntimeException", "java/lang/Exception"]).filter goodWord)
theorem wm_X8_ofLand : ∀ w ∈ wk ix_X8_ofLand, w ∈ wsX8_ofLand := fun _ h => List.mem_cons_of_mem _ (List.mem_append_left _ (List.mem_append_left _ (h)))
theorem wc_X8_ofLand : wk_at 3079 = some (.code yX8_ofLand cX8_ofLand 4 (some .int)) := rfl
theorem wq_X8_ofLand : (wk ix_X8_ofLand).all goodWord = true := wk_good gdx_ok (by decide +kernel)
def ix_X8_hiddenWorth : List Nat := [2004, 2023, 2024, 2027, 2065, 2068, 2073, 2075, 2077, 2131, 2139, 2141, 2143, 2145, 2147, 2149, 2151, 2153, 2155, 2157, 2159, 2170, 2171, 2172, 2173, 2174, 2175, 2176, 2177, 2178, 2179, 2180, 2181, 2182, 2183, 2184, 2185, 2186, 2187, 2208, 3138, 3139, 3140, 3141, 3142, 3143, 3144, 3145, 5023, 5025, 5029, 5031, 5033, 5035, 5037, 5039, 5041, 5043, 5045, 5061, 5066, 5071, 5072, 5076, 5078, 5080, 5082, 5084, 5086, 5088, 5090]
def wsX8_hiddenWorth : List Cond := .code yX8_hiddenWorth cX8_hiddenWorth 5 (some .int) :: (wk ix_X8_hiddenWorth)
theorem wm_X8_hiddenWorth : ∀ w ∈ wk ix_X8_hiddenWorth, w ∈ wsX8_hiddenWorth := fun _ h => List.mem_cons_of_mem _ (h)
theorem wc_X8_hiddenWorth : wk_at 3137 = some (.code yX8_hiddenWorth cX8_hiddenWorth 5 (some .int)) := rfl
theorem wq_X8_hiddenWorth : (wk ix_X8_hiddenWorth).all goodWord = true := wk_good gdx_ok (by decide +kernel)
def ix_X8_ofGate : List Nat := [1013, 1014, 2001, 2004, 2013, 2014, 2016, 2017, 2023, 2024, 2027, 2040, 2065, 2068, 2073, 2075, 2077, 2102, 2112, 2114, 2116, 2118, 2120, 2122, 2124, 2129, 2131, 2137, 2139, 2141, 2143, 2145, 2147, 2149, 2151, 2153, 2155, 2157, 2159, 2170, 2171, 2172, 2173, 2174, 2175, 2176, 2177, 2178, 2179, 2180, 2181, 2182, 2183, 2184, 2185, 2186, 2187, 2188, 2193, 2208, 3008, 3084, 3117, 3119, 3120, 3122, 3123, 3124, 3125, 3126, 3127, 3128, 3129, 3130, 3131, 3132, 3133, 3134, 3136, 3137, 3138, 3139, 3140, 3141, 3142, 3143, 3144, 3145, 3146, 3147, 3148, 3149, 3150, 3151, 3152, 3153, 3154, 3155, 4111, 4112, 4113, 4115, 4121, 4123, 4124, 4125, 4127, 4129, 4133, 4134, 4135, 4136, 4138, 4140, 4142, 4144, 4146, 4148, 4150, 4152, 4154, 5011, 5023, 5025, 5029, 5031, 5033, 5035, 5037, 5039, 5041, 5043, 5045, 5061, 5066, 5071, 5072, 5076, 5078, 5080, 5082, 5084, 5086, 5088, 5090]
def wsX8_ofGate : List Cond := .code yX8_ofGate cX8_ofGate 4 (some .int) :: (wk ix_X8_ofGate ++ (vx_atS RX8 69 "java/lang/IllegalArgumentException" ["java/lang/RuntimeException", "java/lang/Exception"]).filter goodWord ++ (vx_atS RX8 446 "java/lang/IndexOutOfBoundsException" ["java/lang/RuntimeException", "java/lang/Exception"]).filter goodWord)
theorem wm_X8_ofGate : ∀ w ∈ wk ix_X8_ofGate, w ∈ wsX8_ofGate := fun _ h => List.mem_cons_of_mem _ (List.mem_append_left _ (List.mem_append_left _ (h)))
theorem wc_X8_ofGate : wk_at 3116 = some (.code yX8_ofGate cX8_ofGate 4 (some .int)) := rfl
theorem wq_X8_ofGate : (wk ix_X8_ofGate).all goodWord = true := wk_good gdx_ok (by decide +kernel)
def ix_X8_linksOf : List Nat := [2004, 2023, 2024, 2065, 2068, 2073, 2075, 2077, 2130, 2139, 2141, 2143, 2145, 2147, 2149, 2151, 2153, 2155, 2157, 2159, 2170, 2171, 2172, 2173, 2174, 2175, 2176, 2177, 2178, 2179, 2180, 2181, 2182, 2183, 2184, 2185, 2186, 2187, 2188, 5028, 5029, 5031, 5033, 5035, 5037, 5039, 5041, 5043, 5045]
def wsX8_linksOf : List Cond := .code yX8_linksOf cX8_linksOf 4 (some .int) :: (wk ix_X8_linksOf)
theorem wm_X8_linksOf : ∀ w ∈ wk ix_X8_linksOf, w ∈ wsX8_linksOf := fun _ h => List.mem_cons_of_mem _ (h)
theorem wc_X8_linksOf : wk_at 3215 = some (.code yX8_linksOf cX8_linksOf 4 (some .int)) := rfl
theorem wq_X8_linksOf : (wk ix_X8_linksOf).all goodWord = true := wk_good gdx_ok (by decide +kernel)
def ix_X8_ringOf : List Nat := [1020, 2001, 2004, 2023, 2024, 2065, 2068, 2073, 2075, 2077, 2130, 2139, 2141, 2143, 2145, 2147, 2149, 2151, 2153, 2155, 2157, 2159, 2170, 2171, 2172, 2173, 2174, 2175, 2176, 2177, 2178, 2179, 2180, 2181, 2182, 2183, 2184, 2185, 2186, 2187, 2188, 3212, 3214, 3215, 5011, 5028, 5029, 5031, 5033, 5035, 5037, 5039, 5041, 5043, 5045]
def wsX8_ringOf : List Cond := .code yX8_ringOf cX8_ringOf 5 (some .int) :: (wk ix_X8_ringOf)
theorem wm_X8_ringOf : ∀ w ∈ wk ix_X8_ringOf, w ∈ wsX8_ringOf := fun _ h => List.mem_cons_of_mem _ (h)
theorem wc_X8_ringOf : wk_at 3211 = some (.code yX8_ringOf cX8_ringOf 5 (some .int)) := rfl
theorem wq_X8_ringOf : (wk ix_X8_ringOf).all goodWord = true := wk_good gdx_ok (by decide +kernel)
def ix_X8_hidingsOf : List Nat := [2004, 2023, 2024, 2065, 2068, 2073, 2075, 2077, 2132, 2139, 2141, 2143, 2145, 2147, 2149, 2151, 2153, 2155, 2157, 2159, 2170, 2171, 2172, 2173, 2174, 2175, 2176, 2177, 2178, 2179, 2180, 2181, 2182, 2183, 2184, 2185, 2186, 2187, 3220, 6212, 6217, 6219, 6221]
def wsX8_hidingsOf : List Cond := .code yX8_hidingsOf cX8_hidingsOf 4 (some .int) :: (wk ix_X8_hidingsOf)
theorem wm_X8_hidingsOf : ∀ w ∈ wk ix_X8_hidingsOf, w ∈ wsX8_hidingsOf := fun _ h => List.mem_cons_of_mem _ (h)
theorem wc_X8_hidingsOf : wk_at 3219 = some (.code yX8_hidingsOf cX8_hidingsOf 4 (some .int)) := rfl
theorem wq_X8_hidingsOf : (wk ix_X8_hidingsOf).all goodWord = true := wk_good gdx_ok (by decide +kernel)
def ix_X8_ofSleeper : List Nat := [1002, 1018, 1019, 1020, 1021, 2001, 2004, 2013, 2014, 2023, 2024, 2065, 2068, 2073, 2075, 2077, 2102, 2112, 2114, 2116, 2118, 2120, 2122, 2124, 2130, 2131, 2132, 2139, 2141, 2143, 2145, 2147, 2149, 2151, 2153, 2155, 2157, 2159, 2170, 2171, 2172, 2173, 2174, 2175, 2176, 2177, 2178, 2179, 2180, 2181, 2182, 2183, 2184, 2185, 2186, 2187, 2188, 2204, 2206, 2207, 2208, 3008, 3084, 3200, 3202, 3203, 3205, 3206, 3207, 3208, 3210, 3211, 3212, 3214, 3215, 3216, 3218, 3219, 3220, 4119, 4127, 4136, 4138, 4140, 4142, 4144, 4146, 4148, 4150, 4152, 4154, 5011, 5017, 5019, 5021, 5023, 5027, 5028, 5029, 5031, 5033, 5035, 5037, 5039, 5041, 5043, 5045, 5062, 5072, 5076, 5078, 5080, 5082, 5084, 5086, 5088, 5090, 5120, 5121, 5123, 5125, 6212, 6217, 6219, 6221]
def wsX8_ofSleeper : List Cond := .code yX8_ofSleeper cX8_ofSleeper 4 (some .int) :: (wk ix_X8_ofSleeper ++ (vx_atS RX8 69 "java/lang/IllegalArgumentException" ["java/lang/RuntimeException", "java/lang/Exception"]).filter goodWord ++ (vx_atS RX8 446 "java/lang/IndexOutOfBoundsException" ["java/lang/RuntimeException", "java/lang/Exception"]).filter goodWord)
theorem wm_X8_ofSleeper : ∀ w ∈ wk ix_X8_ofSleeper, w ∈ wsX8_ofSleeper := fun _ h => List.mem_cons_of_mem _ (List.mem_append_left _ (List.mem_append_left _ (h)))
theorem wc_X8_ofSleeper : wk_at 3199 = some (.code yX8_ofSleeper cX8_ofSleeper 4 (some .int)) := rfl
theorem wq_X8_ofSleeper : (wk ix_X8_ofSleeper).all goodWord = true := wk_good gdx_ok (by decide +kernel)
def ix_X8_ofPart : List Nat := [1022, 2001, 2004, 2013, 2014, 2023, 2024, 2027, 2065, 2068, 2073, 2075, 2077, 2102, 2112, 2114, 2116, 2118, 2120, 2122, 2124, 2131, 2139, 2141, 2143, 2145, 2147, 2149, 2151, 2153, 2155, 2157, 2159, 2170, 2171, 2172, 2173, 2174, 2175, 2176, 2177, 2178, 2179, 2180, 2181, 2182, 2183, 2184, 2185, 2186, 2187, 2208, 2236, 2237, 2238, 2239, 3008, 3084, 3226, 3228, 3229, 5011, 5016, 5029, 5031, 5033, 5035, 5037, 5039, 5041, 5043, 5045, 5064, 5066, 5068, 5070, 5071, 5072, 5073, 5076, 5078, 5080, 5082, 5084, 5086, 5088, 5090]
def wsX8_ofPart : List Cond := .code yX8_ofPart cX8_ofPart 4 (some .int) :: (wk ix_X8_ofPart ++ (vx_atS RX8 69 "java/lang/IllegalArgumentException" ["java/lang/RuntimeException", "java/lang/Exception"]).filter goodWord ++ (vx_atS RX8 446 "java/lang/IndexOutOfBoundsException" ["java/lang/RuntimeException", "java/lang/Exception"]).filter goodWord)
theorem wm_X8_ofPart : ∀ w ∈ wk ix_X8_ofPart, w ∈ wsX8_ofPart := fun _ h => List.mem_cons_of_mem _ (List.mem_append_left _ (List.mem_append_left _ (h)))
theorem wc_X8_ofPart : wk_at 3225 = some (.code yX8_ofPart cX8_ofPart 4 (some .int)) := rfl
theorem wq_X8_ofPart : (wk ix_X8_ofPart).all goodWord = true := wk_good gdx_ok (by decide +kernel)
def ix_X8_isGood : List Nat := [1013, 1015, 1018, 2001, 2004, 2013, 2016, 2017, 2019, 2023, 2024, 2065, 2068, 2073, 2075, 2077, 2129, 2130, 2136, 2139, 2141, 2143, 2145, 2147, 2149, 2151, 2153, 2155, 2157, 2159, 2170, 2171, 2172, 2173, 2174, 2175, 2176, 2177, 2178, 2179, 2180, 2181, 2182, 2183, 2184, 2185, 2186, 2187, 2188, 2193, 3084, 3117, 3119, 3120, 3126, 3127, 3128, 3129, 3161, 3163, 3164, 3165, 3166, 3167, 3168, 3169, 3170, 3171, 3172, 3173, 3174, 3200, 3202, 3203, 4111, 4112, 4113, 4115, 4119, 4129, 4134, 4136, 4138, 4140, 4142, 4144, 4146, 4148, 4150, 4152, 4154, 5011, 5027, 5029, 5031, 5033, 5035, 5037, 5039, 5041, 5043, 5045, 5116, 5118, 5120, 5121, 5123, 5125]
def wsX8_isGood : List Cond := .code yX8_isGood cX8_isGood 4 (some .boolean) :: (wk ix_X8_isGood ++ (vx_atS RX8 446 "java/lang/IndexOutOfBoundsException" ["java/lang/RuntimeException", "java/lang/Exception"]).filter goodWord)
theorem wm_X8_isGood : ∀ w ∈ wk ix_X8_isGood, w ∈ wsX8_isGood := fun _ h => List.mem_cons_of_mem _ (List.mem_append_left _ (h))
theorem wc_X8_isGood : wk_at 7054 = some (.code yX8_isGood cX8_isGood 4 (some .boolean)) := rfl
theorem wq_X8_isGood : (wk ix_X8_isGood).all goodWord = true := wk_good gdx_ok (by decide +kernel)
def ix_J2_newBytesLength_0f7a4 : List Nat := [5182]
def wsJ2_newBytesLength_0f7a4 : List Cond := .code yJ2_newBytesLength_0f7a4 cJ2_newBytesLength_0f7a4 1 (some .int) :: (wk ix_J2_newBytesLength_0f7a4)
theorem wm_J2_newBytesLength_0f7a4 : ∀ w ∈ wk ix_J2_newBytesLength_0f7a4, w ∈ wsJ2_newBytesLength_0f7a4 := fun _ h => List.mem_cons_of_mem _ (h)
theorem wc_J2_newBytesLength_0f7a4 : wk_at 5181 = some (.code yJ2_newBytesLength_0f7a4 cJ2_newBytesLength_0f7a4 1 (some .int)) := rfl
theorem wq_J2_newBytesLength_0f7a4 : (wk ix_J2_newBytesLength_0f7a4).all goodWord = true := wk_good gdx_ok (by decide +kernel)
def ix_J2_newBytesFor_77867 : List Nat := [2033, 3075, 5179, 5180, 5181, 5182]
def wsJ2_newBytesFor_77867 : List Cond := .code yJ2_newBytesFor_77867 cJ2_newBytesFor_77867 1 (some (.array .byte)) :: (wk ix_J2_newBytesFor_77867)
theorem wm_J2_newBytesFor_77867 : ∀ w ∈ wk ix_J2_newBytesFor_77867, w ∈ wsJ2_newBytesFor_77867 := fun _ h => List.mem_cons_of_mem _ (h)
theorem wc_J2_newBytesFor_77867 : wk_at 5178 = some (.code yJ2_newBytesFor_77867 cJ2_newBytesFor_77867 1 (some (.array .byte))) := rfl
theorem wq_J2_newBytesFor_77867 : (wk ix_J2_newBytesFor_77867).all goodWord = true := wk_good gdx_ok (by decide +kernel)
def ix_J5_init_d00df : List Nat := [2033, 2047, 2048, 3075, 5173, 5174, 5176, 5177, 5178, 5179, 5180, 5181, 5182, 5183, 5184, 5187, 5189, 5191, 5193]
def wsJ5_init_d00df : List Cond := .code yJ5_init_d00df cJ5_init_d00df 2 none :: (wk ix_J5_init_d00df)
theorem wm_J5_init_d00df : ∀ w ∈ wk ix_J5_init_d00df, w ∈ wsJ5_init_d00df := fun _ h => List.mem_cons_of_mem _ (h)
theorem wc_J5_init_d00df : wk_at 5172 = some (.code yJ5_init_d00df cJ5_init_d00df 2 none) := rfl
theorem wq_J5_init_d00df : (wk ix_J5_init_d00df).all goodWord = true := wk_good gdx_ok (by decide +kernel)
def ix_J4_init_da8c8 : List Nat := [2030, 2033, 2047, 2048, 3075, 5170, 5171, 5172, 5173, 5174, 5176, 5177, 5178, 5179, 5180, 5181, 5182, 5183, 5184, 5187, 5189, 5191, 5193]
def wsJ4_init_da8c8 : List Cond := .code yJ4_init_da8c8 cJ4_init_da8c8 1 none :: (wk ix_J4_init_da8c8)
theorem wm_J4_init_da8c8 : ∀ w ∈ wk ix_J4_init_da8c8, w ∈ wsJ4_init_da8c8 := fun _ h => List.mem_cons_of_mem _ (h)
theorem wc_J4_init_da8c8 : wk_at 5169 = some (.code yJ4_init_da8c8 cJ4_init_da8c8 1 none) := rfl
theorem wq_J4_init_da8c8 : (wk ix_J4_init_da8c8).all goodWord = true := wk_good gdx_ok (by decide +kernel)
def ix_J5_newCapacity_0f7a4 : List Nat := [2018, 2019, 4027, 4028, 4174, 4175, 4176, 4177, 4178, 4179, 4180, 5183, 5184, 5187, 5189, 5191, 5193, 5216, 5217]
def wsJ5_newCapacity_0f7a4 : List Cond := .code yJ5_newCapacity_0f7a4 cJ5_newCapacity_0f7a4 6 (some .int) :: (wk ix_J5_newCapacity_0f7a4)
theorem wm_J5_newCapacity_0f7a4 : ∀ w ∈ wk ix_J5_newCapacity_0f7a4, w ∈ wsJ5_newCapacity_0f7a4 := fun _ h => List.mem_cons_of_mem _ (h)
theorem wc_J5_newCapacity_0f7a4 : wk_at 5215 = some (.code yJ5_newCapacity_0f7a4 cJ5_newCapacity_0f7a4 6 (some .int)) := rfl
theorem wq_J5_newCapacity_0f7a4 : (wk ix_J5_newCapacity_0f7a4).all goodWord = true := wk_good gdx_ok (by decide +kernel)
def ix_J7_copyOf_9075b : List Nat := [2019, 2021, 3075, 4021, 4022, 4217, 4218, 4219, 4220, 5221, 5222, 5223, 5224, 5225, 5227]
def wsJ7_copyOf_9075b : List Cond := .code yJ7_copyOf_9075b cJ7_copyOf_9075b 3 (some (.array .byte)) :: (wk ix_J7_copyOf_9075b)
theorem wm_J7_copyOf_9075b : ∀ w ∈ wk ix_J7_copyOf_9075b, w ∈ wsJ7_copyOf_9075b := fun _ h => List.mem_cons_of_mem _ (h)
theorem wc_J7_copyOf_9075b : wk_at 5220 = some (.code yJ7_copyOf_9075b cJ7_copyOf_9075b 3 (some (.array .byte))) := rfl
theorem wq_J7_copyOf_9075b : (wk ix_J7_copyOf_9075b).all goodWord = true := wk_good gdx_ok (by decide +kernel)
def ix_J5_ensureCapacityInternal_d00df : List Nat := [1, 2018, 2019, 2020, 2021, 2030, 3075, 4021, 4022, 4027, 4028, 4174, 4175, 4176, 4177, 4178, 4179, 4180, 4217, 4218, 4219, 4220, 5183, 5184, 5187, 5189, 5191, 5193, 5212, 5214, 5215, 5216, 5217, 5218, 5219, 5220, 5221, 5222, 5223, 5224, 5225, 5227, 9159]
def wsJ5_ensureCapacityInternal_d00df : List Cond := .code yJ5_ensureCapacityInternal_d00df cJ5_ensureCapacityInternal_d00df 3 none :: (wk ix_J5_ensureCapacityInternal_d00df)
theorem wm_J5_ensureCapacityInternal_d00df : ∀ w ∈ wk ix_J5_ensureCapacityInternal_d00df, w ∈ wsJ5_ensureCapacityInternal_d00df := fun _ h => List.mem_cons_of_mem _ (h)
theorem wc_J5_ensureCapacityInternal_d00df : wk_at 5211 = some (.code yJ5_ensureCapacityInternal_d00df cJ5_ensureCapacityInternal_d00df 3 none) := rfl
theorem wq_J5_ensureCapacityInternal_d00df : (wk ix_J5_ensureCapacityInternal_d00df).all goodWord = true := wk_good gdx_ok (by decide +kernel)
def ix_J5_isLatin1_aae02 : List Nat := [5174, 5184, 5187, 5189, 5191, 5193]
def wsJ5_isLatin1_aae02 : List Cond := .code yJ5_isLatin1_aae02 cJ5_isLatin1_aae02 1 (some .boolean) :: (wk ix_J5_isLatin1_aae02)
theorem wm_J5_isLatin1_aae02 : ∀ w ∈ wk ix_J5_isLatin1_aae02, w ∈ wsJ5_isLatin1_aae02 := fun _ h => List.mem_cons_of_mem _ (h)
theorem wc_J5_isLatin1_aae02 : wk_at 5232 = some (.code yJ5_isLatin1_aae02 cJ5_isLatin1_aae02 1 (some .boolean)) := rfl
theorem wq_J5_isLatin1_aae02 : (wk ix_J5_isLatin1_aae02).all goodWord = true := wk_good gdx_ok (by decide +kernel)
def ix_J1_canEncode_fc78d : List Nat := []
def wsJ1_canEncode_fc78d : List Cond := .code yJ1_canEncode_fc78d cJ1_canEncode_fc78d 1 (some .boolean) :: (wk ix_J1_canEncode_fc78d)
theorem wm_J1_canEncode_fc78d : ∀ w ∈ wk ix_J1_canEncode_fc78d, w ∈ wsJ1_canEncode_fc78d := fun _ h => List.mem_cons_of_mem _ (h)
theorem wc_J1_canEncode_fc78d : wk_at 7074 = some (.code yJ1_canEncode_fc78d cJ1_canEncode_fc78d 1 (some .boolean)) := rfl
theorem wq_J1_canEncode_fc78d : (wk ix_J1_canEncode_fc78d).all goodWord = true := wk_good gdx_ok (by decide +kernel)
def ix_J2_length_9d52b : List Nat := []
def wsJ2_length_9d52b : List Cond := .code yJ2_length_9d52b cJ2_length_9d52b 1 (some .int) :: (wk ix_J2_length_9d52b)
theorem wm_J2_length_9d52b : ∀ w ∈ wk ix_J2_length_9d52b, w ∈ wsJ2_length_9d52b := fun _ h => List.mem_cons_of_mem _ (h)
theorem wc_J2_length_9d52b : wk_at 6001 = some (.code yJ2_length_9d52b cJ2_length_9d52b 1 (some .int)) := rfl
theorem wq_J2_length_9d52b : (wk ix_J2_length_9d52b).all goodWord = true := wk_good gdx_ok (by decide +kernel)
def ix_J3_checkFromIndexSize_8c36e : List Nat := []
def wsJ3_checkFromIndexSize_8c36e : List Cond := .code yJ3_checkFromIndexSize_8c36e cJ3_checkFromIndexSize_8c36e 4 (some .int) :: (wk ix_J3_checkFromIndexSize_8c36e)
theorem wm_J3_checkFromIndexSize_8c36e : ∀ w ∈ wk ix_J3_checkFromIndexSize_8c36e, w ∈ wsJ3_checkFromIndexSize_8c36e := fun _ h => List.mem_cons_of_mem _ (h)
theorem wc_J3_checkFromIndexSize_8c36e : wk_at 6055 = some (.code yJ3_checkFromIndexSize_8c36e cJ3_checkFromIndexSize_8c36e 4 (some .int)) := rfl
theorem wq_J3_checkFromIndexSize_8c36e : (wk ix_J3_checkFromIndexSize_8c36e).all goodWord = true := wk_good gdx_ok (by decide +kernel)
def ix_J0_checkBoundsOffCount_cabcc : List Nat := [2024, 6005, 6053, 6054, 6055]
def wsJ0_checkBoundsOffCount_cabcc : List Cond := .code yJ0_checkBoundsOffCount_cabcc cJ0_checkBoundsOffCount_cabcc 3 (some .int) :: (wk ix_J0_checkBoundsOffCount_cabcc)
theorem wm_J0_checkBoundsOffCount_cabcc : ∀ w ∈ wk ix_J0_checkBoundsOffCount_cabcc, w ∈ wsJ0_checkBoundsOffCount_cabcc := fun _ h => List.mem_cons_of_mem _ (h)
theorem wc_J0_checkBoundsOffCount_cabcc : wk_at 6052 = some (.code yJ0_checkBoundsOffCount_cabcc cJ0_checkBoundsOffCount_cabcc 3 (some .int)) := rfl
theorem wq_J0_checkBoundsOffCount_cabcc : (wk ix_J0_checkBoundsOffCount_cabcc).all goodWord = true := wk_good gdx_ok (by decide +kernel)
def ix_J2_checkBoundsOffCount_d044e : List Nat := [2024, 2032, 2033, 5239, 6000, 6001, 6005, 6050, 6051, 6052, 6053, 6054, 6055]
def wsJ2_checkBoundsOffCount_d044e : List Cond := .code yJ2_checkBoundsOffCount_d044e cJ2_checkBoundsOffCount_d044e 3 none :: (wk ix_J2_checkBoundsOffCount_d044e)
theorem wm_J2_checkBoundsOffCount_d044e : ∀ w ∈ wk ix_J2_checkBoundsOffCount_d044e, w ∈ wsJ2_checkBoundsOffCount_d044e := fun _ h => List.mem_cons_of_mem _ (h)
theorem wc_J2_checkBoundsOffCount_d044e : wk_at 6049 = some (.code yJ2_checkBoundsOffCount_d044e cJ2_checkBoundsOffCount_d044e 3 none) := rfl
theorem wq_J2_checkBoundsOffCount_d044e : (wk ix_J2_checkBoundsOffCount_d044e).all goodWord = true := wk_good gdx_ok (by decide +kernel)
def ix_J2_putChar_b72d1 : List Nat := [2033, 5239, 6000, 6001, 6013, 6015, 6017]
def wsJ2_putChar_b72d1 : List Cond := .code yJ2_putChar_b72d1 cJ2_putChar_b72d1 3 none :: (wk ix_J2_putChar_b72d1)
theorem wm_J2_putChar_b72d1 : ∀ w ∈ wk ix_J2_putChar_b72d1, w ∈ wsJ2_putChar_b72d1 := fun _ h => List.mem_cons_of_mem _ (h)
theorem wc_J2_putChar_b72d1 : wk_at 6012 = some (.code yJ2_putChar_b72d1 cJ2_putChar_b72d1 3 none) := rfl
theorem wq_J2_putChar_b72d1 : (wk ix_J2_putChar_b72d1).all goodWord = true := wk_good gdx_ok (by decide +kernel)
def ix_J2_inflate_0e8fd : List Nat := [2024, 2032, 2033, 5239, 6000, 6001, 6005, 6010, 6011, 6012, 6013, 6015, 6017, 6047, 6048, 6049, 6050, 6051, 6052, 6053, 6054, 6055]
def wsJ2_inflate_0e8fd : List Cond := .code yJ2_inflate_0e8fd cJ2_inflate_0e8fd 6 none :: (wk ix_J2_inflate_0e8fd)
theorem wm_J2_inflate_0e8fd : ∀ w ∈ wk ix_J2_inflate_0e8fd, w ∈ wsJ2_inflate_0e8fd := fun _ h => List.mem_cons_of_mem _ (h)
theorem wc_J2_inflate_0e8fd : wk_at 6046 = some (.code yJ2_inflate_0e8fd cJ2_inflate_0e8fd 6 none) := rfl
theorem wq_J2_inflate_0e8fd : (wk ix_J2_inflate_0e8fd).all goodWord = true := wk_good gdx_ok (by decide +kernel)
def ix_J1_inflate_0e8fd : List Nat := [2024, 2032, 2033, 5239, 6000, 6001, 6005, 6010, 6011, 6012, 6013, 6015, 6017, 6044, 6045, 6046, 6047, 6048, 6049, 6050, 6051, 6052, 6053, 6054, 6055]
def wsJ1_inflate_0e8fd : List Cond := .code yJ1_inflate_0e8fd cJ1_inflate_0e8fd 5 none :: (wk ix_J1_inflate_0e8fd)
theorem wm_J1_inflate_0e8fd : ∀ w ∈ wk ix_J1_inflate_0e8fd, w ∈ wsJ1_inflate_0e8fd := fun _ h => List.mem_cons_of_mem _ (h)
theorem wc_J1_inflate_0e8fd : wk_at 6043 = some (.code yJ1_inflate_0e8fd cJ1_inflate_0e8fd 5 none) := rfl
theorem wq_J1_inflate_0e8fd : (wk ix_J1_inflate_0e8fd).all goodWord = true := wk_good gdx_ok (by decide +kernel)
def ix_J5_inflate_da8c8 : List Nat := [2024, 2030, 2032, 2033, 2034, 3075, 5174, 5176, 5177, 5178, 5179, 5180, 5181, 5182, 5183, 5184, 5186, 5187, 5189, 5191, 5193, 5228, 5229, 5230, 5231, 5232, 5239, 6000, 6001, 6005, 6010, 6011, 6012, 6013, 6015, 6017, 6041, 6042, 6043, 6044, 6045, 6046, 6047, 6048, 6049, 6050, 6051, 6052, 6053, 6054, 6055]
def wsJ5_inflate_da8c8 : List Cond := .code yJ5_inflate_da8c8 cJ5_inflate_da8c8 2 none :: (wk ix_J5_inflate_da8c8)
theorem wm_J5_inflate_da8c8 : ∀ w ∈ wk ix_J5_inflate_da8c8, w ∈ wsJ5_inflate_da8c8 := fun _ h => List.mem_cons_of_mem _ (h)
theorem wc_J5_inflate_da8c8 : wk_at 6040 = some (.code yJ5_inflate_da8c8 cJ5_inflate_da8c8 2 none) := rfl
theorem wq_J5_inflate_da8c8 : (wk ix_J5_inflate_da8c8).all goodWord = true := wk_good gdx_ok (by decide +kernel)
def ix_J0_checkIndex_df160 : List Nat := [2024, 2182, 2183, 6005, 7084]
def wsJ0_checkIndex_df160 : List Cond := .code yJ0_checkIndex_df160 cJ0_checkIndex_df160 2 none :: (wk ix_J0_checkIndex_df160)
theorem wm_J0_checkIndex_df160 : ∀ w ∈ wk ix_J0_checkIndex_df160, w ∈ wsJ0_checkIndex_df160 := fun _ h => List.mem_cons_of_mem _ (h)
theorem wc_J0_checkIndex_df160 : wk_at 7083 = some (.code yJ0_checkIndex_df160 cJ0_checkIndex_df160 2 none) := rfl
theorem wq_J0_checkIndex_df160 : (wk ix_J0_checkIndex_df160).all goodWord = true := wk_good gdx_ok (by decide +kernel)
def ix_J2_checkIndex_2214a : List Nat := [2024, 2032, 2033, 2182, 2183, 5239, 6000, 6001, 6005, 7081, 7082, 7083, 7084]
def wsJ2_checkIndex_2214a : List Cond := .code yJ2_checkIndex_2214a cJ2_checkIndex_2214a 2 none :: (wk ix_J2_checkIndex_2214a)
theorem wm_J2_checkIndex_2214a : ∀ w ∈ wk ix_J2_checkIndex_2214a, w ∈ wsJ2_checkIndex_2214a := fun _ h => List.mem_cons_of_mem _ (h)
theorem wc_J2_checkIndex_2214a : wk_at 7080 = some (.code yJ2_checkIndex_2214a cJ2_checkIndex_2214a 2 none) := rfl
theorem wq_J2_checkIndex_2214a : (wk ix_J2_checkIndex_2214a).all goodWord = true := wk_good gdx_ok (by decide +kernel)
def ix_J2_putCharSB_b72d1 : List Nat := [2024, 2032, 2033, 2182, 2183, 5239, 6000, 6001, 6005, 6010, 6011, 6012, 6013, 6015, 6017, 7078, 7079, 7080, 7081, 7082, 7083, 7084]
def wsJ2_putCharSB_b72d1 : List Cond := .code yJ2_putCharSB_b72d1 cJ2_putCharSB_b72d1 3 none :: (wk ix_J2_putCharSB_b72d1)
theorem wm_J2_putCharSB_b72d1 : ∀ w ∈ wk ix_J2_putCharSB_b72d1, w ∈ wsJ2_putCharSB_b72d1 := fun _ h => List.mem_cons_of_mem _ (h)
theorem wc_J2_putCharSB_b72d1 : wk_at 7077 = some (.code yJ2_putCharSB_b72d1 cJ2_putCharSB_b72d1 3 none) := rfl
theorem wq_J2_putCharSB_b72d1 : (wk ix_J2_putCharSB_b72d1).all goodWord = true := wk_good gdx_ok (by decide +kernel)
def ix_J5_append_3fe6f : List Nat := [0, 1, 2, 2018, 2019, 2020, 2021, 2024, 2030, 2032, 2033, 2034, 2182, 2183, 3075, 4021, 4022, 4027, 4028, 4174, 4175, 4176, 4177, 4178, 4179, 4180, 4217, 4218, 4219, 4220, 5174, 5176, 5177, 5178, 5179, 5180, 5181, 5182, 5183, 5184, 5186, 5187, 5189, 5191, 5193, 5208, 5210, 5211, 5212, 5214, 5215, 5216, 5217, 5218, 5219, 5220, 5221, 5222, 5223, 5224, 5225, 5227, 5228, 5229, 5230, 5231, 5232, 5239, 6000, 6001, 6005, 6010, 6011, 6012, 6013, 6015, 6017, 6037, 6039, 6040, 6041, 6042, 6043, 6044, 6045, 6046, 6047, 6048, 6049, 6050, 6051, 6052, 6053, 6054, 6055, 7072, 7073, 7074, 7075, 7076, 7077, 7078, 7079, 7080, 7081, 7082, 7083, 7084, 9158, 9159, 9162]
def wsJ5_append_3fe6f : List Cond := .code yJ5_append_3fe6f cJ5_append_3fe6f 2 (some (.object "java/lang/AbstractStringBuilder")) :: (wk ix_J5_append_3fe6f)
theorem wm_J5_append_3fe6f : ∀ w ∈ wk ix_J5_append_3fe6f, w ∈ wsJ5_append_3fe6f := fun _ h => List.mem_cons_of_mem _ (h)
theorem wc_J5_append_3fe6f : wk_at 7071 = some (.code yJ5_append_3fe6f cJ5_append_3fe6f 2 (some (.object "java/lang/AbstractStringBuilder"))) := rfl
theorem wq_J5_append_3fe6f : (wk ix_J5_append_3fe6f).all goodWord = true := wk_good gdx_ok (by decide +kernel)
def ix_J4_append_cf468 : List Nat := [0, 1, 2, 2018, 2019, 2020, 2021, 2024, 2030, 2032, 2033, 2034, 2182, 2183, 3075, 4021, 4022, 4027, 4028, 4174, 4175, 4176, 4177, 4178, 4179, 4180, 4217, 4218, 4219, 4220, 5174, 5176, 5177, 5178, 5179, 5180, 5181, 5182, 5183, 5184, 5186, 5187, 5189, 5191, 5193, 5195, 5208, 5210, 5211, 5212, 5214, 5215, 5216, 5217, 5218, 5219, 5220, 5221, 5222, 5223, 5224, 5225, 5227, 5228, 5229, 5230, 5231, 5232, 5239, 6000, 6001, 6005, 6010, 6011, 6012, 6013, 6015, 6017, 6037, 6039, 6040, 6041, 6042, 6043, 6044, 6045, 6046, 6047, 6048, 6049, 6050, 6051, 6052, 6053, 6054, 6055, 7069, 7070, 7071, 7072, 7073, 7074, 7075, 7076, 7077, 7078, 7079, 7080, 7081, 7082, 7083, 7084, 9158, 9159, 9162, 9164]
def wsJ4_append_cf468 : List Cond := .code yJ4_append_cf468 cJ4_append_cf468 2 (some (.object "java/lang/StringBuilder")) :: (wk ix_J4_append_cf468)
theorem wm_J4_append_cf468 : ∀ w ∈ wk ix_J4_append_cf468, w ∈ wsJ4_append_cf468 := fun _ h => List.mem_cons_of_mem _ (h)
theorem wc_J4_append_cf468 : wk_at 7068 = some (.code yJ4_append_cf468 cJ4_append_cf468 2 (some (.object "java/lang/StringBuilder"))) := rfl
theorem wq_J4_append_cf468 : (wk ix_J4_append_cf468).all goodWord = true := wk_good gdx_ok (by decide +kernel)
def ix_J6_stringSize_0f7a4 : List Nat := []
def wsJ6_stringSize_0f7a4 : List Cond := .code yJ6_stringSize_0f7a4 cJ6_stringSize_0f7a4 4 (some .int) :: (wk ix_J6_stringSize_0f7a4)
theorem wm_J6_stringSize_0f7a4 : ∀ w ∈ wk ix_J6_stringSize_0f7a4, w ∈ wsJ6_stringSize_0f7a4 := fun _ h => List.mem_cons_of_mem _ (h)
theorem wc_J6_stringSize_0f7a4 : wk_at 6071 = some (.code yJ6_stringSize_0f7a4 cJ6_stringSize_0f7a4 4 (some .int)) := rfl
theorem wq_J6_stringSize_0f7a4 : (wk ix_J6_stringSize_0f7a4).all goodWord = true := wk_good gdx_ok (by decide +kernel)
def ix_J6_getChars_ba4f3 : List Nat := [6075, 6077]
def wsJ6_getChars_ba4f3 : List Cond := .code yJ6_getChars_ba4f3 cJ6_getChars_ba4f3 7 (some .int) :: (wk ix_J6_getChars_ba4f3)
theorem wm_J6_getChars_ba4f3 : ∀ w ∈ wk ix_J6_getChars_ba4f3, w ∈ wsJ6_getChars_ba4f3 := fun _ h => List.mem_cons_of_mem _ (h)
theorem wc_J6_getChars_ba4f3 : wk_at 6074 = some (.code yJ6_getChars_ba4f3 cJ6_getChars_ba4f3 7 (some .int)) := rfl
theorem wq_J6_getChars_ba4f3 : (wk ix_J6_getChars_ba4f3).all goodWord = true := wk_good gdx_ok (by decide +kernel)
def ix_J3_checkFromToIndex_8c36e : List Nat := []
def wsJ3_checkFromToIndex_8c36e : List Cond := .code yJ3_checkFromToIndex_8c36e cJ3_checkFromToIndex_8c36e 4 (some .int) :: (wk ix_J3_checkFromToIndex_8c36e)
theorem wm_J3_checkFromToIndex_8c36e : ∀ w ∈ wk ix_J3_checkFromToIndex_8c36e, w ∈ wsJ3_checkFromToIndex_8c36e := fun _ h => List.mem_cons_of_mem _ (h)
theorem wc_J3_checkFromToIndex_8c36e : wk_at 6009 = some (.code yJ3_checkFromToIndex_8c36e cJ3_checkFromToIndex_8c36e 4 (some .int)) := rfl
theorem wq_J3_checkFromToIndex_8c36e : (wk ix_J3_checkFromToIndex_8c36e).all goodWord = true := wk_good gdx_ok (by decide +kernel)
def ix_J0_checkBoundsBeginEnd_23922 : List Nat := [2024, 6005, 6007, 6008, 6009]
def wsJ0_checkBoundsBeginEnd_23922 : List Cond := .code yJ0_checkBoundsBeginEnd_23922 cJ0_checkBoundsBeginEnd_23922 3 none :: (wk ix_J0_checkBoundsBeginEnd_23922)
theorem wm_J0_checkBoundsBeginEnd_23922 : ∀ w ∈ wk ix_J0_checkBoundsBeginEnd_23922, w ∈ wsJ0_checkBoundsBeginEnd_23922 := fun _ h => List.mem_cons_of_mem _ (h)
theorem wc_J0_checkBoundsBeginEnd_23922 : wk_at 6004 = some (.code yJ0_checkBoundsBeginEnd_23922 cJ0_checkBoundsBeginEnd_23922 3 none) := rfl
theorem wq_J0_checkBoundsBeginEnd_23922 : (wk ix_J0_checkBoundsBeginEnd_23922).all goodWord = true := wk_good gdx_ok (by decide +kernel)
def ix_J2_checkBoundsBeginEnd_d044e : List Nat := [2024, 2032, 2033, 5239, 6000, 6001, 6002, 6003, 6004, 6005, 6007, 6008, 6009]
def wsJ2_checkBoundsBeginEnd_d044e : List Cond := .code yJ2_checkBoundsBeginEnd_d044e cJ2_checkBoundsBeginEnd_d044e 3 none :: (wk ix_J2_checkBoundsBeginEnd_d044e)
theorem wm_J2_checkBoundsBeginEnd_d044e : ∀ w ∈ wk ix_J2_checkBoundsBeginEnd_d044e, w ∈ wsJ2_checkBoundsBeginEnd_d044e := fun _ h => List.mem_cons_of_mem _ (h)
theorem wc_J2_checkBoundsBeginEnd_d044e : wk_at 5238 = some (.code yJ2_checkBoundsBeginEnd_d044e cJ2_checkBoundsBeginEnd_d044e 3 none) := rfl
theorem wq_J2_checkBoundsBeginEnd_d044e : (wk ix_J2_checkBoundsBeginEnd_d044e).all goodWord = true := wk_good gdx_ok (by decide +kernel)
def ix_J2_getChars_ba4f3 : List Nat := [2033, 5239, 6000, 6001, 6010, 6011, 6012, 6013, 6015, 6017, 6085, 6086]
def wsJ2_getChars_ba4f3 : List Cond := .code yJ2_getChars_ba4f3 cJ2_getChars_ba4f3 7 (some .int) :: (wk ix_J2_getChars_ba4f3)
theorem wm_J2_getChars_ba4f3 : ∀ w ∈ wk ix_J2_getChars_ba4f3, w ∈ wsJ2_getChars_ba4f3 := fun _ h => List.mem_cons_of_mem _ (h)
theorem wc_J2_getChars_ba4f3 : wk_at 6084 = some (.code yJ2_getChars_ba4f3 cJ2_getChars_ba4f3 7 (some .int)) := rfl
theorem wq_J2_getChars_ba4f3 : (wk ix_J2_getChars_ba4f3).all goodWord = true := wk_good gdx_ok (by decide +kernel)
def ix_J2_getChars_46870 : List Nat := [2024, 2032, 2033, 5236, 5237, 5238, 5239, 6000, 6001, 6002, 6003, 6004, 6005, 6007, 6008, 6009, 6010, 6011, 6012, 6013, 6015, 6017, 6082, 6083, 6084, 6085, 6086]
def wsJ2_getChars_46870 : List Cond := .code yJ2_getChars_46870 cJ2_getChars_46870 5 (some .int) :: (wk ix_J2_getChars_46870)
theorem wm_J2_getChars_46870 : ∀ w ∈ wk ix_J2_getChars_46870, w ∈ wsJ2_getChars_46870 := fun _ h => List.mem_cons_of_mem _ (h)
theorem wc_J2_getChars_46870 : wk_at 6081 = some (.code yJ2_getChars_46870 cJ2_getChars_46870 5 (some .int)) := rfl
theorem wq_J2_getChars_46870 : (wk ix_J2_getChars_46870).all goodWord = true := wk_good gdx_ok (by decide +kernel)
def ix_J5_append_c97b9 : List Nat := [0, 1, 2018, 2019, 2020, 2021, 2024, 2030, 2032, 2033, 2036, 3075, 4021, 4022, 4027, 4028, 4174, 4175, 4176, 4177, 4178, 4179, 4180, 4217, 4218, 4219, 4220, 5174, 5183, 5184, 5186, 5187, 5189, 5191, 5193, 5208, 5210, 5211, 5212, 5214, 5215, 5216, 5217, 5218, 5219, 5220, 5221, 5222, 5223, 5224, 5225, 5227, 5228, 5229, 5230, 5231, 5232, 5236, 5237, 5238, 5239, 6000, 6001, 6002, 6003, 6004, 6005, 6007, 6008, 6009, 6010, 6011, 6012, 6013, 6015, 6017, 6069, 6070, 6071, 6072, 6073, 6074, 6075, 6077, 6079, 6080, 6081, 6082, 6083, 6084, 6085, 6086, 9158, 9159]
def wsJ5_append_c97b9 : List Cond := .code yJ5_append_c97b9 cJ5_append_c97b9 4 (some (.object "java/lang/AbstractStringBuilder")) :: (wk ix_J5_append_c97b9)
theorem wm_J5_append_c97b9 : ∀ w ∈ wk ix_J5_append_c97b9, w ∈ wsJ5_append_c97b9 := fun _ h => List.mem_cons_of_mem _ (h)
theorem wc_J5_append_c97b9 : wk_at 6068 = some (.code yJ5_append_c97b9 cJ5_append_c97b9 4 (some (.object "java/lang/AbstractStringBuilder"))) := rfl
theorem wq_J5_append_c97b9 : (wk ix_J5_append_c97b9).all goodWord = true := wk_good gdx_ok (by decide +kernel)
def ix_J4_append_bf812 : List Nat := [0, 1, 2018, 2019, 2020, 2021, 2024, 2030, 2032, 2033, 2036, 3075, 4021, 4022, 4027, 4028, 4174, 4175, 4176, 4177, 4178, 4179, 4180, 4217, 4218, 4219, 4220, 5174, 5183, 5184, 5186, 5187, 5189, 5191, 5193, 5195, 5208, 5210, 5211, 5212, 5214, 5215, 5216, 5217, 5218, 5219, 5220, 5221, 5222, 5223, 5224, 5225, 5227, 5228, 5229, 5230, 5231, 5232, 5236, 5237, 5238, 5239, 6000, 6001, 6002, 6003, 6004, 6005, 6007, 6008, 6009, 6010, 6011, 6012, 6013, 6015, 6017, 6066, 6067, 6068, 6069, 6070, 6071, 6072, 6073, 6074, 6075, 6077, 6079, 6080, 6081, 6082, 6083, 6084, 6085, 6086, 9158, 9159, 9163]
def wsJ4_append_bf812 : List Cond := .code yJ4_append_bf812 cJ4_append_bf812 2 (some (.object "java/lang/StringBuilder")) :: (wk ix_J4_append_bf812)
theorem wm_J4_append_bf812 : ∀ w ∈ wk ix_J4_append_bf812, w ∈ wsJ4_append_bf812 := fun _ h => List.mem_cons_of_mem _ (h)
theorem wc_J4_append_bf812 : wk_at 6065 = some (.code yJ4_append_bf812 cJ4_append_bf812 2 (some (.object "java/lang/StringBuilder"))) := rfl
theorem wq_J4_append_bf812 : (wk ix_J4_append_bf812).all goodWord = true := wk_good gdx_ok (by decide +kernel)
def ix_J5_getValue_6d5f1 : List Nat := [5183, 5187, 5189, 5191, 5193]
def wsJ5_getValue_6d5f1 : List Cond := .code yJ5_getValue_6d5f1 cJ5_getValue_6d5f1 1 (some (.array .byte)) :: (wk ix_J5_getValue_6d5f1)
theorem wm_J5_getValue_6d5f1 : ∀ w ∈ wk ix_J5_getValue_6d5f1, w ∈ wsJ5_getValue_6d5f1 := fun _ h => List.mem_cons_of_mem _ (h)
theorem wc_J5_getValue_6d5f1 : wk_at 6105 = some (.code yJ5_getValue_6d5f1 cJ5_getValue_6d5f1 1 (some (.array .byte))) := rfl
theorem wq_J5_getValue_6d5f1 : (wk ix_J5_getValue_6d5f1).all goodWord = true := wk_good gdx_ok (by decide +kernel)
def ix_J5_length_8abf5 : List Nat := [5186, 5187, 5189, 5191, 5193]
def wsJ5_length_8abf5 : List Cond := .code yJ5_length_8abf5 cJ5_length_8abf5 1 (some .int) :: (wk ix_J5_length_8abf5)
theorem wm_J5_length_8abf5 : ∀ w ∈ wk ix_J5_length_8abf5, w ∈ wsJ5_length_8abf5 := fun _ h => List.mem_cons_of_mem _ (h)
theorem wc_J5_length_8abf5 : wk_at 6113 = some (.code yJ5_length_8abf5 cJ5_length_8abf5 1 (some .int)) := rfl
theorem wq_J5_length_8abf5 : (wk ix_J5_length_8abf5).all goodWord = true := wk_good gdx_ok (by decide +kernel)
def ix_J4_length_8abf5 : List Nat := [2030, 5186, 5187, 5189, 5191, 5193, 5195, 6107, 6108, 6112, 6113]
def wsJ4_length_8abf5 : List Cond := .code yJ4_length_8abf5 cJ4_length_8abf5 1 (some .int) :: (wk ix_J4_length_8abf5)
theorem wm_J4_length_8abf5 : ∀ w ∈ wk ix_J4_length_8abf5, w ∈ wsJ4_length_8abf5 := fun _ h => List.mem_cons_of_mem _ (h)
theorem wc_J4_length_8abf5 : wk_at 6111 = some (.code yJ4_length_8abf5 cJ4_length_8abf5 1 (some .int)) := rfl
theorem wq_J4_length_8abf5 : (wk ix_J4_length_8abf5).all goodWord = true := wk_good gdx_ok (by decide +kernel)
def ix_J7_checkLength_df160 : List Nat := [2031, 5166, 5187, 5189, 5191, 5193, 6125]
def wsJ7_checkLength_df160 : List Cond := .code yJ7_checkLength_df160 cJ7_checkLength_df160 2 none :: (wk ix_J7_checkLength_df160)
theorem wm_J7_checkLength_df160 : ∀ w ∈ wk ix_J7_checkLength_df160, w ∈ wsJ7_checkLength_df160 := fun _ h => List.mem_cons_of_mem _ (h)
theorem wc_J7_checkLength_df160 : wk_at 6123 = some (.code yJ7_checkLength_df160 cJ7_checkLength_df160 2 none) := rfl
theorem wq_J7_checkLength_df160 : (wk ix_J7_checkLength_df160).all goodWord = true := wk_good gdx_ok (by decide +kernel)
def ix_J7_copyOfRangeByte_39247 : List Nat := [2019, 2020, 2021, 2031, 3075, 4021, 4022, 4217, 4218, 4219, 4220, 5166, 5187, 5189, 5191, 5193, 6121, 6122, 6123, 6125]
def wsJ7_copyOfRangeByte_39247 : List Cond := .code yJ7_copyOfRangeByte_39247 cJ7_copyOfRangeByte_39247 5 (some (.array .byte)) :: (wk ix_J7_copyOfRangeByte_39247)
theorem wm_J7_copyOfRangeByte_39247 : ∀ w ∈ wk ix_J7_copyOfRangeByte_39247, w ∈ wsJ7_copyOfRangeByte_39247 := fun _ h => List.mem_cons_of_mem _ (h)
theorem wc_J7_copyOfRangeByte_39247 : wk_at 6120 = some (.code yJ7_copyOfRangeByte_39247 cJ7_copyOfRangeByte_39247 5 (some (.array .byte))) := rfl
theorem wq_J7_copyOfRangeByte_39247 : (wk ix_J7_copyOfRangeByte_39247).all goodWord = true := wk_good gdx_ok (by decide +kernel)
def ix_J7_copyOfRange_39247 : List Nat := [2019, 2020, 2021, 2031, 3075, 4021, 4022, 4217, 4218, 4219, 4220, 5166, 5187, 5189, 5191, 5193, 5221, 5222, 5223, 5224, 5225, 5227, 6118, 6119, 6120, 6121, 6122, 6123, 6125]
def wsJ7_copyOfRange_39247 : List Cond := .code yJ7_copyOfRange_39247 cJ7_copyOfRange_39247 3 (some (.array .byte)) :: (wk ix_J7_copyOfRange_39247)
theorem wm_J7_copyOfRange_39247 : ∀ w ∈ wk ix_J7_copyOfRange_39247, w ∈ wsJ7_copyOfRange_39247 := fun _ h => List.mem_cons_of_mem _ (h)
theorem wc_J7_copyOfRange_39247 : wk_at 6117 = some (.code yJ7_copyOfRange_39247 cJ7_copyOfRange_39247 3 (some (.array .byte))) := rfl
theorem wq_J7_copyOfRange_39247 : (wk ix_J7_copyOfRange_39247).all goodWord = true := wk_good gdx_ok (by decide +kernel)
def ix_J2_getChar_3b067 : List Nat := [2033, 5239, 6000, 6001, 6013, 6015, 6017]
def wsJ2_getChar_3b067 : List Cond := .code yJ2_getChar_3b067 cJ2_getChar_3b067 2 (some .char) :: (wk ix_J2_getChar_3b067)
theorem wm_J2_getChar_3b067 : ∀ w ∈ wk ix_J2_getChar_3b067, w ∈ wsJ2_getChar_3b067 := fun _ h => List.mem_cons_of_mem _ (h)
theorem wc_J2_getChar_3b067 : wk_at 6140 = some (.code yJ2_getChar_3b067 cJ2_getChar_3b067 2 (some .char)) := rfl
theorem wq_J2_getChar_3b067 : (wk ix_J2_getChar_3b067).all goodWord = true := wk_good gdx_ok (by decide +kernel)
def ix_J2_compress_5af95 : List Nat := [2024, 2032, 2033, 5239, 6000, 6001, 6005, 6013, 6015, 6017, 6047, 6048, 6049, 6050, 6051, 6052, 6053, 6054, 6055, 6138, 6139, 6140]
def wsJ2_compress_5af95 : List Cond := .code yJ2_compress_5af95 cJ2_compress_5af95 7 (some .int) :: (wk ix_J2_compress_5af95)
theorem wm_J2_compress_5af95 : ∀ w ∈ wk ix_J2_compress_5af95, w ∈ wsJ2_compress_5af95 := fun _ h => List.mem_cons_of_mem _ (h)
theorem wc_J2_compress_5af95 : wk_at 6137 = some (.code yJ2_compress_5af95 cJ2_compress_5af95 7 (some .int)) := rfl
theorem wq_J2_compress_5af95 : (wk ix_J2_compress_5af95).all goodWord = true := wk_good gdx_ok (by decide +kernel)
def ix_J2_compress_39247 : List Nat := [2019, 2020, 2021, 2024, 2031, 2032, 2033, 3075, 4021, 4022, 4217, 4218, 4219, 4220, 5166, 5179, 5180, 5181, 5182, 5187, 5189, 5191, 5193, 5221, 5222, 5223, 5224, 5225, 5227, 5239, 6000, 6001, 6005, 6013, 6015, 6017, 6047, 6048, 6049, 6050, 6051, 6052, 6053, 6054, 6055, 6116, 6117, 6118, 6119, 6120, 6121, 6122, 6123, 6125, 6135, 6136, 6137, 6138, 6139, 6140, 6141]
def wsJ2_compress_39247 : List Cond := .code yJ2_compress_39247 cJ2_compress_39247 6 (some (.array .byte)) :: (wk ix_J2_compress_39247)
theorem wm_J2_compress_39247 : ∀ w ∈ wk ix_J2_compress_39247, w ∈ wsJ2_compress_39247 := fun _ h => List.mem_cons_of_mem _ (h)
theorem wc_J2_compress_39247 : wk_at 6134 = some (.code yJ2_compress_39247 cJ2_compress_39247 6 (some (.array .byte))) := rfl
theorem wq_J2_compress_39247 : (wk ix_J2_compress_39247).all goodWord = true := wk_good gdx_ok (by decide +kernel)
def ix_J2_coderFromArrayLen_85cad : List Nat := []
def wsJ2_coderFromArrayLen_85cad : List Cond := .code yJ2_coderFromArrayLen_85cad cJ2_coderFromArrayLen_85cad 2 (some .byte) :: (wk ix_J2_coderFromArrayLen_85cad)
theorem wm_J2_coderFromArrayLen_85cad : ∀ w ∈ wk ix_J2_coderFromArrayLen_85cad, w ∈ wsJ2_coderFromArrayLen_85cad := fun _ h => List.mem_cons_of_mem _ (h)
theorem wc_J2_coderFromArrayLen_85cad : wk_at 6144 = some (.code yJ2_coderFromArrayLen_85cad cJ2_coderFromArrayLen_85cad 2 (some .byte)) := rfl
theorem wq_J2_coderFromArrayLen_85cad : (wk ix_J2_coderFromArrayLen_85cad).all goodWord = true := wk_good gdx_ok (by decide +kernel)
def ix_J0_init_db425 : List Nat := [2019, 2020, 2021, 2024, 2030, 2031, 2032, 2033, 2047, 2048, 3075, 4021, 4022, 4217, 4218, 4219, 4220, 5166, 5174, 5179, 5180, 5181, 5182, 5183, 5184, 5185, 5186, 5187, 5189, 5191, 5193, 5195, 5221, 5222, 5223, 5224, 5225, 5227, 5229, 5230, 5231, 5232, 5239, 6000, 6001, 6005, 6013, 6015, 6017, 6027, 6047, 6048, 6049, 6050, 6051, 6052, 6053, 6054, 6055, 6100, 6101, 6102, 6103, 6104, 6105, 6106, 6107, 6108, 6109, 6110, 6111, 6112, 6113, 6114, 6115, 6116, 6117, 6118, 6119, 6120, 6121, 6122, 6123, 6125, 6132, 6133, 6134, 6135, 6136, 6137, 6138, 6139, 6140, 6141, 6142, 6143, 6144, 6145, 6146, 6147, 6149, 6151, 6153]
def wsJ0_init_db425 : List Cond := .code yJ0_init_db425 cJ0_init_db425 5 none :: (wk ix_J0_init_db425)
theorem wm_J0_init_db425 : ∀ w ∈ wk ix_J0_init_db425, w ∈ wsJ0_init_db425 := fun _ h => List.mem_cons_of_mem _ (h)
theorem wc_J0_init_db425 : wk_at 6099 = some (.code yJ0_init_db425 cJ0_init_db425 5 none) := rfl
theorem wq_J0_init_db425 : (wk ix_J0_init_db425).all goodWord = true := wk_good gdx_ok (by decide +kernel)
def ix_J0_init_81219 : List Nat := [2019, 2020, 2021, 2024, 2030, 2031, 2032, 2033, 2047, 2048, 3075, 4021, 4022, 4217, 4218, 4219, 4220, 5166, 5174, 5179, 5180, 5181, 5182, 5183, 5184, 5185, 5186, 5187, 5189, 5191, 5193, 5195, 5221, 5222, 5223, 5224, 5225, 5227, 5229, 5230, 5231, 5232, 5239, 6000, 6001, 6005, 6013, 6015, 6017, 6027, 6047, 6048, 6049, 6050, 6051, 6052, 6053, 6054, 6055, 6097, 6098, 6099, 6100, 6101, 6102, 6103, 6104, 6105, 6106, 6107, 6108, 6109, 6110, 6111, 6112, 6113, 6114, 6115, 6116, 6117, 6118, 6119, 6120, 6121, 6122, 6123, 6125, 6132, 6133, 6134, 6135, 6136, 6137, 6138, 6139, 6140, 6141, 6142, 6143, 6144, 6145, 6146, 6147, 6149, 6151, 6153]
def wsJ0_init_81219 : List Cond := .code yJ0_init_81219 cJ0_init_81219 2 none :: (wk ix_J0_init_81219)
theorem wm_J0_init_81219 : ∀ w ∈ wk ix_J0_init_81219, w ∈ wsJ0_init_81219 := fun _ h => List.mem_cons_of_mem _ (h)
theorem wc_J0_init_81219 : wk_at 6096 = some (.code yJ0_init_81219 cJ0_init_81219 2 none) := rfl
theorem wq_J0_init_81219 : (wk ix_J0_init_81219).all goodWord = true := wk_good gdx_ok (by decide +kernel)
def ix_J4_toString_0e30d : List Nat := [2019, 2020, 2021, 2024, 2030, 2031, 2032, 2033, 2047, 2048, 3075, 4021, 4022, 4217, 4218, 4219, 4220, 5166, 5174, 5179, 5180, 5181, 5182, 5183, 5184, 5185, 5186, 5187, 5189, 5191, 5193, 5195, 5221, 5222, 5223, 5224, 5225, 5227, 5229, 5230, 5231, 5232, 5239, 6000, 6001, 6005, 6013, 6015, 6017, 6027, 6047, 6048, 6049, 6050, 6051, 6052, 6053, 6054, 6055, 6092, 6093, 6094, 6095, 6096, 6097, 6098, 6099, 6100, 6101, 6102, 6103, 6104, 6105, 6106, 6107, 6108, 6109, 6110, 6111, 6112, 6113, 6114, 6115, 6116, 6117, 6118, 6119, 6120, 6121, 6122, 6123, 6125, 6132, 6133, 6134, 6135, 6136, 6137, 6138, 6139, 6140, 6141, 6142, 6143, 6144, 6145, 6146, 6147, 6149, 6151, 6153]
def wsJ4_toString_0e30d : List Cond := .code yJ4_toString_0e30d cJ4_toString_0e30d 1 (some (.object "java/lang/String")) :: (wk ix_J4_toString_0e30d)
theorem wm_J4_toString_0e30d : ∀ w ∈ wk ix_J4_toString_0e30d, w ∈ wsJ4_toString_0e30d := fun _ h => List.mem_cons_of_mem _ (h)
theorem wc_J4_toString_0e30d : wk_at 6091 = some (.code yJ4_toString_0e30d cJ4_toString_0e30d 1 (some (.object "java/lang/String"))) := rfl
theorem wq_J4_toString_0e30d : (wk ix_J4_toString_0e30d).all goodWord = true := wk_good gdx_ok (by decide +kernel)
def ix_X8_queue : List Nat := [0, 1, 2, 1013, 2001, 2004, 2013, 2018, 2019, 2020, 2021, 2023, 2024, 2030, 2031, 2032, 2033, 2034, 2036, 2047, 2048, 2065, 2068, 2073, 2075, 2077, 2129, 2139, 2141, 2143, 2145, 2147, 2149, 2151, 2153, 2155, 2157, 2159, 2170, 2171, 2172, 2173, 2174, 2175, 2176, 2177, 2178, 2179, 2180, 2181, 2182, 2183, 2184, 2185, 2186, 2187, 2188, 2193, 3075, 3084, 3117, 3119, 3120, 3130, 3131, 3132, 3133, 4021, 4022, 4027, 4028, 4127, 4136, 4138, 4140, 4142, 4144, 4146, 4148, 4150, 4152, 4154, 4174, 4175, 4176, 4177, 4178, 4179, 4180, 4217, 4218, 4219, 4220, 5011, 5014, 5029, 5031, 5033, 5035, 5037, 5039, 5041, 5043, 5045, 5166, 5168, 5169, 5170, 5171, 5172, 5173, 5174, 5176, 5177, 5178, 5179, 5180, 5181, 5182, 5183, 5184, 5185, 5186, 5187, 5189, 5191, 5193, 5195, 5208, 5210, 5211, 5212, 5214, 5215, 5216, 5217, 5218, 5219, 5220, 5221, 5222, 5223, 5224, 5225, 5227, 5228, 5229, 5230, 5231, 5232, 5236, 5237, 5238, 5239, 6000, 6001, 6002, 6003, 6004, 6005, 6007, 6008, 6009, 6010, 6011, 6012, 6013, 6015, 6017, 6027, 6037, 6039, 6040, 6041, 6042, 6043, 6044, 6045, 6046, 6047, 6048, 6049, 6050, 6051, 6052, 6053, 6054, 6055, 6063, 6064, 6065, 6066, 6067, 6068, 6069, 6070, 6071, 6072, 6073, 6074, 6075, 6077, 6079, 6080, 6081, 6082, 6083, 6084, 6085, 6086, 6089, 6090, 6091, 6092, 6093, 6094, 6095, 6096, 6097, 6098, 6099, 6100, 6101, 6102, 6103, 6104, 6105, 6106, 6107, 6108, 6109, 6110, 6111, 6112, 6113, 6114, 6115, 6116, 6117, 6118, 6119, 6120, 6121, 6122, 6123, 6125, 6132, 6133, 6134, 6135, 6136, 6137, 6138, 6139, 6140, 6141, 6142, 6143, 6144, 6145, 6146, 6147, 6149, 6151, 6153, 7063, 7064, 7065, 7066, 7067, 7068, 7069, 7070, 7071, 7072, 7073, 7074, 7075, 7076, 7077, 7078, 7079, 7080, 7081, 7082, 7083, 7084, 7085, 7086, 9158, 9159, 9162, 9163, 9164]
def wsX8_queue : List Cond := .code yX8_queue cX8_queue 6 (some (.object "java/lang/String")) :: (wk ix_X8_queue ++ (vx_atS RX8 446 "java/lang/IndexOutOfBoundsException" ["java/lang/RuntimeException", "java/lang/Exception"]).filter goodWord)
theorem wm_X8_queue : ∀ w ∈ wk ix_X8_queue, w ∈ wsX8_queue := fun _ h => List.mem_cons_of_mem _ (List.mem_append_left _ (h))
theorem wc_X8_queue : wk_at 7061 = some (.code yX8_queue cX8_queue 6 (some (.object "java/lang/String"))) := rfl
theorem wq_X8_queue : (wk ix_X8_queue).all goodWord = true := wk_good gdx_ok (by decide +kernel)
def ix_X8_awakeOnes : List Nat := [2004, 2023, 2024, 2065, 2068, 2073, 2075, 2077, 2130, 2139, 2141, 2143, 2145, 2147, 2149, 2151, 2153, 2155, 2157, 2159, 2170, 2171, 2172, 2173, 2174, 2175, 2176, 2177, 2178, 2179, 2180, 2181, 2182, 2183, 2184, 2185, 2186, 2187, 2188, 5021, 5029, 5031, 5033, 5035, 5037, 5039, 5041, 5043, 5045]
def wsX8_awakeOnes : List Cond := .code yX8_awakeOnes cX8_awakeOnes 3 (some .int) :: (wk ix_X8_awakeOnes)
theorem wm_X8_awakeOnes : ∀ w ∈ wk ix_X8_awakeOnes, w ∈ wsX8_awakeOnes := fun _ h => List.mem_cons_of_mem _ (h)
theorem wc_X8_awakeOnes : wk_at 2227 = some (.code yX8_awakeOnes cX8_awakeOnes 3 (some .int)) := rfl
theorem wq_X8_awakeOnes : (wk ix_X8_awakeOnes).all goodWord = true := wk_good gdx_ok (by decide +kernel)
def ix_X8_partsOfFate : List Nat := [2004, 2023, 2024, 2065, 2068, 2073, 2075, 2077, 2131, 2139, 2141, 2143, 2145, 2147, 2149, 2151, 2153, 2155, 2157, 2159, 2170, 2171, 2172, 2173, 2174, 2175, 2176, 2177, 2178, 2179, 2180, 2181, 2182, 2183, 2184, 2185, 2186, 2187, 2208, 5070, 5076, 5078, 5080, 5082, 5084, 5086, 5088, 5090]
def wsX8_partsOfFate : List Cond := .code yX8_partsOfFate cX8_partsOfFate 4 (some .int) :: (wk ix_X8_partsOfFate)
theorem wm_X8_partsOfFate : ∀ w ∈ wk ix_X8_partsOfFate, w ∈ wsX8_partsOfFate := fun _ h => List.mem_cons_of_mem _ (h)
theorem wc_X8_partsOfFate : wk_at 2231 = some (.code yX8_partsOfFate cX8_partsOfFate 4 (some .int)) := rfl
theorem wq_X8_partsOfFate : (wk ix_X8_partsOfFate).all goodWord = true := wk_good gdx_ok (by decide +kernel)
def ix_X8_goneParts : List Nat := [2004, 2023, 2024, 2027, 2065, 2068, 2073, 2075, 2077, 2131, 2139, 2141, 2143, 2145, 2147, 2149, 2151, 2153, 2155, 2157, 2159, 2170, 2171, 2172, 2173, 2174, 2175, 2176, 2177, 2178, 2179, 2180, 2181, 2182, 2183, 2184, 2185, 2186, 2187, 2208, 2236, 2237, 2238, 2239, 5016, 5029, 5031, 5033, 5035, 5037, 5039, 5041, 5043, 5045, 5071, 5073, 5076, 5078, 5080, 5082, 5084, 5086, 5088, 5090]
def wsX8_goneParts : List Cond := .code yX8_goneParts cX8_goneParts 3 (some .int) :: (wk ix_X8_goneParts)
theorem wm_X8_goneParts : ∀ w ∈ wk ix_X8_goneParts, w ∈ wsX8_goneParts := fun _ h => List.mem_cons_of_mem _ (h)
theorem wc_X8_goneParts : wk_at 2235 = some (.code yX8_goneParts cX8_goneParts 3 (some .int)) := rfl
theorem wq_X8_goneParts : (wk ix_X8_goneParts).all goodWord = true := wk_good gdx_ok (by decide +kernel)
def ix_X8_dutiesOfAll : List Nat := [2110, 2112, 2114, 2116, 2118, 2120, 2122, 2124, 2128, 2139, 2141, 2143, 2145, 2147, 2149, 2151, 2153, 2155, 2157, 2159]
def wsX8_dutiesOfAll : List Cond := .code yX8_dutiesOfAll cX8_dutiesOfAll 6 (some .int) :: (wk ix_X8_dutiesOfAll)
theorem wm_X8_dutiesOfAll : ∀ w ∈ wk ix_X8_dutiesOfAll, w ∈ wsX8_dutiesOfAll := fun _ h => List.mem_cons_of_mem _ (h)
theorem wc_X8_dutiesOfAll : wk_at 3003 = some (.code yX8_dutiesOfAll cX8_dutiesOfAll 6 (some .int)) := rfl
theorem wq_X8_dutiesOfAll : (wk ix_X8_dutiesOfAll).all goodWord = true := wk_good gdx_ok (by decide +kernel)
def ix_X8_finesOfAll : List Nat := [2111, 2112, 2114, 2116, 2118, 2120, 2122, 2124, 2128, 2139, 2141, 2143, 2145, 2147, 2149, 2151, 2153, 2155, 2157, 2159]
def wsX8_finesOfAll : List Cond := .code yX8_finesOfAll cX8_finesOfAll 6 (some .int) :: (wk ix_X8_finesOfAll)
theorem wm_X8_finesOfAll : ∀ w ∈ wk ix_X8_finesOfAll, w ∈ wsX8_finesOfAll := fun _ h => List.mem_cons_of_mem _ (h)
theorem wc_X8_finesOfAll : wk_at 3007 = some (.code yX8_finesOfAll cX8_finesOfAll 6 (some .int)) := rfl
theorem wq_X8_finesOfAll : (wk ix_X8_finesOfAll).all goodWord = true := wk_good gdx_ok (by decide +kernel)
def ix_X8_night : List Nat := [1003, 1004, 1005, 1006, 1007, 2001, 2004, 2014, 2023, 2024, 2027, 2065, 2068, 2073, 2075, 2077, 2087, 2089, 2091, 2110, 2111, 2112, 2114, 2116, 2118, 2120, 2122, 2124, 2128, 2129, 2130, 2131, 2132, 2133, 2136, 2137, 2138, 2139, 2141, 2143, 2145, 2147, 2149, 2151, 2153, 2155, 2157, 2159, 2170, 2171, 2172, 2173, 2174, 2175, 2176, 2177, 2178, 2179, 2180, 2181, 2182, 2183, 2184, 2185, 2186, 2187, 2188, 2208, 2224, 2226, 2227, 2228, 2230, 2231, 2232, 2234, 2235, 2236, 2237, 2238, 2239, 3000, 3002, 3003, 3004, 3006, 3007, 3008, 5016, 5021, 5029, 5031, 5033, 5035, 5037, 5039, 5041, 5043, 5045, 5070, 5071, 5073, 5076, 5078, 5080, 5082, 5084, 5086, 5088, 5090]
def wsX8_night : List Cond := .code yX8_night cX8_night 2 (some .int) :: (wk ix_X8_night ++ (vx_atS RX8 69 "java/lang/IllegalArgumentException" ["java/lang/RuntimeException", "java/lang/Exception"]).filter goodWord)
theorem wm_X8_night : ∀ w ∈ wk ix_X8_night, w ∈ wsX8_night := fun _ h => List.mem_cons_of_mem _ (List.mem_append_left _ (h))
theorem wc_X8_night : wk_at 2223 = some (.code yX8_night cX8_night 2 (some .int)) := rfl
theorem wq_X8_night : (wk ix_X8_night).all goodWord = true := wk_good gdx_ok (by decide +kernel)
def ix_X8_cross : List Nat := [2135, 2139, 2141, 2143, 2145, 2147, 2149, 2151, 2153, 2155, 2157, 2159]
def wsX8_cross : List Cond := .code yX8_cross cX8_cross 5 none :: (wk ix_X8_cross)
theorem wm_X8_cross : ∀ w ∈ wk ix_X8_cross, w ∈ wsX8_cross := fun _ h => List.mem_cons_of_mem _ (h)
theorem wc_X8_cross : wk_at 4003 = some (.code yX8_cross cX8_cross 5 none) := rfl
theorem wq_X8_cross : (wk ix_X8_cross).all goodWord = true := wk_good gdx_ok (by decide +kernel)
def ix_X8_findArrivals : List Nat := [1024, 2001, 2004, 2016, 2023, 2024, 2065, 2068, 2073, 2075, 2077, 2102, 2112, 2114, 2116, 2118, 2120, 2122, 2124, 2129, 2135, 2137, 2139, 2141, 2143, 2145, 2147, 2149, 2151, 2153, 2155, 2157, 2159, 2170, 2171, 2172, 2173, 2174, 2175, 2176, 2177, 2178, 2179, 2180, 2181, 2182, 2183, 2184, 2185, 2186, 2187, 2193, 3122, 3123, 3124, 3125, 4000, 4002, 4003, 4121, 4123, 4124, 4125, 4136, 4138, 4140, 4142, 4144, 4146, 4148, 4150, 4152, 4154]
def wsX8_findArrivals : List Cond := .code yX8_findArrivals cX8_findArrivals 5 none :: (wk ix_X8_findArrivals)
theorem wm_X8_findArrivals : ∀ w ∈ wk ix_X8_findArrivals, w ∈ wsX8_findArrivals := fun _ h => List.mem_cons_of_mem _ (h)
theorem wc_X8_findArrivals : wk_at 3239 = some (.code yX8_findArrivals cX8_findArrivals 5 none) := rfl
theorem wq_X8_findArrivals : (wk ix_X8_findArrivals).all goodWord = true := wk_good gdx_ok (by decide +kernel)
def ix_X8_way : List Nat := [1009, 1023, 1024, 2001, 2004, 2013, 2016, 2023, 2024, 2065, 2068, 2073, 2075, 2077, 2102, 2112, 2114, 2116, 2118, 2120, 2122, 2124, 2128, 2129, 2135, 2137, 2139, 2141, 2143, 2145, 2147, 2149, 2151, 2153, 2155, 2157, 2159, 2170, 2171, 2172, 2173, 2174, 2175, 2176, 2177, 2178, 2179, 2180, 2181, 2182, 2183, 2184, 2185, 2186, 2187, 2193, 3080, 3082, 3083, 3084, 3122, 3123, 3124, 3125, 3236, 3238, 3239, 4000, 4002, 4003, 4121, 4123, 4124, 4125, 4136, 4138, 4140, 4142, 4144, 4146, 4148, 4150, 4152, 4154]
def wsX8_way : List Cond := .code yX8_way cX8_way 5 (some .int) :: (wk ix_X8_way ++ (vx_atS RX8 446 "java/lang/IndexOutOfBoundsException" ["java/lang/RuntimeException", "java/lang/Exception"]).filter goodWord)
theorem wm_X8_way : ∀ w ∈ wk ix_X8_way, w ∈ wsX8_way := fun _ h => List.mem_cons_of_mem _ (List.mem_append_left _ (h))
theorem wc_X8_way : wk_at 3235 = some (.code yX8_way cX8_way 5 (some .int)) := rfl
theorem wq_X8_way : (wk ix_X8_way).all goodWord = true := wk_good gdx_ok (by decide +kernel)
def ix_X8_catchOf : List Nat := []
def wsX8_catchOf : List Cond := .code yX8_catchOf cX8_catchOf 2 (some .int) :: (wk ix_X8_catchOf)
theorem wm_X8_catchOf : ∀ w ∈ wk ix_X8_catchOf, w ∈ wsX8_catchOf := fun _ h => List.mem_cons_of_mem _ (h)
theorem wc_X8_catchOf : wk_at 4025 = some (.code yX8_catchOf cX8_catchOf 2 (some .int)) := rfl
theorem wq_X8_catchOf : (wk ix_X8_catchOf).all goodWord = true := wk_good gdx_ok (by decide +kernel)
def ix_X8_mostCaughtFrom : List Nat := [2001, 2019, 2134, 2139, 2141, 2143, 2145, 2147, 2149, 2151, 2153, 2155, 2157, 2159, 4020, 4021, 4022, 4023, 4024, 4025, 4026, 4027, 4028]
def wsX8_mostCaughtFrom : List Cond := .code yX8_mostCaughtFrom cX8_mostCaughtFrom 8 (some .int) :: (wk ix_X8_mostCaughtFrom)
theorem wm_X8_mostCaughtFrom : ∀ w ∈ wk ix_X8_mostCaughtFrom, w ∈ wsX8_mostCaughtFrom := fun _ h => List.mem_cons_of_mem _ (h)
theorem wc_X8_mostCaughtFrom : wk_at 4019 = some (.code yX8_mostCaughtFrom cX8_mostCaughtFrom 8 (some .int)) := rfl
theorem wq_X8_mostCaughtFrom : (wk ix_X8_mostCaughtFrom).all goodWord = true := wk_good gdx_ok (by decide +kernel)
def ix_X8_findMostCaught : List Nat := [1014, 1026, 2001, 2004, 2019, 2023, 2024, 2027, 2065, 2068, 2073, 2075, 2077, 2129, 2131, 2134, 2139, 2141, 2143, 2145, 2147, 2149, 2151, 2153, 2155, 2157, 2159, 2170, 2171, 2172, 2173, 2174, 2175, 2176, 2177, 2178, 2179, 2180, 2181, 2182, 2183, 2184, 2185, 2186, 2187, 2193, 2208, 3134, 3136, 3137, 3138, 3139, 3140, 3141, 3142, 3143, 3144, 3145, 4016, 4018, 4019, 4020, 4021, 4022, 4023, 4024, 4025, 4026, 4027, 4028, 5023, 5025, 5029, 5031, 5033, 5035, 5037, 5039, 5041, 5043, 5045, 5061, 5066, 5071, 5072, 5076, 5078, 5080, 5082, 5084, 5086, 5088, 5090]
def wsX8_findMostCaught : List Cond := .code yX8_findMostCaught cX8_findMostCaught 5 none :: (wk ix_X8_findMostCaught)
theorem wm_X8_findMostCaught : ∀ w ∈ wk ix_X8_findMostCaught, w ∈ wsX8_findMostCaught := fun _ h => List.mem_cons_of_mem _ (h)
theorem wc_X8_findMostCaught : wk_at 4015 = some (.code yX8_findMostCaught cX8_findMostCaught 5 none) := rfl
theorem wq_X8_findMostCaught : (wk ix_X8_findMostCaught).all goodWord = true := wk_good gdx_ok (by decide +kernel)
def ix_X8_leastSum : List Nat := [2134, 2139, 2141, 2143, 2145, 2147, 2149, 2151, 2153, 2155, 2157, 2159]
def wsX8_leastSum : List Cond := .code yX8_leastSum cX8_leastSum 4 (some .int) :: (wk ix_X8_leastSum)
theorem wm_X8_leastSum : ∀ w ∈ wk ix_X8_leastSum, w ∈ wsX8_leastSum := fun _ h => List.mem_cons_of_mem _ (h)
theorem wc_X8_leastSum : wk_at 4032 = some (.code yX8_leastSum cX8_leastSum 4 (some .int)) := rfl
theorem wq_X8_leastSum : (wk ix_X8_leastSum).all goodWord = true := wk_good gdx_ok (by decide +kernel)
def ix_X8_leastOdds : List Nat := [2001, 2019, 2134, 2139, 2141, 2143, 2145, 2147, 2149, 2151, 2153, 2155, 2157, 2159, 4020, 4021, 4022, 4023, 4024, 4025]
def wsX8_leastOdds : List Cond := .code yX8_leastOdds cX8_leastOdds 7 (some .int) :: (wk ix_X8_leastOdds)
theorem wm_X8_leastOdds : ∀ w ∈ wk ix_X8_leastOdds, w ∈ wsX8_leastOdds := fun _ h => List.mem_cons_of_mem _ (h)
theorem wc_X8_leastOdds : wk_at 4040 = some (.code yX8_leastOdds cX8_leastOdds 7 (some .int)) := rfl
theorem wq_X8_leastOdds : (wk ix_X8_leastOdds).all goodWord = true := wk_good gdx_ok (by decide +kernel)
def ix_X8_plannedOdds : List Nat := [1014, 1029, 2001, 2004, 2019, 2023, 2024, 2027, 2065, 2068, 2073, 2075, 2077, 2129, 2131, 2134, 2139, 2141, 2143, 2145, 2147, 2149, 2151, 2153, 2155, 2157, 2159, 2170, 2171, 2172, 2173, 2174, 2175, 2176, 2177, 2178, 2179, 2180, 2181, 2182, 2183, 2184, 2185, 2186, 2187, 2193, 2208, 3134, 3136, 3137, 3138, 3139, 3140, 3141, 3142, 3143, 3144, 3145, 4020, 4021, 4022, 4023, 4024, 4025, 4037, 4039, 4040, 5023, 5025, 5029, 5031, 5033, 5035, 5037, 5039, 5041, 5043, 5045, 5061, 5066, 5071, 5072, 5076, 5078, 5080, 5082, 5084, 5086, 5088, 5090]
def wsX8_plannedOdds : List Cond := .code yX8_plannedOdds cX8_plannedOdds 9 (some .int) :: (wk ix_X8_plannedOdds)
theorem wm_X8_plannedOdds : ∀ w ∈ wk ix_X8_plannedOdds, w ∈ wsX8_plannedOdds := fun _ h => List.mem_cons_of_mem _ (h)
theorem wc_X8_plannedOdds : wk_at 4036 = some (.code yX8_plannedOdds cX8_plannedOdds 9 (some .int)) := rfl
theorem wq_X8_plannedOdds : (wk ix_X8_plannedOdds).all goodWord = true := wk_good gdx_ok (by decide +kernel)
def ix_X8_plan : List Nat := [1013, 1014, 1025, 1026, 1027, 1028, 1029, 2001, 2004, 2013, 2014, 2019, 2023, 2024, 2027, 2065, 2068, 2073, 2075, 2077, 2129, 2131, 2134, 2139, 2141, 2143, 2145, 2147, 2149, 2151, 2153, 2155, 2157, 2159, 2170, 2171, 2172, 2173, 2174, 2175, 2176, 2177, 2178, 2179, 2180, 2181, 2182, 2183, 2184, 2185, 2186, 2187, 2193, 2208, 3008, 3084, 3117, 3119, 3120, 3134, 3136, 3137, 3138, 3139, 3140, 3141, 3142, 3143, 3144, 3145, 4008, 4009, 4010, 4012, 4014, 4015, 4016, 4018, 4019, 4020, 4021, 4022, 4023, 4024, 4025, 4026, 4027, 4028, 4029, 4031, 4032, 4033, 4035, 4036, 4037, 4039, 4040, 5023, 5025, 5029, 5031, 5033, 5035, 5037, 5039, 5041, 5043, 5045, 5061, 5066, 5071, 5072, 5076, 5078, 5080, 5082, 5084, 5086, 5088, 5090]
def wsX8_plan : List Cond := .code yX8_plan cX8_plan 4 (some .int) :: (wk ix_X8_plan ++ (vx_atS RX8 446 "java/lang/IndexOutOfBoundsException" ["java/lang/RuntimeException", "java/lang/Exception"]).filter goodWord ++ (vx_atS RX8 69 "java/lang/IllegalArgumentException" ["java/lang/RuntimeException", "java/lang/Exception"]).filter goodWord)
theorem wm_X8_plan : ∀ w ∈ wk ix_X8_plan, w ∈ wsX8_plan := fun _ h => List.mem_cons_of_mem _ (List.mem_append_left _ (List.mem_append_left _ (h)))
theorem wc_X8_plan : wk_at 4007 = some (.code yX8_plan cX8_plan 4 (some .int)) := rfl
theorem wq_X8_plan : (wk ix_X8_plan).all goodWord = true := wk_good gdx_ok (by decide +kernel)
def ix_X8_wouldPay : List Nat := [1013, 1015, 1016, 1017, 2001, 2004, 2006, 2013, 2016, 2017, 2019, 2023, 2024, 2027, 2065, 2068, 2073, 2075, 2077, 2103, 2105, 2108, 2109, 2112, 2114, 2116, 2118, 2120, 2122, 2124, 2129, 2131, 2136, 2139, 2141, 2143, 2145, 2147, 2149, 2151, 2153, 2155, 2157, 2159, 2170, 2171, 2172, 2173, 2174, 2175, 2176, 2177, 2178, 2179, 2180, 2181, 2182, 2183, 2184, 2185, 2186, 2187, 2188, 2193, 2208, 3084, 3117, 3119, 3120, 3126, 3127, 3128, 3129, 3130, 3131, 3132, 3133, 3143, 3144, 3145, 3161, 3163, 3164, 3165, 3166, 3167, 3168, 3169, 3170, 3171, 3172, 3173, 3174, 3175, 3176, 3177, 3178, 3179, 3181, 3182, 3183, 3184, 3185, 3186, 3187, 3188, 3190, 3191, 3192, 3193, 3194, 3195, 4111, 4112, 4113, 4115, 4119, 4120, 4122, 4127, 4129, 4134, 4136, 4138, 4140, 4142, 4144, 4146, 4148, 4150, 4152, 4154, 5011, 5017, 5026, 5027, 5029, 5031, 5033, 5035, 5037, 5039, 5041, 5043, 5045, 5061, 5062, 5066, 5067, 5076, 5078, 5080, 5082, 5084, 5086, 5088, 5090, 5116, 5118, 5120, 5121, 5123, 5125]
def wsX8_wouldPay : List Cond := .code yX8_wouldPay cX8_wouldPay 5 (some .int) :: (wk ix_X8_wouldPay ++ (vx_atS RX8 446 "java/lang/IndexOutOfBoundsException" ["java/lang/RuntimeException", "java/lang/Exception"]).filter goodWord)
theorem wm_X8_wouldPay : ∀ w ∈ wk ix_X8_wouldPay, w ∈ wsX8_wouldPay := fun _ h => List.mem_cons_of_mem _ (List.mem_append_left _ (h))
theorem wc_X8_wouldPay : wk_at 3160 = some (.code yX8_wouldPay cX8_wouldPay 5 (some .int)) := rfl
theorem wq_X8_wouldPay : (wk ix_X8_wouldPay).all goodWord = true := wk_good gdx_ok (by decide +kernel)
def ix_X8_quotasOfAll : List Nat := [2108, 2112, 2114, 2116, 2118, 2120, 2122, 2124, 2128, 2139, 2141, 2143, 2145, 2147, 2149, 2151, 2153, 2155, 2157, 2159]
def wsX8_quotasOfAll : List Cond := .code yX8_quotasOfAll cX8_quotasOfAll 6 (some .int) :: (wk ix_X8_quotasOfAll)
theorem wm_X8_quotasOfAll : ∀ w ∈ wk ix_X8_quotasOfAll, w ∈ wsX8_quotasOfAll := fun _ h => List.mem_cons_of_mem _ (h)
theorem wc_X8_quotasOfAll : wk_at 2169 = some (.code yX8_quotasOfAll cX8_quotasOfAll 6 (some .int)) := rfl
theorem wq_X8_quotasOfAll : (wk ix_X8_quotasOfAll).all goodWord = true := wk_good gdx_ok (by decide +kernel)
def ix_X8_sleeperIsSound : List Nat := [1002, 2001, 2004, 2016, 2023, 2024, 2065, 2068, 2073, 2075, 2077, 2129, 2131, 2139, 2141, 2143, 2145, 2147, 2149, 2151, 2153, 2155, 2157, 2159, 2170, 2171, 2172, 2173, 2174, 2175, 2176, 2177, 2178, 2179, 2180, 2181, 2182, 2183, 2184, 2185, 2186, 2187, 2193, 2194, 2195, 2196, 2197, 2198, 2199, 2200, 2201, 2202, 2203, 2204, 2206, 2207, 2208, 4120, 4122, 4126, 4136, 4138, 4140, 4142, 4144, 4146, 4148, 4150, 4152, 4154, 5017, 5019, 5021, 5029, 5031, 5033, 5035, 5037, 5039, 5041, 5043, 5045, 5062, 5072, 5076, 5078, 5080, 5082, 5084, 5086, 5088, 5090]
def wsX8_sleeperIsSound : List Cond := .code yX8_sleeperIsSound cX8_sleeperIsSound 5 (some .boolean) :: (wk ix_X8_sleeperIsSound)
theorem wm_X8_sleeperIsSound : ∀ w ∈ wk ix_X8_sleeperIsSound, w ∈ wsX8_sleeperIsSound := fun _ h => List.mem_cons_of_mem _ (h)
theorem wc_X8_sleeperIsSound : wk_at 2192 = some (.code yX8_sleeperIsSound cX8_sleeperIsSound 5 (some .boolean)) := rfl
theorem wq_X8_sleeperIsSound : (wk ix_X8_sleeperIsSound).all goodWord = true := wk_good gdx_ok (by decide +kernel)
def ix_X8_isSound : List Nat := [1000, 1001, 1002, 2001, 2004, 2016, 2023, 2024, 2065, 2068, 2073, 2075, 2077, 2108, 2112, 2114, 2116, 2118, 2120, 2122, 2124, 2128, 2129, 2130, 2131, 2132, 2139, 2141, 2143, 2145, 2147, 2149, 2151, 2153, 2155, 2157, 2159, 2166, 2168, 2169, 2170, 2171, 2172, 2173, 2174, 2175, 2176, 2177, 2178, 2179, 2180, 2181, 2182, 2183, 2184, 2185, 2186, 2187, 2188, 2189, 2191, 2192, 2193, 2194, 2195, 2196, 2197, 2198, 2199, 2200, 2201, 2202, 2203, 2204, 2206, 2207, 2208, 2209, 2210, 2211, 2212, 2213, 4120, 4122, 4126, 4136, 4138, 4140, 4142, 4144, 4146, 4148, 4150, 4152, 4154, 5013, 5017, 5019, 5021, 5029, 5031, 5033, 5035, 5037, 5039, 5041, 5043, 5045, 5062, 5072, 5076, 5078, 5080, 5082, 5084, 5086, 5088, 5090]
def wsX8_isSound : List Cond := .code yX8_isSound cX8_isSound 2 (some .boolean) :: (wk ix_X8_isSound)
theorem wm_X8_isSound : ∀ w ∈ wk ix_X8_isSound, w ∈ wsX8_isSound := fun _ h => List.mem_cons_of_mem _ (h)
theorem wc_X8_isSound : wk_at 2165 = some (.code yX8_isSound cX8_isSound 2 (some .boolean)) := rfl
theorem wq_X8_isSound : (wk ix_X8_isSound).all goodWord = true := wk_good gdx_ok (by decide +kernel)
def ix_X8_digest : List Nat := [1000, 1001, 1002, 1003, 1004, 1005, 1006, 1007, 1009, 1010, 1011, 1012, 1013, 1014, 1015, 1016, 1017, 1018, 1019, 1020, 1021, 1022, 1023, 1024, 1025, 1026, 1027, 1028, 1029, 2001, 2004, 2006, 2013, 2014, 2016, 2017, 2019, 2023, 2024, 2027, 2040, 2065, 2068, 2073, 2075, 2077, 2087, 2089, 2091, 2102, 2103, 2104, 2105, 2106, 2108, 2109, 2110, 2111, 2112, 2114, 2116, 2118, 2120, 2122, 2124, 2128, 2129, 2130, 2131, 2132, 2133, 2134, 2135, 2136, 2137, 2138, 2139, 2141, 2143, 2145, 2147, 2149, 2151, 2153, 2155, 2157, 2159, 2163, 2164, 2165, 2166, 2168, 2169, 2170, 2171, 2172, 2173, 2174, 2175, 2176, 2177, 2178, 2179, 2180, 2181, 2182, 2183, 2184, 2185, 2186, 2187, 2188, 2189, 2191, 2192, 2193, 2194, 2195, 2196, 2197, 2198, 2199, 2200, 2201, 2202, 2203, 2204, 2206, 2207, 2208, 2209, 2210, 2211, 2212, 2213, 2218, 2219, 2220, 2221, 2222, 2223, 2224, 2226, 2227, 2228, 2230, 2231, 2232, 2234, 2235, 2236, 2237, 2238, 2239, 3000, 3002, 3003, 3004, 3006, 3007, 3008, 3076, 3077, 3078, 3079, 3080, 3082, 3083, 3084, 3100, 3102, 3103, 3104, 3106, 3107, 3108, 3110, 3111, 3113, 3114, 3115, 3116, 3117, 3119, 3120, 3122, 3123, 3124, 3125, 3126, 3127, 3128, 3129, 3130, 3131, 3132, 3133, 3134, 3136, 3137, 3138, 3139, 3140, 3141, 3142, 3143, 3144, 3145, 3146, 3147, 3148, 3149, 3150, 3151, 3152, 3153, 3154, 3155, 3157, 3158, 3159, 3160, 3161, 3163, 3164, 3165, 3166, 3167, 3168, 3169, 3170, 3171, 3172, 3173, 3174, 3175, 3176, 3177, 3178, 3179, 3181, 3182, 3183, 3184, 3185, 3186, 3187, 3188, 3190, 3191, 3192, 3193, 3194, 3195, 3196, 3197, 3198, 3199, 3200, 3202, 3203, 3205, 3206, 3207, 3208, 3210, 3211, 3212, 3214, 3215, 3216, 3218, 3219, 3220, 3222, 3223, 3224, 3225, 3226, 3228, 3229, 3232, 3233, 3234, 3235, 3236, 3238, 3239, 4000, 4002, 4003, 4004, 4005, 4006, 4007, 4008, 4009, 4010, 4012, 4014, 4015, 4016, 4018, 4019, 4020, 4021, 4022, 4023, 4024, 4025, 4026, 4027, 4028, 4029, 4031, 4032, 4033, 4035, 4036, 4037, 4039, 4040, 4041, 4111, 4112, 4113, 4115, 4119, 4120, 4121, 4122, 4123, 4124, 4125, 4126, 4127, 4129, 4133, 4134, 4135, 4136, 4138, 4140, 4142, 4144, 4146, 4148, 4150, 4152, 4154, 5011, 5013, 5016, 5017, 5019, 5021, 5023, 5025, 5026, 5027, 5028, 5029, 5031, 5033, 5035, 5037, 5039, 5041, 5043, 5045, 5061, 5062, 5064, 5066, 5067, 5068, 5070, 5071, 5072, 5073, 5074, 5076, 5078, 5080, 5082, 5084, 5086, 5088, 5090, 5116, 5118, 5120, 5121, 5123, 5125, 6212, 6217, 6219, 6221]
def wsX8_digest : List Cond := .code yX8_digest cX8_digest 5 (some .long) :: (wk ix_X8_digest ++ (vx_atS RX8 69 "java/lang/IllegalArgumentException" ["java/lang/RuntimeException", "java/lang/Exception"]).filter goodWord ++ (vx_atS RX8 446 "java/lang/IndexOutOfBoundsException" ["java/lang/RuntimeException", "java/lang/Exception"]).filter goodWord)
theorem wm_X8_digest : ∀ w ∈ wk ix_X8_digest, w ∈ wsX8_digest := fun _ h => List.mem_cons_of_mem _ (List.mem_append_left _ (List.mem_append_left _ (h)))
theorem wc_X8_digest : wk_at 2217 = some (.code yX8_digest cX8_digest 5 (some .long)) := rfl
theorem wq_X8_digest : (wk ix_X8_digest).all goodWord = true := wk_good gdx_ok (by decide +kernel)
def ix_X9_init : List Nat := [2047, 2048, 4047]
def wsX9_init : List Cond := .code yX9_init cX9_init 1 none :: (wk ix_X9_init)
theorem wm_X9_init : ∀ w ∈ wk ix_X9_init, w ∈ wsX9_init := fun _ h => List.mem_cons_of_mem _ (h)
theorem wc_X9_init : wk_at 4046 = some (.code yX9_init cX9_init 1 none) := rfl
theorem wq_X9_init : (wk ix_X9_init).all goodWord = true := wk_good gdx_ok (by decide +kernel)
def ix_X10_init : List Nat := [2002, 2003, 2004, 2047, 2048, 2052, 2054, 2055, 2056, 2057, 2058, 2059, 2060, 2061, 2062, 2063, 2065, 2069, 2073, 2075, 2077, 7140, 7214, 7215, 7216, 7225, 7229, 7231, 7233, 7235, 7237, 7239, 8001, 8003, 8005, 8007]
def wsX10_init : List Cond := .code yX10_init cX10_init 1 none :: (wk ix_X10_init)
theorem wm_X10_init : ∀ w ∈ wk ix_X10_init, w ∈ wsX10_init := fun _ h => List.mem_cons_of_mem _ (h)
theorem wc_X10_init : wk_at 7213 = some (.code yX10_init cX10_init 1 none) := rfl
theorem wq_X10_init : (wk ix_X10_init).all goodWord = true := wk_good gdx_ok (by decide +kernel)
def ix_X10_isOpen : List Nat := [7221, 7223, 7233, 7235, 7237, 7239, 8001, 8003, 8005, 8007]
def wsX10_isOpen : List Cond := .code yX10_isOpen cX10_isOpen 2 (some .boolean) :: (wk ix_X10_isOpen)
theorem wm_X10_isOpen : ∀ w ∈ wk ix_X10_isOpen, w ∈ wsX10_isOpen := fun _ h => List.mem_cons_of_mem _ (h)
theorem wc_X10_isOpen : wk_at 8181 = some (.code yX10_isOpen cX10_isOpen 2 (some .boolean)) := rfl
theorem wq_X10_isOpen : (wk ix_X10_isOpen).all goodWord = true := wk_good gdx_ok (by decide +kernel)
def ix_X10_dozes : List Nat := [7227, 7233, 7235, 7237, 7239, 8001, 8003, 8005, 8007]
def wsX10_dozes : List Cond := .code yX10_dozes cX10_dozes 1 (some .boolean) :: (wk ix_X10_dozes)
theorem wm_X10_dozes : ∀ w ∈ wk ix_X10_dozes, w ∈ wsX10_dozes := fun _ h => List.mem_cons_of_mem _ (h)
theorem wc_X10_dozes : wk_at 8191 = some (.code yX10_dozes cX10_dozes 1 (some .boolean)) := rfl
theorem wq_X10_dozes : (wk ix_X10_dozes).all goodWord = true := wk_good gdx_ok (by decide +kernel)
def ix_X10_has : List Nat := [7217, 7219, 7233, 7235, 7237, 7239, 8001, 8003, 8005, 8007]
def wsX10_has : List Cond := .code yX10_has cX10_has 2 (some .boolean) :: (wk ix_X10_has)
theorem wm_X10_has : ∀ w ∈ wk ix_X10_has, w ∈ wsX10_has := fun _ h => List.mem_cons_of_mem _ (h)
theorem wc_X10_has : wk_at 8130 = some (.code yX10_has cX10_has 2 (some .boolean)) := rfl
theorem wq_X10_has : (wk ix_X10_has).all goodWord = true := wk_good gdx_ok (by decide +kernel)
def ix_X10_beyond : List Nat := [7217, 7219, 7233, 7235, 7237, 7239, 8001, 8003, 8005, 8007]
def wsX10_beyond : List Cond := .code yX10_beyond cX10_beyond 2 (some .int) :: (wk ix_X10_beyond)
theorem wm_X10_beyond : ∀ w ∈ wk ix_X10_beyond, w ∈ wsX10_beyond := fun _ h => List.mem_cons_of_mem _ (h)
theorem wc_X10_beyond : wk_at 8199 = some (.code yX10_beyond cX10_beyond 2 (some .int)) := rfl
theorem wq_X10_beyond : (wk ix_X10_beyond).all goodWord = true := wk_good gdx_ok (by decide +kernel)
def ix_J6_intValue_8abf5 : List Nat := [8152, 8153]
def wsJ6_intValue_8abf5 : List Cond := .code yJ6_intValue_8abf5 cJ6_intValue_8abf5 1 (some .int) :: (wk ix_J6_intValue_8abf5)
theorem wm_J6_intValue_8abf5 : ∀ w ∈ wk ix_J6_intValue_8abf5, w ∈ wsJ6_intValue_8abf5 := fun _ h => List.mem_cons_of_mem _ (h)
theorem wc_J6_intValue_8abf5 : wk_at 8135 = some (.code yJ6_intValue_8abf5 cJ6_intValue_8abf5 1 (some .int)) := rfl
theorem wq_J6_intValue_8abf5 : (wk ix_J6_intValue_8abf5).all goodWord = true := wk_good gdx_ok (by decide +kernel)
def ix_X10_place : List Nat := [2004, 2023, 2024, 2036, 2065, 2068, 2073, 2075, 2077, 2171, 2172, 2173, 2175, 2176, 2177, 2178, 2179, 2180, 2181, 2182, 2183, 2184, 2185, 2186, 2187, 7229, 7233, 7235, 7237, 7239, 8001, 8003, 8005, 8007, 8133, 8134, 8135, 8152, 8153, 8165, 8166, 8167, 8168]
def wsX10_place : List Cond := .code yX10_place cX10_place 3 (some .int) :: (wk ix_X10_place)
theorem wm_X10_place : ∀ w ∈ wk ix_X10_place, w ∈ wsX10_place := fun _ h => List.mem_cons_of_mem _ (h)
theorem wc_X10_place : wk_at 8164 = some (.code yX10_place cX10_place 3 (some .int)) := rfl
theorem wq_X10_place : (wk ix_X10_place).all goodWord = true := wk_good gdx_ok (by decide +kernel)
def ix_X11_init : List Nat := [2047, 2048, 7117, 7118, 7120, 7122, 7127, 7129, 7131, 7133, 7135, 7137]
def wsX11_init : List Cond := .code yX11_init cX11_init 1 none :: (wk ix_X11_init)
theorem wm_X11_init : ∀ w ∈ wk ix_X11_init, w ∈ wsX11_init := fun _ h => List.mem_cons_of_mem _ (h)
theorem wc_X11_init : wk_at 7116 = some (.code yX11_init cX11_init 1 none) := rfl
theorem wq_X11_init : (wk ix_X11_init).all goodWord = true := wk_good gdx_ok (by decide +kernel)
def ix_X12_init : List Nat := [2047, 2048, 8078, 8085, 8087, 8089, 8091, 8093, 8095, 8097]
def wsX12_init : List Cond := .code yX12_init cX12_init 1 none :: (wk ix_X12_init)
theorem wm_X12_init : ∀ w ∈ wk ix_X12_init, w ∈ wsX12_init := fun _ h => List.mem_cons_of_mem _ (h)
theorem wc_X12_init : wk_at 8077 = some (.code yX12_init cX12_init 1 none) := rfl
theorem wq_X12_init : (wk ix_X12_init).all goodWord = true := wk_good gdx_ok (by decide +kernel)
def ix_X12_isNightmare : List Nat := [8081, 8087, 8089, 8091, 8093, 8095, 8097]
def wsX12_isNightmare : List Cond := .code yX12_isNightmare cX12_isNightmare 1 (some .boolean) :: (wk ix_X12_isNightmare)
theorem wm_X12_isNightmare : ∀ w ∈ wk ix_X12_isNightmare, w ∈ wsX12_isNightmare := fun _ h => List.mem_cons_of_mem _ (h)
theorem wc_X12_isNightmare : wk_at 8211 = some (.code yX12_isNightmare cX12_isNightmare 1 (some .boolean)) := rfl
theorem wq_X12_isNightmare : (wk ix_X12_isNightmare).all goodWord = true := wk_good gdx_ok (by decide +kernel)
def ix_X13_init : List Nat := [2047, 2048, 8033, 8038, 8041, 8044, 8046, 8048, 8050, 8052, 8054, 8056, 8058, 8060, 8062]
def wsX13_init : List Cond := .code yX13_init cX13_init 1 none :: (wk ix_X13_init)
theorem wm_X13_init : ∀ w ∈ wk ix_X13_init, w ∈ wsX13_init := fun _ h => List.mem_cons_of_mem _ (h)
theorem wc_X13_init : wk_at 8032 = some (.code yX13_init cX13_init 1 none) := rfl
theorem wq_X13_init : (wk ix_X13_init).all goodWord = true := wk_good gdx_ok (by decide +kernel)
def ix_X14_init : List Nat := [2002, 2003, 2004, 2008, 2047, 2048, 2052, 2054, 2055, 2056, 2057, 2058, 2059, 2060, 2061, 2062, 2063, 2065, 2069, 2073, 2075, 2077, 7108, 7109, 7111, 7112, 7113, 7115, 7116, 7117, 7118, 7120, 7122, 7127, 7129, 7131, 7133, 7135, 7137, 7140, 7144, 7147, 7148, 7149, 7150, 7151, 7152, 7154, 7156, 7158, 7160, 7162, 7164, 7166, 7168, 7170, 7172, 7174, 7176, 7178]
def wsX14_init : List Cond := .code yX14_init cX14_init 2 none :: (wk ix_X14_init)
theorem wm_X14_init : ∀ w ∈ wk ix_X14_init, w ∈ wsX14_init := fun _ h => List.mem_cons_of_mem _ (h)
theorem wc_X14_init : wk_at 7107 = some (.code yX14_init cX14_init 2 none) := rfl
theorem wq_X14_init : (wk ix_X14_init).all goodWord = true := wk_good gdx_ok (by decide +kernel)
def ix_X14_thrown : List Nat := [7141, 7154, 7156, 7158, 7160, 7162, 7164, 7166, 7168, 7170, 7172, 7174, 7176, 7178]
def wsX14_thrown : List Cond := .code yX14_thrown cX14_thrown 1 (some .int) :: (wk ix_X14_thrown)
theorem wm_X14_thrown : ∀ w ∈ wk ix_X14_thrown, w ∈ wsX14_thrown := fun _ h => List.mem_cons_of_mem _ (h)
theorem wc_X14_thrown : wk_at 7184 = some (.code yX14_thrown cX14_thrown 1 (some .int)) := rfl
theorem wq_X14_thrown : (wk ix_X14_thrown).all goodWord = true := wk_good gdx_ok (by decide +kernel)
def ix_X14_refuse : List Nat := [7141, 7154, 7156, 7158, 7160, 7162, 7164, 7166, 7168, 7170, 7172, 7174, 7176, 7178]
def wsX14_refuse : List Cond := .code yX14_refuse cX14_refuse 2 (some .int) :: (wk ix_X14_refuse)
theorem wm_X14_refuse : ∀ w ∈ wk ix_X14_refuse, w ∈ wsX14_refuse := fun _ h => List.mem_cons_of_mem _ (h)
theorem wc_X14_refuse : wk_at 7199 = some (.code yX14_refuse cX14_refuse 2 (some .int)) := rfl
theorem wq_X14_refuse : (wk ix_X14_refuse).all goodWord = true := wk_good gdx_ok (by decide +kernel)
def ix_X14_is : List Nat := []
def wsX14_is : List Cond := .code yX14_is cX14_is 3 (some .boolean) :: (wk ix_X14_is)
theorem wm_X14_is : ∀ w ∈ wk ix_X14_is, w ∈ wsX14_is := fun _ h => List.mem_cons_of_mem _ (h)
theorem wc_X14_is : wk_at 7195 = some (.code yX14_is cX14_is 3 (some .boolean)) := rfl
theorem wq_X14_is : (wk ix_X14_is).all goodWord = true := wk_good gdx_ok (by decide +kernel)
def ix_X14_isLand : List Nat := [2007, 7193, 7194, 7195]
def wsX14_isLand : List Cond := .code yX14_isLand cX14_isLand 2 (some .boolean) :: (wk ix_X14_isLand)
theorem wm_X14_isLand : ∀ w ∈ wk ix_X14_isLand, w ∈ wsX14_isLand := fun _ h => List.mem_cons_of_mem _ (h)
theorem wc_X14_isLand : wk_at 7192 = some (.code yX14_isLand cX14_isLand 2 (some .boolean)) := rfl
theorem wq_X14_isLand : (wk ix_X14_isLand).all goodWord = true := wk_good gdx_ok (by decide +kernel)
def ix_X14_isGate : List Nat := [2004, 2007, 2068, 2073, 2075, 2077, 2171, 2172, 2173, 7148, 7154, 7156, 7158, 7160, 7162, 7164, 7166, 7168, 7170, 7172, 7174, 7176, 7178, 7193, 7194, 7195, 7208]
def wsX14_isGate : List Cond := .code yX14_isGate cX14_isGate 2 (some .boolean) :: (wk ix_X14_isGate)
theorem wm_X14_isGate : ∀ w ∈ wk ix_X14_isGate, w ∈ wsX14_isGate := fun _ h => List.mem_cons_of_mem _ (h)
theorem wc_X14_isGate : wk_at 8018 = some (.code yX14_isGate cX14_isGate 2 (some .boolean)) := rfl
theorem wq_X14_isGate : (wk ix_X14_isGate).all goodWord = true := wk_good gdx_ok (by decide +kernel)
def ix_X14_isSleeper : List Nat := [2004, 2007, 2068, 2073, 2075, 2077, 2171, 2172, 2173, 7149, 7154, 7156, 7158, 7160, 7162, 7164, 7166, 7168, 7170, 7172, 7174, 7176, 7178, 7193, 7194, 7195, 7208]
def wsX14_isSleeper : List Cond := .code yX14_isSleeper cX14_isSleeper 2 (some .boolean) :: (wk ix_X14_isSleeper)
theorem wm_X14_isSleeper : ∀ w ∈ wk ix_X14_isSleeper, w ∈ wsX14_isSleeper := fun _ h => List.mem_cons_of_mem _ (h)
theorem wc_X14_isSleeper : wk_at 8072 = some (.code yX14_isSleeper cX14_isSleeper 2 (some .boolean)) := rfl
theorem wq_X14_isSleeper : (wk ix_X14_isSleeper).all goodWord = true := wk_good gdx_ok (by decide +kernel)
def ix_X14_isPart : List Nat := [2004, 2007, 2068, 2073, 2075, 2077, 2171, 2172, 2173, 7150, 7154, 7156, 7158, 7160, 7162, 7164, 7166, 7168, 7170, 7172, 7174, 7176, 7178, 7193, 7194, 7195, 7208]
def wsX14_isPart : List Cond := .code yX14_isPart cX14_isPart 2 (some .boolean) :: (wk ix_X14_isPart)
theorem wm_X14_isPart : ∀ w ∈ wk ix_X14_isPart, w ∈ wsX14_isPart := fun _ h => List.mem_cons_of_mem _ (h)
theorem wc_X14_isPart : wk_at 8107 = some (.code yX14_isPart cX14_isPart 2 (some .boolean)) := rfl
theorem wq_X14_isPart : (wk ix_X14_isPart).all goodWord = true := wk_good gdx_ok (by decide +kernel)
def ix_X14_land : List Nat := [1045, 1046, 2007, 7127, 7129, 7131, 7133, 7135, 7137, 7141, 7147, 7154, 7156, 7158, 7160, 7162, 7164, 7166, 7168, 7170, 7172, 7174, 7176, 7178, 7189, 7191, 7192, 7193, 7194, 7195, 7196, 7198, 7199]
def wsX14_land : List Cond := .code yX14_land cX14_land 5 (some .int) :: (wk ix_X14_land)
theorem wm_X14_land : ∀ w ∈ wk ix_X14_land, w ∈ wsX14_land := fun _ h => List.mem_cons_of_mem _ (h)
theorem wc_X14_land : wk_at 7188 = some (.code yX14_land cX14_land 5 (some .int)) := rfl
theorem wq_X14_land : (wk ix_X14_land).all goodWord = true := wk_good gdx_ok (by decide +kernel)
def ix_X14_trade : List Nat := [1045, 1046, 2007, 7127, 7129, 7131, 7133, 7135, 7137, 7141, 7147, 7154, 7156, 7158, 7160, 7162, 7164, 7166, 7168, 7170, 7172, 7174, 7176, 7178, 7189, 7191, 7192, 7193, 7194, 7195, 7196, 7198, 7199]
def wsX14_trade : List Cond := .code yX14_trade cX14_trade 4 (some .int) :: (wk ix_X14_trade)
theorem wm_X14_trade : ∀ w ∈ wk ix_X14_trade, w ∈ wsX14_trade := fun _ h => List.mem_cons_of_mem _ (h)
theorem wc_X14_trade : wk_at 7203 = some (.code yX14_trade cX14_trade 4 (some .int)) := rfl
theorem wq_X14_trade : (wk ix_X14_trade).all goodWord = true := wk_good gdx_ok (by decide +kernel)
def ix_X14_gate : List Nat := [1030, 1031, 1032, 1045, 1046, 2002, 2003, 2004, 2007, 2018, 2019, 2020, 2021, 2022, 2047, 2048, 2052, 2054, 2055, 2056, 2057, 2058, 2059, 2060, 2061, 2062, 2063, 2065, 2068, 2069, 2071, 2072, 2073, 2075, 2077, 2171, 2172, 2173, 4021, 4022, 4027, 4028, 4158, 4159, 4160, 4161, 4163, 4164, 4165, 4167, 4168, 4169, 4171, 4172, 4173, 4174, 4175, 4176, 4177, 4178, 4179, 4180, 4181, 4182, 4183, 4184, 4185, 4210, 4211, 4212, 4213, 4214, 4216, 4217, 4218, 4219, 4220, 4221, 4222, 7140, 7141, 7148, 7154, 7156, 7158, 7160, 7162, 7164, 7166, 7168, 7170, 7172, 7174, 7176, 7178, 7189, 7191, 7192, 7193, 7194, 7195, 7196, 7198, 7199, 7208, 7209, 7210, 7212, 7213, 7214, 7215, 7216, 7225, 7229, 7231, 7233, 7235, 7237, 7239, 8001, 8003, 8005, 8007, 8010, 9190]
def wsX14_gate : List Cond := .code yX14_gate cX14_gate 6 (some .int) :: (wk ix_X14_gate)
theorem wm_X14_gate : ∀ w ∈ wk ix_X14_gate, w ∈ wsX14_gate := fun _ h => List.mem_cons_of_mem _ (h)
theorem wc_X14_gate : wk_at 7207 = some (.code yX14_gate cX14_gate 6 (some .int)) := rfl
theorem wq_X14_gate : (wk ix_X14_gate).all goodWord = true := wk_good gdx_ok (by decide +kernel)
def ix_X14_odds : List Nat := [1046, 1047, 2004, 2007, 2023, 2024, 2065, 2068, 2073, 2075, 2077, 2171, 2172, 2173, 2175, 2176, 2177, 2178, 2179, 2180, 2181, 2182, 2183, 2184, 2185, 2186, 2187, 7141, 7148, 7154, 7156, 7158, 7160, 7162, 7164, 7166, 7168, 7170, 7172, 7174, 7176, 7178, 7193, 7194, 7195, 7196, 7198, 7199, 7208, 7209, 7233, 7235, 7237, 7239, 8001, 8003, 8005, 8007, 8015, 8017, 8018, 8019]
def wsX14_odds : List Cond := .code yX14_odds cX14_odds 4 (some .int) :: (wk ix_X14_odds)
theorem wm_X14_odds : ∀ w ∈ wk ix_X14_odds, w ∈ wsX14_odds := fun _ h => List.mem_cons_of_mem _ (h)
theorem wc_X14_odds : wk_at 8014 = some (.code yX14_odds cX14_odds 4 (some .int)) := rfl
theorem wq_X14_odds : (wk ix_X14_odds).all goodWord = true := wk_good gdx_ok (by decide +kernel)
def ix_X14_relieve : List Nat := [1046, 1047, 2004, 2007, 2023, 2024, 2065, 2068, 2073, 2075, 2077, 2171, 2172, 2173, 2175, 2176, 2177, 2178, 2179, 2180, 2181, 2182, 2183, 2184, 2185, 2186, 2187, 7141, 7148, 7154, 7156, 7158, 7160, 7162, 7164, 7166, 7168, 7170, 7172, 7174, 7176, 7178, 7193, 7194, 7195, 7196, 7198, 7199, 7208, 7209, 7233, 7235, 7237, 7239, 8001, 8003, 8005, 8007, 8015, 8017, 8018, 8019]
def wsX14_relieve : List Cond := .code yX14_relieve cX14_relieve 3 (some .int) :: (wk ix_X14_relieve)
theorem wm_X14_relieve : ∀ w ∈ wk ix_X14_relieve, w ∈ wsX14_relieve := fun _ h => List.mem_cons_of_mem _ (h)
theorem wc_X14_relieve : wk_at 8023 = some (.code yX14_relieve cX14_relieve 3 (some .int)) := rfl
theorem wq_X14_relieve : (wk ix_X14_relieve).all goodWord = true := wk_good gdx_ok (by decide +kernel)
def ix_X14_sleeper : List Nat := [1030, 1031, 1032, 1045, 1046, 2004, 2007, 2018, 2019, 2020, 2021, 2026, 2047, 2048, 2063, 2065, 2068, 2071, 2072, 2073, 2075, 2077, 2171, 2172, 2173, 4021, 4022, 4027, 4028, 4158, 4159, 4160, 4161, 4163, 4164, 4165, 4167, 4168, 4169, 4171, 4172, 4173, 4174, 4175, 4176, 4177, 4178, 4179, 4180, 4181, 4182, 4183, 4184, 4185, 4210, 4211, 4212, 4213, 4214, 4216, 4217, 4218, 4219, 4220, 4221, 4222, 7141, 7149, 7154, 7156, 7158, 7160, 7162, 7164, 7166, 7168, 7170, 7172, 7174, 7176, 7178, 7189, 7191, 7192, 7193, 7194, 7195, 7196, 7198, 7199, 7208, 8010, 8028, 8029, 8031, 8032, 8033, 8038, 8041, 8044, 8046, 8048, 8050, 8052, 8054, 8056, 8058, 8060, 8062, 9190]
def wsX14_sleeper : List Cond := .code yX14_sleeper cX14_sleeper 5 (some .int) :: (wk ix_X14_sleeper)
theorem wm_X14_sleeper : ∀ w ∈ wk ix_X14_sleeper, w ∈ wsX14_sleeper := fun _ h => List.mem_cons_of_mem _ (h)
theorem wc_X14_sleeper : wk_at 8027 = some (.code yX14_sleeper cX14_sleeper 5 (some .int)) := rfl
theorem wq_X14_sleeper : (wk ix_X14_sleeper).all goodWord = true := wk_good gdx_ok (by decide +kernel)
def ix_X14_part : List Nat := [1030, 1031, 1032, 1046, 1048, 2004, 2007, 2018, 2019, 2020, 2021, 2023, 2024, 2028, 2047, 2048, 2063, 2065, 2068, 2071, 2072, 2073, 2075, 2077, 2171, 2172, 2173, 2175, 2176, 2177, 2178, 2179, 2180, 2181, 2182, 2183, 2184, 2185, 2186, 2187, 4021, 4022, 4027, 4028, 4158, 4159, 4160, 4161, 4163, 4164, 4165, 4167, 4168, 4169, 4171, 4172, 4173, 4174, 4175, 4176, 4177, 4178, 4179, 4180, 4181, 4182, 4183, 4184, 4185, 4210, 4211, 4212, 4213, 4214, 4216, 4217, 4218, 4219, 4220, 4221, 4222, 7141, 7149, 7150, 7154, 7156, 7158, 7160, 7162, 7164, 7166, 7168, 7170, 7172, 7174, 7176, 7178, 7193, 7194, 7195, 7196, 7198, 7199, 7208, 8010, 8019, 8028, 8046, 8048, 8050, 8052, 8054, 8056, 8058, 8060, 8062, 8069, 8071, 8072, 8073, 8074, 8076, 8077, 8078, 8085, 8087, 8089, 8091, 8093, 8095, 8097, 9190]
def wsX14_part : List Cond := .code yX14_part cX14_part 6 (some .int) :: (wk ix_X14_part)
theorem wm_X14_part : ∀ w ∈ wk ix_X14_part, w ∈ wsX14_part := fun _ h => List.mem_cons_of_mem _ (h)
theorem wc_X14_part : wk_at 8068 = some (.code yX14_part cX14_part 6 (some .int)) := rfl
theorem wq_X14_part : (wk ix_X14_part).all goodWord = true := wk_good gdx_ok (by decide +kernel)
def ix_X14_give : List Nat := [1046, 1048, 1049, 2004, 2007, 2023, 2024, 2065, 2068, 2073, 2075, 2077, 2171, 2172, 2173, 2175, 2176, 2177, 2178, 2179, 2180, 2181, 2182, 2183, 2184, 2185, 2186, 2187, 7141, 7149, 7150, 7154, 7156, 7158, 7160, 7162, 7164, 7166, 7168, 7170, 7172, 7174, 7176, 7178, 7193, 7194, 7195, 7196, 7198, 7199, 7208, 8019, 8028, 8046, 8048, 8050, 8052, 8054, 8056, 8058, 8060, 8062, 8069, 8071, 8072, 8073, 8087, 8089, 8091, 8093, 8095, 8097, 8104, 8106, 8107]
def wsX14_give : List Cond := .code yX14_give cX14_give 6 (some .int) :: (wk ix_X14_give)
theorem wm_X14_give : ∀ w ∈ wk ix_X14_give, w ∈ wsX14_give := fun _ h => List.mem_cons_of_mem _ (h)
theorem wc_X14_give : wk_at 8103 = some (.code yX14_give cX14_give 6 (some .int)) := rfl
theorem wq_X14_give : (wk ix_X14_give).all goodWord = true := wk_good gdx_ok (by decide +kernel)
def ix_X14_right : List Nat := []
def wsX14_right : List Cond := .code yX14_right cX14_right 3 (some .int) :: (wk ix_X14_right)
theorem wm_X14_right : ∀ w ∈ wk ix_X14_right, w ∈ wsX14_right := fun _ h => List.mem_cons_of_mem _ (h)
theorem wc_X14_right : wk_at 8114 = some (.code yX14_right cX14_right 3 (some .int)) := rfl
theorem wq_X14_right : (wk ix_X14_right).all goodWord = true := wk_good gdx_ok (by decide +kernel)
def ix_X14_sing : List Nat := [1046, 1047, 1048, 2004, 2007, 2023, 2024, 2065, 2068, 2073, 2075, 2077, 2171, 2172, 2173, 2175, 2176, 2177, 2178, 2179, 2180, 2181, 2182, 2183, 2184, 2185, 2186, 2187, 7141, 7142, 7148, 7149, 7154, 7156, 7158, 7160, 7162, 7164, 7166, 7168, 7170, 7172, 7174, 7176, 7178, 7193, 7194, 7195, 7196, 7198, 7199, 7208, 8015, 8017, 8018, 8019, 8028, 8046, 8048, 8050, 8052, 8054, 8056, 8058, 8060, 8062, 8069, 8071, 8072, 8112, 8113, 8114]
def wsX14_sing : List Cond := .code yX14_sing cX14_sing 6 (some .int) :: (wk ix_X14_sing)
theorem wm_X14_sing : ∀ w ∈ wk ix_X14_sing, w ∈ wsX14_sing := fun _ h => List.mem_cons_of_mem _ (h)
theorem wc_X14_sing : wk_at 8111 = some (.code yX14_sing cX14_sing 6 (some .int)) := rfl
theorem wq_X14_sing : (wk ix_X14_sing).all goodWord = true := wk_good gdx_ok (by decide +kernel)
def ix_X14_revoke : List Nat := [1047, 2004, 2007, 2023, 2024, 2065, 2068, 2073, 2075, 2077, 2171, 2172, 2173, 2175, 2176, 2177, 2178, 2179, 2180, 2181, 2182, 2183, 2184, 2185, 2186, 2187, 7141, 7148, 7154, 7156, 7158, 7160, 7162, 7164, 7166, 7168, 7170, 7172, 7174, 7176, 7178, 7193, 7194, 7195, 7208, 7209, 7233, 7235, 7237, 7239, 8001, 8003, 8005, 8007, 8015, 8017, 8018, 8019]
def wsX14_revoke : List Cond := .code yX14_revoke cX14_revoke 4 (some .boolean) :: (wk ix_X14_revoke)
theorem wm_X14_revoke : ∀ w ∈ wk ix_X14_revoke, w ∈ wsX14_revoke := fun _ h => List.mem_cons_of_mem _ (h)
theorem wc_X14_revoke : wk_at 8118 = some (.code yX14_revoke cX14_revoke 4 (some .boolean)) := rfl
theorem wq_X14_revoke : (wk ix_X14_revoke).all goodWord = true := wk_good gdx_ok (by decide +kernel)
def ix_X14_head : List Nat := [2004, 2023, 2024, 2065, 2068, 2073, 2075, 2077, 2171, 2172, 2173, 2175, 2176, 2177, 2178, 2179, 2180, 2181, 2182, 2183, 2184, 2185, 2186, 2187, 7150, 7154, 7156, 7158, 7160, 7162, 7164, 7166, 7168, 7170, 7172, 7174, 7176, 7178, 7208, 8019, 8073, 8087, 8089, 8091, 8093, 8095, 8097]
def wsX14_head : List Cond := .code yX14_head cX14_head 4 (some .int) :: (wk ix_X14_head)
theorem wm_X14_head : ∀ w ∈ wk ix_X14_head, w ∈ wsX14_head := fun _ h => List.mem_cons_of_mem _ (h)
theorem wc_X14_head : wk_at 8126 = some (.code yX14_head cX14_head 4 (some .int)) := rfl
theorem wq_X14_head : (wk ix_X14_head).all goodWord = true := wk_good gdx_ok (by decide +kernel)
def ix_Jxd2413_init_da8c8 : List Nat := [2047, 2048, 8151]
def wsJxd2413_init_da8c8 : List Cond := .code yJxd2413_init_da8c8 cJxd2413_init_da8c8 1 none :: (wk ix_Jxd2413_init_da8c8)
theorem wm_Jxd2413_init_da8c8 : ∀ w ∈ wk ix_Jxd2413_init_da8c8, w ∈ wsJxd2413_init_da8c8 := fun _ h => List.mem_cons_of_mem _ (h)
theorem wc_Jxd2413_init_da8c8 : wk_at 8150 = some (.code yJxd2413_init_da8c8 cJxd2413_init_da8c8 1 none) := rfl
theorem wq_Jxd2413_init_da8c8 : (wk ix_Jxd2413_init_da8c8).all goodWord = true := wk_good gdx_ok (by decide +kernel)
def ix_J6_init_d00df : List Nat := [2035, 2047, 2048, 8148, 8149, 8150, 8151, 8152, 8153]
def wsJ6_init_d00df : List Cond := .code yJ6_init_d00df cJ6_init_d00df 2 none :: (wk ix_J6_init_d00df)
theorem wm_J6_init_d00df : ∀ w ∈ wk ix_J6_init_d00df, w ∈ wsJ6_init_d00df := fun _ h => List.mem_cons_of_mem _ (h)
theorem wc_J6_init_d00df : wk_at 8147 = some (.code yJ6_init_d00df cJ6_init_d00df 2 none) := rfl
theorem wq_J6_init_d00df : (wk ix_J6_init_d00df).all goodWord = true := wk_good gdx_ok (by decide +kernel)
def ix_J6_valueOf_2dffe : List Nat := [2035, 2036, 2047, 2048, 8139, 8141, 8143, 8144, 8145, 8146, 8147, 8148, 8149, 8150, 8151, 8152, 8153]
def wsJ6_valueOf_2dffe : List Cond := .code yJ6_valueOf_2dffe cJ6_valueOf_2dffe 1 (some (.object "java/lang/Integer")) :: (wk ix_J6_valueOf_2dffe)
theorem wm_J6_valueOf_2dffe : ∀ w ∈ wk ix_J6_valueOf_2dffe, w ∈ wsJ6_valueOf_2dffe := fun _ h => List.mem_cons_of_mem _ (h)
theorem wc_J6_valueOf_2dffe : wk_at 8138 = some (.code yJ6_valueOf_2dffe cJ6_valueOf_2dffe 1 (some (.object "java/lang/Integer"))) := rfl
theorem wq_J6_valueOf_2dffe : (wk ix_J6_valueOf_2dffe).all goodWord = true := wk_good gdx_ok (by decide +kernel)
def ix_X14_join : List Nat := [1031, 1032, 1033, 1046, 1047, 1048, 1050, 2004, 2007, 2018, 2019, 2020, 2021, 2022, 2023, 2024, 2035, 2036, 2047, 2048, 2063, 2065, 2068, 2071, 2072, 2073, 2075, 2077, 2171, 2172, 2173, 2175, 2176, 2177, 2178, 2179, 2180, 2181, 2182, 2183, 2184, 2185, 2186, 2187, 4021, 4022, 4027, 4028, 4165, 4167, 4168, 4169, 4171, 4172, 4173, 4174, 4175, 4176, 4177, 4178, 4179, 4180, 4181, 4182, 4183, 4184, 4185, 4210, 4211, 4212, 4213, 4214, 4216, 4217, 4218, 4219, 4220, 4221, 4222, 5153, 5154, 5155, 5156, 5158, 5159, 6157, 7141, 7148, 7149, 7150, 7154, 7156, 7158, 7160, 7162, 7164, 7166, 7168, 7170, 7172, 7174, 7176, 7178, 7193, 7194, 7195, 7196, 7198, 7199, 7208, 7209, 7217, 7219, 7233, 7235, 7237, 7239, 8001, 8003, 8005, 8007, 8015, 8017, 8018, 8019, 8028, 8046, 8048, 8050, 8052, 8054, 8056, 8058, 8060, 8062, 8069, 8071, 8072, 8073, 8087, 8089, 8091, 8093, 8095, 8097, 8123, 8125, 8126, 8127, 8128, 8129, 8130, 8131, 8132, 8133, 8134, 8135, 8136, 8137, 8138, 8139, 8141, 8143, 8144, 8145, 8146, 8147, 8148, 8149, 8150, 8151, 8152, 8153, 8156, 9190]
def wsX14_join : List Cond := .code yX14_join cX14_join 7 (some .int) :: (wk ix_X14_join)
theorem wm_X14_join : ∀ w ∈ wk ix_X14_join, w ∈ wsX14_join := fun _ h => List.mem_cons_of_mem _ (h)
theorem wc_X14_join : wk_at 8122 = some (.code yX14_join cX14_join 7 (some .int)) := rfl
theorem wq_X14_join : (wk ix_X14_join).all goodWord = true := wk_good gdx_ok (by decide +kernel)
def ix_X14_stepOut : List Nat := [1035, 2004, 2021, 2022, 2023, 2024, 2036, 2065, 2068, 2071, 2072, 2073, 2075, 2077, 2171, 2172, 2173, 2175, 2176, 2177, 2178, 2179, 2180, 2181, 2182, 2183, 2184, 2185, 2186, 2187, 4219, 4220, 6157, 6171, 6172, 6173, 6174, 6176, 6177, 7148, 7149, 7150, 7154, 7156, 7158, 7160, 7162, 7164, 7166, 7168, 7170, 7172, 7174, 7176, 7178, 7208, 7209, 7229, 7233, 7235, 7237, 7239, 8001, 8003, 8005, 8007, 8019, 8028, 8046, 8048, 8050, 8052, 8054, 8056, 8058, 8060, 8062, 8073, 8087, 8089, 8091, 8093, 8095, 8097, 8133, 8134, 8135, 8152, 8153, 8161, 8162, 8163, 8164, 8165, 8166, 8167, 8168, 8173]
def wsX14_stepOut : List Cond := .code yX14_stepOut cX14_stepOut 6 none :: (wk ix_X14_stepOut)
theorem wm_X14_stepOut : ∀ w ∈ wk ix_X14_stepOut, w ∈ wsX14_stepOut := fun _ h => List.mem_cons_of_mem _ (h)
theorem wc_X14_stepOut : wk_at 8172 = some (.code yX14_stepOut cX14_stepOut 6 none) := rfl
theorem wq_X14_stepOut : (wk ix_X14_stepOut).all goodWord = true := wk_good gdx_ok (by decide +kernel)
def ix_X14_leave : List Nat := [1035, 1046, 1048, 1051, 2004, 2007, 2021, 2022, 2023, 2024, 2036, 2065, 2068, 2071, 2072, 2073, 2075, 2077, 2171, 2172, 2173, 2175, 2176, 2177, 2178, 2179, 2180, 2181, 2182, 2183, 2184, 2185, 2186, 2187, 4219, 4220, 6157, 6171, 6172, 6173, 6174, 6176, 6177, 7141, 7148, 7149, 7150, 7154, 7156, 7158, 7160, 7162, 7164, 7166, 7168, 7170, 7172, 7174, 7176, 7178, 7193, 7194, 7195, 7196, 7198, 7199, 7208, 7209, 7229, 7233, 7235, 7237, 7239, 8001, 8003, 8005, 8007, 8019, 8028, 8046, 8048, 8050, 8052, 8054, 8056, 8058, 8060, 8062, 8069, 8071, 8072, 8073, 8087, 8089, 8091, 8093, 8095, 8097, 8133, 8134, 8135, 8152, 8153, 8161, 8162, 8163, 8164, 8165, 8166, 8167, 8168, 8169, 8171, 8172, 8173]
def wsX14_leave : List Cond := .code yX14_leave cX14_leave 4 (some .int) :: (wk ix_X14_leave)
theorem wm_X14_leave : ∀ w ∈ wk ix_X14_leave, w ∈ wsX14_leave := fun _ h => List.mem_cons_of_mem _ (h)
theorem wc_X14_leave : wk_at 8160 = some (.code yX14_leave cX14_leave 4 (some .int)) := rfl
theorem wq_X14_leave : (wk ix_X14_leave).all goodWord = true := wk_good gdx_ok (by decide +kernel)
def ix_X14_isGoodNow : List Nat := [2004, 2007, 2019, 2022, 2023, 2024, 2065, 2068, 2073, 2075, 2077, 2175, 2176, 2177, 2178, 2179, 2180, 2181, 2182, 2183, 2184, 2185, 2186, 2187, 3169, 3170, 7142, 7148, 7149, 7154, 7156, 7158, 7160, 7162, 7164, 7166, 7168, 7170, 7172, 7174, 7176, 7178, 7209, 7227, 7233, 7235, 7237, 7239, 8001, 8003, 8005, 8007, 8019, 8028, 8046, 8048, 8050, 8052, 8054, 8056, 8058, 8060, 8062, 8112, 8113, 8114, 8187, 8188, 8189, 8190, 8191]
def wsX14_isGoodNow : List Cond := .code yX14_isGoodNow cX14_isGoodNow 6 (some .boolean) :: (wk ix_X14_isGoodNow)
theorem wm_X14_isGoodNow : ∀ w ∈ wk ix_X14_isGoodNow, w ∈ wsX14_isGoodNow := fun _ h => List.mem_cons_of_mem _ (h)
theorem wc_X14_isGoodNow : wk_at 8186 = some (.code yX14_isGoodNow cX14_isGoodNow 6 (some .boolean)) := rfl
theorem wq_X14_isGoodNow : (wk ix_X14_isGoodNow).all goodWord = true := wk_good gdx_ok (by decide +kernel)
def ix_X14_comeIn : List Nat := [2004, 2023, 2024, 2028, 2065, 2068, 2073, 2075, 2077, 2171, 2172, 2173, 2175, 2176, 2177, 2178, 2179, 2180, 2181, 2182, 2183, 2184, 2185, 2186, 2187, 7127, 7129, 7131, 7133, 7135, 7137, 7147, 7149, 7150, 7154, 7156, 7158, 7160, 7162, 7164, 7166, 7168, 7170, 7172, 7174, 7176, 7178, 7208, 8019, 8028, 8046, 8048, 8050, 8052, 8054, 8056, 8058, 8060, 8062, 8073, 8081, 8087, 8089, 8091, 8093, 8095, 8097, 8208, 8209, 8210, 8211]
def wsX14_comeIn : List Cond := .code yX14_comeIn cX14_comeIn 11 (some .int) :: (wk ix_X14_comeIn)
theorem wm_X14_comeIn : ∀ w ∈ wk ix_X14_comeIn, w ∈ wsX14_comeIn := fun _ h => List.mem_cons_of_mem _ (h)
theorem wc_X14_comeIn : wk_at 8207 = some (.code yX14_comeIn cX14_comeIn 11 (some .int)) := rfl
theorem wq_X14_comeIn : (wk ix_X14_comeIn).all goodWord = true := wk_good gdx_ok (by decide +kernel)
def ix_X14_duty : List Nat := [2019, 4027, 4028, 7127, 7129, 7131, 7133, 7135, 7137, 8216]
def wsX14_duty : List Cond := .code yX14_duty cX14_duty 3 (some .int) :: (wk ix_X14_duty)
theorem wm_X14_duty : ∀ w ∈ wk ix_X14_duty, w ∈ wsX14_duty := fun _ h => List.mem_cons_of_mem _ (h)
theorem wc_X14_duty : wk_at 8215 = some (.code yX14_duty cX14_duty 3 (some .int)) := rfl
theorem wq_X14_duty : (wk ix_X14_duty).all goodWord = true := wk_good gdx_ok (by decide +kernel)
def ix_X14_hide : List Nat := [1030, 1031, 1032, 2004, 2018, 2019, 2020, 2021, 2035, 2036, 2047, 2048, 2063, 2065, 2068, 2071, 2072, 2073, 2075, 2077, 2171, 2172, 2173, 4021, 4022, 4027, 4028, 4158, 4159, 4160, 4161, 4163, 4164, 4165, 4167, 4168, 4169, 4171, 4172, 4173, 4174, 4175, 4176, 4177, 4178, 4179, 4180, 4181, 4182, 4183, 4184, 4185, 4210, 4211, 4212, 4213, 4214, 4216, 4217, 4218, 4219, 4220, 4221, 4222, 7142, 7151, 7154, 7156, 7158, 7160, 7162, 7164, 7166, 7168, 7170, 7172, 7174, 7176, 7178, 7208, 8010, 8136, 8137, 8138, 8139, 8141, 8143, 8144, 8145, 8146, 8147, 8148, 8149, 8150, 8151, 8152, 8153, 9190]
def wsX14_hide : List Cond := .code yX14_hide cX14_hide 3 none :: (wk ix_X14_hide)
theorem wm_X14_hide : ∀ w ∈ wk ix_X14_hide, w ∈ wsX14_hide := fun _ h => List.mem_cons_of_mem _ (h)
theorem wc_X14_hide : wk_at 8203 = some (.code yX14_hide cX14_hide 3 none) := rfl
theorem wq_X14_hide : (wk ix_X14_hide).all goodWord = true := wk_good gdx_ok (by decide +kernel)
def ix_X14_comeThrough : List Nat := [1030, 1031, 1032, 1054, 1055, 1056, 2004, 2007, 2018, 2019, 2020, 2021, 2022, 2023, 2024, 2028, 2035, 2036, 2047, 2048, 2063, 2065, 2068, 2071, 2072, 2073, 2075, 2077, 2171, 2172, 2173, 2175, 2176, 2177, 2178, 2179, 2180, 2181, 2182, 2183, 2184, 2185, 2186, 2187, 4021, 4022, 4027, 4028, 4158, 4159, 4160, 4161, 4163, 4164, 4165, 4167, 4168, 4169, 4171, 4172, 4173, 4174, 4175, 4176, 4177, 4178, 4179, 4180, 4181, 4182, 4183, 4184, 4185, 4210, 4211, 4212, 4213, 4214, 4216, 4217, 4218, 4219, 4220, 4221, 4222, 7127, 7129, 7131, 7133, 7135, 7137, 7142, 7144, 7145, 7147, 7149, 7150, 7151, 7154, 7156, 7158, 7160, 7162, 7164, 7166, 7168, 7170, 7172, 7174, 7176, 7178, 7208, 7217, 7219, 7227, 7233, 7235, 7237, 7239, 8001, 8003, 8005, 8007, 8010, 8019, 8028, 8046, 8048, 8050, 8052, 8054, 8056, 8058, 8060, 8062, 8073, 8081, 8087, 8089, 8091, 8093, 8095, 8097, 8136, 8137, 8138, 8139, 8141, 8143, 8144, 8145, 8146, 8147, 8148, 8149, 8150, 8151, 8152, 8153, 8188, 8189, 8190, 8191, 8196, 8197, 8198, 8199, 8200, 8202, 8203, 8204, 8206, 8207, 8208, 8209, 8210, 8211, 8212, 8214, 8215, 8216, 9190]
def wsX14_comeThrough : List Cond := .code yX14_comeThrough cX14_comeThrough 10 (some .int) :: (wk ix_X14_comeThrough)
theorem wm_X14_comeThrough : ∀ w ∈ wk ix_X14_comeThrough, w ∈ wsX14_comeThrough := fun _ h => List.mem_cons_of_mem _ (h)
theorem wc_X14_comeThrough : wk_at 8195 = some (.code yX14_comeThrough cX14_comeThrough 10 (some .int)) := rfl
theorem wq_X14_comeThrough : (wk ix_X14_comeThrough).all goodWord = true := wk_good gdx_ok (by decide +kernel)
def ix_X14_yawn : List Nat := [1030, 1031, 1032, 1035, 1046, 1047, 1051, 1052, 1053, 1054, 1055, 1056, 2004, 2007, 2018, 2019, 2020, 2021, 2022, 2023, 2024, 2028, 2035, 2036, 2047, 2048, 2063, 2065, 2068, 2071, 2072, 2073, 2075, 2077, 2171, 2172, 2173, 2175, 2176, 2177, 2178, 2179, 2180, 2181, 2182, 2183, 2184, 2185, 2186, 2187, 3131, 3132, 3133, 3169, 3170, 4021, 4022, 4027, 4028, 4158, 4159, 4160, 4161, 4163, 4164, 4165, 4167, 4168, 4169, 4171, 4172, 4173, 4174, 4175, 4176, 4177, 4178, 4179, 4180, 4181, 4182, 4183, 4184, 4185, 4210, 4211, 4212, 4213, 4214, 4216, 4217, 4218, 4219, 4220, 4221, 4222, 6157, 6171, 6172, 6173, 6174, 6176, 6177, 7127, 7129, 7131, 7133, 7135, 7137, 7141, 7142, 7143, 7144, 7145, 7146, 7147, 7148, 7149, 7150, 7151, 7154, 7156, 7158, 7160, 7162, 7164, 7166, 7168, 7170, 7172, 7174, 7176, 7178, 7193, 7194, 7195, 7196, 7198, 7199, 7208, 7209, 7217, 7219, 7221, 7223, 7227, 7229, 7233, 7235, 7237, 7239, 8001, 8003, 8005, 8007, 8010, 8015, 8017, 8018, 8019, 8028, 8046, 8048, 8050, 8052, 8054, 8056, 8058, 8060, 8062, 8073, 8081, 8087, 8089, 8091, 8093, 8095, 8097, 8112, 8113, 8114, 8131, 8132, 8133, 8134, 8135, 8136, 8137, 8138, 8139, 8141, 8143, 8144, 8145, 8146, 8147, 8148, 8149, 8150, 8151, 8152, 8153, 8161, 8162, 8163, 8164, 8165, 8166, 8167, 8168, 8169, 8171, 8172, 8173, 8178, 8179, 8180, 8181, 8182, 8183, 8185, 8186, 8187, 8188, 8189, 8190, 8191, 8192, 8194, 8195, 8196, 8197, 8198, 8199, 8200, 8202, 8203, 8204, 8206, 8207, 8208, 8209, 8210, 8211, 8212, 8214, 8215, 8216, 9190]
def wsX14_yawn : List Cond := .code yX14_yawn cX14_yawn 7 (some .int) :: (wk ix_X14_yawn)
theorem wm_X14_yawn : ∀ w ∈ wk ix_X14_yawn, w ∈ wsX14_yawn := fun _ h => List.mem_cons_of_mem _ (h)
theorem wc_X14_yawn : wk_at 8177 = some (.code yX14_yawn cX14_yawn 7 (some .int)) := rfl
theorem wq_X14_yawn : (wk ix_X14_yawn).all goodWord = true := wk_good gdx_ok (by decide +kernel)
def ix_X14_appeal : List Nat := [1049, 2004, 2007, 2023, 2024, 2065, 2068, 2073, 2075, 2077, 2171, 2172, 2173, 2175, 2176, 2177, 2178, 2179, 2180, 2181, 2182, 2183, 2184, 2185, 2186, 2187, 7127, 7129, 7131, 7133, 7135, 7137, 7141, 7147, 7149, 7150, 7154, 7156, 7158, 7160, 7162, 7164, 7166, 7168, 7170, 7172, 7174, 7176, 7178, 7193, 7194, 7195, 7208, 8019, 8028, 8046, 8048, 8050, 8052, 8054, 8056, 8058, 8060, 8062, 8073, 8087, 8089, 8091, 8093, 8095, 8097, 8104, 8106, 8107]
def wsX14_appeal : List Cond := .code yX14_appeal cX14_appeal 5 (some .boolean) :: (wk ix_X14_appeal)
theorem wm_X14_appeal : ∀ w ∈ wk ix_X14_appeal, w ∈ wsX14_appeal := fun _ h => List.mem_cons_of_mem _ (h)
theorem wc_X14_appeal : wk_at 8220 = some (.code yX14_appeal cX14_appeal 5 (some .boolean)) := rfl
theorem wq_X14_appeal : (wk ix_X14_appeal).all goodWord = true := wk_good gdx_ok (by decide +kernel)
def ix_Jx35411_init_45d68 : List Nat := [2047, 2048, 2070, 2071, 2073, 2075, 2077, 8238, 9000, 9001, 9002, 9003, 9005, 9007, 9009]
def wsJx35411_init_45d68 : List Cond := .code yJx35411_init_45d68 cJx35411_init_45d68 2 none :: (wk ix_Jx35411_init_45d68)
theorem wm_Jx35411_init_45d68 : ∀ w ∈ wk ix_Jx35411_init_45d68, w ∈ wsJx35411_init_45d68 := fun _ h => List.mem_cons_of_mem _ (h)
theorem wc_Jx35411_init_45d68 : wk_at 8237 = some (.code yJx35411_init_45d68 cJx35411_init_45d68 2 none) := rfl
theorem wq_Jx35411_init_45d68 : (wk ix_Jx35411_init_45d68).all goodWord = true := wk_good gdx_ok (by decide +kernel)
def ix_Jx4a65c_iterator_32c93 : List Nat := [2039, 2047, 2048, 2070, 2071, 2073, 2075, 2077, 8233, 8234, 8235, 8236, 8237, 8238, 9000, 9001, 9002, 9003, 9005, 9007, 9009]
def wsJx4a65c_iterator_32c93 : List Cond := .code yJx4a65c_iterator_32c93 cJx4a65c_iterator_32c93 1 (some (.object "java/util/Iterator")) :: (wk ix_Jx4a65c_iterator_32c93)
theorem wm_Jx4a65c_iterator_32c93 : ∀ w ∈ wk ix_Jx4a65c_iterator_32c93, w ∈ wsJx4a65c_iterator_32c93 := fun _ h => List.mem_cons_of_mem _ (h)
theorem wc_Jx4a65c_iterator_32c93 : wk_at 8232 = some (.code yJx4a65c_iterator_32c93 cJx4a65c_iterator_32c93 1 (some (.object "java/util/Iterator"))) := rfl
theorem wq_Jx4a65c_iterator_32c93 : (wk ix_Jx4a65c_iterator_32c93).all goodWord = true := wk_good gdx_ok (by decide +kernel)
def ix_Jx35411_hasNext_aae02 : List Nat := [2073, 2075, 2077, 8239, 9002, 9003, 9005, 9007, 9009]
def wsJx35411_hasNext_aae02 : List Cond := .code yJx35411_hasNext_aae02 cJx35411_hasNext_aae02 1 (some .boolean) :: (wk ix_Jx35411_hasNext_aae02)
theorem wm_Jx35411_hasNext_aae02 : ∀ w ∈ wk ix_Jx35411_hasNext_aae02, w ∈ wsJx35411_hasNext_aae02 := fun _ h => List.mem_cons_of_mem _ (h)
theorem wc_Jx35411_hasNext_aae02 : wk_at 9021 = some (.code yJx35411_hasNext_aae02 cJx35411_hasNext_aae02 1 (some .boolean)) := rfl
theorem wq_Jx35411_hasNext_aae02 : (wk ix_Jx35411_hasNext_aae02).all goodWord = true := wk_good gdx_ok (by decide +kernel)
def ix_Jx35411_checkForComodification_da8c8 : List Nat := [2070, 2071, 2073, 2075, 2077, 9001, 9002, 9003, 9005, 9007, 9009]
def wsJx35411_checkForComodification_da8c8 : List Cond := .code yJx35411_checkForComodification_da8c8 cJx35411_checkForComodification_da8c8 1 none :: (wk ix_Jx35411_checkForComodification_da8c8)
theorem wm_Jx35411_checkForComodification_da8c8 : ∀ w ∈ wk ix_Jx35411_checkForComodification_da8c8, w ∈ wsJx35411_checkForComodification_da8c8 := fun _ h => List.mem_cons_of_mem _ (h)
theorem wc_Jx35411_checkForComodification_da8c8 : wk_at 9034 = some (.code yJx35411_checkForComodification_da8c8 cJx35411_checkForComodification_da8c8 1 none) := rfl
theorem wq_Jx35411_checkForComodification_da8c8 : (wk ix_Jx35411_checkForComodification_da8c8).all goodWord = true := wk_good gdx_ok (by decide +kernel)
def ix_Jx35411_next_0502b : List Nat := [2039, 2066, 2070, 2071, 2073, 2075, 2077, 8239, 9000, 9001, 9002, 9003, 9005, 9007, 9009, 9031, 9032, 9033, 9034]
def wsJx35411_next_0502b : List Cond := .code yJx35411_next_0502b cJx35411_next_0502b 3 (some (.object "java/lang/Object")) :: (wk ix_Jx35411_next_0502b)
theorem wm_Jx35411_next_0502b : ∀ w ∈ wk ix_Jx35411_next_0502b, w ∈ wsJx35411_next_0502b := fun _ h => List.mem_cons_of_mem _ (h)
theorem wc_Jx35411_next_0502b : wk_at 9030 = some (.code yJx35411_next_0502b cJx35411_next_0502b 3 (some (.object "java/lang/Object"))) := rfl
theorem wq_Jx35411_next_0502b : (wk ix_Jx35411_next_0502b).all goodWord = true := wk_good gdx_ok (by decide +kernel)
def ix_X14_begin : List Nat := [2004, 2022, 2023, 2024, 2039, 2047, 2048, 2065, 2066, 2068, 2070, 2071, 2073, 2075, 2077, 2171, 2172, 2173, 2175, 2176, 2177, 2178, 2179, 2180, 2181, 2182, 2183, 2184, 2185, 2186, 2187, 7127, 7129, 7131, 7133, 7135, 7137, 7142, 7143, 7147, 7148, 7149, 7152, 7154, 7156, 7158, 7160, 7162, 7164, 7166, 7168, 7170, 7172, 7174, 7176, 7178, 7208, 7209, 7217, 7219, 7221, 7223, 7233, 7235, 7237, 7239, 8001, 8003, 8005, 8007, 8019, 8028, 8046, 8048, 8050, 8052, 8054, 8056, 8058, 8060, 8062, 8127, 8128, 8129, 8130, 8178, 8179, 8180, 8181, 8229, 8230, 8231, 8232, 8233, 8234, 8235, 8236, 8237, 8238, 8239, 9000, 9001, 9002, 9003, 9005, 9007, 9009, 9013, 9017, 9019, 9021, 9023, 9026, 9028, 9030, 9031, 9032, 9033, 9034]
def wsX14_begin : List Cond := .code yX14_begin cX14_begin 6 none :: (wk ix_X14_begin)
theorem wm_X14_begin : ∀ w ∈ wk ix_X14_begin, w ∈ wsX14_begin := fun _ h => List.mem_cons_of_mem _ (h)
theorem wc_X14_begin : wk_at 8228 = some (.code yX14_begin cX14_begin 6 none) := rfl
theorem wq_X14_begin : (wk ix_X14_begin).all goodWord = true := wk_good gdx_ok (by decide +kernel)
def ix_X14_pass : List Nat := [1046, 1057, 2004, 2007, 2022, 2023, 2024, 2039, 2047, 2048, 2065, 2066, 2068, 2070, 2071, 2073, 2075, 2077, 2171, 2172, 2173, 2175, 2176, 2177, 2178, 2179, 2180, 2181, 2182, 2183, 2184, 2185, 2186, 2187, 7127, 7129, 7131, 7133, 7135, 7137, 7141, 7142, 7143, 7147, 7148, 7149, 7152, 7154, 7156, 7158, 7160, 7162, 7164, 7166, 7168, 7170, 7172, 7174, 7176, 7178, 7193, 7194, 7195, 7196, 7198, 7199, 7208, 7209, 7217, 7219, 7221, 7223, 7233, 7235, 7237, 7239, 8001, 8003, 8005, 8007, 8019, 8028, 8046, 8048, 8050, 8052, 8054, 8056, 8058, 8060, 8062, 8127, 8128, 8129, 8130, 8178, 8179, 8180, 8181, 8225, 8227, 8228, 8229, 8230, 8231, 8232, 8233, 8234, 8235, 8236, 8237, 8238, 8239, 9000, 9001, 9002, 9003, 9005, 9007, 9009, 9013, 9017, 9019, 9021, 9023, 9026, 9028, 9030, 9031, 9032, 9033, 9034]
def wsX14_pass : List Cond := .code yX14_pass cX14_pass 3 (some .int) :: (wk ix_X14_pass)
theorem wm_X14_pass : ∀ w ∈ wk ix_X14_pass, w ∈ wsX14_pass := fun _ h => List.mem_cons_of_mem _ (h)
theorem wc_X14_pass : wk_at 8224 = some (.code yX14_pass cX14_pass 3 (some .int)) := rfl
theorem wq_X14_pass : (wk ix_X14_pass).all goodWord = true := wk_good gdx_ok (by decide +kernel)
def ix_X14_landOf : List Nat := [2004, 2023, 2024, 2065, 2068, 2073, 2075, 2077, 2175, 2176, 2177, 2178, 2179, 2180, 2181, 2182, 2183, 2184, 2185, 2186, 2187, 7149, 7154, 7156, 7158, 7160, 7162, 7164, 7166, 7168, 7170, 7172, 7174, 7176, 7178, 8019, 8028, 8046, 8048, 8050, 8052, 8054, 8056, 8058, 8060, 8062, 8087, 8089, 8091, 8093, 8095, 8097]
def wsX14_landOf : List Cond := .code yX14_landOf cX14_landOf 2 (some .int) :: (wk ix_X14_landOf)
theorem wm_X14_landOf : ∀ w ∈ wk ix_X14_landOf, w ∈ wsX14_landOf := fun _ h => List.mem_cons_of_mem _ (h)
theorem wc_X14_landOf : wk_at 9050 = some (.code yX14_landOf cX14_landOf 2 (some .int)) := rfl
theorem wq_X14_landOf : (wk ix_X14_landOf).all goodWord = true := wk_good gdx_ok (by decide +kernel)
def ix_X14_wholes : List Nat := [1060, 2004, 2007, 2023, 2024, 2065, 2068, 2073, 2075, 2077, 2171, 2172, 2173, 2175, 2176, 2177, 2178, 2179, 2180, 2181, 2182, 2183, 2184, 2185, 2186, 2187, 7149, 7150, 7154, 7156, 7158, 7160, 7162, 7164, 7166, 7168, 7170, 7172, 7174, 7176, 7178, 7208, 8019, 8028, 8046, 8048, 8050, 8052, 8054, 8056, 8058, 8060, 8062, 8073, 8087, 8089, 8091, 8093, 8095, 8097, 9047, 9049, 9050]
def wsX14_wholes : List Cond := .code yX14_wholes cX14_wholes 7 (some .int) :: (wk ix_X14_wholes)
theorem wm_X14_wholes : ∀ w ∈ wk ix_X14_wholes, w ∈ wsX14_wholes := fun _ h => List.mem_cons_of_mem _ (h)
theorem wc_X14_wholes : wk_at 9046 = some (.code yX14_wholes cX14_wholes 7 (some .int)) := rfl
theorem wq_X14_wholes : (wk ix_X14_wholes).all goodWord = true := wk_good gdx_ok (by decide +kernel)
def ix_X14_ofLandNow : List Nat := [1059, 1060, 2004, 2007, 2023, 2024, 2065, 2068, 2073, 2075, 2077, 2171, 2172, 2173, 2175, 2176, 2177, 2178, 2179, 2180, 2181, 2182, 2183, 2184, 2185, 2186, 2187, 7127, 7129, 7131, 7133, 7135, 7137, 7147, 7149, 7150, 7154, 7156, 7158, 7160, 7162, 7164, 7166, 7168, 7170, 7172, 7174, 7176, 7178, 7208, 8019, 8028, 8046, 8048, 8050, 8052, 8054, 8056, 8058, 8060, 8062, 8073, 8087, 8089, 8091, 8093, 8095, 8097, 9043, 9045, 9046, 9047, 9049, 9050]
def wsX14_ofLandNow : List Cond := .code yX14_ofLandNow cX14_ofLandNow 6 (some .int) :: (wk ix_X14_ofLandNow)
theorem wm_X14_ofLandNow : ∀ w ∈ wk ix_X14_ofLandNow, w ∈ wsX14_ofLandNow := fun _ h => List.mem_cons_of_mem _ (h)
theorem wc_X14_ofLandNow : wk_at 9042 = some (.code yX14_ofLandNow cX14_ofLandNow 6 (some .int)) := rfl
theorem wq_X14_ofLandNow : (wk ix_X14_ofLandNow).all goodWord = true := wk_good gdx_ok (by decide +kernel)
def ix_X14_ofLand : List Nat := [1045, 1046, 1058, 1059, 1060, 2004, 2007, 2023, 2024, 2065, 2068, 2073, 2075, 2077, 2171, 2172, 2173, 2175, 2176, 2177, 2178, 2179, 2180, 2181, 2182, 2183, 2184, 2185, 2186, 2187, 7127, 7129, 7131, 7133, 7135, 7137, 7141, 7147, 7149, 7150, 7154, 7156, 7158, 7160, 7162, 7164, 7166, 7168, 7170, 7172, 7174, 7176, 7178, 7189, 7191, 7192, 7193, 7194, 7195, 7196, 7198, 7199, 7208, 8019, 8028, 8046, 8048, 8050, 8052, 8054, 8056, 8058, 8060, 8062, 8073, 8087, 8089, 8091, 8093, 8095, 8097, 9039, 9041, 9042, 9043, 9045, 9046, 9047, 9049, 9050]
def wsX14_ofLand : List Cond := .code yX14_ofLand cX14_ofLand 3 (some .int) :: (wk ix_X14_ofLand)
theorem wm_X14_ofLand : ∀ w ∈ wk ix_X14_ofLand, w ∈ wsX14_ofLand := fun _ h => List.mem_cons_of_mem _ (h)
theorem wc_X14_ofLand : wk_at 9038 = some (.code yX14_ofLand cX14_ofLand 3 (some .int)) := rfl
theorem wq_X14_ofLand : (wk ix_X14_ofLand).all goodWord = true := wk_good gdx_ok (by decide +kernel)
def ix_X14_hiddenWorth : List Nat := [2004, 2022, 2023, 2024, 2036, 2065, 2068, 2073, 2075, 2077, 2171, 2172, 2173, 2175, 2176, 2177, 2178, 2179, 2180, 2181, 2182, 2183, 2184, 2185, 2186, 2187, 7149, 7150, 7154, 7156, 7158, 7160, 7162, 7164, 7166, 7168, 7170, 7172, 7174, 7176, 7178, 7208, 7229, 7233, 7235, 7237, 7239, 8001, 8003, 8005, 8007, 8019, 8028, 8046, 8048, 8050, 8052, 8054, 8056, 8058, 8060, 8062, 8073, 8087, 8089, 8091, 8093, 8095, 8097, 8133, 8134, 8135, 8152, 8153, 8161, 8162, 8163, 8164, 8165, 8166, 8167, 8168]
def wsX14_hiddenWorth : List Cond := .code yX14_hiddenWorth cX14_hiddenWorth 5 (some .int) :: (wk ix_X14_hiddenWorth)
theorem wm_X14_hiddenWorth : ∀ w ∈ wk ix_X14_hiddenWorth, w ∈ wsX14_hiddenWorth := fun _ h => List.mem_cons_of_mem _ (h)
theorem wc_X14_hiddenWorth : wk_at 9062 = some (.code yX14_hiddenWorth cX14_hiddenWorth 5 (some .int)) := rfl
theorem wq_X14_hiddenWorth : (wk ix_X14_hiddenWorth).all goodWord = true := wk_good gdx_ok (by decide +kernel)
def ix_X14_ofGateNow : List Nat := [1062, 2004, 2007, 2022, 2023, 2024, 2036, 2065, 2068, 2073, 2075, 2077, 2171, 2172, 2173, 2175, 2176, 2177, 2178, 2179, 2180, 2181, 2182, 2183, 2184, 2185, 2186, 2187, 3131, 3132, 3133, 7143, 7148, 7149, 7150, 7154, 7156, 7158, 7160, 7162, 7164, 7166, 7168, 7170, 7172, 7174, 7176, 7178, 7208, 7209, 7221, 7223, 7227, 7229, 7233, 7235, 7237, 7239, 8001, 8003, 8005, 8007, 8019, 8028, 8046, 8048, 8050, 8052, 8054, 8056, 8058, 8060, 8062, 8073, 8087, 8089, 8091, 8093, 8095, 8097, 8131, 8132, 8133, 8134, 8135, 8152, 8153, 8161, 8162, 8163, 8164, 8165, 8166, 8167, 8168, 8178, 8179, 8180, 8181, 8182, 8188, 8189, 8190, 8191, 9059, 9061, 9062]
def wsX14_ofGateNow : List Cond := .code yX14_ofGateNow cX14_ofGateNow 9 (some .int) :: (wk ix_X14_ofGateNow)
theorem wm_X14_ofGateNow : ∀ w ∈ wk ix_X14_ofGateNow, w ∈ wsX14_ofGateNow := fun _ h => List.mem_cons_of_mem _ (h)
theorem wc_X14_ofGateNow : wk_at 9058 = some (.code yX14_ofGateNow cX14_ofGateNow 9 (some .int)) := rfl
theorem wq_X14_ofGateNow : (wk ix_X14_ofGateNow).all goodWord = true := wk_good gdx_ok (by decide +kernel)
def ix_X14_ofGate : List Nat := [1046, 1047, 1061, 1062, 2004, 2007, 2022, 2023, 2024, 2036, 2065, 2068, 2073, 2075, 2077, 2171, 2172, 2173, 2175, 2176, 2177, 2178, 2179, 2180, 2181, 2182, 2183, 2184, 2185, 2186, 2187, 3131, 3132, 3133, 7141, 7143, 7148, 7149, 7150, 7154, 7156, 7158, 7160, 7162, 7164, 7166, 7168, 7170, 7172, 7174, 7176, 7178, 7193, 7194, 7195, 7196, 7198, 7199, 7208, 7209, 7221, 7223, 7227, 7229, 7233, 7235, 7237, 7239, 8001, 8003, 8005, 8007, 8015, 8017, 8018, 8019, 8028, 8046, 8048, 8050, 8052, 8054, 8056, 8058, 8060, 8062, 8073, 8087, 8089, 8091, 8093, 8095, 8097, 8131, 8132, 8133, 8134, 8135, 8152, 8153, 8161, 8162, 8163, 8164, 8165, 8166, 8167, 8168, 8178, 8179, 8180, 8181, 8182, 8188, 8189, 8190, 8191, 9055, 9057, 9058, 9059, 9061, 9062]
def wsX14_ofGate : List Cond := .code yX14_ofGate cX14_ofGate 3 (some .int) :: (wk ix_X14_ofGate)
theorem wm_X14_ofGate : ∀ w ∈ wk ix_X14_ofGate, w ∈ wsX14_ofGate := fun _ h => List.mem_cons_of_mem _ (h)
theorem wc_X14_ofGate : wk_at 9054 = some (.code yX14_ofGate cX14_ofGate 3 (some .int)) := rfl
theorem wq_X14_ofGate : (wk ix_X14_ofGate).all goodWord = true := wk_good gdx_ok (by decide +kernel)
def ix_X14_ring : List Nat := [2004, 2019, 2023, 2024, 2036, 2065, 2068, 2073, 2075, 2077, 2171, 2172, 2173, 2175, 2176, 2177, 2178, 2179, 2180, 2181, 2182, 2183, 2184, 2185, 2186, 2187, 3169, 3170, 7151, 7154, 7156, 7158, 7160, 7162, 7164, 7166, 7168, 7170, 7172, 7174, 7176, 7178, 7208, 8019, 8131, 8132, 8133, 8134, 8135, 8152, 8153, 8187]
def wsX14_ring : List Cond := .code yX14_ring cX14_ring 9 (some .int) :: (wk ix_X14_ring)
theorem wm_X14_ring : ∀ w ∈ wk ix_X14_ring, w ∈ wsX14_ring := fun _ h => List.mem_cons_of_mem _ (h)
theorem wc_X14_ring : wk_at 9074 = some (.code yX14_ring cX14_ring 9 (some .int)) := rfl
theorem wq_X14_ring : (wk ix_X14_ring).all goodWord = true := wk_good gdx_ok (by decide +kernel)
def ix_X14_ofSleeperNow : List Nat := [1050, 1064, 2004, 2007, 2019, 2022, 2023, 2024, 2036, 2065, 2068, 2073, 2075, 2077, 2171, 2172, 2173, 2175, 2176, 2177, 2178, 2179, 2180, 2181, 2182, 2183, 2184, 2185, 2186, 2187, 3169, 3170, 7148, 7149, 7150, 7151, 7154, 7156, 7158, 7160, 7162, 7164, 7166, 7168, 7170, 7172, 7174, 7176, 7178, 7208, 7209, 7229, 7233, 7235, 7237, 7239, 8001, 8003, 8005, 8007, 8019, 8028, 8046, 8048, 8050, 8052, 8054, 8056, 8058, 8060, 8062, 8073, 8087, 8089, 8091, 8093, 8095, 8097, 8123, 8125, 8126, 8131, 8132, 8133, 8134, 8135, 8152, 8153, 8161, 8162, 8163, 8164, 8165, 8166, 8167, 8168, 8187, 9071, 9073, 9074]
def wsX14_ofSleeperNow : List Cond := .code yX14_ofSleeperNow cX14_ofSleeperNow 6 (some .int) :: (wk ix_X14_ofSleeperNow)
theorem wm_X14_ofSleeperNow : ∀ w ∈ wk ix_X14_ofSleeperNow, w ∈ wsX14_ofSleeperNow := fun _ h => List.mem_cons_of_mem _ (h)
theorem wc_X14_ofSleeperNow : wk_at 9070 = some (.code yX14_ofSleeperNow cX14_ofSleeperNow 6 (some .int)) := rfl
theorem wq_X14_ofSleeperNow : (wk ix_X14_ofSleeperNow).all goodWord = true := wk_good gdx_ok (by decide +kernel)
def ix_X14_ofSleeper : List Nat := [1046, 1048, 1050, 1063, 1064, 2004, 2007, 2019, 2022, 2023, 2024, 2036, 2065, 2068, 2073, 2075, 2077, 2171, 2172, 2173, 2175, 2176, 2177, 2178, 2179, 2180, 2181, 2182, 2183, 2184, 2185, 2186, 2187, 3169, 3170, 7141, 7148, 7149, 7150, 7151, 7154, 7156, 7158, 7160, 7162, 7164, 7166, 7168, 7170, 7172, 7174, 7176, 7178, 7193, 7194, 7195, 7196, 7198, 7199, 7208, 7209, 7229, 7233, 7235, 7237, 7239, 8001, 8003, 8005, 8007, 8019, 8028, 8046, 8048, 8050, 8052, 8054, 8056, 8058, 8060, 8062, 8069, 8071, 8072, 8073, 8087, 8089, 8091, 8093, 8095, 8097, 8123, 8125, 8126, 8131, 8132, 8133, 8134, 8135, 8152, 8153, 8161, 8162, 8163, 8164, 8165, 8166, 8167, 8168, 8187, 9067, 9069, 9070, 9071, 9073, 9074]
def wsX14_ofSleeper : List Cond := .code yX14_ofSleeper cX14_ofSleeper 3 (some .int) :: (wk ix_X14_ofSleeper)
theorem wm_X14_ofSleeper : ∀ w ∈ wk ix_X14_ofSleeper, w ∈ wsX14_ofSleeper := fun _ h => List.mem_cons_of_mem _ (h)
theorem wc_X14_ofSleeper : wk_at 9066 = some (.code yX14_ofSleeper cX14_ofSleeper 3 (some .int)) := rfl
theorem wq_X14_ofSleeper : (wk ix_X14_ofSleeper).all goodWord = true := wk_good gdx_ok (by decide +kernel)
def ix_X14_ofPartNow : List Nat := [1060, 2004, 2007, 2023, 2024, 2065, 2068, 2073, 2075, 2077, 2175, 2176, 2177, 2178, 2179, 2180, 2181, 2182, 2183, 2184, 2185, 2186, 2187, 7149, 7150, 7154, 7156, 7158, 7160, 7162, 7164, 7166, 7168, 7170, 7172, 7174, 7176, 7178, 8019, 8028, 8046, 8048, 8050, 8052, 8054, 8056, 8058, 8060, 8062, 8073, 8087, 8089, 8091, 8093, 8095, 8097, 9047, 9049, 9050]
def wsX14_ofPartNow : List Cond := .code yX14_ofPartNow cX14_ofPartNow 4 (some .int) :: (wk ix_X14_ofPartNow)
theorem wm_X14_ofPartNow : ∀ w ∈ wk ix_X14_ofPartNow, w ∈ wsX14_ofPartNow := fun _ h => List.mem_cons_of_mem _ (h)
theorem wc_X14_ofPartNow : wk_at 9082 = some (.code yX14_ofPartNow cX14_ofPartNow 4 (some .int)) := rfl
theorem wq_X14_ofPartNow : (wk ix_X14_ofPartNow).all goodWord = true := wk_good gdx_ok (by decide +kernel)
def ix_X14_ofPart : List Nat := [1046, 1049, 1060, 1065, 2004, 2007, 2023, 2024, 2065, 2068, 2073, 2075, 2077, 2171, 2172, 2173, 2175, 2176, 2177, 2178, 2179, 2180, 2181, 2182, 2183, 2184, 2185, 2186, 2187, 7141, 7149, 7150, 7154, 7156, 7158, 7160, 7162, 7164, 7166, 7168, 7170, 7172, 7174, 7176, 7178, 7193, 7194, 7195, 7196, 7198, 7199, 7208, 8019, 8028, 8046, 8048, 8050, 8052, 8054, 8056, 8058, 8060, 8062, 8073, 8087, 8089, 8091, 8093, 8095, 8097, 8104, 8106, 8107, 9047, 9049, 9050, 9079, 9081, 9082]
def wsX14_ofPart : List Cond := .code yX14_ofPart cX14_ofPart 3 (some .int) :: (wk ix_X14_ofPart)
theorem wm_X14_ofPart : ∀ w ∈ wk ix_X14_ofPart, w ∈ wsX14_ofPart := fun _ h => List.mem_cons_of_mem _ (h)
theorem wc_X14_ofPart : wk_at 9078 = some (.code yX14_ofPart cX14_ofPart 3 (some .int)) := rfl
theorem wq_X14_ofPart : (wk ix_X14_ofPart).all goodWord = true := wk_good gdx_ok (by decide +kernel)
def ix_X14_isGood : List Nat := [1047, 1048, 1052, 2004, 2007, 2019, 2022, 2023, 2024, 2065, 2068, 2073, 2075, 2077, 2171, 2172, 2173, 2175, 2176, 2177, 2178, 2179, 2180, 2181, 2182, 2183, 2184, 2185, 2186, 2187, 3169, 3170, 7141, 7142, 7148, 7149, 7154, 7156, 7158, 7160, 7162, 7164, 7166, 7168, 7170, 7172, 7174, 7176, 7178, 7193, 7194, 7195, 7208, 7209, 7227, 7233, 7235, 7237, 7239, 8001, 8003, 8005, 8007, 8015, 8017, 8018, 8019, 8028, 8046, 8048, 8050, 8052, 8054, 8056, 8058, 8060, 8062, 8069, 8071, 8072, 8112, 8113, 8114, 8183, 8185, 8186, 8187, 8188, 8189, 8190, 8191]
def wsX14_isGood : List Cond := .code yX14_isGood cX14_isGood 3 (some .boolean) :: (wk ix_X14_isGood)
theorem wm_X14_isGood : ∀ w ∈ wk ix_X14_isGood, w ∈ wsX14_isGood := fun _ h => List.mem_cons_of_mem _ (h)
theorem wc_X14_isGood : wk_at 9086 = some (.code yX14_isGood cX14_isGood 3 (some .boolean)) := rfl
theorem wq_X14_isGood : (wk ix_X14_isGood).all goodWord = true := wk_good gdx_ok (by decide +kernel)
def ix_J2_putCharsAt_cd4e5 : List Nat := [2024, 2032, 2033, 5236, 5237, 5238, 5239, 6000, 6001, 6002, 6003, 6004, 6005, 6007, 6008, 6009, 6010, 6011, 6012, 6013, 6015, 6017]
def wsJ2_putCharsAt_cd4e5 : List Cond := .code yJ2_putCharsAt_cd4e5 cJ2_putCharsAt_cd4e5 7 (some .int) :: (wk ix_J2_putCharsAt_cd4e5)
theorem wm_J2_putCharsAt_cd4e5 : ∀ w ∈ wk ix_J2_putCharsAt_cd4e5, w ∈ wsJ2_putCharsAt_cd4e5 := fun _ h => List.mem_cons_of_mem _ (h)
theorem wc_J2_putCharsAt_cd4e5 : wk_at 5235 = some (.code yJ2_putCharsAt_cd4e5 cJ2_putCharsAt_cd4e5 7 (some .int)) := rfl
theorem wq_J2_putCharsAt_cd4e5 : (wk ix_J2_putCharsAt_cd4e5).all goodWord = true := wk_good gdx_ok (by decide +kernel)
def ix_J5_appendNull_278bc : List Nat := [0, 1, 2018, 2019, 2020, 2021, 2024, 2030, 2032, 2033, 3075, 4021, 4022, 4027, 4028, 4174, 4175, 4176, 4177, 4178, 4179, 4180, 4217, 4218, 4219, 4220, 5174, 5183, 5184, 5186, 5187, 5189, 5191, 5193, 5208, 5210, 5211, 5212, 5214, 5215, 5216, 5217, 5218, 5219, 5220, 5221, 5222, 5223, 5224, 5225, 5227, 5228, 5229, 5230, 5231, 5232, 5233, 5234, 5235, 5236, 5237, 5238, 5239, 6000, 6001, 6002, 6003, 6004, 6005, 6007, 6008, 6009, 6010, 6011, 6012, 6013, 6015, 6017, 9158, 9159]
def wsJ5_appendNull_278bc : List Cond := .code yJ5_appendNull_278bc cJ5_appendNull_278bc 3 (some (.object "java/lang/AbstractStringBuilder")) :: (wk ix_J5_appendNull_278bc)
theorem wm_J5_appendNull_278bc : ∀ w ∈ wk ix_J5_appendNull_278bc, w ∈ wsJ5_appendNull_278bc := fun _ h => List.mem_cons_of_mem _ (h)
theorem wc_J5_appendNull_278bc : wk_at 5207 = some (.code yJ5_appendNull_278bc cJ5_appendNull_278bc 3 (some (.object "java/lang/AbstractStringBuilder"))) := rfl
theorem wq_J5_appendNull_278bc : (wk ix_J5_appendNull_278bc).all goodWord = true := wk_good gdx_ok (by decide +kernel)
def ix_J0_coder_7d493 : List Nat := [6027, 6146, 6147, 6149, 6151, 6153]
def wsJ0_coder_7d493 : List Cond := .code yJ0_coder_7d493 cJ0_coder_7d493 1 (some .byte) :: (wk ix_J0_coder_7d493)
theorem wm_J0_coder_7d493 : ∀ w ∈ wk ix_J0_coder_7d493, w ∈ wsJ0_coder_7d493 := fun _ h => List.mem_cons_of_mem _ (h)
theorem wc_J0_coder_7d493 : wk_at 6026 = some (.code yJ0_coder_7d493 cJ0_coder_7d493 1 (some .byte)) := rfl
theorem wq_J0_coder_7d493 : (wk ix_J0_coder_7d493).all goodWord = true := wk_good gdx_ok (by decide +kernel)
def ix_J0_length_8abf5 : List Nat := [2032, 6023, 6024, 6025, 6026, 6027, 6145, 6146, 6147, 6149, 6151, 6153]
def wsJ0_length_8abf5 : List Cond := .code yJ0_length_8abf5 cJ0_length_8abf5 1 (some .int) :: (wk ix_J0_length_8abf5)
theorem wm_J0_length_8abf5 : ∀ w ∈ wk ix_J0_length_8abf5, w ∈ wsJ0_length_8abf5 := fun _ h => List.mem_cons_of_mem _ (h)
theorem wc_J0_length_8abf5 : wk_at 6022 = some (.code yJ0_length_8abf5 cJ0_length_8abf5 1 (some .int)) := rfl
theorem wq_J0_length_8abf5 : (wk ix_J0_length_8abf5).all goodWord = true := wk_good gdx_ok (by decide +kernel)
def ix_J5_inflateIfNeededFor_a7421 : List Nat := [2, 2024, 2030, 2032, 2033, 2034, 3075, 5174, 5176, 5177, 5178, 5179, 5180, 5181, 5182, 5183, 5184, 5186, 5187, 5189, 5191, 5193, 5228, 5229, 5230, 5231, 5232, 5239, 6000, 6001, 6005, 6010, 6011, 6012, 6013, 6015, 6017, 6024, 6025, 6026, 6027, 6036, 6037, 6039, 6040, 6041, 6042, 6043, 6044, 6045, 6046, 6047, 6048, 6049, 6050, 6051, 6052, 6053, 6054, 6055, 6146, 6147, 6149, 6151, 6153, 9162]
def wsJ5_inflateIfNeededFor_a7421 : List Cond := .code yJ5_inflateIfNeededFor_a7421 cJ5_inflateIfNeededFor_a7421 2 none :: (wk ix_J5_inflateIfNeededFor_a7421)
theorem wm_J5_inflateIfNeededFor_a7421 : ∀ w ∈ wk ix_J5_inflateIfNeededFor_a7421, w ∈ wsJ5_inflateIfNeededFor_a7421 := fun _ h => List.mem_cons_of_mem _ (h)
theorem wc_J5_inflateIfNeededFor_a7421 : wk_at 6035 = some (.code yJ5_inflateIfNeededFor_a7421 cJ5_inflateIfNeededFor_a7421 2 none) := rfl
theorem wq_J5_inflateIfNeededFor_a7421 : (wk ix_J5_inflateIfNeededFor_a7421).all goodWord = true := wk_good gdx_ok (by decide +kernel)
def ix_J0_getBytes_840e7 : List Nat := [2021, 2024, 2032, 2033, 2034, 4219, 4220, 5239, 6000, 6001, 6005, 6010, 6011, 6012, 6013, 6015, 6017, 6023, 6024, 6025, 6026, 6027, 6042, 6043, 6044, 6045, 6046, 6047, 6048, 6049, 6050, 6051, 6052, 6053, 6054, 6055, 6060, 6061, 6145, 6146, 6147, 6149, 6151, 6153]
def wsJ0_getBytes_840e7 : List Cond := .code yJ0_getBytes_840e7 cJ0_getBytes_840e7 4 none :: (wk ix_J0_getBytes_840e7)
theorem wm_J0_getBytes_840e7 : ∀ w ∈ wk ix_J0_getBytes_840e7, w ∈ wsJ0_getBytes_840e7 := fun _ h => List.mem_cons_of_mem _ (h)
theorem wc_J0_getBytes_840e7 : wk_at 6059 = some (.code yJ0_getBytes_840e7 cJ0_getBytes_840e7 4 none) := rfl
theorem wq_J0_getBytes_840e7 : (wk ix_J0_getBytes_840e7).all goodWord = true := wk_good gdx_ok (by decide +kernel)
def ix_J5_putStringAt_47b60 : List Nat := [2, 5, 2021, 2024, 2030, 2032, 2033, 2034, 3075, 4219, 4220, 5174, 5176, 5177, 5178, 5179, 5180, 5181, 5182, 5183, 5184, 5186, 5187, 5189, 5191, 5193, 5228, 5229, 5230, 5231, 5232, 5239, 6000, 6001, 6005, 6010, 6011, 6012, 6013, 6015, 6017, 6023, 6024, 6025, 6026, 6027, 6032, 6034, 6035, 6036, 6037, 6039, 6040, 6041, 6042, 6043, 6044, 6045, 6046, 6047, 6048, 6049, 6050, 6051, 6052, 6053, 6054, 6055, 6056, 6057, 6058, 6059, 6060, 6061, 6145, 6146, 6147, 6149, 6151, 6153, 9161, 9162]
def wsJ5_putStringAt_47b60 : List Cond := .code yJ5_putStringAt_47b60 cJ5_putStringAt_47b60 3 none :: (wk ix_J5_putStringAt_47b60)
theorem wm_J5_putStringAt_47b60 : ∀ w ∈ wk ix_J5_putStringAt_47b60, w ∈ wsJ5_putStringAt_47b60 := fun _ h => List.mem_cons_of_mem _ (h)
theorem wc_J5_putStringAt_47b60 : wk_at 6031 = some (.code yJ5_putStringAt_47b60 cJ5_putStringAt_47b60 3 none) := rfl
theorem wq_J5_putStringAt_47b60 : (wk ix_J5_putStringAt_47b60).all goodWord = true := wk_good gdx_ok (by decide +kernel)
def ix_J5_append_cf1ce : List Nat := [0, 1, 2, 3, 4, 5, 2018, 2019, 2020, 2021, 2024, 2030, 2032, 2033, 2034, 3075, 4021, 4022, 4027, 4028, 4174, 4175, 4176, 4177, 4178, 4179, 4180, 4217, 4218, 4219, 4220, 5174, 5176, 5177, 5178, 5179, 5180, 5181, 5182, 5183, 5184, 5186, 5187, 5189, 5191, 5193, 5204, 5206, 5207, 5208, 5210, 5211, 5212, 5214, 5215, 5216, 5217, 5218, 5219, 5220, 5221, 5222, 5223, 5224, 5225, 5227, 5228, 5229, 5230, 5231, 5232, 5233, 5234, 5235, 5236, 5237, 5238, 5239, 6000, 6001, 6002, 6003, 6004, 6005, 6007, 6008, 6009, 6010, 6011, 6012, 6013, 6015, 6017, 6019, 6020, 6021, 6022, 6023, 6024, 6025, 6026, 6027, 6028, 6030, 6031, 6032, 6034, 6035, 6036, 6037, 6039, 6040, 6041, 6042, 6043, 6044, 6045, 6046, 6047, 6048, 6049, 6050, 6051, 6052, 6053, 6054, 6055, 6056, 6057, 6058, 6059, 6060, 6061, 6145, 6146, 6147, 6149, 6151, 6153, 9157, 9158, 9159, 9160, 9161, 9162]
def wsJ5_append_cf1ce : List Cond := .code yJ5_append_cf1ce cJ5_append_cf1ce 3 (some (.object "java/lang/AbstractStringBuilder")) :: (wk ix_J5_append_cf1ce)
theorem wm_J5_append_cf1ce : ∀ w ∈ wk ix_J5_append_cf1ce, w ∈ wsJ5_append_cf1ce := fun _ h => List.mem_cons_of_mem _ (h)
theorem wc_J5_append_cf1ce : wk_at 5203 = some (.code yJ5_append_cf1ce cJ5_append_cf1ce 3 (some (.object "java/lang/AbstractStringBuilder"))) := rfl
theorem wq_J5_append_cf1ce : (wk ix_J5_append_cf1ce).all goodWord = true := wk_good gdx_ok (by decide +kernel)
def ix_J4_append_15ec4 : List Nat := [0, 1, 2, 3, 4, 5, 2018, 2019, 2020, 2021, 2024, 2030, 2032, 2033, 2034, 3075, 4021, 4022, 4027, 4028, 4174, 4175, 4176, 4177, 4178, 4179, 4180, 4217, 4218, 4219, 4220, 5174, 5176, 5177, 5178, 5179, 5180, 5181, 5182, 5183, 5184, 5186, 5187, 5189, 5191, 5193, 5195, 5201, 5202, 5203, 5204, 5206, 5207, 5208, 5210, 5211, 5212, 5214, 5215, 5216, 5217, 5218, 5219, 5220, 5221, 5222, 5223, 5224, 5225, 5227, 5228, 5229, 5230, 5231, 5232, 5233, 5234, 5235, 5236, 5237, 5238, 5239, 6000, 6001, 6002, 6003, 6004, 6005, 6007, 6008, 6009, 6010, 6011, 6012, 6013, 6015, 6017, 6019, 6020, 6021, 6022, 6023, 6024, 6025, 6026, 6027, 6028, 6030, 6031, 6032, 6034, 6035, 6036, 6037, 6039, 6040, 6041, 6042, 6043, 6044, 6045, 6046, 6047, 6048, 6049, 6050, 6051, 6052, 6053, 6054, 6055, 6056, 6057, 6058, 6059, 6060, 6061, 6145, 6146, 6147, 6149, 6151, 6153, 9156, 9157, 9158, 9159, 9160, 9161, 9162]
def wsJ4_append_15ec4 : List Cond := .code yJ4_append_15ec4 cJ4_append_15ec4 2 (some (.object "java/lang/StringBuilder")) :: (wk ix_J4_append_15ec4)
theorem wm_J4_append_15ec4 : ∀ w ∈ wk ix_J4_append_15ec4, w ∈ wsJ4_append_15ec4 := fun _ h => List.mem_cons_of_mem _ (h)
theorem wc_J4_append_15ec4 : wk_at 5200 = some (.code yJ4_append_15ec4 cJ4_append_15ec4 2 (some (.object "java/lang/StringBuilder"))) := rfl
theorem wq_J4_append_15ec4 : (wk ix_J4_append_15ec4).all goodWord = true := wk_good gdx_ok (by decide +kernel)
def ix_X14_queue : List Nat := [0, 1, 2, 3, 4, 5, 1047, 2004, 2007, 2018, 2019, 2020, 2021, 2023, 2024, 2030, 2031, 2032, 2033, 2034, 2036, 2047, 2048, 2065, 2068, 2073, 2075, 2077, 2171, 2172, 2173, 2175, 2176, 2177, 2178, 2179, 2180, 2181, 2182, 2183, 2184, 2185, 2186, 2187, 3075, 3131, 3132, 3133, 4021, 4022, 4027, 4028, 4174, 4175, 4176, 4177, 4178, 4179, 4180, 4217, 4218, 4219, 4220, 5166, 5168, 5169, 5170, 5171, 5172, 5173, 5174, 5176, 5177, 5178, 5179, 5180, 5181, 5182, 5183, 5184, 5185, 5186, 5187, 5189, 5191, 5193, 5195, 5198, 5199, 5200, 5201, 5202, 5203, 5204, 5206, 5207, 5208, 5210, 5211, 5212, 5214, 5215, 5216, 5217, 5218, 5219, 5220, 5221, 5222, 5223, 5224, 5225, 5227, 5228, 5229, 5230, 5231, 5232, 5233, 5234, 5235, 5236, 5237, 5238, 5239, 6000, 6001, 6002, 6003, 6004, 6005, 6007, 6008, 6009, 6010, 6011, 6012, 6013, 6015, 6017, 6019, 6020, 6021, 6022, 6023, 6024, 6025, 6026, 6027, 6028, 6030, 6031, 6032, 6034, 6035, 6036, 6037, 6039, 6040, 6041, 6042, 6043, 6044, 6045, 6046, 6047, 6048, 6049, 6050, 6051, 6052, 6053, 6054, 6055, 6056, 6057, 6058, 6059, 6060, 6061, 6063, 6064, 6065, 6066, 6067, 6068, 6069, 6070, 6071, 6072, 6073, 6074, 6075, 6077, 6079, 6080, 6081, 6082, 6083, 6084, 6085, 6086, 6089, 6090, 6091, 6092, 6093, 6094, 6095, 6096, 6097, 6098, 6099, 6100, 6101, 6102, 6103, 6104, 6105, 6106, 6107, 6108, 6109, 6110, 6111, 6112, 6113, 6114, 6115, 6116, 6117, 6118, 6119, 6120, 6121, 6122, 6123, 6125, 6132, 6133, 6134, 6135, 6136, 6137, 6138, 6139, 6140, 6141, 6142, 6143, 6144, 6145, 6146, 6147, 6149, 6151, 6153, 7141, 7148, 7149, 7154, 7156, 7158, 7160, 7162, 7164, 7166, 7168, 7170, 7172, 7174, 7176, 7178, 7193, 7194, 7195, 7208, 7209, 7233, 7235, 7237, 7239, 8001, 8003, 8005, 8007, 8015, 8017, 8018, 8019, 8028, 8046, 8048, 8050, 8052, 8054, 8056, 8058, 8060, 8062, 8131, 8132, 8133, 8134, 8135, 8152, 8153, 8182, 9092, 9093, 9095, 9096, 9099, 9156, 9157, 9158, 9159, 9160, 9161, 9162, 9163]
def wsX14_queue : List Cond := .code yX14_queue cX14_queue 6 (some (.object "java/lang/String")) :: (wk ix_X14_queue)
theorem wm_X14_queue : ∀ w ∈ wk ix_X14_queue, w ∈ wsX14_queue := fun _ h => List.mem_cons_of_mem _ (h)
theorem wc_X14_queue : wk_at 9090 = some (.code yX14_queue cX14_queue 6 (some (.object "java/lang/String"))) := rfl
theorem wq_X14_queue : (wk ix_X14_queue).all goodWord = true := wk_good gdx_ok (by decide +kernel)
def ix_X14_nightNow : List Nat := [2004, 2039, 2047, 2048, 2066, 2068, 2070, 2071, 2073, 2075, 2077, 2171, 2172, 2173, 7127, 7129, 7131, 7133, 7135, 7137, 7142, 7143, 7145, 7146, 7147, 7148, 7149, 7150, 7151, 7154, 7156, 7158, 7160, 7162, 7164, 7166, 7168, 7170, 7172, 7174, 7176, 7178, 7208, 8028, 8046, 8048, 8050, 8052, 8054, 8056, 8058, 8060, 8062, 8073, 8087, 8089, 8091, 8093, 8095, 8097, 8229, 8230, 8231, 8232, 8233, 8234, 8235, 8236, 8237, 8238, 8239, 9000, 9001, 9002, 9003, 9005, 9007, 9009, 9013, 9017, 9019, 9021, 9023, 9026, 9028, 9030, 9031, 9032, 9033, 9034]
def wsX14_nightNow : List Cond := .code yX14_nightNow cX14_nightNow 7 (some .int) :: (wk ix_X14_nightNow)
theorem wm_X14_nightNow : ∀ w ∈ wk ix_X14_nightNow, w ∈ wsX14_nightNow := fun _ h => List.mem_cons_of_mem _ (h)
theorem wc_X14_nightNow : wk_at 9107 = some (.code yX14_nightNow cX14_nightNow 7 (some .int)) := rfl
theorem wq_X14_nightNow : (wk ix_X14_nightNow).all goodWord = true := wk_good gdx_ok (by decide +kernel)
def ix_X14_night : List Nat := [1046, 1066, 2004, 2007, 2039, 2047, 2048, 2066, 2068, 2070, 2071, 2073, 2075, 2077, 2171, 2172, 2173, 7127, 7129, 7131, 7133, 7135, 7137, 7141, 7142, 7143, 7145, 7146, 7147, 7148, 7149, 7150, 7151, 7154, 7156, 7158, 7160, 7162, 7164, 7166, 7168, 7170, 7172, 7174, 7176, 7178, 7193, 7194, 7195, 7196, 7198, 7199, 7208, 8028, 8046, 8048, 8050, 8052, 8054, 8056, 8058, 8060, 8062, 8073, 8087, 8089, 8091, 8093, 8095, 8097, 8229, 8230, 8231, 8232, 8233, 8234, 8235, 8236, 8237, 8238, 8239, 9000, 9001, 9002, 9003, 9005, 9007, 9009, 9013, 9017, 9019, 9021, 9023, 9026, 9028, 9030, 9031, 9032, 9033, 9034, 9104, 9106, 9107]
def wsX14_night : List Cond := .code yX14_night cX14_night 2 (some .int) :: (wk ix_X14_night)
theorem wm_X14_night : ∀ w ∈ wk ix_X14_night, w ∈ wsX14_night := fun _ h => List.mem_cons_of_mem _ (h)
theorem wc_X14_night : wk_at 9103 = some (.code yX14_night cX14_night 2 (some .int)) := rfl
theorem wq_X14_night : (wk ix_X14_night).all goodWord = true := wk_good gdx_ok (by decide +kernel)
def ix_X14_wayNow : List Nat := [2004, 2022, 2023, 2024, 2065, 2068, 2073, 2075, 2077, 2171, 2172, 2173, 2175, 2176, 2177, 2178, 2179, 2180, 2181, 2182, 2183, 2184, 2185, 2186, 2187, 7143, 7148, 7154, 7156, 7158, 7160, 7162, 7164, 7166, 7168, 7170, 7172, 7174, 7176, 7178, 7208, 7209, 7221, 7223, 7233, 7235, 7237, 7239, 8001, 8003, 8005, 8007, 8019, 8178, 8179, 8180, 8181]
def wsX14_wayNow : List Cond := .code yX14_wayNow cX14_wayNow 8 (some .int) :: (wk ix_X14_wayNow)
theorem wm_X14_wayNow : ∀ w ∈ wk ix_X14_wayNow, w ∈ wsX14_wayNow := fun _ h => List.mem_cons_of_mem _ (h)
theorem wc_X14_wayNow : wk_at 9115 = some (.code yX14_wayNow cX14_wayNow 8 (some .int)) := rfl
theorem wq_X14_wayNow : (wk ix_X14_wayNow).all goodWord = true := wk_good gdx_ok (by decide +kernel)
def ix_X14_way : List Nat := [1045, 1046, 1067, 2004, 2007, 2022, 2023, 2024, 2065, 2068, 2073, 2075, 2077, 2171, 2172, 2173, 2175, 2176, 2177, 2178, 2179, 2180, 2181, 2182, 2183, 2184, 2185, 2186, 2187, 7141, 7143, 7148, 7154, 7156, 7158, 7160, 7162, 7164, 7166, 7168, 7170, 7172, 7174, 7176, 7178, 7189, 7191, 7192, 7193, 7194, 7195, 7196, 7198, 7199, 7208, 7209, 7221, 7223, 7233, 7235, 7237, 7239, 8001, 8003, 8005, 8007, 8019, 8178, 8179, 8180, 8181, 9112, 9114, 9115]
def wsX14_way : List Cond := .code yX14_way cX14_way 3 (some .int) :: (wk ix_X14_way)
theorem wm_X14_way : ∀ w ∈ wk ix_X14_way, w ∈ wsX14_way := fun _ h => List.mem_cons_of_mem _ (h)
theorem wc_X14_way : wk_at 9111 = some (.code yX14_way cX14_way 3 (some .int)) := rfl
theorem wq_X14_way : (wk ix_X14_way).all goodWord = true := wk_good gdx_ok (by decide +kernel)
def ix_X14_catches : List Nat := [1062, 2004, 2007, 2019, 2022, 2023, 2024, 2036, 2065, 2068, 2073, 2075, 2077, 2127, 2171, 2172, 2173, 2175, 2176, 2177, 2178, 2179, 2180, 2181, 2182, 2183, 2184, 2185, 2186, 2187, 4021, 4022, 4027, 4028, 7148, 7149, 7150, 7154, 7156, 7158, 7160, 7162, 7164, 7166, 7168, 7170, 7172, 7174, 7176, 7178, 7208, 7209, 7229, 7233, 7235, 7237, 7239, 8001, 8003, 8005, 8007, 8019, 8028, 8046, 8048, 8050, 8052, 8054, 8056, 8058, 8060, 8062, 8073, 8087, 8089, 8091, 8093, 8095, 8097, 8133, 8134, 8135, 8152, 8153, 8161, 8162, 8163, 8164, 8165, 8166, 8167, 8168, 8216, 9059, 9061, 9062, 9128]
def wsX14_catches : List Cond := .code yX14_catches cX14_catches 7 (some (.array .int)) :: (wk ix_X14_catches)
theorem wm_X14_catches : ∀ w ∈ wk ix_X14_catches, w ∈ wsX14_catches := fun _ h => List.mem_cons_of_mem _ (h)
theorem wc_X14_catches : wk_at 9127 = some (.code yX14_catches cX14_catches 7 (some (.array .int))) := rfl
theorem wq_X14_catches : (wk ix_X14_catches).all goodWord = true := wk_good gdx_ok (by decide +kernel)
def ix_X14_planNow : List Nat := [1062, 1069, 2004, 2007, 2019, 2022, 2023, 2024, 2036, 2065, 2068, 2073, 2075, 2077, 2127, 2171, 2172, 2173, 2175, 2176, 2177, 2178, 2179, 2180, 2181, 2182, 2183, 2184, 2185, 2186, 2187, 4021, 4022, 4027, 4028, 7148, 7149, 7150, 7154, 7156, 7158, 7160, 7162, 7164, 7166, 7168, 7170, 7172, 7174, 7176, 7178, 7208, 7209, 7229, 7233, 7235, 7237, 7239, 8001, 8003, 8005, 8007, 8019, 8028, 8046, 8048, 8050, 8052, 8054, 8056, 8058, 8060, 8062, 8073, 8087, 8089, 8091, 8093, 8095, 8097, 8133, 8134, 8135, 8152, 8153, 8161, 8162, 8163, 8164, 8165, 8166, 8167, 8168, 8216, 9059, 9061, 9062, 9124, 9126, 9127, 9128]
def wsX14_planNow : List Cond := .code yX14_planNow cX14_planNow 10 (some .int) :: (wk ix_X14_planNow)
theorem wm_X14_planNow : ∀ w ∈ wk ix_X14_planNow, w ∈ wsX14_planNow := fun _ h => List.mem_cons_of_mem _ (h)
theorem wc_X14_planNow : wk_at 9123 = some (.code yX14_planNow cX14_planNow 10 (some .int)) := rfl
theorem wq_X14_planNow : (wk ix_X14_planNow).all goodWord = true := wk_good gdx_ok (by decide +kernel)
def ix_X14_plan : List Nat := [1046, 1047, 1062, 1068, 1069, 2004, 2007, 2019, 2022, 2023, 2024, 2036, 2065, 2068, 2073, 2075, 2077, 2127, 2171, 2172, 2173, 2175, 2176, 2177, 2178, 2179, 2180, 2181, 2182, 2183, 2184, 2185, 2186, 2187, 4021, 4022, 4027, 4028, 7141, 7148, 7149, 7150, 7154, 7156, 7158, 7160, 7162, 7164, 7166, 7168, 7170, 7172, 7174, 7176, 7178, 7193, 7194, 7195, 7196, 7198, 7199, 7208, 7209, 7229, 7233, 7235, 7237, 7239, 8001, 8003, 8005, 8007, 8015, 8017, 8018, 8019, 8028, 8046, 8048, 8050, 8052, 8054, 8056, 8058, 8060, 8062, 8073, 8087, 8089, 8091, 8093, 8095, 8097, 8133, 8134, 8135, 8152, 8153, 8161, 8162, 8163, 8164, 8165, 8166, 8167, 8168, 8216, 9059, 9061, 9062, 9120, 9122, 9123, 9124, 9126, 9127, 9128]
def wsX14_plan : List Cond := .code yX14_plan cX14_plan 3 (some .int) :: (wk ix_X14_plan)
theorem wm_X14_plan : ∀ w ∈ wk ix_X14_plan, w ∈ wsX14_plan := fun _ h => List.mem_cons_of_mem _ (h)
theorem wc_X14_plan : wk_at 9119 = some (.code yX14_plan cX14_plan 3 (some .int)) := rfl
theorem wq_X14_plan : (wk ix_X14_plan).all goodWord = true := wk_good gdx_ok (by decide +kernel)
def ix_X14_wouldPayNow : List Nat := [1052, 1055, 1056, 2004, 2007, 2019, 2022, 2023, 2024, 2028, 2036, 2065, 2068, 2073, 2075, 2077, 2171, 2172, 2173, 2175, 2176, 2177, 2178, 2179, 2180, 2181, 2182, 2183, 2184, 2185, 2186, 2187, 3131, 3132, 3133, 3169, 3170, 4027, 4028, 7127, 7129, 7131, 7133, 7135, 7137, 7142, 7147, 7148, 7149, 7150, 7154, 7156, 7158, 7160, 7162, 7164, 7166, 7168, 7170, 7172, 7174, 7176, 7178, 7208, 7209, 7217, 7219, 7227, 7233, 7235, 7237, 7239, 8001, 8003, 8005, 8007, 8019, 8028, 8046, 8048, 8050, 8052, 8054, 8056, 8058, 8060, 8062, 8073, 8081, 8087, 8089, 8091, 8093, 8095, 8097, 8112, 8113, 8114, 8131, 8132, 8133, 8134, 8135, 8152, 8153, 8182, 8183, 8185, 8186, 8187, 8188, 8189, 8190, 8191, 8196, 8197, 8198, 8199, 8204, 8206, 8207, 8208, 8209, 8210, 8211, 8212, 8214, 8215, 8216]
def wsX14_wouldPayNow : List Cond := .code yX14_wouldPayNow cX14_wouldPayNow 5 (some .int) :: (wk ix_X14_wouldPayNow)
theorem wm_X14_wouldPayNow : ∀ w ∈ wk ix_X14_wouldPayNow, w ∈ wsX14_wouldPayNow := fun _ h => List.mem_cons_of_mem _ (h)
theorem wc_X14_wouldPayNow : wk_at 9136 = some (.code yX14_wouldPayNow cX14_wouldPayNow 5 (some .int)) := rfl
theorem wq_X14_wouldPayNow : (wk ix_X14_wouldPayNow).all goodWord = true := wk_good gdx_ok (by decide +kernel)
def ix_X14_wouldPay : List Nat := [1046, 1047, 1052, 1055, 1056, 1070, 2004, 2007, 2019, 2022, 2023, 2024, 2028, 2036, 2065, 2068, 2073, 2075, 2077, 2171, 2172, 2173, 2175, 2176, 2177, 2178, 2179, 2180, 2181, 2182, 2183, 2184, 2185, 2186, 2187, 3131, 3132, 3133, 3169, 3170, 4027, 4028, 7127, 7129, 7131, 7133, 7135, 7137, 7141, 7142, 7147, 7148, 7149, 7150, 7154, 7156, 7158, 7160, 7162, 7164, 7166, 7168, 7170, 7172, 7174, 7176, 7178, 7193, 7194, 7195, 7196, 7198, 7199, 7208, 7209, 7217, 7219, 7227, 7233, 7235, 7237, 7239, 8001, 8003, 8005, 8007, 8015, 8017, 8018, 8019, 8028, 8046, 8048, 8050, 8052, 8054, 8056, 8058, 8060, 8062, 8073, 8081, 8087, 8089, 8091, 8093, 8095, 8097, 8112, 8113, 8114, 8131, 8132, 8133, 8134, 8135, 8152, 8153, 8182, 8183, 8185, 8186, 8187, 8188, 8189, 8190, 8191, 8196, 8197, 8198, 8199, 8204, 8206, 8207, 8208, 8209, 8210, 8211, 8212, 8214, 8215, 8216, 9133, 9135, 9136]
def wsX14_wouldPay : List Cond := .code yX14_wouldPay cX14_wouldPay 2 (some .int) :: (wk ix_X14_wouldPay)
theorem wm_X14_wouldPay : ∀ w ∈ wk ix_X14_wouldPay, w ∈ wsX14_wouldPay := fun _ h => List.mem_cons_of_mem _ (h)
theorem wc_X14_wouldPay : wk_at 9132 = some (.code yX14_wouldPay cX14_wouldPay 2 (some .int)) := rfl
theorem wq_X14_wouldPay : (wk ix_X14_wouldPay).all goodWord = true := wk_good gdx_ok (by decide +kernel)
def ix_X14_isSoundNow : List Nat := [1050, 2004, 2007, 2022, 2023, 2024, 2036, 2039, 2047, 2048, 2065, 2066, 2068, 2070, 2071, 2073, 2075, 2077, 2127, 2171, 2172, 2173, 2175, 2176, 2177, 2178, 2179, 2180, 2181, 2182, 2183, 2184, 2185, 2186, 2187, 7127, 7129, 7131, 7133, 7135, 7137, 7147, 7148, 7149, 7150, 7151, 7154, 7156, 7158, 7160, 7162, 7164, 7166, 7168, 7170, 7172, 7174, 7176, 7178, 7193, 7194, 7195, 7208, 7209, 7217, 7219, 7233, 7235, 7237, 7239, 8001, 8003, 8005, 8007, 8019, 8028, 8046, 8048, 8050, 8052, 8054, 8056, 8058, 8060, 8062, 8073, 8087, 8089, 8091, 8093, 8095, 8097, 8123, 8125, 8126, 8127, 8128, 8129, 8130, 8131, 8132, 8133, 8134, 8135, 8152, 8153, 8229, 8230, 8231, 8232, 8233, 8234, 8235, 8236, 8237, 8238, 8239, 9000, 9001, 9002, 9003, 9005, 9007, 9009, 9013, 9017, 9019, 9021, 9023, 9026, 9028, 9030, 9031, 9032, 9033, 9034]
def wsX14_isSoundNow : List Cond := .code yX14_isSoundNow cX14_isSoundNow 7 (some .boolean) :: (wk ix_X14_isSoundNow)
theorem wm_X14_isSoundNow : ∀ w ∈ wk ix_X14_isSoundNow, w ∈ wsX14_isSoundNow := fun _ h => List.mem_cons_of_mem _ (h)
theorem wc_X14_isSoundNow : wk_at 9144 = some (.code yX14_isSoundNow cX14_isSoundNow 7 (some .boolean)) := rfl
theorem wq_X14_isSoundNow : (wk ix_X14_isSoundNow).all goodWord = true := wk_good gdx_ok (by decide +kernel)
def ix_X14_isSound : List Nat := [1050, 1071, 2004, 2007, 2022, 2023, 2024, 2036, 2039, 2047, 2048, 2065, 2066, 2068, 2070, 2071, 2073, 2075, 2077, 2127, 2171, 2172, 2173, 2175, 2176, 2177, 2178, 2179, 2180, 2181, 2182, 2183, 2184, 2185, 2186, 2187, 7127, 7129, 7131, 7133, 7135, 7137, 7141, 7147, 7148, 7149, 7150, 7151, 7154, 7156, 7158, 7160, 7162, 7164, 7166, 7168, 7170, 7172, 7174, 7176, 7178, 7193, 7194, 7195, 7208, 7209, 7217, 7219, 7233, 7235, 7237, 7239, 8001, 8003, 8005, 8007, 8019, 8028, 8046, 8048, 8050, 8052, 8054, 8056, 8058, 8060, 8062, 8073, 8087, 8089, 8091, 8093, 8095, 8097, 8123, 8125, 8126, 8127, 8128, 8129, 8130, 8131, 8132, 8133, 8134, 8135, 8152, 8153, 8229, 8230, 8231, 8232, 8233, 8234, 8235, 8236, 8237, 8238, 8239, 9000, 9001, 9002, 9003, 9005, 9007, 9009, 9013, 9017, 9019, 9021, 9023, 9026, 9028, 9030, 9031, 9032, 9033, 9034, 9141, 9143, 9144]
def wsX14_isSound : List Cond := .code yX14_isSound cX14_isSound 1 (some .boolean) :: (wk ix_X14_isSound)
theorem wm_X14_isSound : ∀ w ∈ wk ix_X14_isSound, w ∈ wsX14_isSound := fun _ h => List.mem_cons_of_mem _ (h)
theorem wc_X14_isSound : wk_at 9140 = some (.code yX14_isSound cX14_isSound 1 (some .boolean)) := rfl
theorem wq_X14_isSound : (wk ix_X14_isSound).all goodWord = true := wk_good gdx_ok (by decide +kernel)
def ix_X14_add : List Nat := [7153, 7154, 7156, 7158, 7160, 7162, 7164, 7166, 7168, 7170, 7172, 7174, 7176, 7178, 9154]
def wsX14_add : List Cond := .code yX14_add cX14_add 3 none :: (wk ix_X14_add)
theorem wm_X14_add : ∀ w ∈ wk ix_X14_add, w ∈ wsX14_add := fun _ h => List.mem_cons_of_mem _ (h)
theorem wc_X14_add : wk_at 9153 = some (.code yX14_add cX14_add 3 none) := rfl
theorem wq_X14_add : (wk ix_X14_add).all goodWord = true := wk_good gdx_ok (by decide +kernel)
def ix_X14_digest : List Nat := [1050, 1052, 1055, 1056, 1058, 1059, 1060, 1061, 1062, 1063, 1064, 1065, 1066, 1067, 1068, 1069, 1070, 1071, 1072, 2004, 2007, 2019, 2022, 2023, 2024, 2028, 2036, 2039, 2047, 2048, 2065, 2066, 2068, 2070, 2071, 2073, 2075, 2077, 2127, 2171, 2172, 2173, 2175, 2176, 2177, 2178, 2179, 2180, 2181, 2182, 2183, 2184, 2185, 2186, 2187, 3131, 3132, 3133, 3169, 3170, 4021, 4022, 4027, 4028, 7127, 7129, 7131, 7133, 7135, 7137, 7141, 7142, 7143, 7145, 7146, 7147, 7148, 7149, 7150, 7151, 7153, 7154, 7156, 7158, 7160, 7162, 7164, 7166, 7168, 7170, 7172, 7174, 7176, 7178, 7193, 7194, 7195, 7208, 7209, 7217, 7219, 7221, 7223, 7227, 7229, 7233, 7235, 7237, 7239, 8001, 8003, 8005, 8007, 8019, 8028, 8046, 8048, 8050, 8052, 8054, 8056, 8058, 8060, 8062, 8073, 8081, 8087, 8089, 8091, 8093, 8095, 8097, 8112, 8113, 8114, 8123, 8125, 8126, 8127, 8128, 8129, 8130, 8131, 8132, 8133, 8134, 8135, 8152, 8153, 8161, 8162, 8163, 8164, 8165, 8166, 8167, 8168, 8178, 8179, 8180, 8181, 8182, 8183, 8185, 8186, 8187, 8188, 8189, 8190, 8191, 8196, 8197, 8198, 8199, 8204, 8206, 8207, 8208, 8209, 8210, 8211, 8212, 8214, 8215, 8216, 8229, 8230, 8231, 8232, 8233, 8234, 8235, 8236, 8237, 8238, 8239, 9000, 9001, 9002, 9003, 9005, 9007, 9009, 9013, 9017, 9019, 9021, 9023, 9026, 9028, 9030, 9031, 9032, 9033, 9034, 9039, 9041, 9042, 9043, 9045, 9046, 9047, 9049, 9050, 9055, 9057, 9058, 9059, 9061, 9062, 9067, 9069, 9070, 9071, 9073, 9074, 9079, 9081, 9082, 9104, 9106, 9107, 9112, 9114, 9115, 9120, 9122, 9123, 9124, 9126, 9127, 9128, 9133, 9135, 9136, 9141, 9143, 9144, 9149, 9150, 9152, 9153, 9154]
def wsX14_digest : List Cond := .code yX14_digest cX14_digest 3 (some .long) :: (wk ix_X14_digest)
theorem wm_X14_digest : ∀ w ∈ wk ix_X14_digest, w ∈ wsX14_digest := fun _ h => List.mem_cons_of_mem _ (h)
theorem wc_X14_digest : wk_at 9148 = some (.code yX14_digest cX14_digest 3 (some .long)) := rfl
theorem wq_X14_digest : (wk ix_X14_digest).all goodWord = true := wk_good gdx_ok (by decide +kernel)
def ix_J9_abs_0f7a4 : List Nat := []
def wsJ9_abs_0f7a4 : List Cond := .code yJ9_abs_0f7a4 cJ9_abs_0f7a4 1 (some .int) :: (wk ix_J9_abs_0f7a4)
theorem wm_J9_abs_0f7a4 : ∀ w ∈ wk ix_J9_abs_0f7a4, w ∈ wsJ9_abs_0f7a4 := fun _ h => List.mem_cons_of_mem _ (h)
theorem wc_J9_abs_0f7a4 : wk_at 3170 = some (.code yJ9_abs_0f7a4 cJ9_abs_0f7a4 1 (some .int)) := rfl
theorem wq_J9_abs_0f7a4 : (wk ix_J9_abs_0f7a4).all goodWord = true := wk_good gdx_ok (by decide +kernel)
def ix_J9_max_7cf53 : List Nat := []
def wsJ9_max_7cf53 : List Cond := .code yJ9_max_7cf53 cJ9_max_7cf53 2 (some .int) :: (wk ix_J9_max_7cf53)
theorem wm_J9_max_7cf53 : ∀ w ∈ wk ix_J9_max_7cf53, w ∈ wsJ9_max_7cf53 := fun _ h => List.mem_cons_of_mem _ (h)
theorem wc_J9_max_7cf53 : wk_at 4028 = some (.code yJ9_max_7cf53 cJ9_max_7cf53 2 (some .int)) := rfl
theorem wq_J9_max_7cf53 : (wk ix_J9_max_7cf53).all goodWord = true := wk_good gdx_ok (by decide +kernel)
def ix_J9_min_7cf53 : List Nat := []
def wsJ9_min_7cf53 : List Cond := .code yJ9_min_7cf53 cJ9_min_7cf53 2 (some .int) :: (wk ix_J9_min_7cf53)
theorem wm_J9_min_7cf53 : ∀ w ∈ wk ix_J9_min_7cf53, w ∈ wsJ9_min_7cf53 := fun _ h => List.mem_cons_of_mem _ (h)
theorem wc_J9_min_7cf53 : wk_at 4022 = some (.code yJ9_min_7cf53 cJ9_min_7cf53 2 (some .int)) := rfl
theorem wq_J9_min_7cf53 : (wk ix_J9_min_7cf53).all goodWord = true := wk_good gdx_ok (by decide +kernel)
def ix_Jx4a65c_outOfBoundsMsg_b52d3 : List Nat := [0, 1, 2, 3, 4, 5, 2018, 2019, 2020, 2021, 2024, 2030, 2031, 2032, 2033, 2034, 2036, 2047, 2048, 2068, 2073, 2075, 2077, 3075, 4021, 4022, 4027, 4028, 4174, 4175, 4176, 4177, 4178, 4179, 4180, 4217, 4218, 4219, 4220, 5165, 5166, 5167, 5168, 5169, 5170, 5171, 5172, 5173, 5174, 5176, 5177, 5178, 5179, 5180, 5181, 5182, 5183, 5184, 5185, 5186, 5187, 5189, 5191, 5193, 5195, 5197, 5198, 5199, 5200, 5201, 5202, 5203, 5204, 5206, 5207, 5208, 5210, 5211, 5212, 5214, 5215, 5216, 5217, 5218, 5219, 5220, 5221, 5222, 5223, 5224, 5225, 5227, 5228, 5229, 5230, 5231, 5232, 5233, 5234, 5235, 5236, 5237, 5238, 5239, 6000, 6001, 6002, 6003, 6004, 6005, 6007, 6008, 6009, 6010, 6011, 6012, 6013, 6015, 6017, 6019, 6020, 6021, 6022, 6023, 6024, 6025, 6026, 6027, 6028, 6030, 6031, 6032, 6034, 6035, 6036, 6037, 6039, 6040, 6041, 6042, 6043, 6044, 6045, 6046, 6047, 6048, 6049, 6050, 6051, 6052, 6053, 6054, 6055, 6056, 6057, 6058, 6059, 6060, 6061, 6062, 6063, 6064, 6065, 6066, 6067, 6068, 6069, 6070, 6071, 6072, 6073, 6074, 6075, 6077, 6079, 6080, 6081, 6082, 6083, 6084, 6085, 6086, 6088, 6089, 6090, 6091, 6092, 6093, 6094, 6095, 6096, 6097, 6098, 6099, 6100, 6101, 6102, 6103, 6104, 6105, 6106, 6107, 6108, 6109, 6110, 6111, 6112, 6113, 6114, 6115, 6116, 6117, 6118, 6119, 6120, 6121, 6122, 6123, 6125, 6132, 6133, 6134, 6135, 6136, 6137, 6138, 6139, 6140, 6141, 6142, 6143, 6144, 6145, 6146, 6147, 6149, 6151, 6153, 9156, 9157, 9158, 9159, 9160, 9161, 9162, 9163]
def wsJx4a65c_outOfBoundsMsg_b52d3 : List Cond := .code yJx4a65c_outOfBoundsMsg_b52d3 cJx4a65c_outOfBoundsMsg_b52d3 2 (some (.object "java/lang/String")) :: (wk ix_Jx4a65c_outOfBoundsMsg_b52d3)
theorem wm_Jx4a65c_outOfBoundsMsg_b52d3 : ∀ w ∈ wk ix_Jx4a65c_outOfBoundsMsg_b52d3, w ∈ wsJx4a65c_outOfBoundsMsg_b52d3 := fun _ h => List.mem_cons_of_mem _ (h)
theorem wc_Jx4a65c_outOfBoundsMsg_b52d3 : wk_at 5164 = some (.code yJx4a65c_outOfBoundsMsg_b52d3 cJx4a65c_outOfBoundsMsg_b52d3 2 (some (.object "java/lang/String"))) := rfl
theorem wq_Jx4a65c_outOfBoundsMsg_b52d3 : (wk ix_Jx4a65c_outOfBoundsMsg_b52d3).all goodWord = true := wk_good gdx_ok (by decide +kernel)
def ix_L_land : List Nat := [1009, 2001, 2013, 2014, 2104, 2106, 2112, 2114, 2116, 2118, 2120, 2122, 2124, 2128, 2139, 2141, 2143, 2145, 2147, 2149, 2151, 2153, 2155, 2157, 2159, 3008, 3080, 3082, 3083, 3084, 4008, 4009, 4010, 4050, 4052, 4058, 4060, 4061, 4062, 4063]
def wsL_land : List Cond := .codeWith yL_land cL_land 6 (some .int) [(0, 13, 16, 19), (0, 13, 20, 21)] :: (wk ix_L_land ++ (vx_atS RX8 446 "java/lang/IndexOutOfBoundsException" ["java/lang/RuntimeException", "java/lang/Exception"]).filter goodWord ++ (vx_atS RX8 69 "java/lang/IllegalArgumentException" ["java/lang/RuntimeException", "java/lang/Exception"]).filter goodWord)
theorem wm_L_land : ∀ w ∈ wk ix_L_land, w ∈ wsL_land := fun _ h => List.mem_cons_of_mem _ (List.mem_append_left _ (List.mem_append_left _ (h)))
theorem wc_L_land : wk_at 4057 = some (.codeWith yL_land cL_land 6 (some .int) [(0, 13, 16, 19), (0, 13, 20, 21)]) := rfl
theorem wq_L_land : (wk ix_L_land).all goodWord = true := wk_good gdx_ok (by decide +kernel)
def ix_L_trade : List Nat := [1009, 2001, 2013, 2014, 2015, 2108, 2112, 2114, 2116, 2118, 2120, 2122, 2124, 2128, 2139, 2141, 2143, 2145, 2147, 2149, 2151, 2153, 2155, 2157, 2159, 3008, 3080, 3082, 3083, 3084, 4050, 4052, 4058, 4068, 4069, 4070, 4071, 4073]
def wsL_trade : List Cond := .codeWith yL_trade cL_trade 6 (some .int) [(0, 13, 16, 19), (0, 13, 20, 21), (0, 13, 24, 26)] :: (wk ix_L_trade ++ (vx_atS RX8 69 "java/lang/IllegalArgumentException" ["java/lang/RuntimeException", "java/lang/Exception"]).filter goodWord ++ (vx_atS RX8 79 "java/lang/IllegalStateException" ["java/lang/RuntimeException", "java/lang/Exception"]).filter goodWord ++ (vx_atS RX8 446 "java/lang/IndexOutOfBoundsException" ["java/lang/RuntimeException", "java/lang/Exception"]).filter goodWord)
theorem wm_L_trade : ∀ w ∈ wk ix_L_trade, w ∈ wsL_trade := fun _ h => List.mem_cons_of_mem _ (List.mem_append_left _ (List.mem_append_left _ (List.mem_append_left _ (h))))
theorem wc_L_trade : wk_at 4066 = some (.codeWith yL_trade cL_trade 6 (some .int) [(0, 13, 16, 19), (0, 13, 20, 21), (0, 13, 24, 26)]) := rfl
theorem wq_L_trade : (wk ix_L_trade).all goodWord = true := wk_good gdx_ok (by decide +kernel)
def ix_L_gate : List Nat := [1009, 1030, 1031, 1032, 2001, 2002, 2003, 2004, 2013, 2014, 2015, 2016, 2017, 2018, 2019, 2020, 2021, 2047, 2048, 2052, 2054, 2055, 2056, 2057, 2058, 2059, 2060, 2061, 2062, 2063, 2065, 2068, 2069, 2071, 2072, 2073, 2075, 2077, 2128, 2129, 2139, 2141, 2143, 2145, 2147, 2149, 2151, 2153, 2155, 2157, 2159, 2170, 2171, 2172, 2173, 2193, 3008, 3080, 3082, 3083, 3084, 4008, 4009, 4010, 4021, 4022, 4027, 4028, 4050, 4052, 4058, 4073, 4092, 4093, 4094, 4095, 4098, 4099, 4100, 4101, 4102, 4103, 4104, 4105, 4106, 4108, 4109, 4110, 4113, 4115, 4118, 4119, 4120, 4122, 4124, 4125, 4126, 4128, 4130, 4132, 4136, 4138, 4140, 4142, 4144, 4146, 4148, 4150, 4152, 4154, 4157, 4158, 4159, 4160, 4161, 4163, 4164, 4165, 4167, 4168, 4169, 4171, 4172, 4173, 4174, 4175, 4176, 4177, 4178, 4179, 4180, 4181, 4182, 4183, 4184, 4185, 4210, 4211, 4212, 4213, 4214, 4216, 4217, 4218, 4219, 4220, 4221, 4222, 9190]
def wsL_gate : List Cond := .codeWith yL_gate cL_gate 7 (some .int) [(0, 15, 18, 19), (0, 15, 22, 21), (0, 15, 26, 26)] :: (wk ix_L_gate ++ (vx_atS RX8 69 "java/lang/IllegalArgumentException" ["java/lang/RuntimeException", "java/lang/Exception"]).filter goodWord ++ (vx_atS RX8 79 "java/lang/IllegalStateException" ["java/lang/RuntimeException", "java/lang/Exception"]).filter goodWord ++ (vx_atS RX8 446 "java/lang/IndexOutOfBoundsException" ["java/lang/RuntimeException", "java/lang/Exception"]).filter goodWord)
theorem wm_L_gate : ∀ w ∈ wk ix_L_gate, w ∈ wsL_gate := fun _ h => List.mem_cons_of_mem _ (List.mem_append_left _ (List.mem_append_left _ (List.mem_append_left _ (h))))
theorem wc_L_gate : wk_at 4091 = some (.codeWith yL_gate cL_gate 7 (some .int) [(0, 15, 18, 19), (0, 15, 22, 21), (0, 15, 26, 26)]) := rfl
theorem wq_L_gate : (wk ix_L_gate).all goodWord = true := wk_good gdx_ok (by decide +kernel)
def ix_L_odds : List Nat := [1013, 2001, 2004, 2013, 2014, 2023, 2024, 2065, 2068, 2073, 2075, 2077, 2129, 2139, 2141, 2143, 2145, 2147, 2149, 2151, 2153, 2155, 2157, 2159, 2170, 2171, 2172, 2173, 2174, 2175, 2176, 2177, 2178, 2179, 2180, 2181, 2182, 2183, 2184, 2185, 2186, 2187, 2193, 3008, 3084, 3117, 3119, 3120, 4008, 4009, 4010, 4050, 4052, 4058, 4133, 4136, 4138, 4140, 4142, 4144, 4146, 4148, 4150, 4152, 4154, 4226, 4227, 4228, 4229]
def wsL_odds : List Cond := .codeWith yL_odds cL_odds 5 (some .int) [(0, 11, 14, 19), (0, 11, 18, 21)] :: (wk ix_L_odds ++ (vx_atS RX8 446 "java/lang/IndexOutOfBoundsException" ["java/lang/RuntimeException", "java/lang/Exception"]).filter goodWord ++ (vx_atS RX8 69 "java/lang/IllegalArgumentException" ["java/lang/RuntimeException", "java/lang/Exception"]).filter goodWord)
theorem wm_L_odds : ∀ w ∈ wk ix_L_odds, w ∈ wsL_odds := fun _ h => List.mem_cons_of_mem _ (List.mem_append_left _ (List.mem_append_left _ (h)))
theorem wc_L_odds : wk_at 4225 = some (.codeWith yL_odds cL_odds 5 (some .int) [(0, 11, 14, 19), (0, 11, 18, 21)]) := rfl
theorem wq_L_odds : (wk ix_L_odds).all goodWord = true := wk_good gdx_ok (by decide +kernel)
def ix_L_relieve : List Nat := [1013, 2001, 2004, 2013, 2023, 2024, 2065, 2068, 2073, 2075, 2077, 2129, 2139, 2141, 2143, 2145, 2147, 2149, 2151, 2153, 2155, 2157, 2159, 2170, 2171, 2172, 2173, 2174, 2175, 2176, 2177, 2178, 2179, 2180, 2181, 2182, 2183, 2184, 2185, 2186, 2187, 2193, 3084, 3117, 3119, 3120, 4050, 4052, 4058, 4135, 4136, 4138, 4140, 4142, 4144, 4146, 4148, 4150, 4152, 4154, 4233, 4234, 4235, 4236]
def wsL_relieve : List Cond := .codeWith yL_relieve cL_relieve 4 (some .int) [(0, 10, 13, 19)] :: (wk ix_L_relieve ++ (vx_atS RX8 446 "java/lang/IndexOutOfBoundsException" ["java/lang/RuntimeException", "java/lang/Exception"]).filter goodWord)
theorem wm_L_relieve : ∀ w ∈ wk ix_L_relieve, w ∈ wsL_relieve := fun _ h => List.mem_cons_of_mem _ (List.mem_append_left _ (h))
theorem wc_L_relieve : wk_at 4232 = some (.codeWith yL_relieve cL_relieve 4 (some .int) [(0, 10, 13, 19)]) := rfl
theorem wq_L_relieve : (wk ix_L_relieve).all goodWord = true := wk_good gdx_ok (by decide +kernel)
def ix_L_sleeper : List Nat := [1009, 1030, 1031, 1032, 2001, 2004, 2013, 2014, 2015, 2018, 2019, 2020, 2021, 2025, 2047, 2048, 2063, 2065, 2068, 2071, 2072, 2073, 2075, 2077, 2128, 2130, 2139, 2141, 2143, 2145, 2147, 2149, 2151, 2153, 2155, 2157, 2159, 2170, 2171, 2172, 2173, 2188, 3008, 3080, 3082, 3083, 3084, 4008, 4009, 4010, 4021, 4022, 4027, 4028, 4050, 4052, 4058, 4073, 4157, 4158, 4159, 4160, 4161, 4163, 4164, 4165, 4167, 4168, 4169, 4171, 4172, 4173, 4174, 4175, 4176, 4177, 4178, 4179, 4180, 4181, 4182, 4183, 4184, 4185, 4210, 4211, 4212, 4213, 4214, 4216, 4217, 4218, 4219, 4220, 4221, 4222, 5000, 5001, 5002, 5003, 5005, 5006, 5007, 5008, 5009, 5010, 5011, 5012, 5015, 5018, 5020, 5029, 5031, 5033, 5035, 5037, 5039, 5041, 5043, 5045, 9190]
def wsL_sleeper : List Cond := .codeWith yL_sleeper cL_sleeper 6 (some .int) [(0, 13, 16, 19), (0, 13, 20, 21), (0, 13, 24, 26)] :: (wk ix_L_sleeper ++ (vx_atS RX8 79 "java/lang/IllegalStateException" ["java/lang/RuntimeException", "java/lang/Exception"]).filter goodWord ++ (vx_atS RX8 446 "java/lang/IndexOutOfBoundsException" ["java/lang/RuntimeException", "java/lang/Exception"]).filter goodWord ++ (vx_atS RX8 69 "java/lang/IllegalArgumentException" ["java/lang/RuntimeException", "java/lang/Exception"]).filter goodWord)
theorem wm_L_sleeper : ∀ w ∈ wk ix_L_sleeper, w ∈ wsL_sleeper := fun _ h => List.mem_cons_of_mem _ (List.mem_append_left _ (List.mem_append_left _ (List.mem_append_left _ (h))))
theorem wc_L_sleeper : wk_at 4239 = some (.codeWith yL_sleeper cL_sleeper 6 (some .int) [(0, 13, 16, 19), (0, 13, 20, 21), (0, 13, 24, 26)]) := rfl
theorem wq_L_sleeper : (wk ix_L_sleeper).all goodWord = true := wk_good gdx_ok (by decide +kernel)
def ix_L_part : List Nat := [1018, 1030, 1031, 1032, 2001, 2004, 2013, 2014, 2015, 2018, 2019, 2020, 2021, 2023, 2024, 2027, 2047, 2048, 2063, 2065, 2068, 2071, 2072, 2073, 2075, 2077, 2130, 2131, 2139, 2141, 2143, 2145, 2147, 2149, 2151, 2153, 2155, 2157, 2159, 2170, 2171, 2172, 2173, 2174, 2175, 2176, 2177, 2178, 2179, 2180, 2181, 2182, 2183, 2184, 2185, 2186, 2187, 2188, 2208, 3008, 3084, 3200, 3202, 3203, 4008, 4009, 4010, 4021, 4022, 4027, 4028, 4050, 4052, 4058, 4073, 4157, 4158, 4159, 4160, 4161, 4163, 4164, 4165, 4167, 4168, 4169, 4171, 4172, 4173, 4174, 4175, 4176, 4177, 4178, 4179, 4180, 4181, 4182, 4183, 4184, 4185, 4210, 4211, 4212, 4213, 4214, 4216, 4217, 4218, 4219, 4220, 4221, 4222, 5021, 5029, 5031, 5033, 5035, 5037, 5039, 5041, 5043, 5045, 5051, 5052, 5053, 5054, 5056, 5057, 5058, 5059, 5060, 5061, 5062, 5063, 5065, 5067, 5071, 5076, 5078, 5080, 5082, 5084, 5086, 5088, 5090, 9190]
def wsL_part : List Cond := .codeWith yL_part cL_part 7 (some .int) [(0, 15, 18, 19), (0, 15, 22, 21), (0, 15, 26, 26)] :: (wk ix_L_part ++ (vx_atS RX8 79 "java/lang/IllegalStateException" ["java/lang/RuntimeException", "java/lang/Exception"]).filter goodWord ++ (vx_atS RX8 446 "java/lang/IndexOutOfBoundsException" ["java/lang/RuntimeException", "java/lang/Exception"]).filter goodWord ++ (vx_atS RX8 69 "java/lang/IllegalArgumentException" ["java/lang/RuntimeException", "java/lang/Exception"]).filter goodWord)
theorem wm_L_part : ∀ w ∈ wk ix_L_part, w ∈ wsL_part := fun _ h => List.mem_cons_of_mem _ (List.mem_append_left _ (List.mem_append_left _ (List.mem_append_left _ (h))))
theorem wc_L_part : wk_at 5050 = some (.codeWith yL_part cL_part 7 (some .int) [(0, 15, 18, 19), (0, 15, 22, 21), (0, 15, 26, 26)]) := rfl
theorem wq_L_part : (wk ix_L_part).all goodWord = true := wk_good gdx_ok (by decide +kernel)
def ix_L_give : List Nat := [1018, 1022, 2001, 2004, 2013, 2015, 2023, 2024, 2065, 2068, 2073, 2075, 2077, 2130, 2131, 2139, 2141, 2143, 2145, 2147, 2149, 2151, 2153, 2155, 2157, 2159, 2170, 2171, 2172, 2173, 2174, 2175, 2176, 2177, 2178, 2179, 2180, 2181, 2182, 2183, 2184, 2185, 2186, 2187, 2188, 2208, 3084, 3200, 3202, 3203, 3226, 3228, 3229, 4050, 4052, 4058, 4073, 5011, 5017, 5021, 5029, 5031, 5033, 5035, 5037, 5039, 5041, 5043, 5045, 5072, 5076, 5078, 5080, 5082, 5084, 5086, 5088, 5090, 5096, 5097, 5098, 5099]
def wsL_give : List Cond := .codeWith yL_give cL_give 5 (some .int) [(0, 11, 14, 19), (0, 11, 18, 26)] :: (wk ix_L_give ++ (vx_atS RX8 79 "java/lang/IllegalStateException" ["java/lang/RuntimeException", "java/lang/Exception"]).filter goodWord ++ (vx_atS RX8 446 "java/lang/IndexOutOfBoundsException" ["java/lang/RuntimeException", "java/lang/Exception"]).filter goodWord)
theorem wm_L_give : ∀ w ∈ wk ix_L_give, w ∈ wsL_give := fun _ h => List.mem_cons_of_mem _ (List.mem_append_left _ (List.mem_append_left _ (h)))
theorem wc_L_give : wk_at 5095 = some (.codeWith yL_give cL_give 5 (some .int) [(0, 11, 14, 19), (0, 11, 18, 26)]) := rfl
theorem wq_L_give : (wk ix_L_give).all goodWord = true := wk_good gdx_ok (by decide +kernel)
def ix_L_sing : List Nat := [1013, 1018, 2001, 2004, 2013, 2014, 2023, 2024, 2029, 2047, 2048, 2065, 2068, 2073, 2075, 2077, 2129, 2130, 2136, 2139, 2141, 2143, 2145, 2147, 2149, 2151, 2153, 2155, 2157, 2159, 2170, 2171, 2172, 2173, 2174, 2175, 2176, 2177, 2178, 2179, 2180, 2181, 2182, 2183, 2184, 2185, 2186, 2187, 2188, 2193, 3008, 3084, 3117, 3119, 3120, 3165, 3166, 3167, 3200, 3202, 3203, 4008, 4009, 4010, 4050, 4052, 4058, 4119, 4136, 4138, 4140, 4142, 4144, 4146, 4148, 4150, 4152, 4154, 5011, 5027, 5029, 5031, 5033, 5035, 5037, 5039, 5041, 5043, 5045, 5105, 5106, 5107, 5108, 5109, 5110, 5111, 5112, 5113, 5114, 5115, 5117, 5119, 5121, 5123, 5125]
def wsL_sing : List Cond := .codeWith yL_sing cL_sing 7 (some .int) [(0, 15, 18, 19), (0, 15, 22, 21)] :: (wk ix_L_sing ++ (vx_atS RX8 446 "java/lang/IndexOutOfBoundsException" ["java/lang/RuntimeException", "java/lang/Exception"]).filter goodWord ++ (vx_atS RX8 69 "java/lang/IllegalArgumentException" ["java/lang/RuntimeException", "java/lang/Exception"]).filter goodWord)
theorem wm_L_sing : ∀ w ∈ wk ix_L_sing, w ∈ wsL_sing := fun _ h => List.mem_cons_of_mem _ (List.mem_append_left _ (List.mem_append_left _ (h)))
theorem wc_L_sing : wk_at 5104 = some (.codeWith yL_sing cL_sing 7 (some .int) [(0, 15, 18, 19), (0, 15, 22, 21)]) := rfl
theorem wq_L_sing : (wk ix_L_sing).all goodWord = true := wk_good gdx_ok (by decide +kernel)
def ix_L_revoke : List Nat := [1013, 2001, 2004, 2013, 2014, 2017, 2023, 2024, 2065, 2068, 2073, 2075, 2077, 2129, 2139, 2141, 2143, 2145, 2147, 2149, 2151, 2153, 2155, 2157, 2159, 2170, 2171, 2172, 2173, 2174, 2175, 2176, 2177, 2178, 2179, 2180, 2181, 2182, 2183, 2184, 2185, 2186, 2187, 2193, 3008, 3084, 3117, 3119, 3120, 3171, 3172, 3173, 3174, 4008, 4009, 4010, 4050, 4052, 4058, 4111, 4112, 4113, 4115, 4129, 4136, 4138, 4140, 4142, 4144, 4146, 4148, 4150, 4152, 4154, 5131, 5132, 5133, 5134, 5135, 5136, 5137, 5138]
def wsL_revoke : List Cond := .codeWith yL_revoke cL_revoke 5 (some .int) [(0, 18, 21, 19), (0, 18, 25, 21)] :: (wk ix_L_revoke ++ (vx_atS RX8 446 "java/lang/IndexOutOfBoundsException" ["java/lang/RuntimeException", "java/lang/Exception"]).filter goodWord ++ (vx_atS RX8 69 "java/lang/IllegalArgumentException" ["java/lang/RuntimeException", "java/lang/Exception"]).filter goodWord)
theorem wm_L_revoke : ∀ w ∈ wk ix_L_revoke, w ∈ wsL_revoke := fun _ h => List.mem_cons_of_mem _ (List.mem_append_left _ (List.mem_append_left _ (h)))
theorem wc_L_revoke : wk_at 5130 = some (.codeWith yL_revoke cL_revoke 5 (some .int) [(0, 18, 21, 19), (0, 18, 25, 21)]) := rfl
theorem wq_L_revoke : (wk ix_L_revoke).all goodWord = true := wk_good gdx_ok (by decide +kernel)
def ix_L_join : List Nat := [1002, 1013, 1018, 1031, 1032, 1033, 2001, 2004, 2013, 2014, 2015, 2016, 2018, 2019, 2020, 2021, 2023, 2024, 2025, 2063, 2065, 2068, 2071, 2072, 2073, 2075, 2077, 2129, 2130, 2131, 2139, 2141, 2143, 2145, 2147, 2149, 2151, 2153, 2155, 2157, 2159, 2170, 2171, 2172, 2173, 2174, 2175, 2176, 2177, 2178, 2179, 2180, 2181, 2182, 2183, 2184, 2185, 2186, 2187, 2188, 2193, 2198, 2199, 2200, 2201, 2202, 2203, 2204, 2206, 2207, 2208, 2213, 3008, 3084, 3117, 3119, 3120, 3200, 3202, 3203, 4021, 4022, 4027, 4028, 4050, 4052, 4058, 4073, 4120, 4122, 4126, 4127, 4136, 4138, 4140, 4142, 4144, 4146, 4148, 4150, 4152, 4154, 4165, 4167, 4168, 4169, 4171, 4172, 4173, 4174, 4175, 4176, 4177, 4178, 4179, 4180, 4181, 4182, 4183, 4184, 4185, 4210, 4211, 4212, 4213, 4214, 4216, 4217, 4218, 4219, 4220, 4221, 4222, 5013, 5014, 5017, 5020, 5021, 5022, 5024, 5029, 5031, 5033, 5035, 5037, 5039, 5041, 5043, 5045, 5062, 5072, 5076, 5078, 5080, 5082, 5084, 5086, 5088, 5090, 5142, 5143, 5144, 5145, 5148, 5149, 5150, 5151, 5152, 5153, 5154, 5155, 5156, 5158, 5159, 6157, 6158, 6159, 6160, 6161, 9190]
def wsL_join : List Cond := .codeWith yL_join cL_join 6 (some .int) [(0, 13, 16, 19), (0, 13, 20, 21), (0, 13, 24, 26)] :: (wk ix_L_join ++ (vx_atS RX8 69 "java/lang/IllegalArgumentException" ["java/lang/RuntimeException", "java/lang/Exception"]).filter goodWord ++ (vx_atS RX8 79 "java/lang/IllegalStateException" ["java/lang/RuntimeException", "java/lang/Exception"]).filter goodWord ++ (vx_atS RX8 446 "java/lang/IndexOutOfBoundsException" ["java/lang/RuntimeException", "java/lang/Exception"]).filter goodWord)
theorem wm_L_join : ∀ w ∈ wk ix_L_join, w ∈ wsL_join := fun _ h => List.mem_cons_of_mem _ (List.mem_append_left _ (List.mem_append_left _ (List.mem_append_left _ (h))))
theorem wc_L_join : wk_at 5141 = some (.codeWith yL_join cL_join 6 (some .int) [(0, 13, 16, 19), (0, 13, 20, 21), (0, 13, 24, 26)]) := rfl
theorem wq_L_join : (wk ix_L_join).all goodWord = true := wk_good gdx_ok (by decide +kernel)
def ix_L_leave : List Nat := [1018, 1035, 2001, 2004, 2013, 2015, 2021, 2023, 2024, 2025, 2065, 2068, 2071, 2072, 2073, 2075, 2077, 2130, 2139, 2141, 2143, 2145, 2147, 2149, 2151, 2153, 2155, 2157, 2159, 2170, 2171, 2172, 2173, 2174, 2175, 2176, 2177, 2178, 2179, 2180, 2181, 2182, 2183, 2184, 2185, 2186, 2187, 2188, 3084, 3200, 3202, 3203, 3205, 3206, 3207, 4050, 4052, 4058, 4073, 4127, 4136, 4138, 4140, 4142, 4144, 4146, 4148, 4150, 4152, 4154, 4219, 4220, 5020, 5022, 5023, 5024, 5029, 5031, 5033, 5035, 5037, 5039, 5041, 5043, 5045, 6157, 6165, 6166, 6167, 6168, 6170, 6171, 6172, 6173, 6174, 6176, 6177, 6178, 6179, 6180, 6181]
def wsL_leave : List Cond := .codeWith yL_leave cL_leave 4 (some .int) [(0, 10, 13, 19), (0, 10, 16, 26)] :: (wk ix_L_leave ++ (vx_atS RX8 79 "java/lang/IllegalStateException" ["java/lang/RuntimeException", "java/lang/Exception"]).filter goodWord ++ (vx_atS RX8 446 "java/lang/IndexOutOfBoundsException" ["java/lang/RuntimeException", "java/lang/Exception"]).filter goodWord)
theorem wm_L_leave : ∀ w ∈ wk ix_L_leave, w ∈ wsL_leave := fun _ h => List.mem_cons_of_mem _ (List.mem_append_left _ (List.mem_append_left _ (h)))
theorem wc_L_leave : wk_at 6164 = some (.codeWith yL_leave cL_leave 4 (some .int) [(0, 10, 13, 19), (0, 10, 16, 26)]) := rfl
theorem wq_L_leave : (wk ix_L_leave).all goodWord = true := wk_good gdx_ok (by decide +kernel)
def ix_L_yawn : List Nat := [1013, 1015, 1016, 1017, 1030, 1031, 1032, 1035, 1036, 1037, 1038, 1039, 1040, 1041, 2001, 2004, 2005, 2006, 2013, 2015, 2016, 2017, 2018, 2019, 2020, 2021, 2023, 2024, 2025, 2027, 2038, 2047, 2048, 2063, 2065, 2068, 2071, 2072, 2073, 2075, 2077, 2086, 2088, 2089, 2091, 2103, 2105, 2106, 2108, 2109, 2110, 2111, 2112, 2114, 2116, 2118, 2120, 2122, 2124, 2129, 2131, 2132, 2133, 2136, 2137, 2138, 2139, 2141, 2143, 2145, 2147, 2149, 2151, 2153, 2155, 2157, 2159, 2170, 2171, 2172, 2173, 2174, 2175, 2176, 2177, 2178, 2179, 2180, 2181, 2182, 2183, 2184, 2185, 2186, 2187, 2188, 2193, 2208, 3084, 3117, 3119, 3120, 3122, 3123, 3124, 3125, 3126, 3127, 3128, 3129, 3130, 3131, 3132, 3133, 3138, 3139, 3140, 3141, 3142, 3143, 3144, 3145, 3161, 3163, 3164, 3165, 3166, 3167, 3168, 3169, 3170, 3171, 3172, 3173, 3174, 3175, 3176, 3177, 3178, 3179, 3181, 3182, 3183, 3184, 3185, 3186, 3187, 3188, 3190, 3191, 3192, 3193, 3194, 3195, 3220, 4021, 4022, 4027, 4028, 4050, 4052, 4058, 4073, 4111, 4112, 4113, 4115, 4119, 4120, 4122, 4124, 4125, 4127, 4129, 4133, 4134, 4136, 4138, 4140, 4142, 4144, 4146, 4148, 4150, 4152, 4154, 4157, 4158, 4159, 4160, 4161, 4163, 4164, 4165, 4167, 4168, 4169, 4171, 4172, 4173, 4174, 4175, 4176, 4177, 4178, 4179, 4180, 4181, 4182, 4183, 4184, 4185, 4210, 4211, 4212, 4213, 4214, 4216, 4217, 4218, 4219, 4220, 4221, 4222, 5011, 5017, 5019, 5020, 5022, 5024, 5025, 5026, 5027, 5028, 5029, 5031, 5033, 5035, 5037, 5039, 5041, 5043, 5045, 5061, 5062, 5064, 5066, 5067, 5069, 5070, 5071, 5072, 5073, 5075, 5076, 5078, 5080, 5082, 5084, 5086, 5088, 5090, 5116, 5118, 5120, 5121, 5123, 5125, 6157, 6170, 6171, 6172, 6173, 6174, 6176, 6177, 6178, 6179, 6180, 6181, 6185, 6186, 6187, 6188, 6190, 6192, 6193, 6194, 6195, 6196, 6197, 6198, 6200, 6201, 6202, 6204, 6205, 6206, 6207, 6208, 6209, 6210, 6211, 6212, 6213, 6214, 6215, 6216, 6217, 6219, 6221, 6224, 6225, 6226, 6227, 6228, 6230, 6231, 6232, 6234, 6235, 6236, 6238, 6239, 9190]
def wsL_yawn : List Cond := .codeWith yL_yawn cL_yawn 4 (some .int) [(0, 10, 13, 19), (0, 10, 16, 26)] :: (wk ix_L_yawn ++ (vx_atS RX8 79 "java/lang/IllegalStateException" ["java/lang/RuntimeException", "java/lang/Exception"]).filter goodWord ++ (vx_atS RX8 446 "java/lang/IndexOutOfBoundsException" ["java/lang/RuntimeException", "java/lang/Exception"]).filter goodWord)
theorem wm_L_yawn : ∀ w ∈ wk ix_L_yawn, w ∈ wsL_yawn := fun _ h => List.mem_cons_of_mem _ (List.mem_append_left _ (List.mem_append_left _ (h)))
theorem wc_L_yawn : wk_at 6184 = some (.codeWith yL_yawn cL_yawn 4 (some .int) [(0, 10, 13, 19), (0, 10, 16, 26)]) := rfl
theorem wq_L_yawn : (wk ix_L_yawn).all goodWord = true := wk_good gdx_ok (by decide +kernel)
def ix_L_appeal : List Nat := [1022, 2001, 2004, 2013, 2015, 2023, 2024, 2065, 2068, 2073, 2075, 2077, 2106, 2111, 2112, 2114, 2116, 2118, 2120, 2122, 2124, 2131, 2139, 2141, 2143, 2145, 2147, 2149, 2151, 2153, 2155, 2157, 2159, 2170, 2171, 2172, 2173, 2174, 2175, 2176, 2177, 2178, 2179, 2180, 2181, 2182, 2183, 2184, 2185, 2186, 2187, 2208, 3084, 3226, 3228, 3229, 4050, 4052, 4058, 4073, 5017, 5021, 5029, 5031, 5033, 5035, 5037, 5039, 5041, 5043, 5045, 5066, 5070, 5072, 5074, 5075, 5076, 5078, 5080, 5082, 5084, 5086, 5088, 5090, 7003, 7004, 7005, 7006]
def wsL_appeal : List Cond := .codeWith yL_appeal cL_appeal 4 (some .int) [(0, 17, 20, 19), (0, 17, 23, 26)] :: (wk ix_L_appeal ++ (vx_atS RX8 79 "java/lang/IllegalStateException" ["java/lang/RuntimeException", "java/lang/Exception"]).filter goodWord ++ (vx_atS RX8 446 "java/lang/IndexOutOfBoundsException" ["java/lang/RuntimeException", "java/lang/Exception"]).filter goodWord)
theorem wm_L_appeal : ∀ w ∈ wk ix_L_appeal, w ∈ wsL_appeal := fun _ h => List.mem_cons_of_mem _ (List.mem_append_left _ (List.mem_append_left _ (h)))
theorem wc_L_appeal : wk_at 7002 = some (.codeWith yL_appeal cL_appeal 4 (some .int) [(0, 17, 20, 19), (0, 17, 23, 26)]) := rfl
theorem wq_L_appeal : (wk ix_L_appeal).all goodWord = true := wk_good gdx_ok (by decide +kernel)
def ix_L_pass : List Nat := [1042, 1043, 1044, 2001, 2004, 2014, 2015, 2016, 2017, 2023, 2024, 2065, 2068, 2073, 2075, 2077, 2109, 2112, 2114, 2116, 2118, 2120, 2122, 2124, 2128, 2129, 2130, 2136, 2137, 2139, 2141, 2143, 2145, 2147, 2149, 2151, 2153, 2155, 2157, 2159, 2170, 2171, 2172, 2173, 2174, 2175, 2176, 2177, 2178, 2179, 2180, 2181, 2182, 2183, 2184, 2185, 2186, 2187, 2188, 2193, 2200, 2201, 2202, 2203, 3008, 3122, 3123, 3124, 3125, 4008, 4009, 4010, 4050, 4052, 4059, 4073, 4111, 4112, 4113, 4115, 4120, 4121, 4122, 4123, 4124, 4125, 4129, 4131, 4135, 4136, 4138, 4140, 4142, 4144, 4146, 4148, 4150, 4152, 4154, 5027, 5029, 5031, 5033, 5035, 5037, 5039, 5041, 5043, 5045, 5118, 5121, 5123, 5125, 7011, 7012, 7013, 7014, 7016, 7018, 7019, 7020, 7022, 7023, 7024, 7026, 7027, 7028, 7029, 7030, 7031]
def wsL_pass : List Cond := .codeWith yL_pass cL_pass 4 (some .int) [(0, 10, 13, 21), (0, 10, 16, 26)] :: (wk ix_L_pass ++ (vx_atS RX8 79 "java/lang/IllegalStateException" ["java/lang/RuntimeException", "java/lang/Exception"]).filter goodWord ++ (vx_atS RX8 69 "java/lang/IllegalArgumentException" ["java/lang/RuntimeException", "java/lang/Exception"]).filter goodWord)
theorem wm_L_pass : ∀ w ∈ wk ix_L_pass, w ∈ wsL_pass := fun _ h => List.mem_cons_of_mem _ (List.mem_append_left _ (List.mem_append_left _ (h)))
theorem wc_L_pass : wk_at 7010 = some (.codeWith yL_pass cL_pass 4 (some .int) [(0, 10, 13, 21), (0, 10, 16, 26)]) := rfl
theorem wq_L_pass : (wk ix_L_pass).all goodWord = true := wk_good gdx_ok (by decide +kernel)
def ix_L_ofLand : List Nat := [1009, 1010, 1011, 1012, 2001, 2004, 2013, 2014, 2023, 2024, 2027, 2065, 2068, 2073, 2075, 2077, 2104, 2106, 2108, 2109, 2110, 2111, 2112, 2114, 2116, 2118, 2120, 2122, 2124, 2128, 2130, 2131, 2139, 2141, 2143, 2145, 2147, 2149, 2151, 2153, 2155, 2157, 2159, 2170, 2171, 2172, 2173, 2174, 2175, 2176, 2177, 2178, 2179, 2180, 2181, 2182, 2183, 2184, 2185, 2186, 2187, 2188, 2208, 2236, 2237, 2238, 2239, 3008, 3077, 3078, 3079, 3080, 3082, 3083, 3084, 3100, 3102, 3103, 3104, 3106, 3107, 3108, 3110, 3111, 4050, 4052, 4058, 5016, 5017, 5021, 5029, 5031, 5033, 5035, 5037, 5039, 5041, 5043, 5045, 5064, 5071, 5073, 5074, 5076, 5078, 5080, 5082, 5084, 5086, 5088, 5090, 7035]
def wsL_ofLand : List Cond := .codeWith yL_ofLand cL_ofLand 5 (some .int) [(0, 11, 14, 19), (0, 11, 18, 21)] :: (wk ix_L_ofLand ++ (vx_atS RX8 69 "java/lang/IllegalArgumentException" ["java/lang/RuntimeException", "java/lang/Exception"]).filter goodWord ++ (vx_atS RX8 446 "java/lang/IndexOutOfBoundsException" ["java/lang/RuntimeException", "java/lang/Exception"]).filter goodWord)
theorem wm_L_ofLand : ∀ w ∈ wk ix_L_ofLand, w ∈ wsL_ofLand := fun _ h => List.mem_cons_of_mem _ (List.mem_append_left _ (List.mem_append_left _ (h)))
theorem wc_L_ofLand : wk_at 7034 = some (.codeWith yL_ofLand cL_ofLand 5 (some .int) [(0, 11, 14, 19), (0, 11, 18, 21)]) := rfl
theorem wq_L_ofLand : (wk ix_L_ofLand).all goodWord = true := wk_good gdx_ok (by decide +kernel)
def ix_L_ofGate : List Nat := [1013, 1014, 2001, 2004, 2013, 2014, 2016, 2017, 2023, 2024, 2027, 2040, 2065, 2068, 2073, 2075, 2077, 2102, 2112, 2114, 2116, 2118, 2120, 2122, 2124, 2129, 2131, 2137, 2139, 2141, 2143, 2145, 2147, 2149, 2151, 2153, 2155, 2157, 2159, 2170, 2171, 2172, 2173, 2174, 2175, 2176, 2177, 2178, 2179, 2180, 2181, 2182, 2183, 2184, 2185, 2186, 2187, 2188, 2193, 2208, 3008, 3084, 3114, 3115, 3116, 3117, 3119, 3120, 3122, 3123, 3124, 3125, 3126, 3127, 3128, 3129, 3130, 3131, 3132, 3133, 3134, 3136, 3137, 3138, 3139, 3140, 3141, 3142, 3143, 3144, 3145, 3146, 3147, 3148, 3149, 3150, 3151, 3152, 3153, 3154, 3155, 4050, 4052, 4058, 4111, 4112, 4113, 4115, 4121, 4123, 4124, 4125, 4127, 4129, 4133, 4134, 4135, 4136, 4138, 4140, 4142, 4144, 4146, 4148, 4150, 4152, 4154, 5011, 5023, 5025, 5029, 5031, 5033, 5035, 5037, 5039, 5041, 5043, 5045, 5061, 5066, 5071, 5072, 5076, 5078, 5080, 5082, 5084, 5086, 5088, 5090, 7039]
def wsL_ofGate : List Cond := .codeWith yL_ofGate cL_ofGate 5 (some .int) [(0, 11, 14, 19), (0, 11, 18, 21)] :: (wk ix_L_ofGate ++ (vx_atS RX8 69 "java/lang/IllegalArgumentException" ["java/lang/RuntimeException", "java/lang/Exception"]).filter goodWord ++ (vx_atS RX8 446 "java/lang/IndexOutOfBoundsException" ["java/lang/RuntimeException", "java/lang/Exception"]).filter goodWord)
theorem wm_L_ofGate : ∀ w ∈ wk ix_L_ofGate, w ∈ wsL_ofGate := fun _ h => List.mem_cons_of_mem _ (List.mem_append_left _ (List.mem_append_left _ (h)))
theorem wc_L_ofGate : wk_at 7038 = some (.codeWith yL_ofGate cL_ofGate 5 (some .int) [(0, 11, 14, 19), (0, 11, 18, 21)]) := rfl
theorem wq_L_ofGate : (wk ix_L_ofGate).all goodWord = true := wk_good gdx_ok (by decide +kernel)
def ix_L_ofSleeper : List Nat := [1002, 1018, 1019, 1020, 1021, 2001, 2004, 2013, 2014, 2023, 2024, 2065, 2068, 2073, 2075, 2077, 2102, 2112, 2114, 2116, 2118, 2120, 2122, 2124, 2130, 2131, 2132, 2139, 2141, 2143, 2145, 2147, 2149, 2151, 2153, 2155, 2157, 2159, 2170, 2171, 2172, 2173, 2174, 2175, 2176, 2177, 2178, 2179, 2180, 2181, 2182, 2183, 2184, 2185, 2186, 2187, 2188, 2204, 2206, 2207, 2208, 3008, 3084, 3197, 3198, 3199, 3200, 3202, 3203, 3205, 3206, 3207, 3208, 3210, 3211, 3212, 3214, 3215, 3216, 3218, 3219, 3220, 4050, 4052, 4058, 4119, 4127, 4136, 4138, 4140, 4142, 4144, 4146, 4148, 4150, 4152, 4154, 5011, 5017, 5019, 5021, 5023, 5027, 5028, 5029, 5031, 5033, 5035, 5037, 5039, 5041, 5043, 5045, 5062, 5072, 5076, 5078, 5080, 5082, 5084, 5086, 5088, 5090, 5120, 5121, 5123, 5125, 6212, 6217, 6219, 6221, 7043]
def wsL_ofSleeper : List Cond := .codeWith yL_ofSleeper cL_ofSleeper 5 (some .int) [(0, 11, 14, 19), (0, 11, 18, 21)] :: (wk ix_L_ofSleeper ++ (vx_atS RX8 69 "java/lang/IllegalArgumentException" ["java/lang/RuntimeException", "java/lang/Exception"]).filter goodWord ++ (vx_atS RX8 446 "java/lang/IndexOutOfBoundsException" ["java/lang/RuntimeException", "java/lang/Exception"]).filter goodWord)
theorem wm_L_ofSleeper : ∀ w ∈ wk ix_L_ofSleeper, w ∈ wsL_ofSleeper := fun _ h => List.mem_cons_of_mem _ (List.mem_append_left _ (List.mem_append_left _ (h)))
theorem wc_L_ofSleeper : wk_at 7042 = some (.codeWith yL_ofSleeper cL_ofSleeper 5 (some .int) [(0, 11, 14, 19), (0, 11, 18, 21)]) := rfl
theorem wq_L_ofSleeper : (wk ix_L_ofSleeper).all goodWord = true := wk_good gdx_ok (by decide +kernel)
def ix_L_ofPart : List Nat := [1022, 2001, 2004, 2013, 2014, 2023, 2024, 2027, 2065, 2068, 2073, 2075, 2077, 2102, 2112, 2114, 2116, 2118, 2120, 2122, 2124, 2131, 2139, 2141, 2143, 2145, 2147, 2149, 2151, 2153, 2155, 2157, 2159, 2170, 2171, 2172, 2173, 2174, 2175, 2176, 2177, 2178, 2179, 2180, 2181, 2182, 2183, 2184, 2185, 2186, 2187, 2208, 2236, 2237, 2238, 2239, 3008, 3084, 3223, 3224, 3225, 3226, 3228, 3229, 4050, 4052, 4058, 5011, 5016, 5029, 5031, 5033, 5035, 5037, 5039, 5041, 5043, 5045, 5064, 5066, 5068, 5070, 5071, 5072, 5073, 5076, 5078, 5080, 5082, 5084, 5086, 5088, 5090, 7047]
def wsL_ofPart : List Cond := .codeWith yL_ofPart cL_ofPart 5 (some .int) [(0, 11, 14, 19), (0, 11, 18, 21)] :: (wk ix_L_ofPart ++ (vx_atS RX8 69 "java/lang/IllegalArgumentException" ["java/lang/RuntimeException", "java/lang/Exception"]).filter goodWord ++ (vx_atS RX8 446 "java/lang/IndexOutOfBoundsException" ["java/lang/RuntimeException", "java/lang/Exception"]).filter goodWord)
theorem wm_L_ofPart : ∀ w ∈ wk ix_L_ofPart, w ∈ wsL_ofPart := fun _ h => List.mem_cons_of_mem _ (List.mem_append_left _ (List.mem_append_left _ (h)))
theorem wc_L_ofPart : wk_at 7046 = some (.codeWith yL_ofPart cL_ofPart 5 (some .int) [(0, 11, 14, 19), (0, 11, 18, 21)]) := rfl
theorem wq_L_ofPart : (wk ix_L_ofPart).all goodWord = true := wk_good gdx_ok (by decide +kernel)
def ix_L_isGood : List Nat := [1013, 1015, 1018, 2001, 2004, 2013, 2016, 2017, 2019, 2023, 2024, 2065, 2068, 2073, 2075, 2077, 2129, 2130, 2136, 2139, 2141, 2143, 2145, 2147, 2149, 2151, 2153, 2155, 2157, 2159, 2170, 2171, 2172, 2173, 2174, 2175, 2176, 2177, 2178, 2179, 2180, 2181, 2182, 2183, 2184, 2185, 2186, 2187, 2188, 2193, 3084, 3117, 3119, 3120, 3126, 3127, 3128, 3129, 3161, 3163, 3164, 3165, 3166, 3167, 3168, 3169, 3170, 3171, 3172, 3173, 3174, 3200, 3202, 3203, 4050, 4052, 4058, 4111, 4112, 4113, 4115, 4119, 4129, 4134, 4136, 4138, 4140, 4142, 4144, 4146, 4148, 4150, 4152, 4154, 5011, 5027, 5029, 5031, 5033, 5035, 5037, 5039, 5041, 5043, 5045, 5116, 5118, 5120, 5121, 5123, 5125, 7051, 7052, 7053, 7054]
def wsL_isGood : List Cond := .codeWith yL_isGood cL_isGood 5 (some .int) [(0, 18, 21, 19)] :: (wk ix_L_isGood ++ (vx_atS RX8 446 "java/lang/IndexOutOfBoundsException" ["java/lang/RuntimeException", "java/lang/Exception"]).filter goodWord)
theorem wm_L_isGood : ∀ w ∈ wk ix_L_isGood, w ∈ wsL_isGood := fun _ h => List.mem_cons_of_mem _ (List.mem_append_left _ (h))
theorem wc_L_isGood : wk_at 7050 = some (.codeWith yL_isGood cL_isGood 5 (some .int) [(0, 18, 21, 19)]) := rfl
theorem wq_L_isGood : (wk ix_L_isGood).all goodWord = true := wk_good gdx_ok (by decide +kernel)
def ix_L_queue : List Nat := [0, 1, 2, 1013, 2001, 2004, 2013, 2018, 2019, 2020, 2021, 2023, 2024, 2030, 2031, 2032, 2033, 2034, 2036, 2047, 2048, 2065, 2068, 2073, 2075, 2077, 2129, 2139, 2141, 2143, 2145, 2147, 2149, 2151, 2153, 2155, 2157, 2159, 2170, 2171, 2172, 2173, 2174, 2175, 2176, 2177, 2178, 2179, 2180, 2181, 2182, 2183, 2184, 2185, 2186, 2187, 2188, 2193, 3075, 3084, 3117, 3119, 3120, 3130, 3131, 3132, 3133, 4021, 4022, 4027, 4028, 4050, 4052, 4058, 4127, 4136, 4138, 4140, 4142, 4144, 4146, 4148, 4150, 4152, 4154, 4174, 4175, 4176, 4177, 4178, 4179, 4180, 4217, 4218, 4219, 4220, 5011, 5014, 5029, 5031, 5033, 5035, 5037, 5039, 5041, 5043, 5045, 5166, 5168, 5169, 5170, 5171, 5172, 5173, 5174, 5176, 5177, 5178, 5179, 5180, 5181, 5182, 5183, 5184, 5185, 5186, 5187, 5189, 5191, 5193, 5195, 5208, 5210, 5211, 5212, 5214, 5215, 5216, 5217, 5218, 5219, 5220, 5221, 5222, 5223, 5224, 5225, 5227, 5228, 5229, 5230, 5231, 5232, 5236, 5237, 5238, 5239, 6000, 6001, 6002, 6003, 6004, 6005, 6007, 6008, 6009, 6010, 6011, 6012, 6013, 6015, 6017, 6027, 6037, 6039, 6040, 6041, 6042, 6043, 6044, 6045, 6046, 6047, 6048, 6049, 6050, 6051, 6052, 6053, 6054, 6055, 6063, 6064, 6065, 6066, 6067, 6068, 6069, 6070, 6071, 6072, 6073, 6074, 6075, 6077, 6079, 6080, 6081, 6082, 6083, 6084, 6085, 6086, 6089, 6090, 6091, 6092, 6093, 6094, 6095, 6096, 6097, 6098, 6099, 6100, 6101, 6102, 6103, 6104, 6105, 6106, 6107, 6108, 6109, 6110, 6111, 6112, 6113, 6114, 6115, 6116, 6117, 6118, 6119, 6120, 6121, 6122, 6123, 6125, 6132, 6133, 6134, 6135, 6136, 6137, 6138, 6139, 6140, 6141, 6142, 6143, 6144, 6145, 6146, 6147, 6149, 6151, 6153, 7058, 7059, 7060, 7061, 7063, 7064, 7065, 7066, 7067, 7068, 7069, 7070, 7071, 7072, 7073, 7074, 7075, 7076, 7077, 7078, 7079, 7080, 7081, 7082, 7083, 7084, 7085, 7086, 9158, 9159, 9162, 9163, 9164]
def wsL_queue : List Cond := .codeWith yL_queue cL_queue 4 (some .int) [(0, 9, 12, 19)] :: (wk ix_L_queue ++ (vx_atS RX8 446 "java/lang/IndexOutOfBoundsException" ["java/lang/RuntimeException", "java/lang/Exception"]).filter goodWord)
theorem wm_L_queue : ∀ w ∈ wk ix_L_queue, w ∈ wsL_queue := fun _ h => List.mem_cons_of_mem _ (List.mem_append_left _ (h))
theorem wc_L_queue : wk_at 7057 = some (.codeWith yL_queue cL_queue 4 (some .int) [(0, 9, 12, 19)]) := rfl
theorem wq_L_queue : (wk ix_L_queue).all goodWord = true := wk_good gdx_ok (by decide +kernel)
def ix_L_night : List Nat := [1003, 1004, 1005, 1006, 1007, 2001, 2004, 2014, 2023, 2024, 2027, 2065, 2068, 2073, 2075, 2077, 2087, 2089, 2091, 2110, 2111, 2112, 2114, 2116, 2118, 2120, 2122, 2124, 2128, 2129, 2130, 2131, 2132, 2133, 2136, 2137, 2138, 2139, 2141, 2143, 2145, 2147, 2149, 2151, 2153, 2155, 2157, 2159, 2170, 2171, 2172, 2173, 2174, 2175, 2176, 2177, 2178, 2179, 2180, 2181, 2182, 2183, 2184, 2185, 2186, 2187, 2188, 2208, 2221, 2222, 2223, 2224, 2226, 2227, 2228, 2230, 2231, 2232, 2234, 2235, 2236, 2237, 2238, 2239, 3000, 3002, 3003, 3004, 3006, 3007, 3008, 4050, 4052, 4059, 5016, 5021, 5029, 5031, 5033, 5035, 5037, 5039, 5041, 5043, 5045, 5070, 5071, 5073, 5076, 5078, 5080, 5082, 5084, 5086, 5088, 5090, 7090]
def wsL_night : List Cond := .codeWith yL_night cL_night 4 (some .int) [(0, 10, 13, 21)] :: (wk ix_L_night ++ (vx_atS RX8 69 "java/lang/IllegalArgumentException" ["java/lang/RuntimeException", "java/lang/Exception"]).filter goodWord)
theorem wm_L_night : ∀ w ∈ wk ix_L_night, w ∈ wsL_night := fun _ h => List.mem_cons_of_mem _ (List.mem_append_left _ (h))
theorem wc_L_night : wk_at 7089 = some (.codeWith yL_night cL_night 4 (some .int) [(0, 10, 13, 21)]) := rfl
theorem wq_L_night : (wk ix_L_night).all goodWord = true := wk_good gdx_ok (by decide +kernel)
def ix_L_way : List Nat := [1009, 1023, 1024, 2001, 2004, 2013, 2016, 2023, 2024, 2065, 2068, 2073, 2075, 2077, 2102, 2112, 2114, 2116, 2118, 2120, 2122, 2124, 2128, 2129, 2135, 2137, 2139, 2141, 2143, 2145, 2147, 2149, 2151, 2153, 2155, 2157, 2159, 2170, 2171, 2172, 2173, 2174, 2175, 2176, 2177, 2178, 2179, 2180, 2181, 2182, 2183, 2184, 2185, 2186, 2187, 2193, 3080, 3082, 3083, 3084, 3122, 3123, 3124, 3125, 3233, 3234, 3235, 3236, 3238, 3239, 4000, 4002, 4003, 4050, 4052, 4058, 4121, 4123, 4124, 4125, 4136, 4138, 4140, 4142, 4144, 4146, 4148, 4150, 4152, 4154, 7094]
def wsL_way : List Cond := .codeWith yL_way cL_way 5 (some .int) [(0, 11, 14, 19)] :: (wk ix_L_way ++ (vx_atS RX8 446 "java/lang/IndexOutOfBoundsException" ["java/lang/RuntimeException", "java/lang/Exception"]).filter goodWord)
theorem wm_L_way : ∀ w ∈ wk ix_L_way, w ∈ wsL_way := fun _ h => List.mem_cons_of_mem _ (List.mem_append_left _ (h))
theorem wc_L_way : wk_at 7093 = some (.codeWith yL_way cL_way 5 (some .int) [(0, 11, 14, 19)]) := rfl
theorem wq_L_way : (wk ix_L_way).all goodWord = true := wk_good gdx_ok (by decide +kernel)
def ix_L_plan : List Nat := [1013, 1014, 1025, 1026, 1027, 1028, 1029, 2001, 2004, 2013, 2014, 2019, 2023, 2024, 2027, 2065, 2068, 2073, 2075, 2077, 2129, 2131, 2134, 2139, 2141, 2143, 2145, 2147, 2149, 2151, 2153, 2155, 2157, 2159, 2170, 2171, 2172, 2173, 2174, 2175, 2176, 2177, 2178, 2179, 2180, 2181, 2182, 2183, 2184, 2185, 2186, 2187, 2193, 2208, 3008, 3084, 3117, 3119, 3120, 3134, 3136, 3137, 3138, 3139, 3140, 3141, 3142, 3143, 3144, 3145, 4005, 4006, 4007, 4008, 4009, 4010, 4012, 4014, 4015, 4016, 4018, 4019, 4020, 4021, 4022, 4023, 4024, 4025, 4026, 4027, 4028, 4029, 4031, 4032, 4033, 4035, 4036, 4037, 4039, 4040, 4050, 4052, 4058, 5023, 5025, 5029, 5031, 5033, 5035, 5037, 5039, 5041, 5043, 5045, 5061, 5066, 5071, 5072, 5076, 5078, 5080, 5082, 5084, 5086, 5088, 5090, 7098]
def wsL_plan : List Cond := .codeWith yL_plan cL_plan 5 (some .int) [(0, 11, 14, 19), (0, 11, 18, 21)] :: (wk ix_L_plan ++ (vx_atS RX8 446 "java/lang/IndexOutOfBoundsException" ["java/lang/RuntimeException", "java/lang/Exception"]).filter goodWord ++ (vx_atS RX8 69 "java/lang/IllegalArgumentException" ["java/lang/RuntimeException", "java/lang/Exception"]).filter goodWord)
theorem wm_L_plan : ∀ w ∈ wk ix_L_plan, w ∈ wsL_plan := fun _ h => List.mem_cons_of_mem _ (List.mem_append_left _ (List.mem_append_left _ (h)))
theorem wc_L_plan : wk_at 7097 = some (.codeWith yL_plan cL_plan 5 (some .int) [(0, 11, 14, 19), (0, 11, 18, 21)]) := rfl
theorem wq_L_plan : (wk ix_L_plan).all goodWord = true := wk_good gdx_ok (by decide +kernel)
def ix_L_wouldPay : List Nat := [1013, 1015, 1016, 1017, 2001, 2004, 2006, 2013, 2016, 2017, 2019, 2023, 2024, 2027, 2065, 2068, 2073, 2075, 2077, 2103, 2105, 2108, 2109, 2112, 2114, 2116, 2118, 2120, 2122, 2124, 2129, 2131, 2136, 2139, 2141, 2143, 2145, 2147, 2149, 2151, 2153, 2155, 2157, 2159, 2170, 2171, 2172, 2173, 2174, 2175, 2176, 2177, 2178, 2179, 2180, 2181, 2182, 2183, 2184, 2185, 2186, 2187, 2188, 2193, 2208, 3084, 3117, 3119, 3120, 3126, 3127, 3128, 3129, 3130, 3131, 3132, 3133, 3143, 3144, 3145, 3158, 3159, 3160, 3161, 3163, 3164, 3165, 3166, 3167, 3168, 3169, 3170, 3171, 3172, 3173, 3174, 3175, 3176, 3177, 3178, 3179, 3181, 3182, 3183, 3184, 3185, 3186, 3187, 3188, 3190, 3191, 3192, 3193, 3194, 3195, 4050, 4052, 4058, 4111, 4112, 4113, 4115, 4119, 4120, 4122, 4127, 4129, 4134, 4136, 4138, 4140, 4142, 4144, 4146, 4148, 4150, 4152, 4154, 5011, 5017, 5026, 5027, 5029, 5031, 5033, 5035, 5037, 5039, 5041, 5043, 5045, 5061, 5062, 5066, 5067, 5076, 5078, 5080, 5082, 5084, 5086, 5088, 5090, 5116, 5118, 5120, 5121, 5123, 5125, 7102]
def wsL_wouldPay : List Cond := .codeWith yL_wouldPay cL_wouldPay 4 (some .int) [(0, 10, 13, 19)] :: (wk ix_L_wouldPay ++ (vx_atS RX8 446 "java/lang/IndexOutOfBoundsException" ["java/lang/RuntimeException", "java/lang/Exception"]).filter goodWord)
theorem wm_L_wouldPay : ∀ w ∈ wk ix_L_wouldPay, w ∈ wsL_wouldPay := fun _ h => List.mem_cons_of_mem _ (List.mem_append_left _ (h))
theorem wc_L_wouldPay : wk_at 7101 = some (.codeWith yL_wouldPay cL_wouldPay 4 (some .int) [(0, 10, 13, 19)]) := rfl
theorem wq_L_wouldPay : (wk ix_L_wouldPay).all goodWord = true := wk_good gdx_ok (by decide +kernel)
def ix_L_law : List Nat := [0, 1, 2, 3, 4, 5, 1000, 1001, 1002, 1003, 1004, 1005, 1006, 1007, 1009, 1010, 1011, 1012, 1013, 1014, 1015, 1016, 1017, 1018, 1019, 1020, 1021, 1022, 1023, 1024, 1025, 1026, 1027, 1028, 1029, 1030, 1031, 1032, 1033, 1035, 1036, 1037, 1038, 1039, 1040, 1041, 1042, 1043, 1044, 1045, 1046, 1047, 1048, 1049, 1050, 1051, 1052, 1053, 1054, 1055, 1056, 1057, 1058, 1059, 1060, 1061, 1062, 1063, 1064, 1065, 1066, 1067, 1068, 1069, 1070, 1071, 1072, 2000, 2001, 2002, 2003, 2004, 2005, 2006, 2007, 2008, 2009, 2013, 2014, 2015, 2016, 2017, 2018, 2019, 2020, 2021, 2022, 2023, 2024, 2025, 2026, 2027, 2028, 2029, 2030, 2031, 2032, 2033, 2034, 2035, 2036, 2038, 2039, 2040, 2041, 2042, 2043, 2044, 2045, 2046, 2047, 2048, 2049, 2051, 2052, 2053, 2054, 2055, 2056, 2057, 2058, 2059, 2060, 2061, 2062, 2063, 2065, 2066, 2068, 2069, 2070, 2071, 2072, 2073, 2075, 2077, 2080, 2081, 2083, 2084, 2085, 2086, 2087, 2088, 2089, 2091, 2094, 2096, 2097, 2098, 2099, 2100, 2101, 2102, 2103, 2104, 2105, 2106, 2107, 2108, 2109, 2110, 2111, 2112, 2114, 2116, 2118, 2120, 2122, 2124, 2127, 2128, 2129, 2130, 2131, 2132, 2133, 2134, 2135, 2136, 2137, 2138, 2139, 2141, 2143, 2145, 2147, 2149, 2151, 2153, 2155, 2157, 2159, 2162, 2163, 2164, 2165, 2166, 2168, 2169, 2170, 2171, 2172, 2173, 2174, 2175, 2176, 2177, 2178, 2179, 2180, 2181, 2182, 2183, 2184, 2185, 2186, 2187, 2188, 2189, 2191, 2192, 2193, 2194, 2195, 2196, 2197, 2198, 2199, 2200, 2201, 2202, 2203, 2204, 2206, 2207, 2208, 2209, 2210, 2211, 2212, 2213, 2214, 2215, 2216, 2217, 2218, 2219, 2220, 2221, 2222, 2223, 2224, 2226, 2227, 2228, 2230, 2231, 2232, 2234, 2235, 2236, 2237, 2238, 2239, 3000, 3002, 3003, 3004, 3006, 3007, 3008, 3075, 3076, 3077, 3078, 3079, 3080, 3082, 3083, 3084, 3100, 3102, 3103, 3104, 3106, 3107, 3108, 3110, 3111, 3113, 3114, 3115, 3116, 3117, 3119, 3120, 3122, 3123, 3124, 3125, 3126, 3127, 3128, 3129, 3130, 3131, 3132, 3133, 3134, 3136, 3137, 3138, 3139, 3140, 3141, 3142, 3143, 3144, 3145, 3146, 3147, 3148, 3149, 3150, 3151, 3152, 3153, 3154, 3155, 3157, 3158, 3159, 3160, 3161, 3163, 3164, 3165, 3166, 3167, 3168, 3169, 3170, 3171, 3172, 3173, 3174, 3175, 3176, 3177, 3178, 3179, 3181, 3182, 3183, 3184, 3185, 3186, 3187, 3188, 3190, 3191, 3192, 3193, 3194, 3195, 3196, 3197, 3198, 3199, 3200, 3202, 3203, 3205, 3206, 3207, 3208, 3210, 3211, 3212, 3214, 3215, 3216, 3218, 3219, 3220, 3222, 3223, 3224, 3225, 3226, 3228, 3229, 3232, 3233, 3234, 3235, 3236, 3238, 3239, 4000, 4002, 4003, 4004, 4005, 4006, 4007, 4008, 4009, 4010, 4012, 4014, 4015, 4016, 4018, 4019, 4020, 4021, 4022, 4023, 4024, 4025, 4026, 4027, 4028, 4029, 4031, 4032, 4033, 4035, 4036, 4037, 4039, 4040, 4041, 4042, 4043, 4045, 4046, 4047, 4050, 4052, 4055, 4056, 4057, 4058, 4059, 4060, 4061, 4062, 4063, 4064, 4065, 4066, 4068, 4069, 4070, 4071, 4073, 4089, 4090, 4091, 4092, 4093, 4094, 4095, 4098, 4099, 4100, 4101, 4102, 4103, 4104, 4105, 4106, 4108, 4109, 4110, 4111, 4112, 4113, 4115, 4118, 4119, 4120, 4121, 4122, 4123, 4124, 4125, 4126, 4127, 4128, 4129, 4130, 4131, 4132, 4133, 4134, 4135, 4136, 4138, 4140, 4142, 4144, 4146, 4148, 4150, 4152, 4154, 4157, 4158, 4159, 4160, 4161, 4163, 4164, 4165, 4167, 4168, 4169, 4171, 4172, 4173, 4174, 4175, 4176, 4177, 4178, 4179, 4180, 4181, 4182, 4183, 4184, 4185, 4210, 4211, 4212, 4213, 4214, 4216, 4217, 4218, 4219, 4220, 4221, 4222, 4223, 4224, 4225, 4226, 4227, 4228, 4229, 4230, 4231, 4232, 4233, 4234, 4235, 4236, 4237, 4238, 4239, 5000, 5001, 5002, 5003, 5005, 5006, 5007, 5008, 5009, 5010, 5011, 5012, 5013, 5014, 5015, 5016, 5017, 5018, 5019, 5020, 5021, 5022, 5023, 5024, 5025, 5026, 5027, 5028, 5029, 5031, 5033, 5035, 5037, 5039, 5041, 5043, 5045, 5048, 5049, 5050, 5051, 5052, 5053, 5054, 5056, 5057, 5058, 5059, 5060, 5061, 5062, 5063, 5064, 5065, 5066, 5067, 5068, 5069, 5070, 5071, 5072, 5073, 5074, 5075, 5076, 5078, 5080, 5082, 5084, 5086, 5088, 5090, 5093, 5094, 5095, 5096, 5097, 5098, 5099, 5102, 5103, 5104, 5105, 5106, 5107, 5108, 5109, 5110, 5111, 5112, 5113, 5114, 5115, 5116, 5117, 5118, 5119, 5120, 5121, 5123, 5125, 5128, 5129, 5130, 5131, 5132, 5133, 5134, 5135, 5136, 5137, 5138, 5139, 5140, 5141, 5142, 5143, 5144, 5145, 5148, 5149, 5150, 5151, 5152, 5153, 5154, 5155, 5156, 5158, 5159, 5166, 5168, 5169, 5170, 5171, 5172, 5173, 5174, 5176, 5177, 5178, 5179, 5180, 5181, 5182, 5183, 5184, 5185, 5186, 5187, 5189, 5191, 5193, 5195, 5198, 5199, 5200, 5201, 5202, 5203, 5204, 5206, 5207, 5208, 5210, 5211, 5212, 5214, 5215, 5216, 5217, 5218, 5219, 5220, 5221, 5222, 5223, 5224, 5225, 5227, 5228, 5229, 5230, 5231, 5232, 5233, 5234, 5235, 5236, 5237, 5238, 5239, 6000, 6001, 6002, 6003, 6004, 6005, 6007, 6008, 6009, 6010, 6011, 6012, 6013, 6015, 6017, 6019, 6020, 6021, 6022, 6023, 6024, 6025, 6026, 6027, 6028, 6030, 6031, 6032, 6034, 6035, 6036, 6037, 6039, 6040, 6041, 6042, 6043, 6044, 6045, 6046, 6047, 6048, 6049, 6050, 6051, 6052, 6053, 6054, 6055, 6056, 6057, 6058, 6059, 6060, 6061, 6063, 6064, 6065, 6066, 6067, 6068, 6069, 6070, 6071, 6072, 6073, 6074, 6075, 6077, 6079, 6080, 6081, 6082, 6083, 6084, 6085, 6086, 6089, 6090, 6091, 6092, 6093, 6094, 6095, 6096, 6097, 6098, 6099, 6100, 6101, 6102, 6103, 6104, 6105, 6106, 6107, 6108, 6109, 6110, 6111, 6112, 6113, 6114, 6115, 6116, 6117, 6118, 6119, 6120, 6121, 6122, 6123, 6125, 6132, 6133, 6134, 6135, 6136, 6137, 6138, 6139, 6140, 6141, 6142, 6143, 6144, 6145, 6146, 6147, 6149, 6151, 6153, 6157, 6158, 6159, 6160, 6161, 6162, 6163, 6164, 6165, 6166, 6167, 6168, 6170, 6171, 6172, 6173, 6174, 6176, 6177, 6178, 6179, 6180, 6181, 6182, 6183, 6184, 6185, 6186, 6187, 6188, 6190, 6192, 6193, 6194, 6195, 6196, 6197, 6198, 6200, 6201, 6202, 6204, 6205, 6206, 6207, 6208, 6209, 6210, 6211, 6212, 6213, 6214, 6215, 6216, 6217, 6219, 6221, 6224, 6225, 6226, 6227, 6228, 6230, 6231, 6232, 6234, 6235, 6236, 6238, 6239, 7000, 7001, 7002, 7003, 7004, 7005, 7006, 7008, 7009, 7010, 7011, 7012, 7013, 7014, 7016, 7018, 7019, 7020, 7022, 7023, 7024, 7026, 7027, 7028, 7029, 7030, 7031, 7032, 7033, 7034, 7035, 7036, 7037, 7038, 7039, 7040, 7041, 7042, 7043, 7044, 7045, 7046, 7047, 7048, 7049, 7050, 7051, 7052, 7053, 7054, 7055, 7056, 7057, 7058, 7059, 7060, 7061, 7063, 7064, 7065, 7066, 7067, 7068, 7069, 7070, 7071, 7072, 7073, 7074, 7075, 7076, 7077, 7078, 7079, 7080, 7081, 7082, 7083, 7084, 7085, 7086, 7087, 7088, 7089, 7090, 7091, 7092, 7093, 7094, 7095, 7096, 7097, 7098, 7099, 7100, 7101, 7102, 7103, 7104, 7105, 7106, 7107, 7108, 7109, 7111, 7112, 7113, 7115, 7116, 7117, 7118, 7120, 7122, 7127, 7129, 7131, 7133, 7135, 7137, 7140, 7141, 7142, 7143, 7144, 7145, 7146, 7147, 7148, 7149, 7150, 7151, 7152, 7153, 7154, 7156, 7158, 7160, 7162, 7164, 7166, 7168, 7170, 7172, 7174, 7176, 7178, 7181, 7182, 7183, 7184, 7185, 7186, 7187, 7188, 7189, 7191, 7192, 7193, 7194, 7195, 7196, 7198, 7199, 7200, 7201, 7202, 7203, 7204, 7205, 7206, 7207, 7208, 7209, 7210, 7212, 7213, 7214, 7215, 7216, 7217, 7219, 7221, 7223, 7225, 7227, 7229, 7231, 7233, 7235, 7237, 7239, 8001, 8003, 8005, 8007, 8010, 8011, 8012, 8013, 8014, 8015, 8017, 8018, 8019, 8020, 8021, 8022, 8023, 8024, 8025, 8026, 8027, 8028, 8029, 8031, 8032, 8033, 8038, 8041, 8044, 8046, 8048, 8050, 8052, 8054, 8056, 8058, 8060, 8062, 8065, 8066, 8067, 8068, 8069, 8071, 8072, 8073, 8074, 8076, 8077, 8078, 8081, 8085, 8087, 8089, 8091, 8093, 8095, 8097, 8100, 8101, 8102, 8103, 8104, 8106, 8107, 8108, 8109, 8110, 8111, 8112, 8113, 8114, 8115, 8116, 8117, 8118, 8119, 8120, 8121, 8122, 8123, 8125, 8126, 8127, 8128, 8129, 8130, 8131, 8132, 8133, 8134, 8135, 8136, 8137, 8138, 8139, 8141, 8143, 8144, 8145, 8146, 8147, 8148, 8149, 8150, 8151, 8152, 8153, 8156, 8157, 8158, 8159, 8160, 8161, 8162, 8163, 8164, 8165, 8166, 8167, 8168, 8169, 8171, 8172, 8173, 8174, 8175, 8176, 8177, 8178, 8179, 8180, 8181, 8182, 8183, 8185, 8186, 8187, 8188, 8189, 8190, 8191, 8192, 8194, 8195, 8196, 8197, 8198, 8199, 8200, 8202, 8203, 8204, 8206, 8207, 8208, 8209, 8210, 8211, 8212, 8214, 8215, 8216, 8217, 8218, 8219, 8220, 8221, 8222, 8223, 8224, 8225, 8227, 8228, 8229, 8230, 8231, 8232, 8233, 8234, 8235, 8236, 8237, 8238, 8239, 9000, 9001, 9002, 9003, 9005, 9007, 9009, 9013, 9017, 9019, 9021, 9023, 9026, 9028, 9030, 9031, 9032, 9033, 9034, 9035, 9036, 9037, 9038, 9039, 9041, 9042, 9043, 9045, 9046, 9047, 9049, 9050, 9051, 9052, 9053, 9054, 9055, 9057, 9058, 9059, 9061, 9062, 9063, 9064, 9065, 9066, 9067, 9069, 9070, 9071, 9073, 9074, 9075, 9076, 9077, 9078, 9079, 9081, 9082, 9083, 9084, 9085, 9086, 9087, 9088, 9089, 9090, 9092, 9093, 9095, 9096, 9099, 9100, 9101, 9102, 9103, 9104, 9106, 9107, 9108, 9109, 9110, 9111, 9112, 9114, 9115, 9116, 9117, 9118, 9119, 9120, 9122, 9123, 9124, 9126, 9127, 9128, 9129, 9130, 9131, 9132, 9133, 9135, 9136, 9137, 9138, 9139, 9140, 9141, 9143, 9144, 9145, 9146, 9147, 9148, 9149, 9150, 9152, 9153, 9154, 9156, 9157, 9158, 9159, 9160, 9161, 9162, 9163, 9164, 9190]
def wsL_law : List Cond := wk ix_L_law ++ (vx_atS RX8 446 "java/lang/IndexOutOfBoundsException" ["java/lang/RuntimeException", "java/lang/Exception"]).filter goodWord ++ (vx_atS RX8 69 "java/lang/IllegalArgumentException" ["java/lang/RuntimeException", "java/lang/Exception"]).filter goodWord ++ (vx_atS RX8 79 "java/lang/IllegalStateException" ["java/lang/RuntimeException", "java/lang/Exception"]).filter goodWord
theorem wm_L_law : ∀ w ∈ wk ix_L_law, w ∈ wsL_law := fun _ h => List.mem_append_left _ (List.mem_append_left _ (List.mem_append_left _ (h)))
