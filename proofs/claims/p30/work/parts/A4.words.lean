/-! words by their places in the tables: 1000 * chunk + place -/
def m_six : List MethodName := [yJ5_ensureCapacityInternal_d00df, yJ5_newCapacity_0f7a4, yJ5_inflate_da8c8, yJ5_appendNull_278bc, yJ5_putStringAt_47b60, yJ5_inflateIfNeededFor_a7421]
def m_lw : List Cond := m_six.map (fun y => Cond.selects RJ4 y y) ++ lw_tbl
def wk_tb : List (List Cond) := [m_six.map (fun y => Cond.selects RJ4 y y), k2_sels lw_privs, tables_1_1, tables_1_2, tables_1_3, tables_1_4, tables_1_5, tables_1_6]
def wk_at (i : Nat) : Option Cond := (wk_tb[i / 1000]?).bind (fun l => l[i % 1000]?)
def wk (is : List Nat) : List Cond := is.filterMap wk_at
theorem wk_tbin : ∀ l ∈ wk_tb, ∀ w ∈ l, w ∈ m_lw := by
  intro l hl w hw
  rcases List.mem_cons.mp hl with rfl | hl
  · exact List.mem_append_left _ hw
  refine List.mem_append_right _ ?_
  rcases List.mem_cons.mp hl with rfl | hl
  · exact List.mem_append_left _ hw
  refine List.mem_append_right _ ?_
  show w ∈ tables_1_1 ++ (tables_1_2 ++ (tables_1_3 ++ (tables_1_4 ++ (tables_1_5 ++ (tables_1_6)))))
  rcases List.mem_cons.mp hl with rfl | hl
  · exact List.mem_append_left _ hw
  rcases List.mem_cons.mp hl with rfl | hl
  · exact List.mem_append_right _ (List.mem_append_left _ hw)
  rcases List.mem_cons.mp hl with rfl | hl
  · exact List.mem_append_right _ (List.mem_append_right _ (List.mem_append_left _ hw))
  rcases List.mem_cons.mp hl with rfl | hl
  · exact List.mem_append_right _ (List.mem_append_right _ (List.mem_append_right _ (List.mem_append_left _ hw)))
  rcases List.mem_cons.mp hl with rfl | hl
  · exact List.mem_append_right _ (List.mem_append_right _ (List.mem_append_right _ (List.mem_append_right _ (List.mem_append_left _ hw))))
  rcases List.mem_cons.mp hl with rfl | hl
  · exact List.mem_append_right _ (List.mem_append_right _ (List.mem_append_right _ (List.mem_append_right _ (List.mem_append_right _ (hw)))))
  · cases hl
theorem wk_atin {i : Nat} {w : Cond} (h : wk_at i = some w) : w ∈ m_lw := by
  unfold wk_at at h
  cases hl : wk_tb[i / 1000]? with
  | none => rw [hl] at h; cases h
  | some l =>
    rw [hl] at h
    exact wk_tbin l (List.mem_of_getElem? hl) w (List.mem_of_getElem? h)
theorem wk_in {is : List Nat} {w : Cond} (h : w ∈ wk is) : w ∈ m_lw := by
  obtain ⟨i, -, hi⟩ := List.mem_filterMap.mp h
  exact wk_atin hi
/-- of two ascending lists: the first lies in the second -/
def wk_sub : List Nat → List Nat → Bool
  | [], [] => true
  | _ :: _, [] => false
  | [], _ :: _ => true
  | i :: I, j :: J => bif Nat.beq i j then wk_sub I J else wk_sub (i :: I) J
theorem wk_sub_ok : ∀ (J I : List Nat), wk_sub I J = true → ∀ i ∈ I, i ∈ J := by
  intro J
  induction J with
  | nil =>
    intro I h i hi
    cases I with
    | nil => cases hi
    | cons a I => cases h
  | cons j J ih =>
    intro I h i hi
    cases I with
    | nil => cases hi
    | cons a I =>
      have h' : (bif Nat.beq a j then wk_sub I J else wk_sub (a :: I) J) = true := h
      cases hb : Nat.beq a j with
      | true =>
        rw [hb] at h'
        have e := Nat.eq_of_beq_eq_true hb
        rcases List.mem_cons.mp hi with rfl | hi
        · rw [e]; exact List.mem_cons_self
        · exact List.mem_cons_of_mem _ (ih I h' i hi)
      | false =>
        rw [hb] at h'
        exact List.mem_cons_of_mem _ (ih (a :: I) h' i hi)
theorem wk_mem {J I : List Nat} (h : wk_sub I J = true) : ∀ w ∈ wk I, w ∈ wk J := by
  intro w hw
  obtain ⟨i, hi, hx⟩ := List.mem_filterMap.mp hw
  exact List.mem_filterMap.mpr ⟨i, wk_sub_ok J I h i hi, hx⟩
theorem wk_g {big : List Cond} {J I : List Nat} {c : Cond} (hb : ∀ w ∈ wk J, w ∈ big) (ic : Nat) (hc : wk_at ic = some c) (hg : goodWord c = true) (hi : wk_sub [ic] J = true) (hs : wk_sub I J = true) (hq : (wk I).all goodWord = true) : GoodIn big (c :: wk I) := by
  intro w h
  rcases List.mem_cons.mp h with rfl | h
  · exact ⟨hb _ (List.mem_filterMap.mpr ⟨ic, wk_sub_ok J [ic] hi ic List.mem_cons_self, hc⟩), good_of_word hg⟩
  · exact ⟨hb _ (wk_mem hs w h), good_of_word (List.all_eq_true.mp hq w h)⟩
theorem wk_h {big : List Cond} {J : List Nat} {ws : List Cond} (hb : ∀ w ∈ wk J, w ∈ big) (I : List Nat) (hs : I.all (fun i => wk_sub [i] J) = true) (hw : ws = wk I) (h : ws.all goodWord = true) : GoodIn big ws := by
  intro w hx
  refine ⟨hb w ?_, good_of_word (List.all_eq_true.mp h w hx)⟩
  rw [hw] at hx
  obtain ⟨i, hi, hx⟩ := List.mem_filterMap.mp hx
  exact List.mem_filterMap.mpr ⟨i, wk_sub_ok J [i] (List.all_eq_true.mp hs i hi) i List.mem_cons_self, hx⟩
theorem wk_good {I G : List Nat} (hG : (wk G).all goodWord = true) (h : wk_sub I G = true) : (wk I).all goodWord = true := List.all_eq_true.mpr (fun w hw => List.all_eq_true.mp hG w (wk_mem h w hw))
def gdx : List Nat := [0, 1, 2, 3, 4, 5, 1000, 1002, 1003, 1004, 1005, 1006, 1007, 1008, 1009, 1010, 1011, 1012, 1013, 1014, 1015, 1016, 1017, 1018, 1019, 1020, 1021, 1022, 1023, 1024, 1025, 1026, 1027, 1028, 1029, 1030, 1031, 1032, 1033, 1034, 1035, 1036, 1037, 1038, 1039, 1040, 1041, 1042, 1043, 2000, 2001, 2002, 2003, 2004, 2005, 2006, 2010, 2011, 2012, 2013, 2014, 2015, 2016, 2017, 2018, 2019, 2020, 2021, 2022, 2024, 2025, 2026, 2027, 2028, 2029, 2030, 2031, 2032, 2033, 2034, 2035, 2036, 2037, 2039, 2040, 2041, 2042, 2043, 2044, 2045, 2046, 2072, 2073, 2115, 2116, 2117, 2118, 2119, 2120, 2121, 2122, 2123, 2124, 2125, 2126, 2127, 2128, 2129, 2130, 2131, 2132, 2133, 2134, 2136, 2137, 2138, 2139, 2141, 2142, 2143, 2145, 2146, 2147, 2149, 2150, 2151, 2152, 2168, 2169, 2170, 2171, 2172, 2174, 2175, 2177, 2178, 2179, 2180, 2182, 2183, 2184, 2185, 2186, 2188, 2189, 2190, 2192, 2193, 2194, 2196, 2197, 2198, 2200, 2201, 2202, 2204, 2205, 2207, 2208, 2209, 2210, 2211, 2213, 2214, 2215, 2217, 2218, 2219, 2220, 2221, 2222, 2223, 2224, 2225, 2226, 2227, 2228, 2229, 2230, 2231, 2232, 2233, 2234, 2235, 2236, 2237, 2238, 2239, 3000, 3001, 3002, 3003, 3004, 3005, 3006, 3008, 3009, 3011, 3013, 3014, 3015, 3017, 3018, 3019, 3021, 3022, 3024, 3025, 3026, 3027, 3028, 3030, 3031, 3033, 3034, 3035, 3036, 3037, 3038, 3039, 3040, 3041, 3042, 3043, 3044, 3045, 3047, 3048, 3049, 3050, 3051, 3052, 3053, 3054, 3055, 3056, 3057, 3058, 3059, 3060, 3061, 3062, 3063, 3064, 3065, 3066, 3068, 3069, 3070, 3071, 3072, 3074, 3075, 3076, 3077, 3078, 3079, 3080, 3081, 3082, 3083, 3084, 3085, 3086, 3087, 3088, 3089, 3090, 3092, 3093, 3094, 3095, 3096, 3097, 3098, 3099, 3101, 3102, 3103, 3104, 3105, 3106, 3107, 3108, 3109, 3110, 3111, 3112, 3113, 3115, 3116, 3117, 3119, 3120, 3121, 3122, 3123, 3124, 3125, 3126, 3127, 3129, 3131, 3132, 3133, 3135, 3136, 3137, 3138, 3139, 3140, 3141, 3142, 3143, 3144, 3145, 3146, 3148, 3149, 3150, 3152, 3153, 3154, 3156, 3157, 3158, 3159, 3160, 3161, 3162, 3163, 3164, 3165, 3166, 3167, 3168, 3169, 3170, 3171, 3173, 3174, 3175, 3176, 3177, 3178, 3179, 3180, 3181, 3182, 3183, 3184, 3185, 3187, 3188, 3189, 3190, 3191, 3192, 3194, 3196, 3199, 3200, 3202, 3203, 3204, 3205, 3206, 3207, 3208, 3210, 3213, 3215, 3216, 3217, 3218, 3219, 3220, 3221, 3222, 3223, 3224, 3225, 3226, 3227, 3228, 3229, 3230, 3231, 3233, 3235, 3237, 3239, 4001, 4003, 4006, 4007, 4008, 4009, 4010, 4011, 4012, 4013, 4014, 4015, 4016, 4017, 4018, 4020, 4022, 4024, 4026, 4028, 4030, 4032, 4034, 4036, 4038, 4041, 4042, 4043, 4044, 4045, 4046, 4047, 4048, 4049, 4050, 4051, 4052, 4053, 4055, 4071, 4072, 4073, 4074, 4077, 4078, 4079, 4080, 4081, 4082, 4083, 4084, 4085, 4087, 4088, 4089, 4090, 4091, 4092, 4094, 4097, 4098, 4099, 4100, 4101, 4102, 4103, 4104, 4105, 4106, 4107, 4108, 4109, 4110, 4111, 4112, 4113, 4114, 4115, 4117, 4119, 4121, 4123, 4125, 4127, 4129, 4131, 4133, 4136, 4137, 4138, 4139, 4140, 4142, 4143, 4144, 4146, 4147, 4148, 4150, 4151, 4152, 4153, 4154, 4155, 4156, 4157, 4158, 4159, 4160, 4161, 4162, 4163, 4164, 4181, 4182, 4183, 4184, 4185, 4187, 4188, 4189, 4190, 4191, 4192, 4193, 4194, 4195, 4196, 4197, 4198, 4199, 4200, 4201, 4203, 4204, 4205, 4206, 4207, 4208, 4209, 4210, 4211, 4212, 4213, 4214, 4215, 4216, 4217, 4218, 4219, 4220, 4221, 4222, 4223, 4224, 4225, 4226, 4227, 4229, 4231, 4233, 4235, 4237, 4239, 5001, 5003, 5006, 5007, 5008, 5009, 5011, 5012, 5013, 5014, 5015, 5016, 5017, 5018, 5019, 5020, 5021, 5022, 5023, 5024, 5025, 5026, 5027, 5028, 5029, 5030, 5031, 5033, 5035, 5037, 5039, 5041, 5043, 5045, 5048, 5049, 5050, 5051, 5053, 5054, 5055, 5056, 5057, 5059, 5060, 5061, 5062, 5063, 5065, 5066, 5067, 5068, 5070, 5071, 5072, 5073, 5074, 5075, 5076, 5078, 5079, 5080, 5082, 5083, 5084, 5085, 5086, 5087, 5088, 5089, 5090, 5091, 5092, 5093, 5094, 5095, 5097, 5099, 5102, 5103, 5104, 5105, 5106, 5108, 5109, 5110, 5111, 5112, 5113, 5114, 5116, 5117, 5118, 5120, 5121, 5122, 5123, 5124, 5125, 5127, 5128, 5129, 5130, 5133, 5134, 5135, 5136, 5138, 5139, 5140, 5141, 5142, 5143, 5144, 5145, 5146, 5147, 5148, 5149, 5150, 5151, 5152, 5153, 5154, 5155, 5156, 5157, 5158, 5160, 5162, 5165, 5166, 5167, 5168, 5169, 5170, 5171, 5172, 5173, 5174, 5175, 5176, 5178, 5180, 5181, 5182, 5184, 5185, 5186, 5188, 5189, 5190, 5191, 5192, 5193, 5194, 5195, 5196, 5197, 5198, 5199, 5200, 5201, 5202, 5205, 5206, 5207, 5208, 5209, 5210, 5211, 5212, 5213, 5215, 5216, 5222, 5223, 5224, 5225, 5226, 5227, 5228, 5229, 5230, 5231, 5233, 5234, 5235, 5236, 5237, 5238, 5239, 6000, 6001, 6002, 6003, 6004, 6006, 6008, 6010, 6012, 6014, 6015, 6016, 6017, 6018, 6019, 6020, 6021, 6023, 6024, 6025, 6027, 6028, 6029, 6031, 6032, 6033, 6034, 6035, 6036, 6037, 6038, 6039, 6040, 6041, 6042, 6044, 6045, 6046, 6047, 6048, 6049, 6050, 6051, 6052, 6053, 6054, 6055, 6056, 6057, 6058, 6059, 6060, 6061, 6062, 6064, 6065, 6066, 6067, 6068, 6069, 6070, 6072, 6074, 6076, 6077, 6078, 6079, 6080, 6081, 6082, 6083, 6084, 6085, 6087, 6088, 6089, 6091, 6092, 6093, 6094, 6096, 6097, 6098, 6099, 6100, 6101, 6102, 6103, 6104, 6105, 6106, 6107, 6108, 6109, 6110, 6111, 6112, 6113, 6114, 6115, 6116, 6117, 6118, 6119, 6120, 6121, 6122, 6123, 6124, 6125, 6126, 6127, 6128, 6129, 6130, 6131, 6132, 6134, 6136, 6137, 6138, 6139, 6140, 6141, 6142, 6143, 6145, 6146, 6147, 6148, 6149, 6150, 6151, 6152, 6153, 6154, 6155, 6156, 6157, 6158, 6159, 6160, 6161, 6162, 6163, 6164, 6165, 6166, 6167, 6168, 6169, 6170, 6171, 6172, 6173, 6174, 6175, 6176, 6177, 6178, 6179, 6180, 6181, 6182, 6183, 6184, 6185, 6186, 6187, 6188, 6189, 6190, 6191, 6192, 6193, 6194, 6195, 6196, 6198, 6200, 6202, 6206, 6207, 6208, 6209, 6210, 6211, 6212, 6213, 6214, 6216, 6217, 6218, 6219, 6220, 6221, 6222, 6223, 7001]
set_option maxRecDepth 100000 in
theorem gdx_ok : (wk gdx).all goodWord = true := by decide +kernel
theorem wk_u {big ws : List Cond} {J I : List Nat} (hb : ∀ w ∈ wk J, w ∈ big) (e : ws = wk I) (hs : I.all (fun i => wk_sub [i] J) = true) : ∀ w ∈ ws, w ∈ big := by
  intro w hw
  rw [e] at hw
  obtain ⟨i, hi, hx⟩ := List.mem_filterMap.mp hw
  exact hb w (List.mem_filterMap.mpr ⟨i, wk_sub_ok J [i] (List.all_eq_true.mp hs i hi) i List.mem_cons_self, hx⟩)
theorem uq_X0 : u_ws RX0 TX0 10 = wk [4115, 4117, 4119, 4121, 4123, 4125, 4127, 4129, 4131, 4133] := by decide +kernel
theorem uq_X1 : u_ws RX1 TX1 3 = wk [5095, 5097, 5099] := by decide +kernel
theorem uq_X2 : u_ws RX2 TX2 7 = wk [3231, 3233, 3235, 3237, 3239, 4001, 4003] := by decide +kernel
theorem uq_X3 : u_ws RX3 TX3 8 = wk [5031, 5033, 5035, 5037, 5039, 5041, 5043, 5045] := by decide +kernel
theorem uq_X4 : u_ws RX4 TX4 3 = wk [5158, 5160, 5162] := by decide +kernel
theorem uq_X5 : u_ws RX5 TX5 2 = wk [3208, 3210] := by decide +kernel
theorem uq_X6 : u_ws RX6 TX6 9 = wk [4227, 4229, 4231, 4233, 4235, 4237, 4239, 5001, 5003] := by decide +kernel
theorem uq_X7 : u_ws RX7 TX7 2 = wk [4092, 4094] := by decide +kernel
theorem uq_X8 : u_ws RX8 TX8 11 = wk [4018, 4020, 4022, 4024, 4026, 4028, 4030, 4032, 4034, 4036, 4038] := by decide +kernel
theorem uq_J0 : u_ws RJ0 TJ0 4 = wk [6196, 6198, 6200, 6202] := by decide +kernel
theorem uq_J4 : u_ws RJ4 TJ4 4 = wk [6004, 6006, 6008, 6010] := by decide +kernel
theorem uq_Jx4a65c : u_ws RJx4a65c TJx4a65c 3 = wk [3196, 3192, 3194] := by decide +kernel
def ix_Jxa1e45_init_da8c8 : List Nat := [2072, 2073, 3184]
def wsJxa1e45_init_da8c8 : List Cond := .code yJxa1e45_init_da8c8 cJxa1e45_init_da8c8 1 none :: (wk ix_Jxa1e45_init_da8c8)
theorem wm_Jxa1e45_init_da8c8 : ∀ w ∈ wk ix_Jxa1e45_init_da8c8, w ∈ wsJxa1e45_init_da8c8 := fun _ h => List.mem_cons_of_mem _ (h)
theorem wc_Jxa1e45_init_da8c8 : wk_at 3183 = some (.code yJxa1e45_init_da8c8 cJxa1e45_init_da8c8 1 none) := by decide +kernel
theorem wq_Jxa1e45_init_da8c8 : (wk ix_Jxa1e45_init_da8c8).all goodWord = true := wk_good gdx_ok (by decide +kernel)
def ix_Jxc12de_init_da8c8 : List Nat := [2002, 2072, 2073, 3181, 3182, 3183, 3184, 3189, 3192, 3194, 3196]
def wsJxc12de_init_da8c8 : List Cond := .code yJxc12de_init_da8c8 cJxc12de_init_da8c8 1 none :: (wk ix_Jxc12de_init_da8c8)
theorem wm_Jxc12de_init_da8c8 : ∀ w ∈ wk ix_Jxc12de_init_da8c8, w ∈ wsJxc12de_init_da8c8 := fun _ h => List.mem_cons_of_mem _ (h)
theorem wc_Jxc12de_init_da8c8 : wk_at 3180 = some (.code yJxc12de_init_da8c8 cJxc12de_init_da8c8 1 none) := by decide +kernel
theorem wq_Jxc12de_init_da8c8 : (wk ix_Jxc12de_init_da8c8).all goodWord = true := wk_good gdx_ok (by decide +kernel)
def ix_Jx4a65c_init_da8c8 : List Nat := [2002, 2003, 2072, 2073, 3178, 3179, 3180, 3181, 3182, 3183, 3184, 3185, 3187, 3189, 3192, 3194, 3196]
def wsJx4a65c_init_da8c8 : List Cond := .code yJx4a65c_init_da8c8 cJx4a65c_init_da8c8 1 none :: (wk ix_Jx4a65c_init_da8c8)
theorem wm_Jx4a65c_init_da8c8 : ∀ w ∈ wk ix_Jx4a65c_init_da8c8, w ∈ wsJx4a65c_init_da8c8 := fun _ h => List.mem_cons_of_mem _ (h)
theorem wc_Jx4a65c_init_da8c8 : wk_at 3177 = some (.code yJx4a65c_init_da8c8 cJx4a65c_init_da8c8 1 none) := by decide +kernel
theorem wq_Jx4a65c_init_da8c8 : (wk ix_Jx4a65c_init_da8c8).all goodWord = true := wk_good gdx_ok (by decide +kernel)
def ix_X7_init : List Nat := [2072, 2073, 4089]
def wsX7_init : List Cond := .code yX7_init cX7_init 1 none :: (wk ix_X7_init)
theorem wm_X7_init : ∀ w ∈ wk ix_X7_init, w ∈ wsX7_init := fun _ h => List.mem_cons_of_mem _ (h)
theorem wc_X7_init : wk_at 4088 = some (.code yX7_init cX7_init 1 none) := by decide +kernel
theorem wq_X7_init : (wk ix_X7_init).all goodWord = true := wk_good gdx_ok (by decide +kernel)
def ix_X0_init : List Nat := [2002, 2003, 2004, 2016, 2072, 2073, 3174, 3176, 3177, 3178, 3179, 3180, 3181, 3182, 3183, 3184, 3185, 3187, 3189, 3192, 3194, 3196, 4081, 4082, 4083, 4084, 4085, 4087, 4088, 4089, 4092, 4094, 4097, 4099, 4101, 4103, 4104, 4105, 4107, 4109, 4111, 4115, 4117, 4119, 4121, 4123, 4125, 4127, 4129, 4131, 4133]
def wsX0_init : List Cond := .code yX0_init cX0_init 6 none :: (wk ix_X0_init)
theorem wm_X0_init : ∀ w ∈ wk ix_X0_init, w ∈ wsX0_init := fun _ h => List.mem_cons_of_mem _ (h)
theorem wc_X0_init : wk_at 4080 = some (.code yX0_init cX0_init 6 none) := by decide +kernel
theorem wq_X0_init : (wk ix_X0_init).all goodWord = true := wk_good gdx_ok (by decide +kernel)
def ix_X0_isOpenAt : List Nat := [4103, 4104, 4115, 4117, 4119, 4121, 4123, 4125, 4127, 4129, 4131, 4133]
def wsX0_isOpenAt : List Cond := .code yX0_isOpenAt cX0_isOpenAt 2 (some .boolean) :: (wk ix_X0_isOpenAt)
theorem wm_X0_isOpenAt : ∀ w ∈ wk ix_X0_isOpenAt, w ∈ wsX0_isOpenAt := fun _ h => List.mem_cons_of_mem _ (h)
theorem wc_X0_isOpenAt : wk_at 3036 = some (.code yX0_isOpenAt cX0_isOpenAt 2 (some .boolean)) := by decide +kernel
theorem wq_X0_isOpenAt : (wk ix_X0_isOpenAt).all goodWord = true := wk_good gdx_ok (by decide +kernel)
def ix_X0_dozes : List Nat := [4113, 4115, 4117, 4119, 4121, 4123, 4125, 4127, 4129, 4131, 4133]
def wsX0_dozes : List Cond := .code yX0_dozes cX0_dozes 1 (some .boolean) :: (wk ix_X0_dozes)
theorem wm_X0_dozes : ∀ w ∈ wk ix_X0_dozes, w ∈ wsX0_dozes := fun _ h => List.mem_cons_of_mem _ (h)
theorem wc_X0_dozes : wk_at 3040 = some (.code yX0_dozes cX0_dozes 1 (some .boolean)) := by decide +kernel
theorem wq_X0_dozes : (wk ix_X0_dozes).all goodWord = true := wk_good gdx_ok (by decide +kernel)
def ix_X0_isAt : List Nat := [4099, 4101, 4115, 4117, 4119, 4121, 4123, 4125, 4127, 4129, 4131, 4133]
def wsX0_isAt : List Cond := .code yX0_isAt cX0_isAt 2 (some .boolean) :: (wk ix_X0_isAt)
theorem wm_X0_isAt : ∀ w ∈ wk ix_X0_isAt, w ∈ wsX0_isAt := fun _ h => List.mem_cons_of_mem _ (h)
theorem wc_X0_isAt : wk_at 2229 = some (.code yX0_isAt cX0_isAt 2 (some .boolean)) := by decide +kernel
theorem wq_X0_isAt : (wk ix_X0_isAt).all goodWord = true := wk_good gdx_ok (by decide +kernel)
def ix_X0_across : List Nat := [4099, 4101, 4115, 4117, 4119, 4121, 4123, 4125, 4127, 4129, 4131, 4133]
def wsX0_across : List Cond := .code yX0_across cX0_across 2 (some (.object "Lullabygate$Land")) :: (wk ix_X0_across)
theorem wm_X0_across : ∀ w ∈ wk ix_X0_across, w ∈ wsX0_across := fun _ h => List.mem_cons_of_mem _ (h)
theorem wc_X0_across : wk_at 3089 = some (.code yX0_across cX0_across 2 (some (.object "Lullabygate$Land"))) := by decide +kernel
theorem wq_X0_across : (wk ix_X0_across).all goodWord = true := wk_good gdx_ok (by decide +kernel)
def ix_Jx4a65c_size_8abf5 : List Nat := [3188, 3192, 3194, 3196]
def wsJx4a65c_size_8abf5 : List Cond := .code yJx4a65c_size_8abf5 cJx4a65c_size_8abf5 1 (some .int) :: (wk ix_Jx4a65c_size_8abf5)
theorem wm_Jx4a65c_size_8abf5 : ∀ w ∈ wk ix_Jx4a65c_size_8abf5, w ∈ wsJx4a65c_size_8abf5 := fun _ h => List.mem_cons_of_mem _ (h)
theorem wc_Jx4a65c_size_8abf5 : wk_at 2045 = some (.code yJx4a65c_size_8abf5 cJx4a65c_size_8abf5 1 (some .int)) := by decide +kernel
theorem wq_Jx4a65c_size_8abf5 : (wk ix_Jx4a65c_size_8abf5).all goodWord = true := wk_good gdx_ok (by decide +kernel)
def ix_J3_checkIndex_8e157 : List Nat := []
def wsJ3_checkIndex_8e157 : List Cond := .code yJ3_checkIndex_8e157 cJ3_checkIndex_8e157 3 (some .int) :: (wk ix_J3_checkIndex_8e157)
theorem wm_J3_checkIndex_8e157 : ∀ w ∈ wk ix_J3_checkIndex_8e157, w ∈ wsJ3_checkIndex_8e157 := fun _ h => List.mem_cons_of_mem _ (h)
theorem wc_J3_checkIndex_8e157 : wk_at 2125 = some (.code yJ3_checkIndex_8e157 cJ3_checkIndex_8e157 3 (some .int)) := by decide +kernel
theorem wq_J3_checkIndex_8e157 : (wk ix_J3_checkIndex_8e157).all goodWord = true := wk_good gdx_ok (by decide +kernel)
def ix_J15_checkIndex_7cf53 : List Nat := [2013, 2123, 2124, 2125]
def wsJ15_checkIndex_7cf53 : List Cond := .code yJ15_checkIndex_7cf53 cJ15_checkIndex_7cf53 2 (some .int) :: (wk ix_J15_checkIndex_7cf53)
theorem wm_J15_checkIndex_7cf53 : ∀ w ∈ wk ix_J15_checkIndex_7cf53, w ∈ wsJ15_checkIndex_7cf53 := fun _ h => List.mem_cons_of_mem _ (h)
theorem wc_J15_checkIndex_7cf53 : wk_at 2122 = some (.code yJ15_checkIndex_7cf53 cJ15_checkIndex_7cf53 2 (some .int)) := by decide +kernel
theorem wq_J15_checkIndex_7cf53 : (wk ix_J15_checkIndex_7cf53).all goodWord = true := wk_good gdx_ok (by decide +kernel)
def ix_Jx4a65c_elementData_915e3 : List Nat := [3187, 3192, 3194, 3196]
def wsJx4a65c_elementData_915e3 : List Cond := .code yJx4a65c_elementData_915e3 cJx4a65c_elementData_915e3 2 (some (.object "java/lang/Object")) :: (wk ix_Jx4a65c_elementData_915e3)
theorem wm_Jx4a65c_elementData_915e3 : ∀ w ∈ wk ix_Jx4a65c_elementData_915e3, w ∈ wsJx4a65c_elementData_915e3 := fun _ h => List.mem_cons_of_mem _ (h)
theorem wc_Jx4a65c_elementData_915e3 : wk_at 2129 = some (.code yJx4a65c_elementData_915e3 cJx4a65c_elementData_915e3 2 (some (.object "java/lang/Object"))) := by decide +kernel
theorem wq_Jx4a65c_elementData_915e3 : (wk ix_Jx4a65c_elementData_915e3).all goodWord = true := wk_good gdx_ok (by decide +kernel)
def ix_Jx4a65c_get_915e3 : List Nat := [2004, 2012, 2013, 2120, 2121, 2122, 2123, 2124, 2125, 2126, 2127, 2128, 2129, 3187, 3188, 3192, 3194, 3196]
def wsJx4a65c_get_915e3 : List Cond := .code yJx4a65c_get_915e3 cJx4a65c_get_915e3 2 (some (.object "java/lang/Object")) :: (wk ix_Jx4a65c_get_915e3)
theorem wm_Jx4a65c_get_915e3 : ∀ w ∈ wk ix_Jx4a65c_get_915e3, w ∈ wsJx4a65c_get_915e3 := fun _ h => List.mem_cons_of_mem _ (h)
theorem wc_Jx4a65c_get_915e3 : wk_at 2119 = some (.code yJx4a65c_get_915e3 cJx4a65c_get_915e3 2 (some (.object "java/lang/Object"))) := by decide +kernel
theorem wq_Jx4a65c_get_915e3 : (wk ix_Jx4a65c_get_915e3).all goodWord = true := wk_good gdx_ok (by decide +kernel)
def ix_X0_babiesInLine : List Nat := [2004, 2012, 2013, 2043, 2044, 2045, 2117, 2118, 2119, 2120, 2121, 2122, 2123, 2124, 2125, 2126, 2127, 2128, 2129, 2224, 2225, 2234, 3187, 3188, 3192, 3194, 3196, 4105, 4115, 4117, 4119, 4121, 4123, 4125, 4127, 4129, 4131, 4133, 4211, 4227, 4229, 4231, 4233, 4235, 4237, 4239, 5001, 5003]
def wsX0_babiesInLine : List Cond := .code yX0_babiesInLine cX0_babiesInLine 3 (some .int) :: (wk ix_X0_babiesInLine)
theorem wm_X0_babiesInLine : ∀ w ∈ wk ix_X0_babiesInLine, w ∈ wsX0_babiesInLine := fun _ h => List.mem_cons_of_mem _ (h)
theorem wc_X0_babiesInLine : wk_at 5208 = some (.code yX0_babiesInLine cX0_babiesInLine 3 (some .int)) := by decide +kernel
theorem wq_X0_babiesInLine : (wk ix_X0_babiesInLine).all goodWord = true := wk_good gdx_ok (by decide +kernel)
def ix_X0_babiesAreAhead : List Nat := [2004, 2012, 2013, 2043, 2044, 2045, 2117, 2118, 2119, 2120, 2121, 2122, 2123, 2124, 2125, 2126, 2127, 2128, 2129, 2224, 2225, 2234, 3187, 3188, 3192, 3194, 3196, 4105, 4115, 4117, 4119, 4121, 4123, 4125, 4127, 4129, 4131, 4133, 4211, 4227, 4229, 4231, 4233, 4235, 4237, 4239, 5001, 5003]
def wsX0_babiesAreAhead : List Cond := .code yX0_babiesAreAhead cX0_babiesAreAhead 2 (some .boolean) :: (wk ix_X0_babiesAreAhead)
theorem wm_X0_babiesAreAhead : ∀ w ∈ wk ix_X0_babiesAreAhead, w ∈ wsX0_babiesAreAhead := fun _ h => List.mem_cons_of_mem _ (h)
theorem wc_X0_babiesAreAhead : wk_at 2233 = some (.code yX0_babiesAreAhead cX0_babiesAreAhead 2 (some .boolean)) := by decide +kernel
theorem wq_X0_babiesAreAhead : (wk ix_X0_babiesAreAhead).all goodWord = true := wk_good gdx_ok (by decide +kernel)
def ix_X0_timesInLine : List Nat := [2004, 2012, 2013, 2043, 2044, 2045, 2117, 2118, 2119, 2120, 2121, 2122, 2123, 2124, 2125, 2126, 2127, 2128, 2129, 2224, 2225, 3187, 3188, 3192, 3194, 3196, 4105, 4115, 4117, 4119, 4121, 4123, 4125, 4127, 4129, 4131, 4133]
def wsX0_timesInLine : List Cond := .code yX0_timesInLine cX0_timesInLine 4 (some .int) :: (wk ix_X0_timesInLine)
theorem wm_X0_timesInLine : ∀ w ∈ wk ix_X0_timesInLine, w ∈ wsX0_timesInLine := fun _ h => List.mem_cons_of_mem _ (h)
theorem wc_X0_timesInLine : wk_at 2223 = some (.code yX0_timesInLine cX0_timesInLine 4 (some .int)) := by decide +kernel
theorem wq_X0_timesInLine : (wk ix_X0_timesInLine).all goodWord = true := wk_good gdx_ok (by decide +kernel)
def ix_X1_init : List Nat := [2072, 2073, 5088, 5089, 5091, 5093, 5095, 5097, 5099]
def wsX1_init : List Cond := .code yX1_init cX1_init 4 none :: (wk ix_X1_init)
theorem wm_X1_init : ∀ w ∈ wk ix_X1_init, w ∈ wsX1_init := fun _ h => List.mem_cons_of_mem _ (h)
theorem wc_X1_init : wk_at 5087 = some (.code yX1_init cX1_init 4 none) := by decide +kernel
theorem wq_X1_init : (wk ix_X1_init).all goodWord = true := wk_good gdx_ok (by decide +kernel)
def ix_X2_init : List Nat := [2072, 2073, 3219, 3220, 3222, 3224, 3226, 3231, 3233, 3235, 3237, 3239, 4001, 4003]
def wsX2_init : List Cond := .code yX2_init cX2_init 2 none :: (wk ix_X2_init)
theorem wm_X2_init : ∀ w ∈ wk ix_X2_init, w ∈ wsX2_init := fun _ h => List.mem_cons_of_mem _ (h)
theorem wc_X2_init : wk_at 3218 = some (.code yX2_init cX2_init 2 none) := by decide +kernel
theorem wq_X2_init : (wk ix_X2_init).all goodWord = true := wk_good gdx_ok (by decide +kernel)
def ix_X2_dutyOn : List Nat := [3222, 3224, 3231, 3233, 3235, 3237, 3239, 4001, 4003]
def wsX2_dutyOn : List Cond := .code yX2_dutyOn cX2_dutyOn 2 (some .int) :: (wk ix_X2_dutyOn)
theorem wm_X2_dutyOn : ∀ w ∈ wk ix_X2_dutyOn, w ∈ wsX2_dutyOn := fun _ h => List.mem_cons_of_mem _ (h)
theorem wc_X2_dutyOn : wk_at 3106 = some (.code yX2_dutyOn cX2_dutyOn 2 (some .int)) := by decide +kernel
theorem wq_X2_dutyOn : (wk ix_X2_dutyOn).all goodWord = true := wk_good gdx_ok (by decide +kernel)
def ix_X3_init : List Nat := [2072, 2073, 5015, 5016, 5018, 5020, 5022, 5026, 5031, 5033, 5035, 5037, 5039, 5041, 5043, 5045]
def wsX3_init : List Cond := .code yX3_init cX3_init 6 none :: (wk ix_X3_init)
theorem wm_X3_init : ∀ w ∈ wk ix_X3_init, w ∈ wsX3_init := fun _ h => List.mem_cons_of_mem _ (h)
theorem wc_X3_init : wk_at 5014 = some (.code yX3_init cX3_init 6 none) := by decide +kernel
theorem wq_X3_init : (wk ix_X3_init).all goodWord = true := wk_good gdx_ok (by decide +kernel)
def ix_X3_isNightmare : List Nat := [5022, 5031, 5033, 5035, 5037, 5039, 5041, 5043, 5045]
def wsX3_isNightmare : List Cond := .code yX3_isNightmare cX3_isNightmare 1 (some .boolean) :: (wk ix_X3_isNightmare)
theorem wm_X3_isNightmare : ∀ w ∈ wk ix_X3_isNightmare, w ∈ wsX3_isNightmare := fun _ h => List.mem_cons_of_mem _ (h)
theorem wc_X3_isNightmare : wk_at 3098 = some (.code yX3_isNightmare cX3_isNightmare 1 (some .boolean)) := by decide +kernel
theorem wq_X3_isNightmare : (wk ix_X3_isNightmare).all goodWord = true := wk_good gdx_ok (by decide +kernel)
def ix_X3_isIn : List Nat := [5016, 5031, 5033, 5035, 5037, 5039, 5041, 5043, 5045]
def wsX3_isIn : List Cond := .code yX3_isIn cX3_isIn 2 (some .boolean) :: (wk ix_X3_isIn)
theorem wm_X3_isIn : ∀ w ∈ wk ix_X3_isIn, w ∈ wsX3_isIn := fun _ h => List.mem_cons_of_mem _ (h)
theorem wc_X3_isIn : wk_at 3056 = some (.code yX3_isIn cX3_isIn 2 (some .boolean)) := by decide +kernel
theorem wq_X3_isIn : (wk ix_X3_isIn).all goodWord = true := wk_good gdx_ok (by decide +kernel)
def ix_X3_isHidden : List Nat := [2022, 3053, 3054, 3055, 3056, 4223, 4227, 4229, 4231, 4233, 4235, 4237, 4239, 5001, 5003, 5016, 5026, 5031, 5033, 5035, 5037, 5039, 5041, 5043, 5045]
def wsX3_isHidden : List Cond := .code yX3_isHidden cX3_isHidden 1 (some .boolean) :: (wk ix_X3_isHidden)
theorem wm_X3_isHidden : ∀ w ∈ wk ix_X3_isHidden, w ∈ wsX3_isHidden := fun _ h => List.mem_cons_of_mem _ (h)
theorem wc_X3_isHidden : wk_at 3052 = some (.code yX3_isHidden cX3_isHidden 1 (some .boolean)) := by decide +kernel
theorem wq_X3_isHidden : (wk ix_X3_isHidden).all goodWord = true := wk_good gdx_ok (by decide +kernel)
def ix_X3_whereabouts : List Nat := [4214, 4227, 4229, 4231, 4233, 4235, 4237, 4239, 5001, 5003, 5026, 5028, 5031, 5033, 5035, 5037, 5039, 5041, 5043, 5045]
def wsX3_whereabouts : List Cond := .code yX3_whereabouts cX3_whereabouts 1 (some (.object "Lullabygate$Land")) :: (wk ix_X3_whereabouts)
theorem wm_X3_whereabouts : ∀ w ∈ wk ix_X3_whereabouts, w ∈ wsX3_whereabouts := fun _ h => List.mem_cons_of_mem _ (h)
theorem wc_X3_whereabouts : wk_at 2180 = some (.code yX3_whereabouts cX3_whereabouts 1 (some (.object "Lullabygate$Land"))) := by decide +kernel
theorem wq_X3_whereabouts : (wk ix_X3_whereabouts).all goodWord = true := wk_good gdx_ok (by decide +kernel)
def ix_X3_putInStore : List Nat := [5024, 5026, 5028, 5031, 5033, 5035, 5037, 5039, 5041, 5043, 5045]
def wsX3_putInStore : List Cond := .code yX3_putInStore cX3_putInStore 3 none :: (wk ix_X3_putInStore)
theorem wm_X3_putInStore : ∀ w ∈ wk ix_X3_putInStore, w ∈ wsX3_putInStore := fun _ h => List.mem_cons_of_mem _ (h)
theorem wc_X3_putInStore : wk_at 5105 = some (.code yX3_putInStore cX3_putInStore 3 none) := by decide +kernel
theorem wq_X3_putInStore : (wk ix_X3_putInStore).all goodWord = true := wk_good gdx_ok (by decide +kernel)
def ix_X4_init : List Nat := [2072, 2073, 5151, 5152, 5154, 5156, 5158, 5160, 5162]
def wsX4_init : List Cond := .code yX4_init cX4_init 4 none :: (wk ix_X4_init)
theorem wm_X4_init : ∀ w ∈ wk ix_X4_init, w ∈ wsX4_init := fun _ h => List.mem_cons_of_mem _ (h)
theorem wc_X4_init : wk_at 5150 = some (.code yX4_init cX4_init 4 none) := by decide +kernel
theorem wq_X4_init : (wk ix_X4_init).all goodWord = true := wk_good gdx_ok (by decide +kernel)
def ix_X5_init : List Nat := [2072, 2073, 3204, 3207, 3208, 3210]
def wsX5_init : List Cond := .code yX5_init cX5_init 1 none :: (wk ix_X5_init)
theorem wm_X5_init : ∀ w ∈ wk ix_X5_init, w ∈ wsX5_init := fun _ h => List.mem_cons_of_mem _ (h)
theorem wc_X5_init : wk_at 3203 = some (.code yX5_init cX5_init 1 none) := by decide +kernel
theorem wq_X5_init : (wk ix_X5_init).all goodWord = true := wk_good gdx_ok (by decide +kernel)
def ix_X5_draw : List Nat := [3205, 3207, 3208, 3210]
def wsX5_draw : List Cond := .code yX5_draw cX5_draw 2 (some .int) :: (wk ix_X5_draw)
theorem wm_X5_draw : ∀ w ∈ wk ix_X5_draw, w ∈ wsX5_draw := fun _ h => List.mem_cons_of_mem _ (h)
theorem wc_X5_draw : wk_at 5075 = some (.code yX5_draw cX5_draw 2 (some .int)) := by decide +kernel
theorem wq_X5_draw : (wk ix_X5_draw).all goodWord = true := wk_good gdx_ok (by decide +kernel)
def ix_X6_init : List Nat := [2072, 2073, 4207, 4208, 4210, 4213, 4216, 4218, 4227, 4229, 4231, 4233, 4235, 4237, 4239, 5001, 5003]
def wsX6_init : List Cond := .code yX6_init cX6_init 5 none :: (wk ix_X6_init)
theorem wm_X6_init : ∀ w ∈ wk ix_X6_init, w ∈ wsX6_init := fun _ h => List.mem_cons_of_mem _ (h)
theorem wc_X6_init : wk_at 4206 = some (.code yX6_init cX6_init 5 none) := by decide +kernel
theorem wq_X6_init : (wk ix_X6_init).all goodWord = true := wk_good gdx_ok (by decide +kernel)
def ix_X6_standAt : List Nat := [4218, 4220, 4222, 4227, 4229, 4231, 4233, 4235, 4237, 4239, 5001, 5003]
def wsX6_standAt : List Cond := .code yX6_standAt cX6_standAt 3 none :: (wk ix_X6_standAt)
theorem wm_X6_standAt : ∀ w ∈ wk ix_X6_standAt, w ∈ wsX6_standAt := fun _ h => List.mem_cons_of_mem _ (h)
theorem wc_X6_standAt : wk_at 6209 = some (.code yX6_standAt cX6_standAt 3 none) := by decide +kernel
theorem wq_X6_standAt : (wk ix_X6_standAt).all goodWord = true := wk_good gdx_ok (by decide +kernel)
def ix_X6_stepOut : List Nat := [4218, 4220, 4222, 4227, 4229, 4231, 4233, 4235, 4237, 4239, 5001, 5003]
def wsX6_stepOut : List Cond := .code yX6_stepOut cX6_stepOut 2 none :: (wk ix_X6_stepOut)
theorem wm_X6_stepOut : ∀ w ∈ wk ix_X6_stepOut, w ∈ wsX6_stepOut := fun _ h => List.mem_cons_of_mem _ (h)
theorem wc_X6_stepOut : wk_at 5113 = some (.code yX6_stepOut cX6_stepOut 2 none) := by decide +kernel
theorem wq_X6_stepOut : (wk ix_X6_stepOut).all goodWord = true := wk_good gdx_ok (by decide +kernel)
def ix_X7_has : List Nat := [4090, 4091, 4092, 4094]
def wsX7_has : List Cond := .code yX7_has cX7_has 4 (some .boolean) :: (wk ix_X7_has)
theorem wm_X7_has : ∀ w ∈ wk ix_X7_has, w ∈ wsX7_has := fun _ h => List.mem_cons_of_mem _ (h)
theorem wc_X7_has : wk_at 3085 = some (.code yX7_has cX7_has 4 (some .boolean)) := by decide +kernel
theorem wq_X7_has : (wk ix_X7_has).all goodWord = true := wk_good gdx_ok (by decide +kernel)
def ix_X7_put : List Nat := [4090, 4091, 4092, 4094]
def wsX7_put : List Cond := .code yX7_put cX7_put 2 none :: (wk ix_X7_put)
theorem wm_X7_put : ∀ w ∈ wk ix_X7_put, w ∈ wsX7_put := fun _ h => List.mem_cons_of_mem _ (h)
theorem wc_X7_put : wk_at 5172 = some (.code yX7_put cX7_put 2 none) := by decide +kernel
theorem wq_X7_put : (wk ix_X7_put).all goodWord = true := wk_good gdx_ok (by decide +kernel)
def ix_X7_putAll : List Nat := [4090, 4091, 4092, 4094]
def wsX7_putAll : List Cond := .code yX7_putAll cX7_putAll 2 none :: (wk ix_X7_putAll)
theorem wm_X7_putAll : ∀ w ∈ wk ix_X7_putAll, w ∈ wsX7_putAll := fun _ h => List.mem_cons_of_mem _ (h)
theorem wc_X7_putAll : wk_at 5193 = some (.code yX7_putAll cX7_putAll 2 none) := by decide +kernel
theorem wq_X7_putAll : (wk ix_X7_putAll).all goodWord = true := wk_good gdx_ok (by decide +kernel)
def ix_J13_bitCount_95d88 : List Nat := [3064, 3065, 3066]
def wsJ13_bitCount_95d88 : List Cond := .code yJ13_bitCount_95d88 cJ13_bitCount_95d88 2 (some .int) :: (wk ix_J13_bitCount_95d88)
theorem wm_J13_bitCount_95d88 : ∀ w ∈ wk ix_J13_bitCount_95d88, w ∈ wsJ13_bitCount_95d88 := fun _ h => List.mem_cons_of_mem _ (h)
theorem wc_J13_bitCount_95d88 : wk_at 3063 = some (.code yJ13_bitCount_95d88 cJ13_bitCount_95d88 2 (some .int)) := by decide +kernel
theorem wq_J13_bitCount_95d88 : (wk ix_J13_bitCount_95d88).all goodWord = true := wk_good gdx_ok (by decide +kernel)
def ix_X7_size : List Nat := [2024, 3061, 3062, 3063, 3064, 3065, 3066, 4090, 4091, 4092, 4094]
def wsX7_size : List Cond := .code yX7_size cX7_size 1 (some .int) :: (wk ix_X7_size)
theorem wm_X7_size : ∀ w ∈ wk ix_X7_size, w ∈ wsX7_size := fun _ h => List.mem_cons_of_mem _ (h)
theorem wc_X7_size : wk_at 3060 = some (.code yX7_size cX7_size 1 (some .int)) := by decide +kernel
theorem wq_X7_size : (wk ix_X7_size).all goodWord = true := wk_good gdx_ok (by decide +kernel)
def ix_X8_init : List Nat := [2002, 2003, 2004, 2005, 2006, 2072, 2073, 3170, 3171, 3173, 3174, 3175, 3176, 3177, 3178, 3179, 3180, 3181, 3182, 3183, 3184, 3185, 3187, 3189, 3192, 3194, 3196, 3199, 3200, 3202, 3203, 3204, 3207, 3208, 3210, 3213, 3215, 3216, 3217, 3218, 3219, 3220, 3222, 3224, 3226, 3231, 3233, 3235, 3237, 3239, 4001, 4003, 4006, 4007, 4008, 4009, 4010, 4011, 4012, 4013, 4014, 4018, 4020, 4022, 4024, 4026, 4028, 4030, 4032, 4034, 4036, 4038]
def wsX8_init : List Cond := .code yX8_init cX8_init 2 none :: (wk ix_X8_init)
theorem wm_X8_init : ∀ w ∈ wk ix_X8_init, w ∈ wsX8_init := fun _ h => List.mem_cons_of_mem _ (h)
theorem wc_X8_init : wk_at 3169 = some (.code yX8_init cX8_init 2 none) := by decide +kernel
theorem wq_X8_init : (wk ix_X8_init).all goodWord = true := wk_good gdx_ok (by decide +kernel)
def ix_X8_landNumbered : List Nat := [2010, 2046, 4007, 4018, 4020, 4022, 4024, 4026, 4028, 4030, 4032, 4034, 4036, 4038]
def wsX8_landNumbered : List Cond := .code yX8_landNumbered cX8_landNumbered 2 (some (.object "Lullabygate$Land")) :: (wk ix_X8_landNumbered ++ (vx_atS RX8 446 "java/lang/IndexOutOfBoundsException" ["java/lang/RuntimeException", "java/lang/Exception"]).filter goodWord)
theorem wm_X8_landNumbered : ∀ w ∈ wk ix_X8_landNumbered, w ∈ wsX8_landNumbered := fun _ h => List.mem_cons_of_mem _ (List.mem_append_left _ (h))
theorem wc_X8_landNumbered : wk_at 3009 = some (.code yX8_landNumbered cX8_landNumbered 2 (some (.object "Lullabygate$Land"))) := by decide +kernel
theorem wq_X8_landNumbered : (wk ix_X8_landNumbered).all goodWord = true := wk_good gdx_ok (by decide +kernel)
def ix_X8_demandRange : List Nat := [2011, 2152]
def wsX8_demandRange : List Cond := .code yX8_demandRange cX8_demandRange 3 none :: (wk ix_X8_demandRange ++ (vx_atS RX8 69 "java/lang/IllegalArgumentException" ["java/lang/RuntimeException", "java/lang/Exception"]).filter goodWord)
theorem wm_X8_demandRange : ∀ w ∈ wk ix_X8_demandRange, w ∈ wsX8_demandRange := fun _ h => List.mem_cons_of_mem _ (List.mem_append_left _ (h))
theorem wc_X8_demandRange : wk_at 3127 = some (.code yX8_demandRange cX8_demandRange 3 none) := by decide +kernel
theorem wq_X8_demandRange : (wk ix_X8_demandRange).all goodWord = true := wk_good gdx_ok (by decide +kernel)
def ix_X8_land : List Nat := [1014, 2001, 2010, 2011, 2046, 2152, 3006, 3008, 3009, 3125, 3126, 3127, 3223, 3225, 3231, 3233, 3235, 3237, 3239, 4001, 4003, 4007, 4018, 4020, 4022, 4024, 4026, 4028, 4030, 4032, 4034, 4036, 4038]
def wsX8_land : List Cond := .code yX8_land cX8_land 6 (some .int) :: (wk ix_X8_land ++ (vx_atS RX8 446 "java/lang/IndexOutOfBoundsException" ["java/lang/RuntimeException", "java/lang/Exception"]).filter goodWord ++ (vx_atS RX8 69 "java/lang/IllegalArgumentException" ["java/lang/RuntimeException", "java/lang/Exception"]).filter goodWord)
theorem wm_X8_land : ∀ w ∈ wk ix_X8_land, w ∈ wsX8_land := fun _ h => List.mem_cons_of_mem _ (List.mem_append_left _ (List.mem_append_left _ (h)))
theorem wc_X8_land : wk_at 4048 = some (.code yX8_land cX8_land 6 (some .int)) := by decide +kernel
theorem wq_X8_land : (wk ix_X8_land).all goodWord = true := wk_good gdx_ok (by decide +kernel)
def ix_X8_trade : List Nat := [1014, 2001, 2010, 2011, 2014, 2046, 2152, 3006, 3008, 3009, 3227, 3231, 3233, 3235, 3237, 3239, 4001, 4003, 4007, 4018, 4020, 4022, 4024, 4026, 4028, 4030, 4032, 4034, 4036, 4038, 4055]
def wsX8_trade : List Cond := .code yX8_trade cX8_trade 6 (some .int) :: (wk ix_X8_trade ++ (vx_atS RX8 69 "java/lang/IllegalArgumentException" ["java/lang/RuntimeException", "java/lang/Exception"]).filter goodWord ++ (vx_atS RX8 79 "java/lang/IllegalStateException" ["java/lang/RuntimeException", "java/lang/Exception"]).filter goodWord ++ (vx_atS RX8 446 "java/lang/IndexOutOfBoundsException" ["java/lang/RuntimeException", "java/lang/Exception"]).filter goodWord)
theorem wm_X8_trade : ∀ w ∈ wk ix_X8_trade, w ∈ wsX8_trade := fun _ h => List.mem_cons_of_mem _ (List.mem_append_left _ (List.mem_append_left _ (List.mem_append_left _ (h))))
theorem wc_X8_trade : wk_at 4053 = some (.code yX8_trade cX8_trade 6 (some .int)) := by decide +kernel
theorem wq_X8_trade : (wk ix_X8_trade).all goodWord = true := wk_good gdx_ok (by decide +kernel)
def ix_J8_hugeLength_7cf53 : List Nat := [4156]
def wsJ8_hugeLength_7cf53 : List Cond := .code yJ8_hugeLength_7cf53 cJ8_hugeLength_7cf53 3 (some .int) :: (wk ix_J8_hugeLength_7cf53)
theorem wm_J8_hugeLength_7cf53 : ∀ w ∈ wk ix_J8_hugeLength_7cf53, w ∈ wsJ8_hugeLength_7cf53 := fun _ h => List.mem_cons_of_mem _ (h)
theorem wc_J8_hugeLength_7cf53 : wk_at 4159 = some (.code yJ8_hugeLength_7cf53 cJ8_hugeLength_7cf53 3 (some .int)) := by decide +kernel
theorem wq_J8_hugeLength_7cf53 : (wk ix_J8_hugeLength_7cf53).all goodWord = true := wk_good gdx_ok (by decide +kernel)
def ix_J8_newLength_cabcc : List Nat := [2017, 2018, 3144, 3145, 4155, 4156, 4157, 4158, 4159]
def wsJ8_newLength_cabcc : List Cond := .code yJ8_newLength_cabcc cJ8_newLength_cabcc 4 (some .int) :: (wk ix_J8_newLength_cabcc)
theorem wm_J8_newLength_cabcc : ∀ w ∈ wk ix_J8_newLength_cabcc, w ∈ wsJ8_newLength_cabcc := fun _ h => List.mem_cons_of_mem _ (h)
theorem wc_J8_newLength_cabcc : wk_at 4154 = some (.code yJ8_newLength_cabcc cJ8_newLength_cabcc 4 (some .int)) := by decide +kernel
theorem wq_J8_newLength_cabcc : (wk ix_J8_newLength_cabcc).all goodWord = true := wk_good gdx_ok (by decide +kernel)
def ix_J7_copyOf_6403c : List Nat := [2018, 2020, 3138, 3139, 4185, 4187, 4188, 4189, 4190, 4191]
def wsJ7_copyOf_6403c : List Cond := .code yJ7_copyOf_6403c cJ7_copyOf_6403c 4 (some (.array (.object "java/lang/Object"))) :: (wk ix_J7_copyOf_6403c)
theorem wm_J7_copyOf_6403c : ∀ w ∈ wk ix_J7_copyOf_6403c, w ∈ wsJ7_copyOf_6403c := fun _ h => List.mem_cons_of_mem _ (h)
theorem wc_J7_copyOf_6403c : wk_at 4184 = some (.code yJ7_copyOf_6403c cJ7_copyOf_6403c 4 (some (.array (.object "java/lang/Object")))) := by decide +kernel
theorem wq_J7_copyOf_6403c : (wk ix_J7_copyOf_6403c).all goodWord = true := wk_good gdx_ok (by decide +kernel)
def ix_J7_copyOf_1904c : List Nat := [2018, 2019, 2020, 3138, 3139, 4163, 4164, 4181, 4182, 4183, 4184, 4185, 4187, 4188, 4189, 4190, 4191, 7001]
def wsJ7_copyOf_1904c : List Cond := .code yJ7_copyOf_1904c cJ7_copyOf_1904c 2 (some (.array (.object "java/lang/Object"))) :: (wk ix_J7_copyOf_1904c)
theorem wm_J7_copyOf_1904c : ∀ w ∈ wk ix_J7_copyOf_1904c, w ∈ wsJ7_copyOf_1904c := fun _ h => List.mem_cons_of_mem _ (h)
theorem wc_J7_copyOf_1904c : wk_at 4162 = some (.code yJ7_copyOf_1904c cJ7_copyOf_1904c 2 (some (.array (.object "java/lang/Object")))) := by decide +kernel
theorem wq_J7_copyOf_1904c : (wk ix_J7_copyOf_1904c).all goodWord = true := wk_good gdx_ok (by decide +kernel)
def ix_Jx4a65c_grow_92f84 : List Nat := [2017, 2018, 2019, 2020, 3138, 3139, 3144, 3145, 3185, 3187, 3192, 3194, 3196, 4152, 4153, 4154, 4155, 4156, 4157, 4158, 4159, 4160, 4161, 4162, 4163, 4164, 4181, 4182, 4183, 4184, 4185, 4187, 4188, 4189, 4190, 4191, 4192, 4193, 7001]
def wsJx4a65c_grow_92f84 : List Cond := .code yJx4a65c_grow_92f84 cJx4a65c_grow_92f84 4 (some (.array (.object "java/lang/Object"))) :: (wk ix_Jx4a65c_grow_92f84)
theorem wm_Jx4a65c_grow_92f84 : ∀ w ∈ wk ix_Jx4a65c_grow_92f84, w ∈ wsJx4a65c_grow_92f84 := fun _ h => List.mem_cons_of_mem _ (h)
theorem wc_Jx4a65c_grow_92f84 : wk_at 4151 = some (.code yJx4a65c_grow_92f84 cJx4a65c_grow_92f84 4 (some (.array (.object "java/lang/Object")))) := by decide +kernel
theorem wq_Jx4a65c_grow_92f84 : (wk ix_Jx4a65c_grow_92f84).all goodWord = true := wk_good gdx_ok (by decide +kernel)
def ix_Jx4a65c_grow_d5877 : List Nat := [1032, 2004, 2017, 2018, 2019, 2020, 3138, 3139, 3144, 3145, 3185, 3187, 3188, 3192, 3194, 3196, 4148, 4150, 4151, 4152, 4153, 4154, 4155, 4156, 4157, 4158, 4159, 4160, 4161, 4162, 4163, 4164, 4181, 4182, 4183, 4184, 4185, 4187, 4188, 4189, 4190, 4191, 4192, 4193, 7001]
def wsJx4a65c_grow_d5877 : List Cond := .code yJx4a65c_grow_d5877 cJx4a65c_grow_d5877 1 (some (.array (.object "java/lang/Object"))) :: (wk ix_Jx4a65c_grow_d5877)
theorem wm_Jx4a65c_grow_d5877 : ∀ w ∈ wk ix_Jx4a65c_grow_d5877, w ∈ wsJx4a65c_grow_d5877 := fun _ h => List.mem_cons_of_mem _ (h)
theorem wc_Jx4a65c_grow_d5877 : wk_at 4147 = some (.code yJx4a65c_grow_d5877 cJx4a65c_grow_d5877 1 (some (.array (.object "java/lang/Object")))) := by decide +kernel
theorem wq_Jx4a65c_grow_d5877 : (wk ix_Jx4a65c_grow_d5877).all goodWord = true := wk_good gdx_ok (by decide +kernel)
def ix_Jx4a65c_add_72be8 : List Nat := [1031, 1032, 2004, 2017, 2018, 2019, 2020, 3138, 3139, 3144, 3145, 3185, 3187, 3188, 3192, 3194, 3196, 4144, 4146, 4147, 4148, 4150, 4151, 4152, 4153, 4154, 4155, 4156, 4157, 4158, 4159, 4160, 4161, 4162, 4163, 4164, 4181, 4182, 4183, 4184, 4185, 4187, 4188, 4189, 4190, 4191, 4192, 4193, 7001]
def wsJx4a65c_add_72be8 : List Cond := .code yJx4a65c_add_72be8 cJx4a65c_add_72be8 4 none :: (wk ix_Jx4a65c_add_72be8)
theorem wm_Jx4a65c_add_72be8 : ∀ w ∈ wk ix_Jx4a65c_add_72be8, w ∈ wsJx4a65c_add_72be8 := fun _ h => List.mem_cons_of_mem _ (h)
theorem wc_Jx4a65c_add_72be8 : wk_at 4143 = some (.code yJx4a65c_add_72be8 cJx4a65c_add_72be8 4 none) := by decide +kernel
theorem wq_Jx4a65c_add_72be8 : (wk ix_Jx4a65c_add_72be8).all goodWord = true := wk_good gdx_ok (by decide +kernel)
def ix_Jx4a65c_add_9ea2d : List Nat := [1030, 1031, 1032, 2004, 2017, 2018, 2019, 2020, 3138, 3139, 3144, 3145, 3185, 3187, 3188, 3190, 3191, 3192, 3194, 3196, 4140, 4142, 4143, 4144, 4146, 4147, 4148, 4150, 4151, 4152, 4153, 4154, 4155, 4156, 4157, 4158, 4159, 4160, 4161, 4162, 4163, 4164, 4181, 4182, 4183, 4184, 4185, 4187, 4188, 4189, 4190, 4191, 4192, 4193, 7001]
def wsJx4a65c_add_9ea2d : List Cond := .code yJx4a65c_add_9ea2d cJx4a65c_add_9ea2d 2 (some .boolean) :: (wk ix_Jx4a65c_add_9ea2d)
theorem wm_Jx4a65c_add_9ea2d : ∀ w ∈ wk ix_Jx4a65c_add_9ea2d, w ∈ wsJx4a65c_add_9ea2d := fun _ h => List.mem_cons_of_mem _ (h)
theorem wc_Jx4a65c_add_9ea2d : wk_at 4139 = some (.code yJx4a65c_add_9ea2d cJx4a65c_add_9ea2d 2 (some .boolean)) := by decide +kernel
theorem wq_Jx4a65c_add_9ea2d : (wk ix_Jx4a65c_add_9ea2d).all goodWord = true := wk_good gdx_ok (by decide +kernel)
def ix_X8_gate : List Nat := [1014, 1030, 1031, 1032, 2001, 2002, 2003, 2004, 2010, 2011, 2014, 2015, 2016, 2017, 2018, 2019, 2020, 2042, 2043, 2044, 2045, 2046, 2072, 2073, 2152, 2219, 3006, 3008, 3009, 3125, 3126, 3127, 3138, 3139, 3144, 3145, 3174, 3176, 3177, 3178, 3179, 3180, 3181, 3182, 3183, 3184, 3185, 3187, 3188, 3189, 3190, 3191, 3192, 3194, 3196, 4007, 4008, 4018, 4020, 4022, 4024, 4026, 4028, 4030, 4032, 4034, 4036, 4038, 4055, 4077, 4078, 4079, 4080, 4081, 4082, 4083, 4084, 4085, 4087, 4088, 4089, 4092, 4094, 4097, 4098, 4099, 4101, 4103, 4104, 4105, 4107, 4109, 4111, 4115, 4117, 4119, 4121, 4123, 4125, 4127, 4129, 4131, 4133, 4136, 4137, 4138, 4139, 4140, 4142, 4143, 4144, 4146, 4147, 4148, 4150, 4151, 4152, 4153, 4154, 4155, 4156, 4157, 4158, 4159, 4160, 4161, 4162, 4163, 4164, 4181, 4182, 4183, 4184, 4185, 4187, 4188, 4189, 4190, 4191, 4192, 4193, 7001]
def wsX8_gate : List Cond := .code yX8_gate cX8_gate 8 (some .int) :: (wk ix_X8_gate ++ (vx_atS RX8 69 "java/lang/IllegalArgumentException" ["java/lang/RuntimeException", "java/lang/Exception"]).filter goodWord ++ (vx_atS RX8 79 "java/lang/IllegalStateException" ["java/lang/RuntimeException", "java/lang/Exception"]).filter goodWord ++ (vx_atS RX8 446 "java/lang/IndexOutOfBoundsException" ["java/lang/RuntimeException", "java/lang/Exception"]).filter goodWord)
theorem wm_X8_gate : ∀ w ∈ wk ix_X8_gate, w ∈ wsX8_gate := fun _ h => List.mem_cons_of_mem _ (List.mem_append_left _ (List.mem_append_left _ (List.mem_append_left _ (h))))
theorem wc_X8_gate : wk_at 4074 = some (.code yX8_gate cX8_gate 8 (some .int)) := by decide +kernel
theorem wq_X8_gate : (wk ix_X8_gate).all goodWord = true := wk_good gdx_ok (by decide +kernel)
def ix_X8_gateNumbered : List Nat := [2004, 2010, 2012, 2013, 2042, 2043, 2044, 2045, 2046, 2116, 2117, 2118, 2119, 2120, 2121, 2122, 2123, 2124, 2125, 2126, 2127, 2128, 2129, 2219, 3187, 3188, 3192, 3194, 3196, 4008, 4018, 4020, 4022, 4024, 4026, 4028, 4030, 4032, 4034, 4036, 4038]
def wsX8_gateNumbered : List Cond := .code yX8_gateNumbered cX8_gateNumbered 2 (some (.object "Lullabygate$Gate")) :: (wk ix_X8_gateNumbered ++ (vx_atS RX8 446 "java/lang/IndexOutOfBoundsException" ["java/lang/RuntimeException", "java/lang/Exception"]).filter goodWord)
theorem wm_X8_gateNumbered : ∀ w ∈ wk ix_X8_gateNumbered, w ∈ wsX8_gateNumbered := fun _ h => List.mem_cons_of_mem _ (List.mem_append_left _ (h))
theorem wc_X8_gateNumbered : wk_at 3031 = some (.code yX8_gateNumbered cX8_gateNumbered 2 (some (.object "Lullabygate$Gate"))) := by decide +kernel
theorem wq_X8_gateNumbered : (wk ix_X8_gateNumbered).all goodWord = true := wk_good gdx_ok (by decide +kernel)
def ix_X8_odds : List Nat := [1018, 2001, 2004, 2010, 2011, 2012, 2013, 2042, 2043, 2044, 2045, 2046, 2116, 2117, 2118, 2119, 2120, 2121, 2122, 2123, 2124, 2125, 2126, 2127, 2128, 2129, 2152, 2219, 3028, 3030, 3031, 3125, 3126, 3127, 3187, 3188, 3192, 3194, 3196, 4008, 4018, 4020, 4022, 4024, 4026, 4028, 4030, 4032, 4034, 4036, 4038, 4112, 4115, 4117, 4119, 4121, 4123, 4125, 4127, 4129, 4131, 4133]
def wsX8_odds : List Cond := .code yX8_odds cX8_odds 5 (some .int) :: (wk ix_X8_odds ++ (vx_atS RX8 446 "java/lang/IndexOutOfBoundsException" ["java/lang/RuntimeException", "java/lang/Exception"]).filter goodWord ++ (vx_atS RX8 69 "java/lang/IllegalArgumentException" ["java/lang/RuntimeException", "java/lang/Exception"]).filter goodWord)
theorem wm_X8_odds : ∀ w ∈ wk ix_X8_odds, w ∈ wsX8_odds := fun _ h => List.mem_cons_of_mem _ (List.mem_append_left _ (List.mem_append_left _ (h)))
theorem wc_X8_odds : wk_at 4197 = some (.code yX8_odds cX8_odds 5 (some .int)) := by decide +kernel
theorem wq_X8_odds : (wk ix_X8_odds).all goodWord = true := wk_good gdx_ok (by decide +kernel)
def ix_X8_relieve : List Nat := [1018, 2001, 2004, 2010, 2012, 2013, 2042, 2043, 2044, 2045, 2046, 2116, 2117, 2118, 2119, 2120, 2121, 2122, 2123, 2124, 2125, 2126, 2127, 2128, 2129, 2219, 3028, 3030, 3031, 3187, 3188, 3192, 3194, 3196, 4008, 4018, 4020, 4022, 4024, 4026, 4028, 4030, 4032, 4034, 4036, 4038, 4114, 4115, 4117, 4119, 4121, 4123, 4125, 4127, 4129, 4131, 4133]
def wsX8_relieve : List Cond := .code yX8_relieve cX8_relieve 4 (some .int) :: (wk ix_X8_relieve ++ (vx_atS RX8 446 "java/lang/IndexOutOfBoundsException" ["java/lang/RuntimeException", "java/lang/Exception"]).filter goodWord)
theorem wm_X8_relieve : ∀ w ∈ wk ix_X8_relieve, w ∈ wsX8_relieve := fun _ h => List.mem_cons_of_mem _ (List.mem_append_left _ (h))
theorem wc_X8_relieve : wk_at 5141 = some (.code yX8_relieve cX8_relieve 4 (some .int)) := by decide +kernel
theorem wq_X8_relieve : (wk ix_X8_relieve).all goodWord = true := wk_good gdx_ok (by decide +kernel)
def ix_X8_sleeper : List Nat := [1014, 1030, 1031, 1032, 2001, 2004, 2010, 2011, 2014, 2017, 2018, 2019, 2020, 2021, 2042, 2043, 2044, 2045, 2046, 2072, 2073, 2130, 2152, 3006, 3008, 3009, 3125, 3126, 3127, 3138, 3139, 3144, 3145, 3185, 3187, 3188, 3190, 3191, 3192, 3194, 3196, 4007, 4009, 4018, 4020, 4022, 4024, 4026, 4028, 4030, 4032, 4034, 4036, 4038, 4055, 4136, 4137, 4138, 4139, 4140, 4142, 4143, 4144, 4146, 4147, 4148, 4150, 4151, 4152, 4153, 4154, 4155, 4156, 4157, 4158, 4159, 4160, 4161, 4162, 4163, 4164, 4181, 4182, 4183, 4184, 4185, 4187, 4188, 4189, 4190, 4191, 4192, 4193, 4203, 4204, 4205, 4206, 4207, 4208, 4209, 4210, 4213, 4216, 4218, 4227, 4229, 4231, 4233, 4235, 4237, 4239, 5001, 5003, 7001]
def wsX8_sleeper : List Cond := .code yX8_sleeper cX8_sleeper 6 (some .int) :: (wk ix_X8_sleeper ++ (vx_atS RX8 79 "java/lang/IllegalStateException" ["java/lang/RuntimeException", "java/lang/Exception"]).filter goodWord ++ (vx_atS RX8 446 "java/lang/IndexOutOfBoundsException" ["java/lang/RuntimeException", "java/lang/Exception"]).filter goodWord ++ (vx_atS RX8 69 "java/lang/IllegalArgumentException" ["java/lang/RuntimeException", "java/lang/Exception"]).filter goodWord)
theorem wm_X8_sleeper : ∀ w ∈ wk ix_X8_sleeper, w ∈ wsX8_sleeper := fun _ h => List.mem_cons_of_mem _ (List.mem_append_left _ (List.mem_append_left _ (List.mem_append_left _ (h))))
theorem wc_X8_sleeper : wk_at 4201 = some (.code yX8_sleeper cX8_sleeper 6 (some .int)) := by decide +kernel
theorem wq_X8_sleeper : (wk ix_X8_sleeper).all goodWord = true := wk_good gdx_ok (by decide +kernel)
def ix_X8_sleeperNumbered : List Nat := [2004, 2010, 2012, 2013, 2042, 2043, 2044, 2045, 2046, 2116, 2117, 2118, 2119, 2120, 2121, 2122, 2123, 2124, 2125, 2126, 2127, 2128, 2129, 2130, 3187, 3188, 3192, 3194, 3196, 4009, 4018, 4020, 4022, 4024, 4026, 4028, 4030, 4032, 4034, 4036, 4038]
def wsX8_sleeperNumbered : List Cond := .code yX8_sleeperNumbered cX8_sleeperNumbered 2 (some (.object "Lullabygate$Sleeper")) :: (wk ix_X8_sleeperNumbered ++ (vx_atS RX8 446 "java/lang/IndexOutOfBoundsException" ["java/lang/RuntimeException", "java/lang/Exception"]).filter goodWord)
theorem wm_X8_sleeperNumbered : ∀ w ∈ wk ix_X8_sleeperNumbered, w ∈ wsX8_sleeperNumbered := fun _ h => List.mem_cons_of_mem _ (List.mem_append_left _ (h))
theorem wc_X8_sleeperNumbered : wk_at 2041 = some (.code yX8_sleeperNumbered cX8_sleeperNumbered 2 (some (.object "Lullabygate$Sleeper"))) := by decide +kernel
theorem wq_X8_sleeperNumbered : (wk ix_X8_sleeperNumbered).all goodWord = true := wk_good gdx_ok (by decide +kernel)
def ix_X8_part : List Nat := [1000, 1030, 1031, 1032, 2001, 2004, 2010, 2011, 2012, 2013, 2014, 2017, 2018, 2019, 2020, 2022, 2037, 2039, 2041, 2042, 2043, 2044, 2045, 2046, 2072, 2073, 2116, 2117, 2118, 2119, 2120, 2121, 2122, 2123, 2124, 2125, 2126, 2127, 2128, 2129, 2130, 2138, 2152, 3125, 3126, 3127, 3138, 3139, 3144, 3145, 3185, 3187, 3188, 3190, 3191, 3192, 3194, 3196, 4009, 4010, 4018, 4020, 4022, 4024, 4026, 4028, 4030, 4032, 4034, 4036, 4038, 4055, 4136, 4137, 4138, 4139, 4140, 4142, 4143, 4144, 4146, 4147, 4148, 4150, 4151, 4152, 4153, 4154, 4155, 4156, 4157, 4158, 4159, 4160, 4161, 4162, 4163, 4164, 4181, 4182, 4183, 4184, 4185, 4187, 4188, 4189, 4190, 4191, 4192, 4193, 4219, 4227, 4229, 4231, 4233, 4235, 4237, 4239, 5001, 5003, 5011, 5012, 5013, 5014, 5015, 5016, 5017, 5018, 5020, 5022, 5026, 5031, 5033, 5035, 5037, 5039, 5041, 5043, 5045, 7001]
def wsX8_part : List Cond := .code yX8_part cX8_part 7 (some .int) :: (wk ix_X8_part ++ (vx_atS RX8 79 "java/lang/IllegalStateException" ["java/lang/RuntimeException", "java/lang/Exception"]).filter goodWord ++ (vx_atS RX8 446 "java/lang/IndexOutOfBoundsException" ["java/lang/RuntimeException", "java/lang/Exception"]).filter goodWord ++ (vx_atS RX8 69 "java/lang/IllegalArgumentException" ["java/lang/RuntimeException", "java/lang/Exception"]).filter goodWord)
theorem wm_X8_part : ∀ w ∈ wk ix_X8_part, w ∈ wsX8_part := fun _ h => List.mem_cons_of_mem _ (List.mem_append_left _ (List.mem_append_left _ (List.mem_append_left _ (h))))
theorem wc_X8_part : wk_at 5009 = some (.code yX8_part cX8_part 7 (some .int)) := by decide +kernel
theorem wq_X8_part : (wk ix_X8_part).all goodWord = true := wk_good gdx_ok (by decide +kernel)
def ix_X8_partNumbered : List Nat := [2004, 2010, 2012, 2013, 2042, 2043, 2044, 2045, 2046, 2116, 2117, 2118, 2119, 2120, 2121, 2122, 2123, 2124, 2125, 2126, 2127, 2128, 2129, 2138, 3187, 3188, 3192, 3194, 3196, 4010, 4018, 4020, 4022, 4024, 4026, 4028, 4030, 4032, 4034, 4036, 4038]
def wsX8_partNumbered : List Cond := .code yX8_partNumbered cX8_partNumbered 2 (some (.object "Lullabygate$Part")) :: (wk ix_X8_partNumbered ++ (vx_atS RX8 446 "java/lang/IndexOutOfBoundsException" ["java/lang/RuntimeException", "java/lang/Exception"]).filter goodWord)
theorem wm_X8_partNumbered : ∀ w ∈ wk ix_X8_partNumbered, w ∈ wsX8_partNumbered := fun _ h => List.mem_cons_of_mem _ (List.mem_append_left _ (h))
theorem wc_X8_partNumbered : wk_at 2175 = some (.code yX8_partNumbered cX8_partNumbered 2 (some (.object "Lullabygate$Part"))) := by decide +kernel
theorem wq_X8_partNumbered : (wk ix_X8_partNumbered).all goodWord = true := wk_good gdx_ok (by decide +kernel)
def ix_X8_give : List Nat := [1000, 1006, 2001, 2004, 2010, 2012, 2013, 2014, 2037, 2039, 2041, 2042, 2043, 2044, 2045, 2046, 2116, 2117, 2118, 2119, 2120, 2121, 2122, 2123, 2124, 2125, 2126, 2127, 2128, 2129, 2130, 2138, 2172, 2174, 2175, 3187, 3188, 3192, 3194, 3196, 4009, 4010, 4018, 4020, 4022, 4024, 4026, 4028, 4030, 4032, 4034, 4036, 4038, 4055, 4209, 4215, 4219, 4227, 4229, 4231, 4233, 4235, 4237, 4239, 5001, 5003, 5027, 5031, 5033, 5035, 5037, 5039, 5041, 5043, 5045]
def wsX8_give : List Cond := .code yX8_give cX8_give 6 (some .int) :: (wk ix_X8_give ++ (vx_atS RX8 79 "java/lang/IllegalStateException" ["java/lang/RuntimeException", "java/lang/Exception"]).filter goodWord ++ (vx_atS RX8 446 "java/lang/IndexOutOfBoundsException" ["java/lang/RuntimeException", "java/lang/Exception"]).filter goodWord)
theorem wm_X8_give : ∀ w ∈ wk ix_X8_give, w ∈ wsX8_give := fun _ h => List.mem_cons_of_mem _ (List.mem_append_left _ (List.mem_append_left _ (h)))
theorem wc_X8_give : wk_at 5130 = some (.code yX8_give cX8_give 6 (some .int)) := by decide +kernel
theorem wq_X8_give : (wk ix_X8_give).all goodWord = true := wk_good gdx_ok (by decide +kernel)
def ix_X8_rightVerse : List Nat := [4098, 4115, 4117, 4119, 4121, 4123, 4125, 4127, 4129, 4131, 4133, 4209, 4227, 4229, 4231, 4233, 4235, 4237, 4239, 5001, 5003]
def wsX8_rightVerse : List Cond := .code yX8_rightVerse cX8_rightVerse 3 (some .int) :: (wk ix_X8_rightVerse)
theorem wm_X8_rightVerse : ∀ w ∈ wk ix_X8_rightVerse, w ∈ wsX8_rightVerse := fun _ h => List.mem_cons_of_mem _ (h)
theorem wc_X8_rightVerse : wk_at 3078 = some (.code yX8_rightVerse cX8_rightVerse 3 (some .int)) := by decide +kernel
theorem wq_X8_rightVerse : (wk ix_X8_rightVerse).all goodWord = true := wk_good gdx_ok (by decide +kernel)
def ix_X8_sing : List Nat := [1000, 1018, 2001, 2004, 2010, 2011, 2012, 2013, 2026, 2037, 2039, 2041, 2042, 2043, 2044, 2045, 2046, 2072, 2073, 2116, 2117, 2118, 2119, 2120, 2121, 2122, 2123, 2124, 2125, 2126, 2127, 2128, 2129, 2130, 2152, 2219, 3028, 3030, 3031, 3076, 3077, 3078, 3125, 3126, 3127, 3187, 3188, 3192, 3194, 3196, 4008, 4009, 4015, 4018, 4020, 4022, 4024, 4026, 4028, 4030, 4032, 4034, 4036, 4038, 4098, 4115, 4117, 4119, 4121, 4123, 4125, 4127, 4129, 4131, 4133, 4209, 4225, 4227, 4229, 4231, 4233, 4235, 4237, 4239, 5001, 5003, 5146, 5147, 5148, 5149, 5150, 5151, 5152, 5154, 5156, 5158, 5160, 5162]
def wsX8_sing : List Cond := .code yX8_sing cX8_sing 7 (some .int) :: (wk ix_X8_sing ++ (vx_atS RX8 446 "java/lang/IndexOutOfBoundsException" ["java/lang/RuntimeException", "java/lang/Exception"]).filter goodWord ++ (vx_atS RX8 69 "java/lang/IllegalArgumentException" ["java/lang/RuntimeException", "java/lang/Exception"]).filter goodWord)
theorem wm_X8_sing : ∀ w ∈ wk ix_X8_sing, w ∈ wsX8_sing := fun _ h => List.mem_cons_of_mem _ (List.mem_append_left _ (List.mem_append_left _ (h)))
theorem wc_X8_sing : wk_at 5145 = some (.code yX8_sing cX8_sing 7 (some .int)) := by decide +kernel
theorem wq_X8_sing : (wk ix_X8_sing).all goodWord = true := wk_good gdx_ok (by decide +kernel)
def ix_X8_revoke : List Nat := [1018, 2001, 2004, 2010, 2011, 2012, 2013, 2016, 2042, 2043, 2044, 2045, 2046, 2116, 2117, 2118, 2119, 2120, 2121, 2122, 2123, 2124, 2125, 2126, 2127, 2128, 2129, 2152, 2219, 3028, 3030, 3031, 3082, 3083, 3084, 3085, 3125, 3126, 3127, 3187, 3188, 3192, 3194, 3196, 4008, 4018, 4020, 4022, 4024, 4026, 4028, 4030, 4032, 4034, 4036, 4038, 4090, 4091, 4092, 4094, 4108, 4115, 4117, 4119, 4121, 4123, 4125, 4127, 4129, 4131, 4133, 5169, 5170, 5171, 5172]
def wsX8_revoke : List Cond := .code yX8_revoke cX8_revoke 5 (some .boolean) :: (wk ix_X8_revoke ++ (vx_atS RX8 446 "java/lang/IndexOutOfBoundsException" ["java/lang/RuntimeException", "java/lang/Exception"]).filter goodWord ++ (vx_atS RX8 69 "java/lang/IllegalArgumentException" ["java/lang/RuntimeException", "java/lang/Exception"]).filter goodWord)
theorem wm_X8_revoke : ∀ w ∈ wk ix_X8_revoke, w ∈ wsX8_revoke := fun _ h => List.mem_cons_of_mem _ (List.mem_append_left _ (List.mem_append_left _ (h)))
theorem wc_X8_revoke : wk_at 5168 = some (.code yX8_revoke cX8_revoke 5 (some .boolean)) := by decide +kernel
theorem wq_X8_revoke : (wk ix_X8_revoke).all goodWord = true := wk_good gdx_ok (by decide +kernel)
def ix_X8_headOf : List Nat := [2004, 2012, 2013, 2042, 2043, 2044, 2045, 2116, 2117, 2118, 2119, 2120, 2121, 2122, 2123, 2124, 2125, 2126, 2127, 2128, 2129, 2138, 3187, 3188, 3192, 3194, 3196, 4010, 4018, 4020, 4022, 4024, 4026, 4028, 4030, 4032, 4034, 4036, 4038, 5017, 5027, 5031, 5033, 5035, 5037, 5039, 5041, 5043, 5045]
def wsX8_headOf : List Cond := .code yX8_headOf cX8_headOf 5 (some .int) :: (wk ix_X8_headOf)
theorem wm_X8_headOf : ∀ w ∈ wk ix_X8_headOf, w ∈ wsX8_headOf := fun _ h => List.mem_cons_of_mem _ (h)
theorem wc_X8_headOf : wk_at 2137 = some (.code yX8_headOf cX8_headOf 5 (some .int)) := by decide +kernel
theorem wq_X8_headOf : (wk ix_X8_headOf).all goodWord = true := wk_good gdx_ok (by decide +kernel)
def ix_Jx4a65c_rangeCheckForAdd_d00df : List Nat := [3188, 3192, 3194, 3196]
def wsJx4a65c_rangeCheckForAdd_d00df : List Cond := .code yJx4a65c_rangeCheckForAdd_d00df cJx4a65c_rangeCheckForAdd_d00df 2 none :: (wk ix_Jx4a65c_rangeCheckForAdd_d00df)
theorem wm_Jx4a65c_rangeCheckForAdd_d00df : ∀ w ∈ wk ix_Jx4a65c_rangeCheckForAdd_d00df, w ∈ wsJx4a65c_rangeCheckForAdd_d00df := fun _ h => List.mem_cons_of_mem _ (h)
theorem wc_Jx4a65c_rangeCheckForAdd_d00df : wk_at 5216 = some (.code yJx4a65c_rangeCheckForAdd_d00df cJx4a65c_rangeCheckForAdd_d00df 2 none) := by decide +kernel
theorem wq_Jx4a65c_rangeCheckForAdd_d00df : (wk ix_Jx4a65c_rangeCheckForAdd_d00df).all goodWord = true := wk_good gdx_ok (by decide +kernel)
def ix_Jx4a65c_add_7a177 : List Nat := [1031, 1032, 1043, 2004, 2017, 2018, 2019, 2020, 3138, 3139, 3144, 3145, 3185, 3187, 3188, 3190, 3191, 3192, 3194, 3196, 4144, 4146, 4147, 4148, 4150, 4151, 4152, 4153, 4154, 4155, 4156, 4157, 4158, 4159, 4160, 4161, 4162, 4163, 4164, 4181, 4182, 4183, 4184, 4185, 4187, 4188, 4189, 4190, 4191, 4192, 4193, 5067, 5213, 5215, 5216, 7001]
def wsJx4a65c_add_7a177 : List Cond := .code yJx4a65c_add_7a177 cJx4a65c_add_7a177 5 none :: (wk ix_Jx4a65c_add_7a177)
theorem wm_Jx4a65c_add_7a177 : ∀ w ∈ wk ix_Jx4a65c_add_7a177, w ∈ wsJx4a65c_add_7a177 := fun _ h => List.mem_cons_of_mem _ (h)
theorem wc_Jx4a65c_add_7a177 : wk_at 5212 = some (.code yJx4a65c_add_7a177 cJx4a65c_add_7a177 5 none) := by decide +kernel
theorem wq_Jx4a65c_add_7a177 : (wk ix_Jx4a65c_add_7a177).all goodWord = true := wk_good gdx_ok (by decide +kernel)
def ix_X8_join : List Nat := [1000, 1002, 1018, 1031, 1032, 1043, 2001, 2004, 2010, 2011, 2012, 2013, 2014, 2015, 2017, 2018, 2019, 2020, 2021, 2037, 2039, 2041, 2042, 2043, 2044, 2045, 2046, 2116, 2117, 2118, 2119, 2120, 2121, 2122, 2123, 2124, 2125, 2126, 2127, 2128, 2129, 2130, 2134, 2136, 2137, 2138, 2152, 2219, 2224, 2225, 2226, 2227, 2228, 2229, 2234, 3028, 3030, 3031, 3138, 3139, 3144, 3145, 3185, 3187, 3188, 3190, 3191, 3192, 3194, 3196, 4008, 4009, 4010, 4018, 4020, 4022, 4024, 4026, 4028, 4030, 4032, 4034, 4036, 4038, 4055, 4099, 4101, 4105, 4106, 4115, 4117, 4119, 4121, 4123, 4125, 4127, 4129, 4131, 4133, 4144, 4146, 4147, 4148, 4150, 4151, 4152, 4153, 4154, 4155, 4156, 4157, 4158, 4159, 4160, 4161, 4162, 4163, 4164, 4181, 4182, 4183, 4184, 4185, 4187, 4188, 4189, 4190, 4191, 4192, 4193, 4211, 4212, 4215, 4218, 4219, 4220, 4222, 4227, 4229, 4231, 4233, 4235, 4237, 4239, 5001, 5003, 5017, 5027, 5031, 5033, 5035, 5037, 5039, 5041, 5043, 5045, 5067, 5205, 5206, 5207, 5208, 5209, 5210, 5211, 5212, 5213, 5215, 5216, 6206, 6207, 6208, 6209, 7001]
def wsX8_join : List Cond := .code yX8_join cX8_join 7 (some .int) :: (wk ix_X8_join ++ (vx_atS RX8 69 "java/lang/IllegalArgumentException" ["java/lang/RuntimeException", "java/lang/Exception"]).filter goodWord ++ (vx_atS RX8 79 "java/lang/IllegalStateException" ["java/lang/RuntimeException", "java/lang/Exception"]).filter goodWord ++ (vx_atS RX8 446 "java/lang/IndexOutOfBoundsException" ["java/lang/RuntimeException", "java/lang/Exception"]).filter goodWord)
theorem wm_X8_join : ∀ w ∈ wk ix_X8_join, w ∈ wsX8_join := fun _ h => List.mem_cons_of_mem _ (List.mem_append_left _ (List.mem_append_left _ (List.mem_append_left _ (h))))
theorem wc_X8_join : wk_at 5202 = some (.code yX8_join cX8_join 7 (some .int)) := by decide +kernel
theorem wq_X8_join : (wk ix_X8_join).all goodWord = true := wk_good gdx_ok (by decide +kernel)
def ix_X8_placeOf : List Nat := [2004, 2012, 2013, 2042, 2043, 2044, 2045, 2116, 2117, 2118, 2119, 2120, 2121, 2122, 2123, 2124, 2125, 2126, 2127, 2128, 2129, 3187, 3188, 3192, 3194, 3196, 4106, 4115, 4117, 4119, 4121, 4123, 4125, 4127, 4129, 4131, 4133, 4221, 4227, 4229, 4231, 4233, 4235, 4237, 4239, 5001, 5003]
def wsX8_placeOf : List Cond := .code yX8_placeOf cX8_placeOf 3 (some .int) :: (wk ix_X8_placeOf)
theorem wm_X8_placeOf : ∀ w ∈ wk ix_X8_placeOf, w ∈ wsX8_placeOf := fun _ h => List.mem_cons_of_mem _ (h)
theorem wc_X8_placeOf : wk_at 2133 = some (.code yX8_placeOf cX8_placeOf 3 (some .int)) := by decide +kernel
theorem wq_X8_placeOf : (wk ix_X8_placeOf).all goodWord = true := wk_good gdx_ok (by decide +kernel)
def ix_Jx4a65c_fastRemove_b59b0 : List Nat := [2020, 3188, 3190, 3191, 3192, 3194, 3196, 4190, 4191, 5067]
def wsJx4a65c_fastRemove_b59b0 : List Cond := .code yJx4a65c_fastRemove_b59b0 cJx4a65c_fastRemove_b59b0 4 none :: (wk ix_Jx4a65c_fastRemove_b59b0)
theorem wm_Jx4a65c_fastRemove_b59b0 : ∀ w ∈ wk ix_Jx4a65c_fastRemove_b59b0, w ∈ wsJx4a65c_fastRemove_b59b0 := fun _ h => List.mem_cons_of_mem _ (h)
theorem wc_Jx4a65c_fastRemove_b59b0 : wk_at 5066 = some (.code yJx4a65c_fastRemove_b59b0 cJx4a65c_fastRemove_b59b0 4 none) := by decide +kernel
theorem wq_Jx4a65c_fastRemove_b59b0 : (wk ix_Jx4a65c_fastRemove_b59b0).all goodWord = true := wk_good gdx_ok (by decide +kernel)
def ix_Jx4a65c_remove_915e3 : List Nat := [1033, 2004, 2012, 2013, 2020, 2120, 2121, 2122, 2123, 2124, 2125, 3187, 3188, 3190, 3191, 3192, 3194, 3196, 4190, 4191, 5063, 5065, 5066, 5067]
def wsJx4a65c_remove_915e3 : List Cond := .code yJx4a65c_remove_915e3 cJx4a65c_remove_915e3 4 (some (.object "java/lang/Object")) :: (wk ix_Jx4a65c_remove_915e3)
theorem wm_Jx4a65c_remove_915e3 : ∀ w ∈ wk ix_Jx4a65c_remove_915e3, w ∈ wsJx4a65c_remove_915e3 := fun _ h => List.mem_cons_of_mem _ (h)
theorem wc_Jx4a65c_remove_915e3 : wk_at 5062 = some (.code yJx4a65c_remove_915e3 cJx4a65c_remove_915e3 4 (some (.object "java/lang/Object"))) := by decide +kernel
theorem wq_Jx4a65c_remove_915e3 : (wk ix_Jx4a65c_remove_915e3).all goodWord = true := wk_good gdx_ok (by decide +kernel)
def ix_X8_leave : List Nat := [1000, 1033, 2001, 2004, 2010, 2012, 2013, 2014, 2020, 2021, 2037, 2039, 2041, 2042, 2043, 2044, 2045, 2046, 2116, 2117, 2118, 2119, 2120, 2121, 2122, 2123, 2124, 2125, 2126, 2127, 2128, 2129, 2130, 2131, 2132, 2133, 3187, 3188, 3190, 3191, 3192, 3194, 3196, 4009, 4018, 4020, 4022, 4024, 4026, 4028, 4030, 4032, 4034, 4036, 4038, 4055, 4106, 4115, 4117, 4119, 4121, 4123, 4125, 4127, 4129, 4131, 4133, 4190, 4191, 4218, 4220, 4221, 4222, 4227, 4229, 4231, 4233, 4235, 4237, 4239, 5001, 5003, 5059, 5060, 5061, 5062, 5063, 5065, 5066, 5067, 5110, 5111, 5112, 5113]
def wsX8_leave : List Cond := .code yX8_leave cX8_leave 4 (some .int) :: (wk ix_X8_leave ++ (vx_atS RX8 79 "java/lang/IllegalStateException" ["java/lang/RuntimeException", "java/lang/Exception"]).filter goodWord ++ (vx_atS RX8 446 "java/lang/IndexOutOfBoundsException" ["java/lang/RuntimeException", "java/lang/Exception"]).filter goodWord)
theorem wm_X8_leave : ∀ w ∈ wk ix_X8_leave, w ∈ wsX8_leave := fun _ h => List.mem_cons_of_mem _ (List.mem_append_left _ (List.mem_append_left _ (h)))
theorem wc_X8_leave : wk_at 5125 = some (.code yX8_leave cX8_leave 4 (some .int)) := by decide +kernel
theorem wq_X8_leave : (wk ix_X8_leave).all goodWord = true := wk_good gdx_ok (by decide +kernel)
def ix_Jx4a65c_isEmpty_aae02 : List Nat := [3188, 3192, 3194, 3196]
def wsJx4a65c_isEmpty_aae02 : List Cond := .code yJx4a65c_isEmpty_aae02 cJx4a65c_isEmpty_aae02 1 (some .boolean) :: (wk ix_Jx4a65c_isEmpty_aae02)
theorem wm_Jx4a65c_isEmpty_aae02 : ∀ w ∈ wk ix_Jx4a65c_isEmpty_aae02, w ∈ wsJx4a65c_isEmpty_aae02 := fun _ h => List.mem_cons_of_mem _ (h)
theorem wc_Jx4a65c_isEmpty_aae02 : wk_at 3044 = some (.code yJx4a65c_isEmpty_aae02 cJx4a65c_isEmpty_aae02 1 (some .boolean)) := by decide +kernel
theorem wq_Jx4a65c_isEmpty_aae02 : (wk ix_Jx4a65c_isEmpty_aae02).all goodWord = true := wk_good gdx_ok (by decide +kernel)
def ix_X8_passIsGood : List Nat := [2001, 2015, 2016, 2018, 3037, 3038, 3039, 3040, 3076, 3077, 3078, 3079, 3080, 3081, 3082, 3083, 3084, 3085, 4015, 4018, 4020, 4022, 4024, 4026, 4028, 4030, 4032, 4034, 4036, 4038, 4090, 4091, 4092, 4094, 4098, 4108, 4113, 4115, 4117, 4119, 4121, 4123, 4125, 4127, 4129, 4131, 4133, 4209, 4225, 4227, 4229, 4231, 4233, 4235, 4237, 4239, 5001, 5003, 5153, 5155, 5157, 5158, 5160, 5162]
def wsX8_passIsGood : List Cond := .code yX8_passIsGood cX8_passIsGood 5 (some .boolean) :: (wk ix_X8_passIsGood)
theorem wm_X8_passIsGood : ∀ w ∈ wk ix_X8_passIsGood, w ∈ wsX8_passIsGood := fun _ h => List.mem_cons_of_mem _ (h)
theorem wc_X8_passIsGood : wk_at 3075 = some (.code yX8_passIsGood cX8_passIsGood 5 (some .boolean)) := by decide +kernel
theorem wq_X8_passIsGood : (wk ix_X8_passIsGood).all goodWord = true := wk_good gdx_ok (by decide +kernel)
def ix_X8_keepHiding : List Nat := [1030, 1031, 1032, 2004, 2012, 2013, 2017, 2018, 2019, 2020, 2025, 2042, 2043, 2044, 2045, 2072, 2073, 2116, 2117, 2118, 2119, 2120, 2121, 2122, 2123, 2124, 2125, 2126, 2127, 2128, 2129, 2151, 3138, 3139, 3144, 3145, 3185, 3187, 3188, 3190, 3191, 3192, 3194, 3196, 4011, 4015, 4018, 4020, 4022, 4024, 4026, 4028, 4030, 4032, 4034, 4036, 4038, 4136, 4137, 4138, 4139, 4140, 4142, 4143, 4144, 4146, 4147, 4148, 4150, 4151, 4152, 4153, 4154, 4155, 4156, 4157, 4158, 4159, 4160, 4161, 4162, 4163, 4164, 4181, 4182, 4183, 4184, 4185, 4187, 4188, 4189, 4190, 4191, 4192, 4193, 4209, 4226, 4227, 4229, 4231, 4233, 4235, 4237, 4239, 5001, 5003, 5084, 5085, 5086, 5087, 5088, 5089, 5090, 5091, 5092, 5093, 5094, 5095, 5097, 5099, 7001]
def wsX8_keepHiding : List Cond := .code yX8_keepHiding cX8_keepHiding 5 none :: (wk ix_X8_keepHiding)
theorem wm_X8_keepHiding : ∀ w ∈ wk ix_X8_keepHiding, w ∈ wsX8_keepHiding := fun _ h => List.mem_cons_of_mem _ (h)
theorem wc_X8_keepHiding : wk_at 5083 = some (.code yX8_keepHiding cX8_keepHiding 5 none) := by decide +kernel
theorem wq_X8_keepHiding : (wk ix_X8_keepHiding).all goodWord = true := wk_good gdx_ok (by decide +kernel)
def ix_X8_bringHidden : List Nat := [1030, 1031, 1032, 1036, 2001, 2004, 2012, 2013, 2017, 2018, 2019, 2020, 2022, 2025, 2042, 2043, 2044, 2045, 2072, 2073, 2116, 2117, 2118, 2119, 2120, 2121, 2122, 2123, 2124, 2125, 2126, 2127, 2128, 2129, 2138, 2151, 3049, 3050, 3051, 3052, 3053, 3054, 3055, 3056, 3138, 3139, 3144, 3145, 3185, 3187, 3188, 3190, 3191, 3192, 3194, 3196, 3230, 3231, 3233, 3235, 3237, 3239, 4001, 4003, 4010, 4011, 4015, 4018, 4020, 4022, 4024, 4026, 4028, 4030, 4032, 4034, 4036, 4038, 4136, 4137, 4138, 4139, 4140, 4142, 4143, 4144, 4146, 4147, 4148, 4150, 4151, 4152, 4153, 4154, 4155, 4156, 4157, 4158, 4159, 4160, 4161, 4162, 4163, 4164, 4181, 4182, 4183, 4184, 4185, 4187, 4188, 4189, 4190, 4191, 4192, 4193, 4209, 4223, 4226, 4227, 4229, 4231, 4233, 4235, 4237, 4239, 5001, 5003, 5016, 5019, 5021, 5024, 5025, 5026, 5027, 5028, 5030, 5031, 5033, 5035, 5037, 5039, 5041, 5043, 5045, 5080, 5082, 5083, 5084, 5085, 5086, 5087, 5088, 5089, 5090, 5091, 5092, 5093, 5094, 5095, 5097, 5099, 5102, 5103, 5104, 5105, 7001]
def wsX8_bringHidden : List Cond := .code yX8_bringHidden cX8_bringHidden 7 (some .int) :: (wk ix_X8_bringHidden)
theorem wm_X8_bringHidden : ∀ w ∈ wk ix_X8_bringHidden, w ∈ wsX8_bringHidden := fun _ h => List.mem_cons_of_mem _ (h)
theorem wc_X8_bringHidden : wk_at 5079 = some (.code yX8_bringHidden cX8_bringHidden 7 (some .int)) := by decide +kernel
theorem wq_X8_bringHidden : (wk ix_X8_bringHidden).all goodWord = true := wk_good gdx_ok (by decide +kernel)
def ix_X8_partsThatComeIn : List Nat := [2004, 2012, 2013, 2022, 2042, 2043, 2044, 2045, 2116, 2117, 2118, 2119, 2120, 2121, 2122, 2123, 2124, 2125, 2126, 2127, 2128, 2129, 2138, 3054, 3055, 3056, 3094, 3095, 3096, 3097, 3098, 3187, 3188, 3192, 3194, 3196, 3227, 3228, 3231, 3233, 3235, 3237, 3239, 4001, 4003, 4010, 4018, 4020, 4022, 4024, 4026, 4028, 4030, 4032, 4034, 4036, 4038, 4224, 4227, 4229, 4231, 4233, 4235, 4237, 4239, 5001, 5003, 5016, 5017, 5022, 5031, 5033, 5035, 5037, 5039, 5041, 5043, 5045]
def wsX8_partsThatComeIn : List Cond := .code yX8_partsThatComeIn cX8_partsThatComeIn 7 (some .int) :: (wk ix_X8_partsThatComeIn)
theorem wm_X8_partsThatComeIn : ∀ w ∈ wk ix_X8_partsThatComeIn, w ∈ wsX8_partsThatComeIn := fun _ h => List.mem_cons_of_mem _ (h)
theorem wc_X8_partsThatComeIn : wk_at 3093 = some (.code yX8_partsThatComeIn cX8_partsThatComeIn 7 (some .int)) := by decide +kernel
theorem wq_X8_partsThatComeIn : (wk ix_X8_partsThatComeIn).all goodWord = true := wk_good gdx_ok (by decide +kernel)
def ix_X8_worthOf : List Nat := [2004, 2012, 2013, 2022, 2042, 2043, 2044, 2045, 2116, 2117, 2118, 2119, 2120, 2121, 2122, 2123, 2124, 2125, 2126, 2127, 2128, 2129, 2138, 3054, 3055, 3056, 3094, 3187, 3188, 3192, 3194, 3196, 4010, 4018, 4020, 4022, 4024, 4026, 4028, 4030, 4032, 4034, 4036, 4038, 5016, 5021, 5031, 5033, 5035, 5037, 5039, 5041, 5043, 5045]
def wsX8_worthOf : List Cond := .code yX8_worthOf cX8_worthOf 5 (some .int) :: (wk ix_X8_worthOf)
theorem wm_X8_worthOf : ∀ w ∈ wk ix_X8_worthOf, w ∈ wsX8_worthOf := fun _ h => List.mem_cons_of_mem _ (h)
theorem wc_X8_worthOf : wk_at 3102 = some (.code yX8_worthOf cX8_worthOf 5 (some .int)) := by decide +kernel
theorem wq_X8_worthOf : (wk ix_X8_worthOf).all goodWord = true := wk_good gdx_ok (by decide +kernel)
def ix_X8_bringDeclared : List Nat := [1021, 1022, 2001, 2004, 2006, 2012, 2013, 2022, 2042, 2043, 2044, 2045, 2116, 2117, 2118, 2119, 2120, 2121, 2122, 2123, 2124, 2125, 2126, 2127, 2128, 2129, 2138, 3054, 3055, 3056, 3090, 3092, 3093, 3094, 3095, 3096, 3097, 3098, 3099, 3101, 3102, 3103, 3104, 3105, 3106, 3187, 3188, 3192, 3194, 3196, 3222, 3224, 3225, 3227, 3228, 3229, 3231, 3233, 3235, 3237, 3239, 4001, 4003, 4010, 4018, 4020, 4022, 4024, 4026, 4028, 4030, 4032, 4034, 4036, 4038, 4215, 4224, 4227, 4229, 4231, 4233, 4235, 4237, 4239, 5001, 5003, 5016, 5017, 5021, 5022, 5024, 5025, 5026, 5028, 5031, 5033, 5035, 5037, 5039, 5041, 5043, 5045, 5102, 5103, 5104, 5105]
def wsX8_bringDeclared : List Cond := .code yX8_bringDeclared cX8_bringDeclared 8 none :: (wk ix_X8_bringDeclared)
theorem wm_X8_bringDeclared : ∀ w ∈ wk ix_X8_bringDeclared, w ∈ wsX8_bringDeclared := fun _ h => List.mem_cons_of_mem _ (h)
theorem wc_X8_bringDeclared : wk_at 5109 = some (.code yX8_bringDeclared cX8_bringDeclared 8 none) := by decide +kernel
theorem wq_X8_bringDeclared : (wk ix_X8_bringDeclared).all goodWord = true := wk_good gdx_ok (by decide +kernel)
def ix_X8_comeThrough : List Nat := [1021, 1022, 1030, 1031, 1032, 1035, 1036, 1037, 2001, 2004, 2005, 2006, 2012, 2013, 2015, 2017, 2018, 2019, 2020, 2022, 2025, 2042, 2043, 2044, 2045, 2072, 2073, 2116, 2117, 2118, 2119, 2120, 2121, 2122, 2123, 2124, 2125, 2126, 2127, 2128, 2129, 2138, 2151, 3037, 3038, 3039, 3040, 3049, 3050, 3051, 3052, 3053, 3054, 3055, 3056, 3086, 3087, 3088, 3089, 3090, 3092, 3093, 3094, 3095, 3096, 3097, 3098, 3099, 3101, 3102, 3103, 3104, 3105, 3106, 3138, 3139, 3144, 3145, 3185, 3187, 3188, 3190, 3191, 3192, 3194, 3196, 3205, 3207, 3208, 3210, 3222, 3224, 3225, 3227, 3228, 3229, 3230, 3231, 3233, 3235, 3237, 3239, 4001, 4003, 4010, 4011, 4012, 4015, 4018, 4020, 4022, 4024, 4026, 4028, 4030, 4032, 4034, 4036, 4038, 4099, 4101, 4112, 4113, 4115, 4117, 4119, 4121, 4123, 4125, 4127, 4129, 4131, 4133, 4136, 4137, 4138, 4139, 4140, 4142, 4143, 4144, 4146, 4147, 4148, 4150, 4151, 4152, 4153, 4154, 4155, 4156, 4157, 4158, 4159, 4160, 4161, 4162, 4163, 4164, 4181, 4182, 4183, 4184, 4185, 4187, 4188, 4189, 4190, 4191, 4192, 4193, 4209, 4215, 4223, 4224, 4225, 4226, 4227, 4229, 4231, 4233, 4235, 4237, 4239, 5001, 5003, 5016, 5017, 5019, 5021, 5022, 5024, 5025, 5026, 5027, 5028, 5030, 5031, 5033, 5035, 5037, 5039, 5041, 5043, 5045, 5072, 5073, 5074, 5075, 5076, 5078, 5079, 5080, 5082, 5083, 5084, 5085, 5086, 5087, 5088, 5089, 5090, 5091, 5092, 5093, 5094, 5095, 5097, 5099, 5102, 5103, 5104, 5105, 5106, 5108, 5109, 7001]
def wsX8_comeThrough : List Cond := .code yX8_comeThrough cX8_comeThrough 6 (some .int) :: (wk ix_X8_comeThrough)
theorem wm_X8_comeThrough : ∀ w ∈ wk ix_X8_comeThrough, w ∈ wsX8_comeThrough := fun _ h => List.mem_cons_of_mem _ (h)
theorem wc_X8_comeThrough : wk_at 5071 = some (.code yX8_comeThrough cX8_comeThrough 6 (some .int)) := by decide +kernel
theorem wq_X8_comeThrough : (wk ix_X8_comeThrough).all goodWord = true := wk_good gdx_ok (by decide +kernel)
def ix_X8_wake : List Nat := [2004, 2012, 2013, 2021, 2042, 2043, 2044, 2045, 2116, 2117, 2118, 2119, 2120, 2121, 2122, 2123, 2124, 2125, 2126, 2127, 2128, 2129, 2138, 3187, 3188, 3192, 3194, 3196, 4010, 4018, 4020, 4022, 4024, 4026, 4028, 4030, 4032, 4034, 4036, 4038, 4218, 4220, 4222, 4227, 4229, 4231, 4233, 4235, 4237, 4239, 5001, 5003, 5027, 5031, 5033, 5035, 5037, 5039, 5041, 5043, 5045, 5110, 5111, 5112, 5113]
def wsX8_wake : List Cond := .code yX8_wake cX8_wake 4 none :: (wk ix_X8_wake)
theorem wm_X8_wake : ∀ w ∈ wk ix_X8_wake, w ∈ wsX8_wake := fun _ h => List.mem_cons_of_mem _ (h)
theorem wc_X8_wake : wk_at 5121 = some (.code yX8_wake cX8_wake 4 none) := by decide +kernel
theorem wq_X8_wake : (wk ix_X8_wake).all goodWord = true := wk_good gdx_ok (by decide +kernel)
def ix_X8_tireThoseWhoStand : List Nat := [1033, 1039, 2001, 2004, 2012, 2013, 2020, 2021, 2042, 2043, 2044, 2045, 2116, 2117, 2118, 2119, 2120, 2121, 2122, 2123, 2124, 2125, 2126, 2127, 2128, 2129, 2130, 2138, 3187, 3188, 3190, 3191, 3192, 3194, 3196, 4010, 4018, 4020, 4022, 4024, 4026, 4028, 4030, 4032, 4034, 4036, 4038, 4106, 4115, 4117, 4119, 4121, 4123, 4125, 4127, 4129, 4131, 4133, 4190, 4191, 4217, 4218, 4220, 4222, 4227, 4229, 4231, 4233, 4235, 4237, 4239, 5001, 5003, 5027, 5031, 5033, 5035, 5037, 5039, 5041, 5043, 5045, 5059, 5060, 5061, 5062, 5063, 5065, 5066, 5067, 5110, 5111, 5112, 5113, 5118, 5120, 5121]
def wsX8_tireThoseWhoStand : List Cond := .code yX8_tireThoseWhoStand cX8_tireThoseWhoStand 4 none :: (wk ix_X8_tireThoseWhoStand)
theorem wm_X8_tireThoseWhoStand : ∀ w ∈ wk ix_X8_tireThoseWhoStand, w ∈ wsX8_tireThoseWhoStand := fun _ h => List.mem_cons_of_mem _ (h)
theorem wc_X8_tireThoseWhoStand : wk_at 5117 = some (.code yX8_tireThoseWhoStand cX8_tireThoseWhoStand 4 none) := by decide +kernel
theorem wq_X8_tireThoseWhoStand : (wk ix_X8_tireThoseWhoStand).all goodWord = true := wk_good gdx_ok (by decide +kernel)
def ix_X8_yawn : List Nat := [1018, 1020, 1021, 1022, 1030, 1031, 1032, 1033, 1034, 1035, 1036, 1037, 1038, 1039, 2001, 2004, 2005, 2006, 2010, 2012, 2013, 2014, 2015, 2016, 2017, 2018, 2019, 2020, 2021, 2022, 2025, 2042, 2043, 2044, 2045, 2046, 2072, 2073, 2116, 2117, 2118, 2119, 2120, 2121, 2122, 2123, 2124, 2125, 2126, 2127, 2128, 2129, 2130, 2138, 2151, 2219, 3028, 3030, 3031, 3033, 3034, 3035, 3036, 3037, 3038, 3039, 3040, 3041, 3042, 3043, 3044, 3049, 3050, 3051, 3052, 3053, 3054, 3055, 3056, 3072, 3074, 3075, 3076, 3077, 3078, 3079, 3080, 3081, 3082, 3083, 3084, 3085, 3086, 3087, 3088, 3089, 3090, 3092, 3093, 3094, 3095, 3096, 3097, 3098, 3099, 3101, 3102, 3103, 3104, 3105, 3106, 3138, 3139, 3144, 3145, 3185, 3187, 3188, 3190, 3191, 3192, 3194, 3196, 3205, 3207, 3208, 3210, 3222, 3224, 3225, 3227, 3228, 3229, 3230, 3231, 3233, 3235, 3237, 3239, 4001, 4003, 4008, 4010, 4011, 4012, 4015, 4016, 4017, 4018, 4020, 4022, 4024, 4026, 4028, 4030, 4032, 4034, 4036, 4038, 4055, 4090, 4091, 4092, 4094, 4098, 4099, 4101, 4103, 4104, 4106, 4108, 4112, 4113, 4115, 4117, 4119, 4121, 4123, 4125, 4127, 4129, 4131, 4133, 4136, 4137, 4138, 4139, 4140, 4142, 4143, 4144, 4146, 4147, 4148, 4150, 4151, 4152, 4153, 4154, 4155, 4156, 4157, 4158, 4159, 4160, 4161, 4162, 4163, 4164, 4181, 4182, 4183, 4184, 4185, 4187, 4188, 4189, 4190, 4191, 4192, 4193, 4209, 4215, 4217, 4218, 4220, 4222, 4223, 4224, 4225, 4226, 4227, 4229, 4231, 4233, 4235, 4237, 4239, 5001, 5003, 5016, 5017, 5019, 5021, 5022, 5024, 5025, 5026, 5027, 5028, 5030, 5031, 5033, 5035, 5037, 5039, 5041, 5043, 5045, 5059, 5060, 5061, 5062, 5063, 5065, 5066, 5067, 5068, 5070, 5071, 5072, 5073, 5074, 5075, 5076, 5078, 5079, 5080, 5082, 5083, 5084, 5085, 5086, 5087, 5088, 5089, 5090, 5091, 5092, 5093, 5094, 5095, 5097, 5099, 5102, 5103, 5104, 5105, 5106, 5108, 5109, 5110, 5111, 5112, 5113, 5114, 5116, 5117, 5118, 5120, 5121, 5153, 5155, 5157, 5158, 5160, 5162, 7001]
def wsX8_yawn : List Cond := .code yX8_yawn cX8_yawn 5 (some .int) :: (wk ix_X8_yawn ++ (vx_atS RX8 79 "java/lang/IllegalStateException" ["java/lang/RuntimeException", "java/lang/Exception"]).filter goodWord ++ (vx_atS RX8 446 "java/lang/IndexOutOfBoundsException" ["java/lang/RuntimeException", "java/lang/Exception"]).filter goodWord)
theorem wm_X8_yawn : ∀ w ∈ wk ix_X8_yawn, w ∈ wsX8_yawn := fun _ h => List.mem_cons_of_mem _ (List.mem_append_left _ (List.mem_append_left _ (h)))
theorem wc_X8_yawn : wk_at 5057 = some (.code yX8_yawn cX8_yawn 5 (some .int)) := by decide +kernel
theorem wq_X8_yawn : (wk ix_X8_yawn).all goodWord = true := wk_good gdx_ok (by decide +kernel)
def ix_X8_appeal : List Nat := [1006, 2001, 2004, 2010, 2012, 2013, 2014, 2042, 2043, 2044, 2045, 2046, 2116, 2117, 2118, 2119, 2120, 2121, 2122, 2123, 2124, 2125, 2126, 2127, 2128, 2129, 2138, 2172, 2174, 2175, 3187, 3188, 3192, 3194, 3196, 3225, 3230, 3231, 3233, 3235, 3237, 3239, 4001, 4003, 4010, 4018, 4020, 4022, 4024, 4026, 4028, 4030, 4032, 4034, 4036, 4038, 4055, 4215, 4219, 4227, 4229, 4231, 4233, 4235, 4237, 4239, 5001, 5003, 5021, 5025, 5027, 5029, 5030, 5031, 5033, 5035, 5037, 5039, 5041, 5043, 5045]
def wsX8_appeal : List Cond := .code yX8_appeal cX8_appeal 5 (some .boolean) :: (wk ix_X8_appeal ++ (vx_atS RX8 79 "java/lang/IllegalStateException" ["java/lang/RuntimeException", "java/lang/Exception"]).filter goodWord ++ (vx_atS RX8 446 "java/lang/IndexOutOfBoundsException" ["java/lang/RuntimeException", "java/lang/Exception"]).filter goodWord)
theorem wm_X8_appeal : ∀ w ∈ wk ix_X8_appeal, w ∈ wsX8_appeal := fun _ h => List.mem_cons_of_mem _ (List.mem_append_left _ (List.mem_append_left _ (h)))
theorem wc_X8_appeal : wk_at 5136 = some (.code yX8_appeal cX8_appeal 5 (some .boolean)) := by decide +kernel
theorem wq_X8_appeal : (wk ix_X8_appeal).all goodWord = true := wk_good gdx_ok (by decide +kernel)
def ix_X8_beginNight : List Nat := [2004, 2012, 2013, 2042, 2043, 2044, 2045, 2116, 2117, 2118, 2119, 2120, 2121, 2122, 2123, 2124, 2125, 2126, 2127, 2128, 2129, 2130, 3187, 3188, 3192, 3194, 3196, 3228, 3231, 3233, 3235, 3237, 3239, 4001, 4003, 4007, 4009, 4015, 4018, 4020, 4022, 4024, 4026, 4028, 4030, 4032, 4034, 4036, 4038, 4225, 4227, 4229, 4231, 4233, 4235, 4237, 4239, 5001, 5003, 5155, 5158, 5160, 5162]
def wsX8_beginNight : List Cond := .code yX8_beginNight cX8_beginNight 5 none :: (wk ix_X8_beginNight)
theorem wm_X8_beginNight : ∀ w ∈ wk ix_X8_beginNight, w ∈ wsX8_beginNight := fun _ h => List.mem_cons_of_mem _ (h)
theorem wc_X8_beginNight : wk_at 5185 = some (.code yX8_beginNight cX8_beginNight 5 none) := by decide +kernel
theorem wq_X8_beginNight : (wk ix_X8_beginNight).all goodWord = true := wk_good gdx_ok (by decide +kernel)
def ix_X8_spreadRevoked : List Nat := [2004, 2012, 2013, 2015, 2016, 2042, 2043, 2044, 2045, 2116, 2117, 2118, 2119, 2120, 2121, 2122, 2123, 2124, 2125, 2126, 2127, 2128, 2129, 2219, 2226, 2227, 2228, 2229, 3187, 3188, 3192, 3194, 3196, 4008, 4018, 4020, 4022, 4024, 4026, 4028, 4030, 4032, 4034, 4036, 4038, 4090, 4091, 4092, 4094, 4099, 4100, 4101, 4102, 4108, 4110, 4115, 4117, 4119, 4121, 4123, 4125, 4127, 4129, 4131, 4133, 5190, 5191, 5192, 5193]
def wsX8_spreadRevoked : List Cond := .code yX8_spreadRevoked cX8_spreadRevoked 5 none :: (wk ix_X8_spreadRevoked)
theorem wm_X8_spreadRevoked : ∀ w ∈ wk ix_X8_spreadRevoked, w ∈ wsX8_spreadRevoked := fun _ h => List.mem_cons_of_mem _ (h)
theorem wc_X8_spreadRevoked : wk_at 5189 = some (.code yX8_spreadRevoked cX8_spreadRevoked 5 none) := by decide +kernel
theorem wq_X8_spreadRevoked : (wk ix_X8_spreadRevoked).all goodWord = true := wk_good gdx_ok (by decide +kernel)
def ix_X8_beginHour : List Nat := [1041, 1042, 2001, 2004, 2012, 2013, 2015, 2016, 2042, 2043, 2044, 2045, 2116, 2117, 2118, 2119, 2120, 2121, 2122, 2123, 2124, 2125, 2126, 2127, 2128, 2129, 2130, 2219, 2226, 2227, 2228, 2229, 3033, 3034, 3035, 3036, 3187, 3188, 3192, 3194, 3196, 3228, 3231, 3233, 3235, 3237, 3239, 4001, 4003, 4007, 4008, 4009, 4015, 4016, 4018, 4020, 4022, 4024, 4026, 4028, 4030, 4032, 4034, 4036, 4038, 4090, 4091, 4092, 4094, 4099, 4100, 4101, 4102, 4103, 4104, 4108, 4110, 4114, 4115, 4117, 4119, 4121, 4123, 4125, 4127, 4129, 4131, 4133, 4225, 4227, 4229, 4231, 4233, 4235, 4237, 4239, 5001, 5003, 5155, 5158, 5160, 5162, 5182, 5184, 5185, 5186, 5188, 5189, 5190, 5191, 5192, 5193]
def wsX8_beginHour : List Cond := .code yX8_beginHour cX8_beginHour 3 none :: (wk ix_X8_beginHour)
theorem wm_X8_beginHour : ∀ w ∈ wk ix_X8_beginHour, w ∈ wsX8_beginHour := fun _ h => List.mem_cons_of_mem _ (h)
theorem wc_X8_beginHour : wk_at 5181 = some (.code yX8_beginHour cX8_beginHour 3 none) := by decide +kernel
theorem wq_X8_beginHour : (wk ix_X8_beginHour).all goodWord = true := wk_good gdx_ok (by decide +kernel)
def ix_X8_pass : List Nat := [1040, 1041, 1042, 2001, 2004, 2011, 2012, 2013, 2014, 2015, 2016, 2042, 2043, 2044, 2045, 2116, 2117, 2118, 2119, 2120, 2121, 2122, 2123, 2124, 2125, 2126, 2127, 2128, 2129, 2130, 2152, 2219, 2226, 2227, 2228, 2229, 3033, 3034, 3035, 3036, 3125, 3126, 3127, 3187, 3188, 3192, 3194, 3196, 3228, 3231, 3233, 3235, 3237, 3239, 4001, 4003, 4007, 4008, 4009, 4015, 4016, 4018, 4020, 4022, 4024, 4026, 4028, 4030, 4032, 4034, 4036, 4038, 4055, 4090, 4091, 4092, 4094, 4099, 4100, 4101, 4102, 4103, 4104, 4108, 4110, 4114, 4115, 4117, 4119, 4121, 4123, 4125, 4127, 4129, 4131, 4133, 4225, 4227, 4229, 4231, 4233, 4235, 4237, 4239, 5001, 5003, 5155, 5158, 5160, 5162, 5178, 5180, 5181, 5182, 5184, 5185, 5186, 5188, 5189, 5190, 5191, 5192, 5193]
def wsX8_pass : List Cond := .code yX8_pass cX8_pass 3 (some .int) :: (wk ix_X8_pass ++ (vx_atS RX8 79 "java/lang/IllegalStateException" ["java/lang/RuntimeException", "java/lang/Exception"]).filter goodWord ++ (vx_atS RX8 69 "java/lang/IllegalArgumentException" ["java/lang/RuntimeException", "java/lang/Exception"]).filter goodWord)
theorem wm_X8_pass : ∀ w ∈ wk ix_X8_pass, w ∈ wsX8_pass := fun _ h => List.mem_cons_of_mem _ (List.mem_append_left _ (List.mem_append_left _ (h)))
theorem wc_X8_pass : wk_at 5176 = some (.code yX8_pass cX8_pass 3 (some .int)) := by decide +kernel
theorem wq_X8_pass : (wk ix_X8_pass).all goodWord = true := wk_good gdx_ok (by decide +kernel)
def ix_X8_partsInStore : List Nat := [2004, 2012, 2013, 2042, 2043, 2044, 2045, 2116, 2117, 2118, 2119, 2120, 2121, 2122, 2123, 2124, 2125, 2126, 2127, 2128, 2129, 2138, 3187, 3188, 3192, 3194, 3196, 4010, 4018, 4020, 4022, 4024, 4026, 4028, 4030, 4032, 4034, 4036, 4038, 5029, 5031, 5033, 5035, 5037, 5039, 5041, 5043, 5045]
def wsX8_partsInStore : List Cond := .code yX8_partsInStore cX8_partsInStore 4 (some .int) :: (wk ix_X8_partsInStore)
theorem wm_X8_partsInStore : ∀ w ∈ wk ix_X8_partsInStore, w ∈ wsX8_partsInStore := fun _ h => List.mem_cons_of_mem _ (h)
theorem wc_X8_partsInStore : wk_at 3014 = some (.code yX8_partsInStore cX8_partsInStore 4 (some .int)) := by decide +kernel
theorem wq_X8_partsInStore : (wk ix_X8_partsInStore).all goodWord = true := wk_good gdx_ok (by decide +kernel)
def ix_X8_sleepersIn : List Nat := [2004, 2012, 2013, 2042, 2043, 2044, 2045, 2116, 2117, 2118, 2119, 2120, 2121, 2122, 2123, 2124, 2125, 2126, 2127, 2128, 2129, 2130, 3187, 3188, 3192, 3194, 3196, 4009, 4018, 4020, 4022, 4024, 4026, 4028, 4030, 4032, 4034, 4036, 4038, 4215, 4219, 4227, 4229, 4231, 4233, 4235, 4237, 4239, 5001, 5003]
def wsX8_sleepersIn : List Cond := .code yX8_sleepersIn cX8_sleepersIn 5 (some .int) :: (wk ix_X8_sleepersIn)
theorem wm_X8_sleepersIn : ∀ w ∈ wk ix_X8_sleepersIn, w ∈ wsX8_sleepersIn := fun _ h => List.mem_cons_of_mem _ (h)
theorem wc_X8_sleepersIn : wk_at 3018 = some (.code yX8_sleepersIn cX8_sleepersIn 5 (some .int)) := by decide +kernel
theorem wq_X8_sleepersIn : (wk ix_X8_sleepersIn).all goodWord = true := wk_good gdx_ok (by decide +kernel)
def ix_X8_wholeDreams : List Nat := [2004, 2012, 2013, 2022, 2042, 2043, 2044, 2045, 2116, 2117, 2118, 2119, 2120, 2121, 2122, 2123, 2124, 2125, 2126, 2127, 2128, 2129, 2138, 2177, 2178, 2179, 2180, 3187, 3188, 3192, 3194, 3196, 4010, 4018, 4020, 4022, 4024, 4026, 4028, 4030, 4032, 4034, 4036, 4038, 4214, 4227, 4229, 4231, 4233, 4235, 4237, 4239, 5001, 5003, 5019, 5026, 5028, 5031, 5033, 5035, 5037, 5039, 5041, 5043, 5045]
def wsX8_wholeDreams : List Cond := .code yX8_wholeDreams cX8_wholeDreams 6 (some .int) :: (wk ix_X8_wholeDreams)
theorem wm_X8_wholeDreams : ∀ w ∈ wk ix_X8_wholeDreams, w ∈ wsX8_wholeDreams := fun _ h => List.mem_cons_of_mem _ (h)
theorem wc_X8_wholeDreams : wk_at 3022 = some (.code yX8_wholeDreams cX8_wholeDreams 6 (some .int)) := by decide +kernel
theorem wq_X8_wholeDreams : (wk ix_X8_wholeDreams).all goodWord = true := wk_good gdx_ok (by decide +kernel)
def ix_X8_ofLand : List Nat := [1014, 1015, 1016, 1017, 2001, 2004, 2010, 2011, 2012, 2013, 2022, 2042, 2043, 2044, 2045, 2046, 2116, 2117, 2118, 2119, 2120, 2121, 2122, 2123, 2124, 2125, 2126, 2127, 2128, 2129, 2130, 2138, 2152, 2177, 2178, 2179, 2180, 3006, 3008, 3009, 3011, 3013, 3014, 3015, 3017, 3018, 3019, 3021, 3022, 3187, 3188, 3192, 3194, 3196, 3223, 3225, 3227, 3228, 3229, 3230, 3231, 3233, 3235, 3237, 3239, 4001, 4003, 4007, 4009, 4010, 4018, 4020, 4022, 4024, 4026, 4028, 4030, 4032, 4034, 4036, 4038, 4214, 4215, 4219, 4227, 4229, 4231, 4233, 4235, 4237, 4239, 5001, 5003, 5019, 5026, 5028, 5029, 5031, 5033, 5035, 5037, 5039, 5041, 5043, 5045]
def wsX8_ofLand : List Cond := .code yX8_ofLand cX8_ofLand 4 (some .int) :: (wk ix_X8_ofLand ++ (vx_atS RX8 69 "java/lang/IllegalArgumentException" ["java/lang/RuntimeException", "java/lang/Exception"]).filter goodWord ++ (vx_atS RX8 446 "java/lang/IndexOutOfBoundsException" ["java/lang/RuntimeException", "java/lang/Exception"]).filter goodWord)
theorem wm_X8_ofLand : ∀ w ∈ wk ix_X8_ofLand, w ∈ wsX8_ofLand := fun _ h => List.mem_cons_of_mem _ (List.mem_append_left _ (List.mem_append_left _ (h)))
theorem wc_X8_ofLand : wk_at 3005 = some (.code yX8_ofLand cX8_ofLand 4 (some .int)) := by decide +kernel
theorem wq_X8_ofLand : (wk ix_X8_ofLand).all goodWord = true := wk_good gdx_ok (by decide +kernel)
def ix_X8_hiddenWorth : List Nat := [2004, 2012, 2013, 2022, 2042, 2043, 2044, 2045, 2116, 2117, 2118, 2119, 2120, 2121, 2122, 2123, 2124, 2125, 2126, 2127, 2128, 2129, 2138, 3049, 3050, 3051, 3052, 3053, 3054, 3055, 3056, 3187, 3188, 3192, 3194, 3196, 4010, 4018, 4020, 4022, 4024, 4026, 4028, 4030, 4032, 4034, 4036, 4038, 4221, 4223, 4227, 4229, 4231, 4233, 4235, 4237, 4239, 5001, 5003, 5016, 5021, 5026, 5027, 5031, 5033, 5035, 5037, 5039, 5041, 5043, 5045]
def wsX8_hiddenWorth : List Cond := .code yX8_hiddenWorth cX8_hiddenWorth 5 (some .int) :: (wk ix_X8_hiddenWorth)
theorem wm_X8_hiddenWorth : ∀ w ∈ wk ix_X8_hiddenWorth, w ∈ wsX8_hiddenWorth := fun _ h => List.mem_cons_of_mem _ (h)
theorem wc_X8_hiddenWorth : wk_at 3048 = some (.code yX8_hiddenWorth cX8_hiddenWorth 5 (some .int)) := by decide +kernel
theorem wq_X8_hiddenWorth : (wk ix_X8_hiddenWorth).all goodWord = true := wk_good gdx_ok (by decide +kernel)
def ix_X8_ofGate : List Nat := [1018, 1019, 2001, 2004, 2010, 2011, 2012, 2013, 2015, 2016, 2022, 2024, 2042, 2043, 2044, 2045, 2046, 2116, 2117, 2118, 2119, 2120, 2121, 2122, 2123, 2124, 2125, 2126, 2127, 2128, 2129, 2130, 2138, 2152, 2219, 3028, 3030, 3031, 3033, 3034, 3035, 3036, 3037, 3038, 3039, 3040, 3041, 3042, 3043, 3044, 3045, 3047, 3048, 3049, 3050, 3051, 3052, 3053, 3054, 3055, 3056, 3057, 3058, 3059, 3060, 3061, 3062, 3063, 3064, 3065, 3066, 3187, 3188, 3192, 3194, 3196, 3221, 3231, 3233, 3235, 3237, 3239, 4001, 4003, 4008, 4010, 4016, 4018, 4020, 4022, 4024, 4026, 4028, 4030, 4032, 4034, 4036, 4038, 4090, 4091, 4092, 4094, 4100, 4102, 4103, 4104, 4106, 4108, 4112, 4113, 4114, 4115, 4117, 4119, 4121, 4123, 4125, 4127, 4129, 4131, 4133, 4209, 4221, 4223, 4227, 4229, 4231, 4233, 4235, 4237, 4239, 5001, 5003, 5016, 5021, 5026, 5027, 5031, 5033, 5035, 5037, 5039, 5041, 5043, 5045]
def wsX8_ofGate : List Cond := .code yX8_ofGate cX8_ofGate 4 (some .int) :: (wk ix_X8_ofGate ++ (vx_atS RX8 69 "java/lang/IllegalArgumentException" ["java/lang/RuntimeException", "java/lang/Exception"]).filter goodWord ++ (vx_atS RX8 446 "java/lang/IndexOutOfBoundsException" ["java/lang/RuntimeException", "java/lang/Exception"]).filter goodWord)
theorem wm_X8_ofGate : ∀ w ∈ wk ix_X8_ofGate, w ∈ wsX8_ofGate := fun _ h => List.mem_cons_of_mem _ (List.mem_append_left _ (List.mem_append_left _ (h)))
theorem wc_X8_ofGate : wk_at 3027 = some (.code yX8_ofGate cX8_ofGate 4 (some .int)) := by decide +kernel
theorem wq_X8_ofGate : (wk ix_X8_ofGate).all goodWord = true := wk_good gdx_ok (by decide +kernel)
def ix_X8_linksOf : List Nat := [2004, 2012, 2013, 2042, 2043, 2044, 2045, 2116, 2117, 2118, 2119, 2120, 2121, 2122, 2123, 2124, 2125, 2126, 2127, 2128, 2129, 2130, 3187, 3188, 3192, 3194, 3196, 4009, 4018, 4020, 4022, 4024, 4026, 4028, 4030, 4032, 4034, 4036, 4038, 4226, 4227, 4229, 4231, 4233, 4235, 4237, 4239, 5001, 5003]
def wsX8_linksOf : List Cond := .code yX8_linksOf cX8_linksOf 4 (some .int) :: (wk ix_X8_linksOf)
theorem wm_X8_linksOf : ∀ w ∈ wk ix_X8_linksOf, w ∈ wsX8_linksOf := fun _ h => List.mem_cons_of_mem _ (h)
theorem wc_X8_linksOf : wk_at 2146 = some (.code yX8_linksOf cX8_linksOf 4 (some .int)) := by decide +kernel
theorem wq_X8_linksOf : (wk ix_X8_linksOf).all goodWord = true := wk_good gdx_ok (by decide +kernel)
def ix_X8_ringOf : List Nat := [1004, 2001, 2004, 2012, 2013, 2042, 2043, 2044, 2045, 2116, 2117, 2118, 2119, 2120, 2121, 2122, 2123, 2124, 2125, 2126, 2127, 2128, 2129, 2130, 2143, 2145, 2146, 3187, 3188, 3192, 3194, 3196, 4009, 4018, 4020, 4022, 4024, 4026, 4028, 4030, 4032, 4034, 4036, 4038, 4209, 4226, 4227, 4229, 4231, 4233, 4235, 4237, 4239, 5001, 5003]
def wsX8_ringOf : List Cond := .code yX8_ringOf cX8_ringOf 5 (some .int) :: (wk ix_X8_ringOf)
theorem wm_X8_ringOf : ∀ w ∈ wk ix_X8_ringOf, w ∈ wsX8_ringOf := fun _ h => List.mem_cons_of_mem _ (h)
theorem wc_X8_ringOf : wk_at 2142 = some (.code yX8_ringOf cX8_ringOf 5 (some .int)) := by decide +kernel
theorem wq_X8_ringOf : (wk ix_X8_ringOf).all goodWord = true := wk_good gdx_ok (by decide +kernel)
def ix_X8_hidingsOf : List Nat := [2004, 2012, 2013, 2042, 2043, 2044, 2045, 2116, 2117, 2118, 2119, 2120, 2121, 2122, 2123, 2124, 2125, 2126, 2127, 2128, 2129, 2151, 3187, 3188, 3192, 3194, 3196, 4011, 4018, 4020, 4022, 4024, 4026, 4028, 4030, 4032, 4034, 4036, 4038, 5090, 5095, 5097, 5099]
def wsX8_hidingsOf : List Cond := .code yX8_hidingsOf cX8_hidingsOf 4 (some .int) :: (wk ix_X8_hidingsOf)
theorem wm_X8_hidingsOf : ∀ w ∈ wk ix_X8_hidingsOf, w ∈ wsX8_hidingsOf := fun _ h => List.mem_cons_of_mem _ (h)
theorem wc_X8_hidingsOf : wk_at 2150 = some (.code yX8_hidingsOf cX8_hidingsOf 4 (some .int)) := by decide +kernel
theorem wq_X8_hidingsOf : (wk ix_X8_hidingsOf).all goodWord = true := wk_good gdx_ok (by decide +kernel)
def ix_X8_ofSleeper : List Nat := [1000, 1002, 1003, 1004, 1005, 2001, 2004, 2010, 2011, 2012, 2013, 2037, 2039, 2041, 2042, 2043, 2044, 2045, 2046, 2116, 2117, 2118, 2119, 2120, 2121, 2122, 2123, 2124, 2125, 2126, 2127, 2128, 2129, 2130, 2131, 2132, 2133, 2134, 2136, 2137, 2138, 2139, 2141, 2142, 2143, 2145, 2146, 2147, 2149, 2150, 2151, 2152, 3187, 3188, 3192, 3194, 3196, 3221, 3231, 3233, 3235, 3237, 3239, 4001, 4003, 4009, 4010, 4011, 4018, 4020, 4022, 4024, 4026, 4028, 4030, 4032, 4034, 4036, 4038, 4098, 4106, 4115, 4117, 4119, 4121, 4123, 4125, 4127, 4129, 4131, 4133, 4209, 4215, 4217, 4219, 4221, 4225, 4226, 4227, 4229, 4231, 4233, 4235, 4237, 4239, 5001, 5003, 5017, 5027, 5031, 5033, 5035, 5037, 5039, 5041, 5043, 5045, 5090, 5095, 5097, 5099, 5157, 5158, 5160, 5162]
def wsX8_ofSleeper : List Cond := .code yX8_ofSleeper cX8_ofSleeper 4 (some .int) :: (wk ix_X8_ofSleeper ++ (vx_atS RX8 69 "java/lang/IllegalArgumentException" ["java/lang/RuntimeException", "java/lang/Exception"]).filter goodWord ++ (vx_atS RX8 446 "java/lang/IndexOutOfBoundsException" ["java/lang/RuntimeException", "java/lang/Exception"]).filter goodWord)
theorem wm_X8_ofSleeper : ∀ w ∈ wk ix_X8_ofSleeper, w ∈ wsX8_ofSleeper := fun _ h => List.mem_cons_of_mem _ (List.mem_append_left _ (List.mem_append_left _ (h)))
theorem wc_X8_ofSleeper : wk_at 2036 = some (.code yX8_ofSleeper cX8_ofSleeper 4 (some .int)) := by decide +kernel
theorem wq_X8_ofSleeper : (wk ix_X8_ofSleeper).all goodWord = true := wk_good gdx_ok (by decide +kernel)
def ix_X8_ofPart : List Nat := [1006, 2001, 2004, 2010, 2011, 2012, 2013, 2022, 2042, 2043, 2044, 2045, 2046, 2116, 2117, 2118, 2119, 2120, 2121, 2122, 2123, 2124, 2125, 2126, 2127, 2128, 2129, 2138, 2152, 2172, 2174, 2175, 2177, 2178, 2179, 2180, 3187, 3188, 3192, 3194, 3196, 3221, 3231, 3233, 3235, 3237, 3239, 4001, 4003, 4010, 4018, 4020, 4022, 4024, 4026, 4028, 4030, 4032, 4034, 4036, 4038, 4209, 4214, 4227, 4229, 4231, 4233, 4235, 4237, 4239, 5001, 5003, 5019, 5021, 5023, 5025, 5026, 5027, 5028, 5031, 5033, 5035, 5037, 5039, 5041, 5043, 5045]
def wsX8_ofPart : List Cond := .code yX8_ofPart cX8_ofPart 4 (some .int) :: (wk ix_X8_ofPart ++ (vx_atS RX8 69 "java/lang/IllegalArgumentException" ["java/lang/RuntimeException", "java/lang/Exception"]).filter goodWord ++ (vx_atS RX8 446 "java/lang/IndexOutOfBoundsException" ["java/lang/RuntimeException", "java/lang/Exception"]).filter goodWord)
theorem wm_X8_ofPart : ∀ w ∈ wk ix_X8_ofPart, w ∈ wsX8_ofPart := fun _ h => List.mem_cons_of_mem _ (List.mem_append_left _ (List.mem_append_left _ (h)))
theorem wc_X8_ofPart : wk_at 2171 = some (.code yX8_ofPart cX8_ofPart 4 (some .int)) := by decide +kernel
theorem wq_X8_ofPart : (wk ix_X8_ofPart).all goodWord = true := wk_good gdx_ok (by decide +kernel)
def ix_X8_awakeOnes : List Nat := [2004, 2012, 2013, 2042, 2043, 2044, 2045, 2116, 2117, 2118, 2119, 2120, 2121, 2122, 2123, 2124, 2125, 2126, 2127, 2128, 2129, 2130, 3187, 3188, 3192, 3194, 3196, 4009, 4018, 4020, 4022, 4024, 4026, 4028, 4030, 4032, 4034, 4036, 4038, 4219, 4227, 4229, 4231, 4233, 4235, 4237, 4239, 5001, 5003]
def wsX8_awakeOnes : List Cond := .code yX8_awakeOnes cX8_awakeOnes 3 (some .int) :: (wk ix_X8_awakeOnes)
theorem wm_X8_awakeOnes : ∀ w ∈ wk ix_X8_awakeOnes, w ∈ wsX8_awakeOnes := fun _ h => List.mem_cons_of_mem _ (h)
theorem wc_X8_awakeOnes : wk_at 2189 = some (.code yX8_awakeOnes cX8_awakeOnes 3 (some .int)) := by decide +kernel
theorem wq_X8_awakeOnes : (wk ix_X8_awakeOnes).all goodWord = true := wk_good gdx_ok (by decide +kernel)
def ix_X8_partsOfFate : List Nat := [2004, 2012, 2013, 2042, 2043, 2044, 2045, 2116, 2117, 2118, 2119, 2120, 2121, 2122, 2123, 2124, 2125, 2126, 2127, 2128, 2129, 2138, 3187, 3188, 3192, 3194, 3196, 4010, 4018, 4020, 4022, 4024, 4026, 4028, 4030, 4032, 4034, 4036, 4038, 5025, 5031, 5033, 5035, 5037, 5039, 5041, 5043, 5045]
def wsX8_partsOfFate : List Cond := .code yX8_partsOfFate cX8_partsOfFate 4 (some .int) :: (wk ix_X8_partsOfFate)
theorem wm_X8_partsOfFate : ∀ w ∈ wk ix_X8_partsOfFate, w ∈ wsX8_partsOfFate := fun _ h => List.mem_cons_of_mem _ (h)
theorem wc_X8_partsOfFate : wk_at 2193 = some (.code yX8_partsOfFate cX8_partsOfFate 4 (some .int)) := by decide +kernel
theorem wq_X8_partsOfFate : (wk ix_X8_partsOfFate).all goodWord = true := wk_good gdx_ok (by decide +kernel)
def ix_X8_goneParts : List Nat := [2004, 2012, 2013, 2022, 2042, 2043, 2044, 2045, 2116, 2117, 2118, 2119, 2120, 2121, 2122, 2123, 2124, 2125, 2126, 2127, 2128, 2129, 2138, 2177, 2178, 2179, 2180, 3187, 3188, 3192, 3194, 3196, 4010, 4018, 4020, 4022, 4024, 4026, 4028, 4030, 4032, 4034, 4036, 4038, 4214, 4227, 4229, 4231, 4233, 4235, 4237, 4239, 5001, 5003, 5026, 5028, 5031, 5033, 5035, 5037, 5039, 5041, 5043, 5045]
def wsX8_goneParts : List Cond := .code yX8_goneParts cX8_goneParts 3 (some .int) :: (wk ix_X8_goneParts)
theorem wm_X8_goneParts : ∀ w ∈ wk ix_X8_goneParts, w ∈ wsX8_goneParts := fun _ h => List.mem_cons_of_mem _ (h)
theorem wc_X8_goneParts : wk_at 2197 = some (.code yX8_goneParts cX8_goneParts 3 (some .int)) := by decide +kernel
theorem wq_X8_goneParts : (wk ix_X8_goneParts).all goodWord = true := wk_good gdx_ok (by decide +kernel)
def ix_X8_dutiesOfAll : List Nat := [3229, 3231, 3233, 3235, 3237, 3239, 4001, 4003, 4007, 4018, 4020, 4022, 4024, 4026, 4028, 4030, 4032, 4034, 4036, 4038]
def wsX8_dutiesOfAll : List Cond := .code yX8_dutiesOfAll cX8_dutiesOfAll 6 (some .int) :: (wk ix_X8_dutiesOfAll)
theorem wm_X8_dutiesOfAll : ∀ w ∈ wk ix_X8_dutiesOfAll, w ∈ wsX8_dutiesOfAll := fun _ h => List.mem_cons_of_mem _ (h)
theorem wc_X8_dutiesOfAll : wk_at 2201 = some (.code yX8_dutiesOfAll cX8_dutiesOfAll 6 (some .int)) := by decide +kernel
theorem wq_X8_dutiesOfAll : (wk ix_X8_dutiesOfAll).all goodWord = true := wk_good gdx_ok (by decide +kernel)
def ix_X8_finesOfAll : List Nat := [3230, 3231, 3233, 3235, 3237, 3239, 4001, 4003, 4007, 4018, 4020, 4022, 4024, 4026, 4028, 4030, 4032, 4034, 4036, 4038]
def wsX8_finesOfAll : List Cond := .code yX8_finesOfAll cX8_finesOfAll 6 (some .int) :: (wk ix_X8_finesOfAll)
theorem wm_X8_finesOfAll : ∀ w ∈ wk ix_X8_finesOfAll, w ∈ wsX8_finesOfAll := fun _ h => List.mem_cons_of_mem _ (h)
theorem wc_X8_finesOfAll : wk_at 2205 = some (.code yX8_finesOfAll cX8_finesOfAll 6 (some .int)) := by decide +kernel
theorem wq_X8_finesOfAll : (wk ix_X8_finesOfAll).all goodWord = true := wk_good gdx_ok (by decide +kernel)
def ix_X8_night : List Nat := [1007, 1008, 1009, 1010, 1011, 2001, 2004, 2011, 2012, 2013, 2022, 2042, 2043, 2044, 2045, 2116, 2117, 2118, 2119, 2120, 2121, 2122, 2123, 2124, 2125, 2126, 2127, 2128, 2129, 2130, 2138, 2152, 2177, 2178, 2179, 2180, 2186, 2188, 2189, 2190, 2192, 2193, 2194, 2196, 2197, 2198, 2200, 2201, 2202, 2204, 2205, 3187, 3188, 3192, 3194, 3196, 3206, 3208, 3210, 3229, 3230, 3231, 3233, 3235, 3237, 3239, 4001, 4003, 4007, 4008, 4009, 4010, 4011, 4012, 4015, 4016, 4017, 4018, 4020, 4022, 4024, 4026, 4028, 4030, 4032, 4034, 4036, 4038, 4214, 4219, 4227, 4229, 4231, 4233, 4235, 4237, 4239, 5001, 5003, 5025, 5026, 5028, 5031, 5033, 5035, 5037, 5039, 5041, 5043, 5045]
def wsX8_night : List Cond := .code yX8_night cX8_night 2 (some .int) :: (wk ix_X8_night ++ (vx_atS RX8 69 "java/lang/IllegalArgumentException" ["java/lang/RuntimeException", "java/lang/Exception"]).filter goodWord)
theorem wm_X8_night : ∀ w ∈ wk ix_X8_night, w ∈ wsX8_night := fun _ h => List.mem_cons_of_mem _ (List.mem_append_left _ (h))
theorem wc_X8_night : wk_at 2185 = some (.code yX8_night cX8_night 2 (some .int)) := by decide +kernel
theorem wq_X8_night : (wk ix_X8_night).all goodWord = true := wk_good gdx_ok (by decide +kernel)
def ix_X8_cross : List Nat := [4014, 4018, 4020, 4022, 4024, 4026, 4028, 4030, 4032, 4034, 4036, 4038]
def wsX8_cross : List Cond := .code yX8_cross cX8_cross 5 none :: (wk ix_X8_cross)
theorem wm_X8_cross : ∀ w ∈ wk ix_X8_cross, w ∈ wsX8_cross := fun _ h => List.mem_cons_of_mem _ (h)
theorem wc_X8_cross : wk_at 3120 = some (.code yX8_cross cX8_cross 5 none) := by decide +kernel
theorem wq_X8_cross : (wk ix_X8_cross).all goodWord = true := wk_good gdx_ok (by decide +kernel)
def ix_X8_findArrivals : List Nat := [1024, 2001, 2004, 2012, 2013, 2015, 2042, 2043, 2044, 2045, 2116, 2117, 2118, 2119, 2120, 2121, 2122, 2123, 2124, 2125, 2126, 2127, 2128, 2129, 2219, 3033, 3034, 3035, 3036, 3117, 3119, 3120, 3187, 3188, 3192, 3194, 3196, 3221, 3231, 3233, 3235, 3237, 3239, 4001, 4003, 4008, 4014, 4016, 4018, 4020, 4022, 4024, 4026, 4028, 4030, 4032, 4034, 4036, 4038, 4100, 4102, 4103, 4104, 4115, 4117, 4119, 4121, 4123, 4125, 4127, 4129, 4131, 4133]
def wsX8_findArrivals : List Cond := .code yX8_findArrivals cX8_findArrivals 5 none :: (wk ix_X8_findArrivals)
theorem wm_X8_findArrivals : ∀ w ∈ wk ix_X8_findArrivals, w ∈ wsX8_findArrivals := fun _ h => List.mem_cons_of_mem _ (h)
theorem wc_X8_findArrivals : wk_at 3116 = some (.code yX8_findArrivals cX8_findArrivals 5 none) := by decide +kernel
theorem wq_X8_findArrivals : (wk ix_X8_findArrivals).all goodWord = true := wk_good gdx_ok (by decide +kernel)
def ix_X8_way : List Nat := [1014, 1023, 1024, 2001, 2004, 2010, 2012, 2013, 2015, 2042, 2043, 2044, 2045, 2046, 2116, 2117, 2118, 2119, 2120, 2121, 2122, 2123, 2124, 2125, 2126, 2127, 2128, 2129, 2219, 3006, 3008, 3009, 3033, 3034, 3035, 3036, 3113, 3115, 3116, 3117, 3119, 3120, 3187, 3188, 3192, 3194, 3196, 3221, 3231, 3233, 3235, 3237, 3239, 4001, 4003, 4007, 4008, 4014, 4016, 4018, 4020, 4022, 4024, 4026, 4028, 4030, 4032, 4034, 4036, 4038, 4100, 4102, 4103, 4104, 4115, 4117, 4119, 4121, 4123, 4125, 4127, 4129, 4131, 4133]
def wsX8_way : List Cond := .code yX8_way cX8_way 5 (some .int) :: (wk ix_X8_way ++ (vx_atS RX8 446 "java/lang/IndexOutOfBoundsException" ["java/lang/RuntimeException", "java/lang/Exception"]).filter goodWord)
theorem wm_X8_way : ∀ w ∈ wk ix_X8_way, w ∈ wsX8_way := fun _ h => List.mem_cons_of_mem _ (List.mem_append_left _ (h))
theorem wc_X8_way : wk_at 3112 = some (.code yX8_way cX8_way 5 (some .int)) := by decide +kernel
theorem wq_X8_way : (wk ix_X8_way).all goodWord = true := wk_good gdx_ok (by decide +kernel)
def ix_X8_catchOf : List Nat := []
def wsX8_catchOf : List Cond := .code yX8_catchOf cX8_catchOf 2 (some .int) :: (wk ix_X8_catchOf)
theorem wm_X8_catchOf : ∀ w ∈ wk ix_X8_catchOf, w ∈ wsX8_catchOf := fun _ h => List.mem_cons_of_mem _ (h)
theorem wc_X8_catchOf : wk_at 3142 = some (.code yX8_catchOf cX8_catchOf 2 (some .int)) := by decide +kernel
theorem wq_X8_catchOf : (wk ix_X8_catchOf).all goodWord = true := wk_good gdx_ok (by decide +kernel)
def ix_X8_mostCaughtFrom : List Nat := [2001, 2018, 3137, 3138, 3139, 3140, 3141, 3142, 3143, 3144, 3145, 4013, 4018, 4020, 4022, 4024, 4026, 4028, 4030, 4032, 4034, 4036, 4038]
def wsX8_mostCaughtFrom : List Cond := .code yX8_mostCaughtFrom cX8_mostCaughtFrom 8 (some .int) :: (wk ix_X8_mostCaughtFrom)
theorem wm_X8_mostCaughtFrom : ∀ w ∈ wk ix_X8_mostCaughtFrom, w ∈ wsX8_mostCaughtFrom := fun _ h => List.mem_cons_of_mem _ (h)
theorem wc_X8_mostCaughtFrom : wk_at 3136 = some (.code yX8_mostCaughtFrom cX8_mostCaughtFrom 8 (some .int)) := by decide +kernel
theorem wq_X8_mostCaughtFrom : (wk ix_X8_mostCaughtFrom).all goodWord = true := wk_good gdx_ok (by decide +kernel)
def ix_X8_findMostCaught : List Nat := [1019, 1026, 2001, 2004, 2012, 2013, 2018, 2022, 2042, 2043, 2044, 2045, 2116, 2117, 2118, 2119, 2120, 2121, 2122, 2123, 2124, 2125, 2126, 2127, 2128, 2129, 2138, 2219, 3045, 3047, 3048, 3049, 3050, 3051, 3052, 3053, 3054, 3055, 3056, 3133, 3135, 3136, 3137, 3138, 3139, 3140, 3141, 3142, 3143, 3144, 3145, 3187, 3188, 3192, 3194, 3196, 4008, 4010, 4013, 4018, 4020, 4022, 4024, 4026, 4028, 4030, 4032, 4034, 4036, 4038, 4221, 4223, 4227, 4229, 4231, 4233, 4235, 4237, 4239, 5001, 5003, 5016, 5021, 5026, 5027, 5031, 5033, 5035, 5037, 5039, 5041, 5043, 5045]
def wsX8_findMostCaught : List Cond := .code yX8_findMostCaught cX8_findMostCaught 5 none :: (wk ix_X8_findMostCaught)
theorem wm_X8_findMostCaught : ∀ w ∈ wk ix_X8_findMostCaught, w ∈ wsX8_findMostCaught := fun _ h => List.mem_cons_of_mem _ (h)
theorem wc_X8_findMostCaught : wk_at 3132 = some (.code yX8_findMostCaught cX8_findMostCaught 5 none) := by decide +kernel
theorem wq_X8_findMostCaught : (wk ix_X8_findMostCaught).all goodWord = true := wk_good gdx_ok (by decide +kernel)
def ix_X8_leastSum : List Nat := [4013, 4018, 4020, 4022, 4024, 4026, 4028, 4030, 4032, 4034, 4036, 4038]
def wsX8_leastSum : List Cond := .code yX8_leastSum cX8_leastSum 4 (some .int) :: (wk ix_X8_leastSum)
theorem wm_X8_leastSum : ∀ w ∈ wk ix_X8_leastSum, w ∈ wsX8_leastSum := fun _ h => List.mem_cons_of_mem _ (h)
theorem wc_X8_leastSum : wk_at 3149 = some (.code yX8_leastSum cX8_leastSum 4 (some .int)) := by decide +kernel
theorem wq_X8_leastSum : (wk ix_X8_leastSum).all goodWord = true := wk_good gdx_ok (by decide +kernel)
def ix_X8_leastOdds : List Nat := [2001, 2018, 3137, 3138, 3139, 3140, 3141, 3142, 4013, 4018, 4020, 4022, 4024, 4026, 4028, 4030, 4032, 4034, 4036, 4038]
def wsX8_leastOdds : List Cond := .code yX8_leastOdds cX8_leastOdds 7 (some .int) :: (wk ix_X8_leastOdds)
theorem wm_X8_leastOdds : ∀ w ∈ wk ix_X8_leastOdds, w ∈ wsX8_leastOdds := fun _ h => List.mem_cons_of_mem _ (h)
theorem wc_X8_leastOdds : wk_at 3157 = some (.code yX8_leastOdds cX8_leastOdds 7 (some .int)) := by decide +kernel
theorem wq_X8_leastOdds : (wk ix_X8_leastOdds).all goodWord = true := wk_good gdx_ok (by decide +kernel)
def ix_X8_plannedOdds : List Nat := [1019, 1029, 2001, 2004, 2012, 2013, 2018, 2022, 2042, 2043, 2044, 2045, 2116, 2117, 2118, 2119, 2120, 2121, 2122, 2123, 2124, 2125, 2126, 2127, 2128, 2129, 2138, 2219, 3045, 3047, 3048, 3049, 3050, 3051, 3052, 3053, 3054, 3055, 3056, 3137, 3138, 3139, 3140, 3141, 3142, 3154, 3156, 3157, 3187, 3188, 3192, 3194, 3196, 4008, 4010, 4013, 4018, 4020, 4022, 4024, 4026, 4028, 4030, 4032, 4034, 4036, 4038, 4221, 4223, 4227, 4229, 4231, 4233, 4235, 4237, 4239, 5001, 5003, 5016, 5021, 5026, 5027, 5031, 5033, 5035, 5037, 5039, 5041, 5043, 5045]
def wsX8_plannedOdds : List Cond := .code yX8_plannedOdds cX8_plannedOdds 9 (some .int) :: (wk ix_X8_plannedOdds)
theorem wm_X8_plannedOdds : ∀ w ∈ wk ix_X8_plannedOdds, w ∈ wsX8_plannedOdds := fun _ h => List.mem_cons_of_mem _ (h)
theorem wc_X8_plannedOdds : wk_at 3153 = some (.code yX8_plannedOdds cX8_plannedOdds 9 (some .int)) := by decide +kernel
theorem wq_X8_plannedOdds : (wk ix_X8_plannedOdds).all goodWord = true := wk_good gdx_ok (by decide +kernel)
def ix_X8_plan : List Nat := [1018, 1019, 1025, 1026, 1027, 1028, 1029, 2001, 2004, 2010, 2011, 2012, 2013, 2018, 2022, 2042, 2043, 2044, 2045, 2046, 2116, 2117, 2118, 2119, 2120, 2121, 2122, 2123, 2124, 2125, 2126, 2127, 2128, 2129, 2138, 2152, 2219, 3028, 3030, 3031, 3045, 3047, 3048, 3049, 3050, 3051, 3052, 3053, 3054, 3055, 3056, 3125, 3126, 3127, 3129, 3131, 3132, 3133, 3135, 3136, 3137, 3138, 3139, 3140, 3141, 3142, 3143, 3144, 3145, 3146, 3148, 3149, 3150, 3152, 3153, 3154, 3156, 3157, 3187, 3188, 3192, 3194, 3196, 4008, 4010, 4013, 4018, 4020, 4022, 4024, 4026, 4028, 4030, 4032, 4034, 4036, 4038, 4221, 4223, 4227, 4229, 4231, 4233, 4235, 4237, 4239, 5001, 5003, 5016, 5021, 5026, 5027, 5031, 5033, 5035, 5037, 5039, 5041, 5043, 5045]
def wsX8_plan : List Cond := .code yX8_plan cX8_plan 4 (some .int) :: (wk ix_X8_plan ++ (vx_atS RX8 446 "java/lang/IndexOutOfBoundsException" ["java/lang/RuntimeException", "java/lang/Exception"]).filter goodWord ++ (vx_atS RX8 69 "java/lang/IllegalArgumentException" ["java/lang/RuntimeException", "java/lang/Exception"]).filter goodWord)
theorem wm_X8_plan : ∀ w ∈ wk ix_X8_plan, w ∈ wsX8_plan := fun _ h => List.mem_cons_of_mem _ (List.mem_append_left _ (List.mem_append_left _ (h)))
theorem wc_X8_plan : wk_at 3124 = some (.code yX8_plan cX8_plan 4 (some .int)) := by decide +kernel
theorem wq_X8_plan : (wk ix_X8_plan).all goodWord = true := wk_good gdx_ok (by decide +kernel)
def ix_X8_wouldPay : List Nat := [1018, 1020, 1021, 1022, 2001, 2004, 2006, 2010, 2012, 2013, 2015, 2016, 2018, 2022, 2042, 2043, 2044, 2045, 2046, 2116, 2117, 2118, 2119, 2120, 2121, 2122, 2123, 2124, 2125, 2126, 2127, 2128, 2129, 2130, 2138, 2219, 3028, 3030, 3031, 3037, 3038, 3039, 3040, 3041, 3042, 3043, 3044, 3054, 3055, 3056, 3072, 3074, 3075, 3076, 3077, 3078, 3079, 3080, 3081, 3082, 3083, 3084, 3085, 3086, 3087, 3088, 3089, 3090, 3092, 3093, 3094, 3095, 3096, 3097, 3098, 3099, 3101, 3102, 3103, 3104, 3105, 3106, 3187, 3188, 3192, 3194, 3196, 3222, 3224, 3227, 3228, 3231, 3233, 3235, 3237, 3239, 4001, 4003, 4008, 4010, 4015, 4018, 4020, 4022, 4024, 4026, 4028, 4030, 4032, 4034, 4036, 4038, 4090, 4091, 4092, 4094, 4098, 4099, 4101, 4106, 4108, 4113, 4115, 4117, 4119, 4121, 4123, 4125, 4127, 4129, 4131, 4133, 4209, 4215, 4224, 4225, 4227, 4229, 4231, 4233, 4235, 4237, 4239, 5001, 5003, 5016, 5017, 5021, 5022, 5031, 5033, 5035, 5037, 5039, 5041, 5043, 5045, 5153, 5155, 5157, 5158, 5160, 5162]
def wsX8_wouldPay : List Cond := .code yX8_wouldPay cX8_wouldPay 5 (some .int) :: (wk ix_X8_wouldPay ++ (vx_atS RX8 446 "java/lang/IndexOutOfBoundsException" ["java/lang/RuntimeException", "java/lang/Exception"]).filter goodWord)
theorem wm_X8_wouldPay : ∀ w ∈ wk ix_X8_wouldPay, w ∈ wsX8_wouldPay := fun _ h => List.mem_cons_of_mem _ (List.mem_append_left _ (h))
theorem wc_X8_wouldPay : wk_at 3071 = some (.code yX8_wouldPay cX8_wouldPay 5 (some .int)) := by decide +kernel
theorem wq_X8_wouldPay : (wk ix_X8_wouldPay).all goodWord = true := wk_good gdx_ok (by decide +kernel)
def ix_X8_quotasOfAll : List Nat := [3227, 3231, 3233, 3235, 3237, 3239, 4001, 4003, 4007, 4018, 4020, 4022, 4024, 4026, 4028, 4030, 4032, 4034, 4036, 4038]
def wsX8_quotasOfAll : List Cond := .code yX8_quotasOfAll cX8_quotasOfAll 6 (some .int) :: (wk ix_X8_quotasOfAll)
theorem wm_X8_quotasOfAll : ∀ w ∈ wk ix_X8_quotasOfAll, w ∈ wsX8_quotasOfAll := fun _ h => List.mem_cons_of_mem _ (h)
theorem wc_X8_quotasOfAll : wk_at 2214 = some (.code yX8_quotasOfAll cX8_quotasOfAll 6 (some .int)) := by decide +kernel
theorem wq_X8_quotasOfAll : (wk ix_X8_quotasOfAll).all goodWord = true := wk_good gdx_ok (by decide +kernel)
def ix_X8_sleeperIsSound : List Nat := [1002, 2001, 2004, 2012, 2013, 2015, 2042, 2043, 2044, 2045, 2116, 2117, 2118, 2119, 2120, 2121, 2122, 2123, 2124, 2125, 2126, 2127, 2128, 2129, 2134, 2136, 2137, 2138, 2219, 2220, 2221, 2222, 2223, 2224, 2225, 2226, 2227, 2228, 2229, 3187, 3188, 3192, 3194, 3196, 4008, 4010, 4018, 4020, 4022, 4024, 4026, 4028, 4030, 4032, 4034, 4036, 4038, 4099, 4101, 4105, 4115, 4117, 4119, 4121, 4123, 4125, 4127, 4129, 4131, 4133, 4215, 4217, 4219, 4227, 4229, 4231, 4233, 4235, 4237, 4239, 5001, 5003, 5017, 5027, 5031, 5033, 5035, 5037, 5039, 5041, 5043, 5045]
def wsX8_sleeperIsSound : List Cond := .code yX8_sleeperIsSound cX8_sleeperIsSound 5 (some .boolean) :: (wk ix_X8_sleeperIsSound)
theorem wm_X8_sleeperIsSound : ∀ w ∈ wk ix_X8_sleeperIsSound, w ∈ wsX8_sleeperIsSound := fun _ h => List.mem_cons_of_mem _ (h)
theorem wc_X8_sleeperIsSound : wk_at 2218 = some (.code yX8_sleeperIsSound cX8_sleeperIsSound 5 (some .boolean)) := by decide +kernel
theorem wq_X8_sleeperIsSound : (wk ix_X8_sleeperIsSound).all goodWord = true := wk_good gdx_ok (by decide +kernel)
def ix_X8_isSound : List Nat := [1002, 1012, 1013, 2001, 2004, 2012, 2013, 2015, 2042, 2043, 2044, 2045, 2116, 2117, 2118, 2119, 2120, 2121, 2122, 2123, 2124, 2125, 2126, 2127, 2128, 2129, 2130, 2134, 2136, 2137, 2138, 2211, 2213, 2214, 2215, 2217, 2218, 2219, 2220, 2221, 2222, 2223, 2224, 2225, 2226, 2227, 2228, 2229, 2230, 2231, 2232, 2233, 2234, 3187, 3188, 3192, 3194, 3196, 3227, 3231, 3233, 3235, 3237, 3239, 4001, 4003, 4007, 4008, 4009, 4010, 4011, 4018, 4020, 4022, 4024, 4026, 4028, 4030, 4032, 4034, 4036, 4038, 4099, 4101, 4105, 4115, 4117, 4119, 4121, 4123, 4125, 4127, 4129, 4131, 4133, 4211, 4215, 4217, 4219, 4227, 4229, 4231, 4233, 4235, 4237, 4239, 5001, 5003, 5017, 5027, 5031, 5033, 5035, 5037, 5039, 5041, 5043, 5045]
def wsX8_isSound : List Cond := .code yX8_isSound cX8_isSound 2 (some .boolean) :: (wk ix_X8_isSound)
theorem wm_X8_isSound : ∀ w ∈ wk ix_X8_isSound, w ∈ wsX8_isSound := fun _ h => List.mem_cons_of_mem _ (h)
theorem wc_X8_isSound : wk_at 2210 = some (.code yX8_isSound cX8_isSound 2 (some .boolean)) := by decide +kernel
theorem wq_X8_isSound : (wk ix_X8_isSound).all goodWord = true := wk_good gdx_ok (by decide +kernel)
def ix_X8_digest : List Nat := [1000, 1002, 1003, 1004, 1005, 1006, 1007, 1008, 1009, 1010, 1011, 1012, 1013, 1014, 1015, 1016, 1017, 1018, 1019, 1020, 1021, 1022, 1023, 1024, 1025, 1026, 1027, 1028, 1029, 2001, 2004, 2006, 2010, 2011, 2012, 2013, 2015, 2016, 2018, 2022, 2024, 2034, 2035, 2036, 2037, 2039, 2041, 2042, 2043, 2044, 2045, 2046, 2116, 2117, 2118, 2119, 2120, 2121, 2122, 2123, 2124, 2125, 2126, 2127, 2128, 2129, 2130, 2131, 2132, 2133, 2134, 2136, 2137, 2138, 2139, 2141, 2142, 2143, 2145, 2146, 2147, 2149, 2150, 2151, 2152, 2169, 2170, 2171, 2172, 2174, 2175, 2177, 2178, 2179, 2180, 2183, 2184, 2185, 2186, 2188, 2189, 2190, 2192, 2193, 2194, 2196, 2197, 2198, 2200, 2201, 2202, 2204, 2205, 2208, 2209, 2210, 2211, 2213, 2214, 2215, 2217, 2218, 2219, 2220, 2221, 2222, 2223, 2224, 2225, 2226, 2227, 2228, 2229, 2230, 2231, 2232, 2233, 2234, 2239, 3000, 3001, 3002, 3003, 3004, 3005, 3006, 3008, 3009, 3011, 3013, 3014, 3015, 3017, 3018, 3019, 3021, 3022, 3024, 3025, 3026, 3027, 3028, 3030, 3031, 3033, 3034, 3035, 3036, 3037, 3038, 3039, 3040, 3041, 3042, 3043, 3044, 3045, 3047, 3048, 3049, 3050, 3051, 3052, 3053, 3054, 3055, 3056, 3057, 3058, 3059, 3060, 3061, 3062, 3063, 3064, 3065, 3066, 3068, 3069, 3070, 3071, 3072, 3074, 3075, 3076, 3077, 3078, 3079, 3080, 3081, 3082, 3083, 3084, 3085, 3086, 3087, 3088, 3089, 3090, 3092, 3093, 3094, 3095, 3096, 3097, 3098, 3099, 3101, 3102, 3103, 3104, 3105, 3106, 3107, 3108, 3109, 3110, 3111, 3112, 3113, 3115, 3116, 3117, 3119, 3120, 3121, 3122, 3123, 3124, 3125, 3126, 3127, 3129, 3131, 3132, 3133, 3135, 3136, 3137, 3138, 3139, 3140, 3141, 3142, 3143, 3144, 3145, 3146, 3148, 3149, 3150, 3152, 3153, 3154, 3156, 3157, 3158, 3187, 3188, 3192, 3194, 3196, 3206, 3208, 3210, 3221, 3222, 3223, 3224, 3225, 3227, 3228, 3229, 3230, 3231, 3233, 3235, 3237, 3239, 4001, 4003, 4007, 4008, 4009, 4010, 4011, 4012, 4013, 4014, 4015, 4016, 4017, 4018, 4020, 4022, 4024, 4026, 4028, 4030, 4032, 4034, 4036, 4038, 4090, 4091, 4092, 4094, 4098, 4099, 4100, 4101, 4102, 4103, 4104, 4105, 4106, 4108, 4112, 4113, 4114, 4115, 4117, 4119, 4121, 4123, 4125, 4127, 4129, 4131, 4133, 4209, 4211, 4214, 4215, 4217, 4219, 4221, 4223, 4224, 4225, 4226, 4227, 4229, 4231, 4233, 4235, 4237, 4239, 5001, 5003, 5016, 5017, 5019, 5021, 5022, 5023, 5025, 5026, 5027, 5028, 5029, 5031, 5033, 5035, 5037, 5039, 5041, 5043, 5045, 5090, 5095, 5097, 5099, 5153, 5155, 5157, 5158, 5160, 5162]
def wsX8_digest : List Cond := .code yX8_digest cX8_digest 5 (some .long) :: (wk ix_X8_digest ++ (vx_atS RX8 69 "java/lang/IllegalArgumentException" ["java/lang/RuntimeException", "java/lang/Exception"]).filter goodWord ++ (vx_atS RX8 446 "java/lang/IndexOutOfBoundsException" ["java/lang/RuntimeException", "java/lang/Exception"]).filter goodWord)
theorem wm_X8_digest : ∀ w ∈ wk ix_X8_digest, w ∈ wsX8_digest := fun _ h => List.mem_cons_of_mem _ (List.mem_append_left _ (List.mem_append_left _ (h)))
theorem wc_X8_digest : wk_at 2238 = some (.code yX8_digest cX8_digest 5 (some .long)) := by decide +kernel
theorem wq_X8_digest : (wk ix_X8_digest).all goodWord = true := wk_good gdx_ok (by decide +kernel)
def ix_J2_newBytesLength_0f7a4 : List Nat := [5239]
def wsJ2_newBytesLength_0f7a4 : List Cond := .code yJ2_newBytesLength_0f7a4 cJ2_newBytesLength_0f7a4 1 (some .int) :: (wk ix_J2_newBytesLength_0f7a4)
theorem wm_J2_newBytesLength_0f7a4 : ∀ w ∈ wk ix_J2_newBytesLength_0f7a4, w ∈ wsJ2_newBytesLength_0f7a4 := fun _ h => List.mem_cons_of_mem _ (h)
theorem wc_J2_newBytesLength_0f7a4 : wk_at 5238 = some (.code yJ2_newBytesLength_0f7a4 cJ2_newBytesLength_0f7a4 1 (some .int)) := by decide +kernel
theorem wq_J2_newBytesLength_0f7a4 : (wk ix_J2_newBytesLength_0f7a4).all goodWord = true := wk_good gdx_ok (by decide +kernel)
def ix_J2_newBytesFor_77867 : List Nat := [2030, 2115, 5236, 5237, 5238, 5239]
def wsJ2_newBytesFor_77867 : List Cond := .code yJ2_newBytesFor_77867 cJ2_newBytesFor_77867 1 (some (.array .byte)) :: (wk ix_J2_newBytesFor_77867)
theorem wm_J2_newBytesFor_77867 : ∀ w ∈ wk ix_J2_newBytesFor_77867, w ∈ wsJ2_newBytesFor_77867 := fun _ h => List.mem_cons_of_mem _ (h)
theorem wc_J2_newBytesFor_77867 : wk_at 5235 = some (.code yJ2_newBytesFor_77867 cJ2_newBytesFor_77867 1 (some (.array .byte))) := by decide +kernel
theorem wq_J2_newBytesFor_77867 : (wk ix_J2_newBytesFor_77867).all goodWord = true := wk_good gdx_ok (by decide +kernel)
def ix_J5_init_d00df : List Nat := [2030, 2072, 2073, 2115, 5230, 5231, 5233, 5234, 5235, 5236, 5237, 5238, 5239, 6000, 6001, 6004, 6006, 6008, 6010]
def wsJ5_init_d00df : List Cond := .code yJ5_init_d00df cJ5_init_d00df 2 none :: (wk ix_J5_init_d00df)
theorem wm_J5_init_d00df : ∀ w ∈ wk ix_J5_init_d00df, w ∈ wsJ5_init_d00df := fun _ h => List.mem_cons_of_mem _ (h)
theorem wc_J5_init_d00df : wk_at 5229 = some (.code yJ5_init_d00df cJ5_init_d00df 2 none) := by decide +kernel
theorem wq_J5_init_d00df : (wk ix_J5_init_d00df).all goodWord = true := wk_good gdx_ok (by decide +kernel)
def ix_J5_length_8abf5 : List Nat := [6003, 6004, 6006, 6008, 6010]
def wsJ5_length_8abf5 : List Cond := .code yJ5_length_8abf5 cJ5_length_8abf5 1 (some .int) :: (wk ix_J5_length_8abf5)
theorem wm_J5_length_8abf5 : ∀ w ∈ wk ix_J5_length_8abf5, w ∈ wsJ5_length_8abf5 := fun _ h => List.mem_cons_of_mem _ (h)
theorem wc_J5_length_8abf5 : wk_at 6170 = some (.code yJ5_length_8abf5 cJ5_length_8abf5 1 (some .int)) := by decide +kernel
theorem wq_J5_length_8abf5 : (wk ix_J5_length_8abf5).all goodWord = true := wk_good gdx_ok (by decide +kernel)
def ix_J5_newCapacity_0f7a4 : List Nat := [2017, 2018, 3144, 3145, 4153, 4154, 4155, 4156, 4157, 4158, 4159, 6000, 6001, 6004, 6006, 6008, 6010, 6033, 6034]
def wsJ5_newCapacity_0f7a4 : List Cond := .code yJ5_newCapacity_0f7a4 cJ5_newCapacity_0f7a4 6 (some .int) :: (wk ix_J5_newCapacity_0f7a4)
theorem wm_J5_newCapacity_0f7a4 : ∀ w ∈ wk ix_J5_newCapacity_0f7a4, w ∈ wsJ5_newCapacity_0f7a4 := fun _ h => List.mem_cons_of_mem _ (h)
theorem wc_J5_newCapacity_0f7a4 : wk_at 6032 = some (.code yJ5_newCapacity_0f7a4 cJ5_newCapacity_0f7a4 6 (some .int)) := by decide +kernel
theorem wq_J5_newCapacity_0f7a4 : (wk ix_J5_newCapacity_0f7a4).all goodWord = true := wk_good gdx_ok (by decide +kernel)
def ix_J7_copyOf_9075b : List Nat := [2018, 2020, 2115, 3138, 3139, 4188, 4189, 4190, 4191, 6038, 6039, 6040, 6041, 6042, 6044]
def wsJ7_copyOf_9075b : List Cond := .code yJ7_copyOf_9075b cJ7_copyOf_9075b 3 (some (.array .byte)) :: (wk ix_J7_copyOf_9075b)
theorem wm_J7_copyOf_9075b : ∀ w ∈ wk ix_J7_copyOf_9075b, w ∈ wsJ7_copyOf_9075b := fun _ h => List.mem_cons_of_mem _ (h)
theorem wc_J7_copyOf_9075b : wk_at 6037 = some (.code yJ7_copyOf_9075b cJ7_copyOf_9075b 3 (some (.array .byte))) := by decide +kernel
theorem wq_J7_copyOf_9075b : (wk ix_J7_copyOf_9075b).all goodWord = true := wk_good gdx_ok (by decide +kernel)
def ix_J5_ensureCapacityInternal_d00df : List Nat := [1, 2017, 2018, 2019, 2020, 2027, 2115, 3138, 3139, 3144, 3145, 4153, 4154, 4155, 4156, 4157, 4158, 4159, 4188, 4189, 4190, 4191, 6000, 6001, 6004, 6006, 6008, 6010, 6029, 6031, 6032, 6033, 6034, 6035, 6036, 6037, 6038, 6039, 6040, 6041, 6042, 6044, 6219]
def wsJ5_ensureCapacityInternal_d00df : List Cond := .code yJ5_ensureCapacityInternal_d00df cJ5_ensureCapacityInternal_d00df 3 none :: (wk ix_J5_ensureCapacityInternal_d00df)
theorem wm_J5_ensureCapacityInternal_d00df : ∀ w ∈ wk ix_J5_ensureCapacityInternal_d00df, w ∈ wsJ5_ensureCapacityInternal_d00df := fun _ h => List.mem_cons_of_mem _ (h)
theorem wc_J5_ensureCapacityInternal_d00df : wk_at 6028 = some (.code yJ5_ensureCapacityInternal_d00df cJ5_ensureCapacityInternal_d00df 3 none) := by decide +kernel
theorem wq_J5_ensureCapacityInternal_d00df : (wk ix_J5_ensureCapacityInternal_d00df).all goodWord = true := wk_good gdx_ok (by decide +kernel)
def ix_J5_isLatin1_aae02 : List Nat := [5231, 6001, 6004, 6006, 6008, 6010]
def wsJ5_isLatin1_aae02 : List Cond := .code yJ5_isLatin1_aae02 cJ5_isLatin1_aae02 1 (some .boolean) :: (wk ix_J5_isLatin1_aae02)
theorem wm_J5_isLatin1_aae02 : ∀ w ∈ wk ix_J5_isLatin1_aae02, w ∈ wsJ5_isLatin1_aae02 := fun _ h => List.mem_cons_of_mem _ (h)
theorem wc_J5_isLatin1_aae02 : wk_at 6049 = some (.code yJ5_isLatin1_aae02 cJ5_isLatin1_aae02 1 (some .boolean)) := by decide +kernel
theorem wq_J5_isLatin1_aae02 : (wk ix_J5_isLatin1_aae02).all goodWord = true := wk_good gdx_ok (by decide +kernel)
def ix_J2_length_9d52b : List Nat := []
def wsJ2_length_9d52b : List Cond := .code yJ2_length_9d52b cJ2_length_9d52b 1 (some .int) :: (wk ix_J2_length_9d52b)
theorem wm_J2_length_9d52b : ∀ w ∈ wk ix_J2_length_9d52b, w ∈ wsJ2_length_9d52b := fun _ h => List.mem_cons_of_mem _ (h)
theorem wc_J2_length_9d52b : wk_at 6058 = some (.code yJ2_length_9d52b cJ2_length_9d52b 1 (some .int)) := by decide +kernel
theorem wq_J2_length_9d52b : (wk ix_J2_length_9d52b).all goodWord = true := wk_good gdx_ok (by decide +kernel)
def ix_J3_checkFromIndexSize_8c36e : List Nat := []
def wsJ3_checkFromIndexSize_8c36e : List Cond := .code yJ3_checkFromIndexSize_8c36e cJ3_checkFromIndexSize_8c36e 4 (some .int) :: (wk ix_J3_checkFromIndexSize_8c36e)
theorem wm_J3_checkFromIndexSize_8c36e : ∀ w ∈ wk ix_J3_checkFromIndexSize_8c36e, w ∈ wsJ3_checkFromIndexSize_8c36e := fun _ h => List.mem_cons_of_mem _ (h)
theorem wc_J3_checkFromIndexSize_8c36e : wk_at 6112 = some (.code yJ3_checkFromIndexSize_8c36e cJ3_checkFromIndexSize_8c36e 4 (some .int)) := by decide +kernel
theorem wq_J3_checkFromIndexSize_8c36e : (wk ix_J3_checkFromIndexSize_8c36e).all goodWord = true := wk_good gdx_ok (by decide +kernel)
def ix_J0_checkBoundsOffCount_cabcc : List Nat := [2013, 6062, 6110, 6111, 6112]
def wsJ0_checkBoundsOffCount_cabcc : List Cond := .code yJ0_checkBoundsOffCount_cabcc cJ0_checkBoundsOffCount_cabcc 3 (some .int) :: (wk ix_J0_checkBoundsOffCount_cabcc)
theorem wm_J0_checkBoundsOffCount_cabcc : ∀ w ∈ wk ix_J0_checkBoundsOffCount_cabcc, w ∈ wsJ0_checkBoundsOffCount_cabcc := fun _ h => List.mem_cons_of_mem _ (h)
theorem wc_J0_checkBoundsOffCount_cabcc : wk_at 6109 = some (.code yJ0_checkBoundsOffCount_cabcc cJ0_checkBoundsOffCount_cabcc 3 (some .int)) := by decide +kernel
theorem wq_J0_checkBoundsOffCount_cabcc : (wk ix_J0_checkBoundsOffCount_cabcc).all goodWord = true := wk_good gdx_ok (by decide +kernel)
def ix_J2_checkBoundsOffCount_d044e : List Nat := [2013, 2029, 2030, 6056, 6057, 6058, 6062, 6107, 6108, 6109, 6110, 6111, 6112]
def wsJ2_checkBoundsOffCount_d044e : List Cond := .code yJ2_checkBoundsOffCount_d044e cJ2_checkBoundsOffCount_d044e 3 none :: (wk ix_J2_checkBoundsOffCount_d044e)
theorem wm_J2_checkBoundsOffCount_d044e : ∀ w ∈ wk ix_J2_checkBoundsOffCount_d044e, w ∈ wsJ2_checkBoundsOffCount_d044e := fun _ h => List.mem_cons_of_mem _ (h)
theorem wc_J2_checkBoundsOffCount_d044e : wk_at 6106 = some (.code yJ2_checkBoundsOffCount_d044e cJ2_checkBoundsOffCount_d044e 3 none) := by decide +kernel
theorem wq_J2_checkBoundsOffCount_d044e : (wk ix_J2_checkBoundsOffCount_d044e).all goodWord = true := wk_good gdx_ok (by decide +kernel)
def ix_J2_putChar_b72d1 : List Nat := [2030, 6056, 6057, 6058, 6070, 6072, 6074]
def wsJ2_putChar_b72d1 : List Cond := .code yJ2_putChar_b72d1 cJ2_putChar_b72d1 3 none :: (wk ix_J2_putChar_b72d1)
theorem wm_J2_putChar_b72d1 : ∀ w ∈ wk ix_J2_putChar_b72d1, w ∈ wsJ2_putChar_b72d1 := fun _ h => List.mem_cons_of_mem _ (h)
theorem wc_J2_putChar_b72d1 : wk_at 6069 = some (.code yJ2_putChar_b72d1 cJ2_putChar_b72d1 3 none) := by decide +kernel
theorem wq_J2_putChar_b72d1 : (wk ix_J2_putChar_b72d1).all goodWord = true := wk_good gdx_ok (by decide +kernel)
def ix_J2_inflate_0e8fd : List Nat := [2013, 2029, 2030, 6056, 6057, 6058, 6062, 6067, 6068, 6069, 6070, 6072, 6074, 6104, 6105, 6106, 6107, 6108, 6109, 6110, 6111, 6112]
def wsJ2_inflate_0e8fd : List Cond := .code yJ2_inflate_0e8fd cJ2_inflate_0e8fd 6 none :: (wk ix_J2_inflate_0e8fd)
theorem wm_J2_inflate_0e8fd : ∀ w ∈ wk ix_J2_inflate_0e8fd, w ∈ wsJ2_inflate_0e8fd := fun _ h => List.mem_cons_of_mem _ (h)
theorem wc_J2_inflate_0e8fd : wk_at 6103 = some (.code yJ2_inflate_0e8fd cJ2_inflate_0e8fd 6 none) := by decide +kernel
theorem wq_J2_inflate_0e8fd : (wk ix_J2_inflate_0e8fd).all goodWord = true := wk_good gdx_ok (by decide +kernel)
def ix_J1_inflate_0e8fd : List Nat := [2013, 2029, 2030, 6056, 6057, 6058, 6062, 6067, 6068, 6069, 6070, 6072, 6074, 6101, 6102, 6103, 6104, 6105, 6106, 6107, 6108, 6109, 6110, 6111, 6112]
def wsJ1_inflate_0e8fd : List Cond := .code yJ1_inflate_0e8fd cJ1_inflate_0e8fd 5 none :: (wk ix_J1_inflate_0e8fd)
theorem wm_J1_inflate_0e8fd : ∀ w ∈ wk ix_J1_inflate_0e8fd, w ∈ wsJ1_inflate_0e8fd := fun _ h => List.mem_cons_of_mem _ (h)
theorem wc_J1_inflate_0e8fd : wk_at 6100 = some (.code yJ1_inflate_0e8fd cJ1_inflate_0e8fd 5 none) := by decide +kernel
theorem wq_J1_inflate_0e8fd : (wk ix_J1_inflate_0e8fd).all goodWord = true := wk_good gdx_ok (by decide +kernel)
def ix_J5_inflate_da8c8 : List Nat := [2013, 2027, 2029, 2030, 2031, 2115, 5231, 5233, 5234, 5235, 5236, 5237, 5238, 5239, 6000, 6001, 6003, 6004, 6006, 6008, 6010, 6045, 6046, 6047, 6048, 6049, 6056, 6057, 6058, 6062, 6067, 6068, 6069, 6070, 6072, 6074, 6098, 6099, 6100, 6101, 6102, 6103, 6104, 6105, 6106, 6107, 6108, 6109, 6110, 6111, 6112]
def wsJ5_inflate_da8c8 : List Cond := .code yJ5_inflate_da8c8 cJ5_inflate_da8c8 2 none :: (wk ix_J5_inflate_da8c8)
theorem wm_J5_inflate_da8c8 : ∀ w ∈ wk ix_J5_inflate_da8c8, w ∈ wsJ5_inflate_da8c8 := fun _ h => List.mem_cons_of_mem _ (h)
theorem wc_J5_inflate_da8c8 : wk_at 6097 = some (.code yJ5_inflate_da8c8 cJ5_inflate_da8c8 2 none) := by decide +kernel
theorem wq_J5_inflate_da8c8 : (wk ix_J5_inflate_da8c8).all goodWord = true := wk_good gdx_ok (by decide +kernel)
def ix_J3_checkFromToIndex_8c36e : List Nat := []
def wsJ3_checkFromToIndex_8c36e : List Cond := .code yJ3_checkFromToIndex_8c36e cJ3_checkFromToIndex_8c36e 4 (some .int) :: (wk ix_J3_checkFromToIndex_8c36e)
theorem wm_J3_checkFromToIndex_8c36e : ∀ w ∈ wk ix_J3_checkFromToIndex_8c36e, w ∈ wsJ3_checkFromToIndex_8c36e := fun _ h => List.mem_cons_of_mem _ (h)
theorem wc_J3_checkFromToIndex_8c36e : wk_at 6066 = some (.code yJ3_checkFromToIndex_8c36e cJ3_checkFromToIndex_8c36e 4 (some .int)) := by decide +kernel
theorem wq_J3_checkFromToIndex_8c36e : (wk ix_J3_checkFromToIndex_8c36e).all goodWord = true := wk_good gdx_ok (by decide +kernel)
def ix_J0_checkBoundsBeginEnd_23922 : List Nat := [2013, 6062, 6064, 6065, 6066]
def wsJ0_checkBoundsBeginEnd_23922 : List Cond := .code yJ0_checkBoundsBeginEnd_23922 cJ0_checkBoundsBeginEnd_23922 3 none :: (wk ix_J0_checkBoundsBeginEnd_23922)
theorem wm_J0_checkBoundsBeginEnd_23922 : ∀ w ∈ wk ix_J0_checkBoundsBeginEnd_23922, w ∈ wsJ0_checkBoundsBeginEnd_23922 := fun _ h => List.mem_cons_of_mem _ (h)
theorem wc_J0_checkBoundsBeginEnd_23922 : wk_at 6061 = some (.code yJ0_checkBoundsBeginEnd_23922 cJ0_checkBoundsBeginEnd_23922 3 none) := by decide +kernel
theorem wq_J0_checkBoundsBeginEnd_23922 : (wk ix_J0_checkBoundsBeginEnd_23922).all goodWord = true := wk_good gdx_ok (by decide +kernel)
def ix_J2_checkBoundsBeginEnd_d044e : List Nat := [2013, 2029, 2030, 6056, 6057, 6058, 6059, 6060, 6061, 6062, 6064, 6065, 6066]
def wsJ2_checkBoundsBeginEnd_d044e : List Cond := .code yJ2_checkBoundsBeginEnd_d044e cJ2_checkBoundsBeginEnd_d044e 3 none :: (wk ix_J2_checkBoundsBeginEnd_d044e)
theorem wm_J2_checkBoundsBeginEnd_d044e : ∀ w ∈ wk ix_J2_checkBoundsBeginEnd_d044e, w ∈ wsJ2_checkBoundsBeginEnd_d044e := fun _ h => List.mem_cons_of_mem _ (h)
theorem wc_J2_checkBoundsBeginEnd_d044e : wk_at 6055 = some (.code yJ2_checkBoundsBeginEnd_d044e cJ2_checkBoundsBeginEnd_d044e 3 none) := by decide +kernel
theorem wq_J2_checkBoundsBeginEnd_d044e : (wk ix_J2_checkBoundsBeginEnd_d044e).all goodWord = true := wk_good gdx_ok (by decide +kernel)
def ix_J2_putCharsAt_cd4e5 : List Nat := [2013, 2029, 2030, 6053, 6054, 6055, 6056, 6057, 6058, 6059, 6060, 6061, 6062, 6064, 6065, 6066, 6067, 6068, 6069, 6070, 6072, 6074]
def wsJ2_putCharsAt_cd4e5 : List Cond := .code yJ2_putCharsAt_cd4e5 cJ2_putCharsAt_cd4e5 7 (some .int) :: (wk ix_J2_putCharsAt_cd4e5)
theorem wm_J2_putCharsAt_cd4e5 : ∀ w ∈ wk ix_J2_putCharsAt_cd4e5, w ∈ wsJ2_putCharsAt_cd4e5 := fun _ h => List.mem_cons_of_mem _ (h)
theorem wc_J2_putCharsAt_cd4e5 : wk_at 6052 = some (.code yJ2_putCharsAt_cd4e5 cJ2_putCharsAt_cd4e5 7 (some .int)) := by decide +kernel
theorem wq_J2_putCharsAt_cd4e5 : (wk ix_J2_putCharsAt_cd4e5).all goodWord = true := wk_good gdx_ok (by decide +kernel)
def ix_J5_appendNull_278bc : List Nat := [0, 1, 2013, 2017, 2018, 2019, 2020, 2027, 2029, 2030, 2115, 3138, 3139, 3144, 3145, 4153, 4154, 4155, 4156, 4157, 4158, 4159, 4188, 4189, 4190, 4191, 5231, 6000, 6001, 6003, 6004, 6006, 6008, 6010, 6025, 6027, 6028, 6029, 6031, 6032, 6033, 6034, 6035, 6036, 6037, 6038, 6039, 6040, 6041, 6042, 6044, 6045, 6046, 6047, 6048, 6049, 6050, 6051, 6052, 6053, 6054, 6055, 6056, 6057, 6058, 6059, 6060, 6061, 6062, 6064, 6065, 6066, 6067, 6068, 6069, 6070, 6072, 6074, 6218, 6219]
def wsJ5_appendNull_278bc : List Cond := .code yJ5_appendNull_278bc cJ5_appendNull_278bc 3 (some (.object "java/lang/AbstractStringBuilder")) :: (wk ix_J5_appendNull_278bc)
theorem wm_J5_appendNull_278bc : ∀ w ∈ wk ix_J5_appendNull_278bc, w ∈ wsJ5_appendNull_278bc := fun _ h => List.mem_cons_of_mem _ (h)
theorem wc_J5_appendNull_278bc : wk_at 6024 = some (.code yJ5_appendNull_278bc cJ5_appendNull_278bc 3 (some (.object "java/lang/AbstractStringBuilder"))) := by decide +kernel
theorem wq_J5_appendNull_278bc : (wk ix_J5_appendNull_278bc).all goodWord = true := wk_good gdx_ok (by decide +kernel)
def ix_J0_coder_7d493 : List Nat := [6084, 6195, 6196, 6198, 6200, 6202]
def wsJ0_coder_7d493 : List Cond := .code yJ0_coder_7d493 cJ0_coder_7d493 1 (some .byte) :: (wk ix_J0_coder_7d493)
theorem wm_J0_coder_7d493 : ∀ w ∈ wk ix_J0_coder_7d493, w ∈ wsJ0_coder_7d493 := fun _ h => List.mem_cons_of_mem _ (h)
theorem wc_J0_coder_7d493 : wk_at 6083 = some (.code yJ0_coder_7d493 cJ0_coder_7d493 1 (some .byte)) := by decide +kernel
theorem wq_J0_coder_7d493 : (wk ix_J0_coder_7d493).all goodWord = true := wk_good gdx_ok (by decide +kernel)
def ix_J0_length_8abf5 : List Nat := [2029, 6080, 6081, 6082, 6083, 6084, 6194, 6195, 6196, 6198, 6200, 6202]
def wsJ0_length_8abf5 : List Cond := .code yJ0_length_8abf5 cJ0_length_8abf5 1 (some .int) :: (wk ix_J0_length_8abf5)
theorem wm_J0_length_8abf5 : ∀ w ∈ wk ix_J0_length_8abf5, w ∈ wsJ0_length_8abf5 := fun _ h => List.mem_cons_of_mem _ (h)
theorem wc_J0_length_8abf5 : wk_at 6079 = some (.code yJ0_length_8abf5 cJ0_length_8abf5 1 (some .int)) := by decide +kernel
theorem wq_J0_length_8abf5 : (wk ix_J0_length_8abf5).all goodWord = true := wk_good gdx_ok (by decide +kernel)
def ix_J5_inflateIfNeededFor_a7421 : List Nat := [2, 2013, 2027, 2029, 2030, 2031, 2115, 5231, 5233, 5234, 5235, 5236, 5237, 5238, 5239, 6000, 6001, 6003, 6004, 6006, 6008, 6010, 6045, 6046, 6047, 6048, 6049, 6056, 6057, 6058, 6062, 6067, 6068, 6069, 6070, 6072, 6074, 6081, 6082, 6083, 6084, 6093, 6094, 6096, 6097, 6098, 6099, 6100, 6101, 6102, 6103, 6104, 6105, 6106, 6107, 6108, 6109, 6110, 6111, 6112, 6195, 6196, 6198, 6200, 6202, 6222]
def wsJ5_inflateIfNeededFor_a7421 : List Cond := .code yJ5_inflateIfNeededFor_a7421 cJ5_inflateIfNeededFor_a7421 2 none :: (wk ix_J5_inflateIfNeededFor_a7421)
theorem wm_J5_inflateIfNeededFor_a7421 : ∀ w ∈ wk ix_J5_inflateIfNeededFor_a7421, w ∈ wsJ5_inflateIfNeededFor_a7421 := fun _ h => List.mem_cons_of_mem _ (h)
theorem wc_J5_inflateIfNeededFor_a7421 : wk_at 6092 = some (.code yJ5_inflateIfNeededFor_a7421 cJ5_inflateIfNeededFor_a7421 2 none) := by decide +kernel
theorem wq_J5_inflateIfNeededFor_a7421 : (wk ix_J5_inflateIfNeededFor_a7421).all goodWord = true := wk_good gdx_ok (by decide +kernel)
def ix_J0_getBytes_840e7 : List Nat := [2013, 2020, 2029, 2030, 2031, 4190, 4191, 6056, 6057, 6058, 6062, 6067, 6068, 6069, 6070, 6072, 6074, 6080, 6081, 6082, 6083, 6084, 6099, 6100, 6101, 6102, 6103, 6104, 6105, 6106, 6107, 6108, 6109, 6110, 6111, 6112, 6117, 6118, 6194, 6195, 6196, 6198, 6200, 6202]
def wsJ0_getBytes_840e7 : List Cond := .code yJ0_getBytes_840e7 cJ0_getBytes_840e7 4 none :: (wk ix_J0_getBytes_840e7)
theorem wm_J0_getBytes_840e7 : ∀ w ∈ wk ix_J0_getBytes_840e7, w ∈ wsJ0_getBytes_840e7 := fun _ h => List.mem_cons_of_mem _ (h)
theorem wc_J0_getBytes_840e7 : wk_at 6116 = some (.code yJ0_getBytes_840e7 cJ0_getBytes_840e7 4 none) := by decide +kernel
theorem wq_J0_getBytes_840e7 : (wk ix_J0_getBytes_840e7).all goodWord = true := wk_good gdx_ok (by decide +kernel)
def ix_J5_putStringAt_47b60 : List Nat := [2, 5, 2013, 2020, 2027, 2029, 2030, 2031, 2115, 4190, 4191, 5231, 5233, 5234, 5235, 5236, 5237, 5238, 5239, 6000, 6001, 6003, 6004, 6006, 6008, 6010, 6045, 6046, 6047, 6048, 6049, 6056, 6057, 6058, 6062, 6067, 6068, 6069, 6070, 6072, 6074, 6080, 6081, 6082, 6083, 6084, 6089, 6091, 6092, 6093, 6094, 6096, 6097, 6098, 6099, 6100, 6101, 6102, 6103, 6104, 6105, 6106, 6107, 6108, 6109, 6110, 6111, 6112, 6113, 6114, 6115, 6116, 6117, 6118, 6194, 6195, 6196, 6198, 6200, 6202, 6221, 6222]
def wsJ5_putStringAt_47b60 : List Cond := .code yJ5_putStringAt_47b60 cJ5_putStringAt_47b60 3 none :: (wk ix_J5_putStringAt_47b60)
theorem wm_J5_putStringAt_47b60 : ∀ w ∈ wk ix_J5_putStringAt_47b60, w ∈ wsJ5_putStringAt_47b60 := fun _ h => List.mem_cons_of_mem _ (h)
theorem wc_J5_putStringAt_47b60 : wk_at 6088 = some (.code yJ5_putStringAt_47b60 cJ5_putStringAt_47b60 3 none) := by decide +kernel
theorem wq_J5_putStringAt_47b60 : (wk ix_J5_putStringAt_47b60).all goodWord = true := wk_good gdx_ok (by decide +kernel)
def ix_J5_append_cf1ce : List Nat := [0, 1, 2, 3, 4, 5, 2013, 2017, 2018, 2019, 2020, 2027, 2029, 2030, 2031, 2115, 3138, 3139, 3144, 3145, 4153, 4154, 4155, 4156, 4157, 4158, 4159, 4188, 4189, 4190, 4191, 5231, 5233, 5234, 5235, 5236, 5237, 5238, 5239, 6000, 6001, 6003, 6004, 6006, 6008, 6010, 6021, 6023, 6024, 6025, 6027, 6028, 6029, 6031, 6032, 6033, 6034, 6035, 6036, 6037, 6038, 6039, 6040, 6041, 6042, 6044, 6045, 6046, 6047, 6048, 6049, 6050, 6051, 6052, 6053, 6054, 6055, 6056, 6057, 6058, 6059, 6060, 6061, 6062, 6064, 6065, 6066, 6067, 6068, 6069, 6070, 6072, 6074, 6076, 6077, 6078, 6079, 6080, 6081, 6082, 6083, 6084, 6085, 6087, 6088, 6089, 6091, 6092, 6093, 6094, 6096, 6097, 6098, 6099, 6100, 6101, 6102, 6103, 6104, 6105, 6106, 6107, 6108, 6109, 6110, 6111, 6112, 6113, 6114, 6115, 6116, 6117, 6118, 6194, 6195, 6196, 6198, 6200, 6202, 6217, 6218, 6219, 6220, 6221, 6222]
def wsJ5_append_cf1ce : List Cond := .code yJ5_append_cf1ce cJ5_append_cf1ce 3 (some (.object "java/lang/AbstractStringBuilder")) :: (wk ix_J5_append_cf1ce)
theorem wm_J5_append_cf1ce : ∀ w ∈ wk ix_J5_append_cf1ce, w ∈ wsJ5_append_cf1ce := fun _ h => List.mem_cons_of_mem _ (h)
theorem wc_J5_append_cf1ce : wk_at 6020 = some (.code yJ5_append_cf1ce cJ5_append_cf1ce 3 (some (.object "java/lang/AbstractStringBuilder"))) := by decide +kernel
theorem wq_J5_append_cf1ce : (wk ix_J5_append_cf1ce).all goodWord = true := wk_good gdx_ok (by decide +kernel)
def ix_J6_stringSize_0f7a4 : List Nat := []
def wsJ6_stringSize_0f7a4 : List Cond := .code yJ6_stringSize_0f7a4 cJ6_stringSize_0f7a4 4 (some .int) :: (wk ix_J6_stringSize_0f7a4)
theorem wm_J6_stringSize_0f7a4 : ∀ w ∈ wk ix_J6_stringSize_0f7a4, w ∈ wsJ6_stringSize_0f7a4 := fun _ h => List.mem_cons_of_mem _ (h)
theorem wc_J6_stringSize_0f7a4 : wk_at 6128 = some (.code yJ6_stringSize_0f7a4 cJ6_stringSize_0f7a4 4 (some .int)) := by decide +kernel
theorem wq_J6_stringSize_0f7a4 : (wk ix_J6_stringSize_0f7a4).all goodWord = true := wk_good gdx_ok (by decide +kernel)
def ix_J6_getChars_ba4f3 : List Nat := [6132, 6134]
def wsJ6_getChars_ba4f3 : List Cond := .code yJ6_getChars_ba4f3 cJ6_getChars_ba4f3 7 (some .int) :: (wk ix_J6_getChars_ba4f3)
theorem wm_J6_getChars_ba4f3 : ∀ w ∈ wk ix_J6_getChars_ba4f3, w ∈ wsJ6_getChars_ba4f3 := fun _ h => List.mem_cons_of_mem _ (h)
theorem wc_J6_getChars_ba4f3 : wk_at 6131 = some (.code yJ6_getChars_ba4f3 cJ6_getChars_ba4f3 7 (some .int)) := by decide +kernel
theorem wq_J6_getChars_ba4f3 : (wk ix_J6_getChars_ba4f3).all goodWord = true := wk_good gdx_ok (by decide +kernel)
def ix_J2_getChars_ba4f3 : List Nat := [2030, 6056, 6057, 6058, 6067, 6068, 6069, 6070, 6072, 6074, 6142, 6143]
def wsJ2_getChars_ba4f3 : List Cond := .code yJ2_getChars_ba4f3 cJ2_getChars_ba4f3 7 (some .int) :: (wk ix_J2_getChars_ba4f3)
theorem wm_J2_getChars_ba4f3 : ∀ w ∈ wk ix_J2_getChars_ba4f3, w ∈ wsJ2_getChars_ba4f3 := fun _ h => List.mem_cons_of_mem _ (h)
theorem wc_J2_getChars_ba4f3 : wk_at 6141 = some (.code yJ2_getChars_ba4f3 cJ2_getChars_ba4f3 7 (some .int)) := by decide +kernel
theorem wq_J2_getChars_ba4f3 : (wk ix_J2_getChars_ba4f3).all goodWord = true := wk_good gdx_ok (by decide +kernel)
def ix_J2_getChars_46870 : List Nat := [2013, 2029, 2030, 6053, 6054, 6055, 6056, 6057, 6058, 6059, 6060, 6061, 6062, 6064, 6065, 6066, 6067, 6068, 6069, 6070, 6072, 6074, 6139, 6140, 6141, 6142, 6143]
def wsJ2_getChars_46870 : List Cond := .code yJ2_getChars_46870 cJ2_getChars_46870 5 (some .int) :: (wk ix_J2_getChars_46870)
theorem wm_J2_getChars_46870 : ∀ w ∈ wk ix_J2_getChars_46870, w ∈ wsJ2_getChars_46870 := fun _ h => List.mem_cons_of_mem _ (h)
theorem wc_J2_getChars_46870 : wk_at 6138 = some (.code yJ2_getChars_46870 cJ2_getChars_46870 5 (some .int)) := by decide +kernel
theorem wq_J2_getChars_46870 : (wk ix_J2_getChars_46870).all goodWord = true := wk_good gdx_ok (by decide +kernel)
def ix_J5_append_c97b9 : List Nat := [0, 1, 2013, 2017, 2018, 2019, 2020, 2027, 2029, 2030, 2032, 2115, 3138, 3139, 3144, 3145, 4153, 4154, 4155, 4156, 4157, 4158, 4159, 4188, 4189, 4190, 4191, 5231, 6000, 6001, 6003, 6004, 6006, 6008, 6010, 6025, 6027, 6028, 6029, 6031, 6032, 6033, 6034, 6035, 6036, 6037, 6038, 6039, 6040, 6041, 6042, 6044, 6045, 6046, 6047, 6048, 6049, 6053, 6054, 6055, 6056, 6057, 6058, 6059, 6060, 6061, 6062, 6064, 6065, 6066, 6067, 6068, 6069, 6070, 6072, 6074, 6126, 6127, 6128, 6129, 6130, 6131, 6132, 6134, 6136, 6137, 6138, 6139, 6140, 6141, 6142, 6143, 6218, 6219]
def wsJ5_append_c97b9 : List Cond := .code yJ5_append_c97b9 cJ5_append_c97b9 4 (some (.object "java/lang/AbstractStringBuilder")) :: (wk ix_J5_append_c97b9)
theorem wm_J5_append_c97b9 : ∀ w ∈ wk ix_J5_append_c97b9, w ∈ wsJ5_append_c97b9 := fun _ h => List.mem_cons_of_mem _ (h)
theorem wc_J5_append_c97b9 : wk_at 6125 = some (.code yJ5_append_c97b9 cJ5_append_c97b9 4 (some (.object "java/lang/AbstractStringBuilder"))) := by decide +kernel
theorem wq_J5_append_c97b9 : (wk ix_J5_append_c97b9).all goodWord = true := wk_good gdx_ok (by decide +kernel)
def ix_J5_getValue_6d5f1 : List Nat := [6000, 6004, 6006, 6008, 6010]
def wsJ5_getValue_6d5f1 : List Cond := .code yJ5_getValue_6d5f1 cJ5_getValue_6d5f1 1 (some (.array .byte)) :: (wk ix_J5_getValue_6d5f1)
theorem wm_J5_getValue_6d5f1 : ∀ w ∈ wk ix_J5_getValue_6d5f1, w ∈ wsJ5_getValue_6d5f1 := fun _ h => List.mem_cons_of_mem _ (h)
theorem wc_J5_getValue_6d5f1 : wk_at 6162 = some (.code yJ5_getValue_6d5f1 cJ5_getValue_6d5f1 1 (some (.array .byte))) := by decide +kernel
theorem wq_J5_getValue_6d5f1 : (wk ix_J5_getValue_6d5f1).all goodWord = true := wk_good gdx_ok (by decide +kernel)
def ix_J9_abs_0f7a4 : List Nat := []
def wsJ9_abs_0f7a4 : List Cond := .code yJ9_abs_0f7a4 cJ9_abs_0f7a4 1 (some .int) :: (wk ix_J9_abs_0f7a4)
theorem wm_J9_abs_0f7a4 : ∀ w ∈ wk ix_J9_abs_0f7a4, w ∈ wsJ9_abs_0f7a4 := fun _ h => List.mem_cons_of_mem _ (h)
theorem wc_J9_abs_0f7a4 : wk_at 3081 = some (.code yJ9_abs_0f7a4 cJ9_abs_0f7a4 1 (some .int)) := by decide +kernel
theorem wq_J9_abs_0f7a4 : (wk ix_J9_abs_0f7a4).all goodWord = true := wk_good gdx_ok (by decide +kernel)
def ix_J9_max_7cf53 : List Nat := []
def wsJ9_max_7cf53 : List Cond := .code yJ9_max_7cf53 cJ9_max_7cf53 2 (some .int) :: (wk ix_J9_max_7cf53)
theorem wm_J9_max_7cf53 : ∀ w ∈ wk ix_J9_max_7cf53, w ∈ wsJ9_max_7cf53 := fun _ h => List.mem_cons_of_mem _ (h)
theorem wc_J9_max_7cf53 : wk_at 3145 = some (.code yJ9_max_7cf53 cJ9_max_7cf53 2 (some .int)) := by decide +kernel
theorem wq_J9_max_7cf53 : (wk ix_J9_max_7cf53).all goodWord = true := wk_good gdx_ok (by decide +kernel)
def ix_J9_min_7cf53 : List Nat := []
def wsJ9_min_7cf53 : List Cond := .code yJ9_min_7cf53 cJ9_min_7cf53 2 (some .int) :: (wk ix_J9_min_7cf53)
theorem wm_J9_min_7cf53 : ∀ w ∈ wk ix_J9_min_7cf53, w ∈ wsJ9_min_7cf53 := fun _ h => List.mem_cons_of_mem _ (h)
theorem wc_J9_min_7cf53 : wk_at 3139 = some (.code yJ9_min_7cf53 cJ9_min_7cf53 2 (some .int)) := by decide +kernel
theorem wq_J9_min_7cf53 : (wk ix_J9_min_7cf53).all goodWord = true := wk_good gdx_ok (by decide +kernel)
def ix_J4_length_8abf5 : List Nat := [2027, 6003, 6004, 6006, 6008, 6010, 6012, 6164, 6165, 6169, 6170]
def wsJ4_length_8abf5 : List Cond := .code yJ4_length_8abf5 cJ4_length_8abf5 1 (some .int) :: (wk ix_J4_length_8abf5)
theorem wm_J4_length_8abf5 : ∀ w ∈ wk ix_J4_length_8abf5, w ∈ wsJ4_length_8abf5 := fun _ h => List.mem_cons_of_mem _ (h)
theorem wc_J4_length_8abf5 : wk_at 6168 = some (.code yJ4_length_8abf5 cJ4_length_8abf5 1 (some .int)) := by decide +kernel
theorem wq_J4_length_8abf5 : (wk ix_J4_length_8abf5).all goodWord = true := wk_good gdx_ok (by decide +kernel)
def ix_J7_checkLength_df160 : List Nat := []
def wsJ7_checkLength_df160 : List Cond := .code yJ7_checkLength_df160 cJ7_checkLength_df160 2 none :: (wk ix_J7_checkLength_df160)
theorem wm_J7_checkLength_df160 : ∀ w ∈ wk ix_J7_checkLength_df160, w ∈ wsJ7_checkLength_df160 := fun _ h => List.mem_cons_of_mem _ (h)
theorem wc_J7_checkLength_df160 : wk_at 6180 = some (.code yJ7_checkLength_df160 cJ7_checkLength_df160 2 none) := by decide +kernel
theorem wq_J7_checkLength_df160 : (wk ix_J7_checkLength_df160).all goodWord = true := wk_good gdx_ok (by decide +kernel)
def ix_J7_copyOfRangeByte_39247 : List Nat := [2018, 2019, 2020, 2115, 3138, 3139, 4188, 4189, 4190, 4191, 6178, 6179, 6180]
def wsJ7_copyOfRangeByte_39247 : List Cond := .code yJ7_copyOfRangeByte_39247 cJ7_copyOfRangeByte_39247 5 (some (.array .byte)) :: (wk ix_J7_copyOfRangeByte_39247)
theorem wm_J7_copyOfRangeByte_39247 : ∀ w ∈ wk ix_J7_copyOfRangeByte_39247, w ∈ wsJ7_copyOfRangeByte_39247 := fun _ h => List.mem_cons_of_mem _ (h)
theorem wc_J7_copyOfRangeByte_39247 : wk_at 6177 = some (.code yJ7_copyOfRangeByte_39247 cJ7_copyOfRangeByte_39247 5 (some (.array .byte))) := by decide +kernel
theorem wq_J7_copyOfRangeByte_39247 : (wk ix_J7_copyOfRangeByte_39247).all goodWord = true := wk_good gdx_ok (by decide +kernel)
def ix_J7_copyOfRange_39247 : List Nat := [2018, 2019, 2020, 2115, 3138, 3139, 4188, 4189, 4190, 4191, 6038, 6039, 6040, 6041, 6042, 6044, 6175, 6176, 6177, 6178, 6179, 6180]
def wsJ7_copyOfRange_39247 : List Cond := .code yJ7_copyOfRange_39247 cJ7_copyOfRange_39247 3 (some (.array .byte)) :: (wk ix_J7_copyOfRange_39247)
theorem wm_J7_copyOfRange_39247 : ∀ w ∈ wk ix_J7_copyOfRange_39247, w ∈ wsJ7_copyOfRange_39247 := fun _ h => List.mem_cons_of_mem _ (h)
theorem wc_J7_copyOfRange_39247 : wk_at 6174 = some (.code yJ7_copyOfRange_39247 cJ7_copyOfRange_39247 3 (some (.array .byte))) := by decide +kernel
theorem wq_J7_copyOfRange_39247 : (wk ix_J7_copyOfRange_39247).all goodWord = true := wk_good gdx_ok (by decide +kernel)
def ix_J2_getChar_3b067 : List Nat := [2030, 6056, 6057, 6058, 6070, 6072, 6074]
def wsJ2_getChar_3b067 : List Cond := .code yJ2_getChar_3b067 cJ2_getChar_3b067 2 (some .char) :: (wk ix_J2_getChar_3b067)
theorem wm_J2_getChar_3b067 : ∀ w ∈ wk ix_J2_getChar_3b067, w ∈ wsJ2_getChar_3b067 := fun _ h => List.mem_cons_of_mem _ (h)
theorem wc_J2_getChar_3b067 : wk_at 6189 = some (.code yJ2_getChar_3b067 cJ2_getChar_3b067 2 (some .char)) := by decide +kernel
theorem wq_J2_getChar_3b067 : (wk ix_J2_getChar_3b067).all goodWord = true := wk_good gdx_ok (by decide +kernel)
def ix_J2_compress_5af95 : List Nat := [2013, 2029, 2030, 6056, 6057, 6058, 6062, 6070, 6072, 6074, 6104, 6105, 6106, 6107, 6108, 6109, 6110, 6111, 6112, 6187, 6188, 6189]
def wsJ2_compress_5af95 : List Cond := .code yJ2_compress_5af95 cJ2_compress_5af95 7 (some .int) :: (wk ix_J2_compress_5af95)
theorem wm_J2_compress_5af95 : ∀ w ∈ wk ix_J2_compress_5af95, w ∈ wsJ2_compress_5af95 := fun _ h => List.mem_cons_of_mem _ (h)
theorem wc_J2_compress_5af95 : wk_at 6186 = some (.code yJ2_compress_5af95 cJ2_compress_5af95 7 (some .int)) := by decide +kernel
theorem wq_J2_compress_5af95 : (wk ix_J2_compress_5af95).all goodWord = true := wk_good gdx_ok (by decide +kernel)
def ix_J2_compress_39247 : List Nat := [2013, 2018, 2019, 2020, 2029, 2030, 2115, 3138, 3139, 4188, 4189, 4190, 4191, 5236, 5237, 5238, 5239, 6038, 6039, 6040, 6041, 6042, 6044, 6056, 6057, 6058, 6062, 6070, 6072, 6074, 6104, 6105, 6106, 6107, 6108, 6109, 6110, 6111, 6112, 6173, 6174, 6175, 6176, 6177, 6178, 6179, 6180, 6184, 6185, 6186, 6187, 6188, 6189, 6190]
def wsJ2_compress_39247 : List Cond := .code yJ2_compress_39247 cJ2_compress_39247 6 (some (.array .byte)) :: (wk ix_J2_compress_39247)
theorem wm_J2_compress_39247 : ∀ w ∈ wk ix_J2_compress_39247, w ∈ wsJ2_compress_39247 := fun _ h => List.mem_cons_of_mem _ (h)
theorem wc_J2_compress_39247 : wk_at 6183 = some (.code yJ2_compress_39247 cJ2_compress_39247 6 (some (.array .byte))) := by decide +kernel
theorem wq_J2_compress_39247 : (wk ix_J2_compress_39247).all goodWord = true := wk_good gdx_ok (by decide +kernel)
def ix_J2_coderFromArrayLen_85cad : List Nat := []
def wsJ2_coderFromArrayLen_85cad : List Cond := .code yJ2_coderFromArrayLen_85cad cJ2_coderFromArrayLen_85cad 2 (some .byte) :: (wk ix_J2_coderFromArrayLen_85cad)
theorem wm_J2_coderFromArrayLen_85cad : ∀ w ∈ wk ix_J2_coderFromArrayLen_85cad, w ∈ wsJ2_coderFromArrayLen_85cad := fun _ h => List.mem_cons_of_mem _ (h)
theorem wc_J2_coderFromArrayLen_85cad : wk_at 6193 = some (.code yJ2_coderFromArrayLen_85cad cJ2_coderFromArrayLen_85cad 2 (some .byte)) := by decide +kernel
theorem wq_J2_coderFromArrayLen_85cad : (wk ix_J2_coderFromArrayLen_85cad).all goodWord = true := wk_good gdx_ok (by decide +kernel)
def ix_J0_init_db425 : List Nat := [2013, 2018, 2019, 2020, 2027, 2028, 2029, 2030, 2072, 2073, 2115, 3138, 3139, 4188, 4189, 4190, 4191, 5231, 5236, 5237, 5238, 5239, 6000, 6001, 6002, 6003, 6004, 6006, 6008, 6010, 6012, 6038, 6039, 6040, 6041, 6042, 6044, 6046, 6047, 6048, 6049, 6056, 6057, 6058, 6062, 6070, 6072, 6074, 6084, 6104, 6105, 6106, 6107, 6108, 6109, 6110, 6111, 6112, 6157, 6158, 6159, 6160, 6161, 6162, 6163, 6164, 6165, 6166, 6167, 6168, 6169, 6170, 6171, 6172, 6173, 6174, 6175, 6176, 6177, 6178, 6179, 6180, 6181, 6182, 6183, 6184, 6185, 6186, 6187, 6188, 6189, 6190, 6191, 6192, 6193, 6194, 6195, 6196, 6198, 6200, 6202]
def wsJ0_init_db425 : List Cond := .code yJ0_init_db425 cJ0_init_db425 5 none :: (wk ix_J0_init_db425)
theorem wm_J0_init_db425 : ∀ w ∈ wk ix_J0_init_db425, w ∈ wsJ0_init_db425 := fun _ h => List.mem_cons_of_mem _ (h)
theorem wc_J0_init_db425 : wk_at 6156 = some (.code yJ0_init_db425 cJ0_init_db425 5 none) := by decide +kernel
theorem wq_J0_init_db425 : (wk ix_J0_init_db425).all goodWord = true := wk_good gdx_ok (by decide +kernel)
def ix_J0_init_81219 : List Nat := [2013, 2018, 2019, 2020, 2027, 2028, 2029, 2030, 2072, 2073, 2115, 3138, 3139, 4188, 4189, 4190, 4191, 5231, 5236, 5237, 5238, 5239, 6000, 6001, 6002, 6003, 6004, 6006, 6008, 6010, 6012, 6038, 6039, 6040, 6041, 6042, 6044, 6046, 6047, 6048, 6049, 6056, 6057, 6058, 6062, 6070, 6072, 6074, 6084, 6104, 6105, 6106, 6107, 6108, 6109, 6110, 6111, 6112, 6154, 6155, 6156, 6157, 6158, 6159, 6160, 6161, 6162, 6163, 6164, 6165, 6166, 6167, 6168, 6169, 6170, 6171, 6172, 6173, 6174, 6175, 6176, 6177, 6178, 6179, 6180, 6181, 6182, 6183, 6184, 6185, 6186, 6187, 6188, 6189, 6190, 6191, 6192, 6193, 6194, 6195, 6196, 6198, 6200, 6202]
def wsJ0_init_81219 : List Cond := .code yJ0_init_81219 cJ0_init_81219 2 none :: (wk ix_J0_init_81219)
theorem wm_J0_init_81219 : ∀ w ∈ wk ix_J0_init_81219, w ∈ wsJ0_init_81219 := fun _ h => List.mem_cons_of_mem _ (h)
theorem wc_J0_init_81219 : wk_at 6153 = some (.code yJ0_init_81219 cJ0_init_81219 2 none) := by decide +kernel
theorem wq_J0_init_81219 : (wk ix_J0_init_81219).all goodWord = true := wk_good gdx_ok (by decide +kernel)
def ix_J4_init_da8c8 : List Nat := [2027, 2030, 2072, 2073, 2115, 5227, 5228, 5229, 5230, 5231, 5233, 5234, 5235, 5236, 5237, 5238, 5239, 6000, 6001, 6004, 6006, 6008, 6010]
def wsJ4_init_da8c8 : List Cond := .code yJ4_init_da8c8 cJ4_init_da8c8 1 none :: (wk ix_J4_init_da8c8)
theorem wm_J4_init_da8c8 : ∀ w ∈ wk ix_J4_init_da8c8, w ∈ wsJ4_init_da8c8 := fun _ h => List.mem_cons_of_mem _ (h)
theorem wc_J4_init_da8c8 : wk_at 5226 = some (.code yJ4_init_da8c8 cJ4_init_da8c8 1 none) := by decide +kernel
theorem wq_J4_init_da8c8 : (wk ix_J4_init_da8c8).all goodWord = true := wk_good gdx_ok (by decide +kernel)
def ix_J4_append_15ec4 : List Nat := [0, 1, 2, 3, 4, 5, 2013, 2017, 2018, 2019, 2020, 2027, 2029, 2030, 2031, 2115, 3138, 3139, 3144, 3145, 4153, 4154, 4155, 4156, 4157, 4158, 4159, 4188, 4189, 4190, 4191, 5231, 5233, 5234, 5235, 5236, 5237, 5238, 5239, 6000, 6001, 6003, 6004, 6006, 6008, 6010, 6012, 6018, 6019, 6020, 6021, 6023, 6024, 6025, 6027, 6028, 6029, 6031, 6032, 6033, 6034, 6035, 6036, 6037, 6038, 6039, 6040, 6041, 6042, 6044, 6045, 6046, 6047, 6048, 6049, 6050, 6051, 6052, 6053, 6054, 6055, 6056, 6057, 6058, 6059, 6060, 6061, 6062, 6064, 6065, 6066, 6067, 6068, 6069, 6070, 6072, 6074, 6076, 6077, 6078, 6079, 6080, 6081, 6082, 6083, 6084, 6085, 6087, 6088, 6089, 6091, 6092, 6093, 6094, 6096, 6097, 6098, 6099, 6100, 6101, 6102, 6103, 6104, 6105, 6106, 6107, 6108, 6109, 6110, 6111, 6112, 6113, 6114, 6115, 6116, 6117, 6118, 6194, 6195, 6196, 6198, 6200, 6202, 6216, 6217, 6218, 6219, 6220, 6221, 6222]
def wsJ4_append_15ec4 : List Cond := .code yJ4_append_15ec4 cJ4_append_15ec4 2 (some (.object "java/lang/StringBuilder")) :: (wk ix_J4_append_15ec4)
theorem wm_J4_append_15ec4 : ∀ w ∈ wk ix_J4_append_15ec4, w ∈ wsJ4_append_15ec4 := fun _ h => List.mem_cons_of_mem _ (h)
theorem wc_J4_append_15ec4 : wk_at 6017 = some (.code yJ4_append_15ec4 cJ4_append_15ec4 2 (some (.object "java/lang/StringBuilder"))) := by decide +kernel
theorem wq_J4_append_15ec4 : (wk ix_J4_append_15ec4).all goodWord = true := wk_good gdx_ok (by decide +kernel)
def ix_J4_append_bf812 : List Nat := [0, 1, 2013, 2017, 2018, 2019, 2020, 2027, 2029, 2030, 2032, 2115, 3138, 3139, 3144, 3145, 4153, 4154, 4155, 4156, 4157, 4158, 4159, 4188, 4189, 4190, 4191, 5231, 6000, 6001, 6003, 6004, 6006, 6008, 6010, 6012, 6025, 6027, 6028, 6029, 6031, 6032, 6033, 6034, 6035, 6036, 6037, 6038, 6039, 6040, 6041, 6042, 6044, 6045, 6046, 6047, 6048, 6049, 6053, 6054, 6055, 6056, 6057, 6058, 6059, 6060, 6061, 6062, 6064, 6065, 6066, 6067, 6068, 6069, 6070, 6072, 6074, 6123, 6124, 6125, 6126, 6127, 6128, 6129, 6130, 6131, 6132, 6134, 6136, 6137, 6138, 6139, 6140, 6141, 6142, 6143, 6218, 6219, 6223]
def wsJ4_append_bf812 : List Cond := .code yJ4_append_bf812 cJ4_append_bf812 2 (some (.object "java/lang/StringBuilder")) :: (wk ix_J4_append_bf812)
theorem wm_J4_append_bf812 : ∀ w ∈ wk ix_J4_append_bf812, w ∈ wsJ4_append_bf812 := fun _ h => List.mem_cons_of_mem _ (h)
theorem wc_J4_append_bf812 : wk_at 6122 = some (.code yJ4_append_bf812 cJ4_append_bf812 2 (some (.object "java/lang/StringBuilder"))) := by decide +kernel
theorem wq_J4_append_bf812 : (wk ix_J4_append_bf812).all goodWord = true := wk_good gdx_ok (by decide +kernel)
def ix_J4_toString_0e30d : List Nat := [2013, 2018, 2019, 2020, 2027, 2028, 2029, 2030, 2072, 2073, 2115, 3138, 3139, 4188, 4189, 4190, 4191, 5231, 5236, 5237, 5238, 5239, 6000, 6001, 6002, 6003, 6004, 6006, 6008, 6010, 6012, 6038, 6039, 6040, 6041, 6042, 6044, 6046, 6047, 6048, 6049, 6056, 6057, 6058, 6062, 6070, 6072, 6074, 6084, 6104, 6105, 6106, 6107, 6108, 6109, 6110, 6111, 6112, 6149, 6150, 6151, 6152, 6153, 6154, 6155, 6156, 6157, 6158, 6159, 6160, 6161, 6162, 6163, 6164, 6165, 6166, 6167, 6168, 6169, 6170, 6171, 6172, 6173, 6174, 6175, 6176, 6177, 6178, 6179, 6180, 6181, 6182, 6183, 6184, 6185, 6186, 6187, 6188, 6189, 6190, 6191, 6192, 6193, 6194, 6195, 6196, 6198, 6200, 6202]
def wsJ4_toString_0e30d : List Cond := .code yJ4_toString_0e30d cJ4_toString_0e30d 1 (some (.object "java/lang/String")) :: (wk ix_J4_toString_0e30d)
theorem wm_J4_toString_0e30d : ∀ w ∈ wk ix_J4_toString_0e30d, w ∈ wsJ4_toString_0e30d := fun _ h => List.mem_cons_of_mem _ (h)
theorem wc_J4_toString_0e30d : wk_at 6148 = some (.code yJ4_toString_0e30d cJ4_toString_0e30d 1 (some (.object "java/lang/String"))) := by decide +kernel
theorem wq_J4_toString_0e30d : (wk ix_J4_toString_0e30d).all goodWord = true := wk_good gdx_ok (by decide +kernel)
def ix_Jx4a65c_outOfBoundsMsg_b52d3 : List Nat := [0, 1, 2, 3, 4, 5, 2013, 2017, 2018, 2019, 2020, 2027, 2028, 2029, 2030, 2031, 2032, 2072, 2073, 2115, 3138, 3139, 3144, 3145, 3188, 3192, 3194, 3196, 4153, 4154, 4155, 4156, 4157, 4158, 4159, 4188, 4189, 4190, 4191, 5222, 5223, 5224, 5225, 5226, 5227, 5228, 5229, 5230, 5231, 5233, 5234, 5235, 5236, 5237, 5238, 5239, 6000, 6001, 6002, 6003, 6004, 6006, 6008, 6010, 6012, 6014, 6015, 6016, 6017, 6018, 6019, 6020, 6021, 6023, 6024, 6025, 6027, 6028, 6029, 6031, 6032, 6033, 6034, 6035, 6036, 6037, 6038, 6039, 6040, 6041, 6042, 6044, 6045, 6046, 6047, 6048, 6049, 6050, 6051, 6052, 6053, 6054, 6055, 6056, 6057, 6058, 6059, 6060, 6061, 6062, 6064, 6065, 6066, 6067, 6068, 6069, 6070, 6072, 6074, 6076, 6077, 6078, 6079, 6080, 6081, 6082, 6083, 6084, 6085, 6087, 6088, 6089, 6091, 6092, 6093, 6094, 6096, 6097, 6098, 6099, 6100, 6101, 6102, 6103, 6104, 6105, 6106, 6107, 6108, 6109, 6110, 6111, 6112, 6113, 6114, 6115, 6116, 6117, 6118, 6119, 6120, 6121, 6122, 6123, 6124, 6125, 6126, 6127, 6128, 6129, 6130, 6131, 6132, 6134, 6136, 6137, 6138, 6139, 6140, 6141, 6142, 6143, 6145, 6146, 6147, 6148, 6149, 6150, 6151, 6152, 6153, 6154, 6155, 6156, 6157, 6158, 6159, 6160, 6161, 6162, 6163, 6164, 6165, 6166, 6167, 6168, 6169, 6170, 6171, 6172, 6173, 6174, 6175, 6176, 6177, 6178, 6179, 6180, 6181, 6182, 6183, 6184, 6185, 6186, 6187, 6188, 6189, 6190, 6191, 6192, 6193, 6194, 6195, 6196, 6198, 6200, 6202, 6216, 6217, 6218, 6219, 6220, 6221, 6222, 6223]
def wsJx4a65c_outOfBoundsMsg_b52d3 : List Cond := .code yJx4a65c_outOfBoundsMsg_b52d3 cJx4a65c_outOfBoundsMsg_b52d3 2 (some (.object "java/lang/String")) :: (wk ix_Jx4a65c_outOfBoundsMsg_b52d3)
theorem wm_Jx4a65c_outOfBoundsMsg_b52d3 : ∀ w ∈ wk ix_Jx4a65c_outOfBoundsMsg_b52d3, w ∈ wsJx4a65c_outOfBoundsMsg_b52d3 := fun _ h => List.mem_cons_of_mem _ (h)
theorem wc_Jx4a65c_outOfBoundsMsg_b52d3 : wk_at 5221 = some (.code yJx4a65c_outOfBoundsMsg_b52d3 cJx4a65c_outOfBoundsMsg_b52d3 2 (some (.object "java/lang/String"))) := by decide +kernel
theorem wq_Jx4a65c_outOfBoundsMsg_b52d3 : (wk ix_Jx4a65c_outOfBoundsMsg_b52d3).all goodWord = true := wk_good gdx_ok (by decide +kernel)
def ix_L_below : List Nat := [4044]
def wsL_below : List Cond := .code yL_below cL_below 2 (some .int) :: (wk ix_L_below)
theorem wm_L_below : ∀ w ∈ wk ix_L_below, w ∈ wsL_below := fun _ h => List.mem_cons_of_mem _ (h)
theorem wc_L_below : wk_at 4043 = some (.code yL_below cL_below 2 (some .int)) := by decide +kernel
theorem wq_L_below : (wk ix_L_below).all goodWord = true := wk_good gdx_ok (by decide +kernel)
def ix_L_cell : List Nat := [3162]
def wsL_cell : List Cond := .code yL_cell cL_cell 2 (some .int) :: (wk ix_L_cell)
theorem wm_L_cell : ∀ w ∈ wk ix_L_cell, w ∈ wsL_cell := fun _ h => List.mem_cons_of_mem _ (h)
theorem wc_L_cell : wk_at 3161 = some (.code yL_cell cL_cell 2 (some .int)) := by decide +kernel
theorem wq_L_cell : (wk ix_L_cell).all goodWord = true := wk_good gdx_ok (by decide +kernel)
def ix_L_night : List Nat := [1000, 1014, 1015, 1016, 1017, 1018, 1030, 1031, 1032, 2000, 2001, 2002, 2003, 2004, 2005, 2006, 2010, 2011, 2012, 2013, 2014, 2015, 2016, 2017, 2018, 2019, 2020, 2021, 2022, 2037, 2039, 2040, 2041, 2042, 2043, 2044, 2045, 2046, 2072, 2073, 2116, 2117, 2118, 2119, 2120, 2121, 2122, 2123, 2124, 2125, 2126, 2127, 2128, 2129, 2130, 2138, 2152, 2177, 2178, 2179, 2180, 2219, 3003, 3004, 3005, 3006, 3008, 3009, 3011, 3013, 3014, 3015, 3017, 3018, 3019, 3021, 3022, 3028, 3030, 3031, 3125, 3126, 3127, 3138, 3139, 3144, 3145, 3159, 3160, 3161, 3162, 3166, 3167, 3168, 3169, 3170, 3171, 3173, 3174, 3175, 3176, 3177, 3178, 3179, 3180, 3181, 3182, 3183, 3184, 3185, 3187, 3188, 3189, 3190, 3191, 3192, 3194, 3196, 3199, 3200, 3202, 3203, 3204, 3207, 3208, 3210, 3213, 3215, 3216, 3217, 3218, 3219, 3220, 3222, 3223, 3224, 3225, 3226, 3227, 3228, 3229, 3230, 3231, 3233, 3235, 3237, 3239, 4001, 4003, 4006, 4007, 4008, 4009, 4010, 4011, 4012, 4013, 4014, 4018, 4020, 4022, 4024, 4026, 4028, 4030, 4032, 4034, 4036, 4038, 4041, 4042, 4043, 4044, 4045, 4046, 4047, 4048, 4049, 4050, 4051, 4052, 4053, 4055, 4071, 4072, 4073, 4074, 4077, 4078, 4079, 4080, 4081, 4082, 4083, 4084, 4085, 4087, 4088, 4089, 4092, 4094, 4097, 4098, 4099, 4101, 4103, 4104, 4105, 4107, 4109, 4111, 4112, 4115, 4117, 4119, 4121, 4123, 4125, 4127, 4129, 4131, 4133, 4136, 4137, 4138, 4139, 4140, 4142, 4143, 4144, 4146, 4147, 4148, 4150, 4151, 4152, 4153, 4154, 4155, 4156, 4157, 4158, 4159, 4160, 4161, 4162, 4163, 4164, 4181, 4182, 4183, 4184, 4185, 4187, 4188, 4189, 4190, 4191, 4192, 4193, 4194, 4195, 4196, 4197, 4198, 4199, 4200, 4201, 4203, 4204, 4205, 4206, 4207, 4208, 4209, 4210, 4213, 4214, 4215, 4216, 4218, 4219, 4227, 4229, 4231, 4233, 4235, 4237, 4239, 5001, 5003, 5006, 5007, 5008, 5009, 5011, 5012, 5013, 5014, 5015, 5016, 5017, 5018, 5019, 5020, 5022, 5026, 5028, 5029, 5031, 5033, 5035, 5037, 5039, 5041, 5043, 5045, 7001]
def wsL_night : List Cond := .code yL_night cL_night 6 (some (.object "Lullabygate")) :: (wk ix_L_night ++ (vx_atS RX8 446 "java/lang/IndexOutOfBoundsException" ["java/lang/RuntimeException", "java/lang/Exception"]).filter goodWord ++ (vx_atS RX8 69 "java/lang/IllegalArgumentException" ["java/lang/RuntimeException", "java/lang/Exception"]).filter goodWord ++ (vx_atS RX8 79 "java/lang/IllegalStateException" ["java/lang/RuntimeException", "java/lang/Exception"]).filter goodWord)
theorem wm_L_night : ∀ w ∈ wk ix_L_night, w ∈ wsL_night := fun _ h => List.mem_cons_of_mem _ (List.mem_append_left _ (List.mem_append_left _ (List.mem_append_left _ (h))))
theorem wc_L_night : wk_at 3165 = some (.code yL_night cL_night 6 (some (.object "Lullabygate"))) := by decide +kernel
theorem wq_L_night : (wk ix_L_night).all goodWord = true := wk_good gdx_ok (by decide +kernel)
def ix_L_come : List Nat := [1000, 1002, 1003, 1004, 1005, 1007, 1008, 1009, 1010, 1011, 1018, 1019, 1031, 1032, 1043, 2000, 2001, 2004, 2010, 2011, 2012, 2013, 2014, 2015, 2016, 2017, 2018, 2019, 2020, 2021, 2022, 2024, 2026, 2033, 2034, 2035, 2036, 2037, 2039, 2041, 2042, 2043, 2044, 2045, 2046, 2072, 2073, 2116, 2117, 2118, 2119, 2120, 2121, 2122, 2123, 2124, 2125, 2126, 2127, 2128, 2129, 2130, 2131, 2132, 2133, 2134, 2136, 2137, 2138, 2139, 2141, 2142, 2143, 2145, 2146, 2147, 2149, 2150, 2151, 2152, 2177, 2178, 2179, 2180, 2182, 2183, 2184, 2185, 2186, 2188, 2189, 2190, 2192, 2193, 2194, 2196, 2197, 2198, 2200, 2201, 2202, 2204, 2205, 2219, 2224, 2225, 2226, 2227, 2228, 2229, 2234, 3025, 3026, 3027, 3028, 3030, 3031, 3033, 3034, 3035, 3036, 3037, 3038, 3039, 3040, 3041, 3042, 3043, 3044, 3045, 3047, 3048, 3049, 3050, 3051, 3052, 3053, 3054, 3055, 3056, 3057, 3058, 3059, 3060, 3061, 3062, 3063, 3064, 3065, 3066, 3076, 3077, 3078, 3125, 3126, 3127, 3138, 3139, 3144, 3145, 3185, 3187, 3188, 3190, 3191, 3192, 3194, 3196, 3206, 3208, 3210, 3221, 3229, 3230, 3231, 3233, 3235, 3237, 3239, 4001, 4003, 4007, 4008, 4009, 4010, 4011, 4012, 4015, 4016, 4017, 4018, 4020, 4022, 4024, 4026, 4028, 4030, 4032, 4034, 4036, 4038, 4041, 4042, 4043, 4044, 4055, 4090, 4091, 4092, 4094, 4098, 4099, 4100, 4101, 4102, 4103, 4104, 4105, 4106, 4108, 4112, 4113, 4114, 4115, 4117, 4119, 4121, 4123, 4125, 4127, 4129, 4131, 4133, 4144, 4146, 4147, 4148, 4150, 4151, 4152, 4153, 4154, 4155, 4156, 4157, 4158, 4159, 4160, 4161, 4162, 4163, 4164, 4181, 4182, 4183, 4184, 4185, 4187, 4188, 4189, 4190, 4191, 4192, 4193, 4209, 4211, 4212, 4214, 4215, 4217, 4218, 4219, 4220, 4221, 4222, 4223, 4225, 4226, 4227, 4229, 4231, 4233, 4235, 4237, 4239, 5001, 5003, 5016, 5017, 5021, 5025, 5026, 5027, 5028, 5031, 5033, 5035, 5037, 5039, 5041, 5043, 5045, 5067, 5090, 5095, 5097, 5099, 5142, 5143, 5144, 5145, 5146, 5147, 5148, 5149, 5150, 5151, 5152, 5154, 5156, 5157, 5158, 5160, 5162, 5197, 5198, 5199, 5200, 5201, 5202, 5205, 5206, 5207, 5208, 5209, 5210, 5211, 5212, 5213, 5215, 5216, 6206, 6207, 6208, 6209, 7001]
def wsL_come : List Cond := .code yL_come cL_come 8 none :: (wk ix_L_come ++ (vx_atS RX8 69 "java/lang/IllegalArgumentException" ["java/lang/RuntimeException", "java/lang/Exception"]).filter goodWord ++ (vx_atS RX8 446 "java/lang/IndexOutOfBoundsException" ["java/lang/RuntimeException", "java/lang/Exception"]).filter goodWord ++ (vx_atS RX8 79 "java/lang/IllegalStateException" ["java/lang/RuntimeException", "java/lang/Exception"]).filter goodWord)
theorem wm_L_come : ∀ w ∈ wk ix_L_come, w ∈ wsL_come := fun _ h => List.mem_cons_of_mem _ (List.mem_append_left _ (List.mem_append_left _ (List.mem_append_left _ (h))))
theorem wc_L_come : wk_at 5196 = some (.code yL_come cL_come 8 none) := by decide +kernel
theorem wq_L_come : (wk ix_L_come).all goodWord = true := wk_good gdx_ok (by decide +kernel)
def ix_L_isDone : List Nat := [1000, 1002, 1003, 1004, 1005, 1006, 1007, 1008, 1009, 1010, 1011, 1018, 1019, 1020, 1021, 1022, 1030, 1031, 1032, 1033, 1034, 1035, 1036, 1037, 1038, 1039, 1040, 1041, 1042, 1043, 2000, 2001, 2004, 2005, 2006, 2010, 2011, 2012, 2013, 2014, 2015, 2016, 2017, 2018, 2019, 2020, 2021, 2022, 2024, 2025, 2026, 2033, 2034, 2035, 2036, 2037, 2039, 2041, 2042, 2043, 2044, 2045, 2046, 2072, 2073, 2116, 2117, 2118, 2119, 2120, 2121, 2122, 2123, 2124, 2125, 2126, 2127, 2128, 2129, 2130, 2131, 2132, 2133, 2134, 2136, 2137, 2138, 2139, 2141, 2142, 2143, 2145, 2146, 2147, 2149, 2150, 2151, 2152, 2172, 2174, 2175, 2177, 2178, 2179, 2180, 2182, 2183, 2184, 2185, 2186, 2188, 2189, 2190, 2192, 2193, 2194, 2196, 2197, 2198, 2200, 2201, 2202, 2204, 2205, 2219, 2224, 2225, 2226, 2227, 2228, 2229, 2234, 3025, 3026, 3027, 3028, 3030, 3031, 3033, 3034, 3035, 3036, 3037, 3038, 3039, 3040, 3041, 3042, 3043, 3044, 3045, 3047, 3048, 3049, 3050, 3051, 3052, 3053, 3054, 3055, 3056, 3057, 3058, 3059, 3060, 3061, 3062, 3063, 3064, 3065, 3066, 3072, 3074, 3075, 3076, 3077, 3078, 3079, 3080, 3081, 3082, 3083, 3084, 3085, 3086, 3087, 3088, 3089, 3090, 3092, 3093, 3094, 3095, 3096, 3097, 3098, 3099, 3101, 3102, 3103, 3104, 3105, 3106, 3125, 3126, 3127, 3138, 3139, 3144, 3145, 3185, 3187, 3188, 3190, 3191, 3192, 3194, 3196, 3205, 3206, 3207, 3208, 3210, 3221, 3222, 3224, 3225, 3227, 3228, 3229, 3230, 3231, 3233, 3235, 3237, 3239, 4001, 4003, 4007, 4008, 4009, 4010, 4011, 4012, 4015, 4016, 4017, 4018, 4020, 4022, 4024, 4026, 4028, 4030, 4032, 4034, 4036, 4038, 4041, 4042, 4043, 4044, 4055, 4090, 4091, 4092, 4094, 4098, 4099, 4100, 4101, 4102, 4103, 4104, 4105, 4106, 4108, 4110, 4112, 4113, 4114, 4115, 4117, 4119, 4121, 4123, 4125, 4127, 4129, 4131, 4133, 4136, 4137, 4138, 4139, 4140, 4142, 4143, 4144, 4146, 4147, 4148, 4150, 4151, 4152, 4153, 4154, 4155, 4156, 4157, 4158, 4159, 4160, 4161, 4162, 4163, 4164, 4181, 4182, 4183, 4184, 4185, 4187, 4188, 4189, 4190, 4191, 4192, 4193, 4194, 4195, 4196, 4197, 4209, 4211, 4212, 4214, 4215, 4217, 4218, 4219, 4220, 4221, 4222, 4223, 4224, 4225, 4226, 4227, 4229, 4231, 4233, 4235, 4237, 4239, 5001, 5003, 5016, 5017, 5019, 5021, 5022, 5024, 5025, 5026, 5027, 5028, 5029, 5030, 5031, 5033, 5035, 5037, 5039, 5041, 5043, 5045, 5051, 5053, 5054, 5055, 5056, 5057, 5059, 5060, 5061, 5062, 5063, 5065, 5066, 5067, 5068, 5070, 5071, 5072, 5073, 5074, 5075, 5076, 5078, 5079, 5080, 5082, 5083, 5084, 5085, 5086, 5087, 5088, 5089, 5090, 5091, 5092, 5093, 5094, 5095, 5097, 5099, 5102, 5103, 5104, 5105, 5106, 5108, 5109, 5110, 5111, 5112, 5113, 5114, 5116, 5117, 5118, 5120, 5121, 5122, 5123, 5124, 5125, 5127, 5128, 5129, 5130, 5133, 5134, 5135, 5136, 5138, 5139, 5140, 5141, 5142, 5143, 5144, 5145, 5146, 5147, 5148, 5149, 5150, 5151, 5152, 5153, 5154, 5155, 5156, 5157, 5158, 5160, 5162, 5165, 5166, 5167, 5168, 5169, 5170, 5171, 5172, 5173, 5174, 5175, 5176, 5178, 5180, 5181, 5182, 5184, 5185, 5186, 5188, 5189, 5190, 5191, 5192, 5193, 5194, 5195, 5196, 5197, 5198, 5199, 5200, 5201, 5202, 5205, 5206, 5207, 5208, 5209, 5210, 5211, 5212, 5213, 5215, 5216, 6206, 6207, 6208, 6209, 7001]
def wsL_isDone : List Cond := .codeWith yL_isDone cL_isDone 6 (some .boolean) [(42, 228, 229, 97), (42, 228, 233, 99)] :: (wk ix_L_isDone ++ (vx_atS RX8 69 "java/lang/IllegalArgumentException" ["java/lang/RuntimeException", "java/lang/Exception"]).filter goodWord ++ (vx_atS RX8 79 "java/lang/IllegalStateException" ["java/lang/RuntimeException", "java/lang/Exception"]).filter goodWord ++ (vx_atS RX8 446 "java/lang/IndexOutOfBoundsException" ["java/lang/RuntimeException", "java/lang/Exception"]).filter goodWord)
theorem wm_L_isDone : ∀ w ∈ wk ix_L_isDone, w ∈ wsL_isDone := fun _ h => List.mem_cons_of_mem _ (List.mem_append_left _ (List.mem_append_left _ (List.mem_append_left _ (h))))
theorem wc_L_isDone : wk_at 5050 = some (.codeWith yL_isDone cL_isDone 6 (some .boolean) [(42, 228, 229, 97), (42, 228, 233, 99)]) := by decide +kernel
theorem wq_L_isDone : (wk ix_L_isDone).all goodWord = true := wk_good gdx_ok (by decide +kernel)
def ix_L_isSo : List Nat := [1000, 1002, 1003, 1004, 1005, 1006, 1007, 1008, 1009, 1010, 1011, 1014, 1015, 1016, 1017, 1018, 1019, 1020, 1021, 1022, 2001, 2004, 2006, 2010, 2011, 2012, 2013, 2015, 2016, 2018, 2022, 2024, 2033, 2034, 2035, 2036, 2037, 2039, 2041, 2042, 2043, 2044, 2045, 2046, 2116, 2117, 2118, 2119, 2120, 2121, 2122, 2123, 2124, 2125, 2126, 2127, 2128, 2129, 2130, 2131, 2132, 2133, 2134, 2136, 2137, 2138, 2139, 2141, 2142, 2143, 2145, 2146, 2147, 2149, 2150, 2151, 2152, 2168, 2169, 2170, 2171, 2172, 2174, 2175, 2177, 2178, 2179, 2180, 2182, 2183, 2184, 2185, 2186, 2188, 2189, 2190, 2192, 2193, 2194, 2196, 2197, 2198, 2200, 2201, 2202, 2204, 2205, 2219, 3003, 3004, 3005, 3006, 3008, 3009, 3011, 3013, 3014, 3015, 3017, 3018, 3019, 3021, 3022, 3025, 3026, 3027, 3028, 3030, 3031, 3033, 3034, 3035, 3036, 3037, 3038, 3039, 3040, 3041, 3042, 3043, 3044, 3045, 3047, 3048, 3049, 3050, 3051, 3052, 3053, 3054, 3055, 3056, 3057, 3058, 3059, 3060, 3061, 3062, 3063, 3064, 3065, 3066, 3069, 3070, 3071, 3072, 3074, 3075, 3076, 3077, 3078, 3079, 3080, 3081, 3082, 3083, 3084, 3085, 3086, 3087, 3088, 3089, 3090, 3092, 3093, 3094, 3095, 3096, 3097, 3098, 3099, 3101, 3102, 3103, 3104, 3105, 3106, 3187, 3188, 3192, 3194, 3196, 3206, 3208, 3210, 3221, 3222, 3223, 3224, 3225, 3227, 3228, 3229, 3230, 3231, 3233, 3235, 3237, 3239, 4001, 4003, 4007, 4008, 4009, 4010, 4011, 4012, 4015, 4016, 4017, 4018, 4020, 4022, 4024, 4026, 4028, 4030, 4032, 4034, 4036, 4038, 4049, 4090, 4091, 4092, 4094, 4098, 4099, 4100, 4101, 4102, 4103, 4104, 4106, 4108, 4112, 4113, 4114, 4115, 4117, 4119, 4121, 4123, 4125, 4127, 4129, 4131, 4133, 4209, 4214, 4215, 4217, 4219, 4221, 4223, 4224, 4225, 4226, 4227, 4229, 4231, 4233, 4235, 4237, 4239, 5001, 5003, 5016, 5017, 5019, 5021, 5022, 5023, 5025, 5026, 5027, 5028, 5029, 5031, 5033, 5035, 5037, 5039, 5041, 5043, 5045, 5090, 5095, 5097, 5099, 5153, 5155, 5157, 5158, 5160, 5162, 5198, 6213]
def wsL_isSo : List Cond := .code yL_isSo cL_isSo 8 (some .boolean) :: (wk ix_L_isSo ++ (vx_atS RX8 69 "java/lang/IllegalArgumentException" ["java/lang/RuntimeException", "java/lang/Exception"]).filter goodWord ++ (vx_atS RX8 446 "java/lang/IndexOutOfBoundsException" ["java/lang/RuntimeException", "java/lang/Exception"]).filter goodWord)
theorem wm_L_isSo : ∀ w ∈ wk ix_L_isSo, w ∈ wsL_isSo := fun _ h => List.mem_cons_of_mem _ (List.mem_append_left _ (List.mem_append_left _ (h)))
theorem wc_L_isSo : wk_at 6212 = some (.code yL_isSo cL_isSo 8 (some .boolean)) := by decide +kernel
theorem wq_L_isSo : (wk ix_L_isSo).all goodWord = true := wk_good gdx_ok (by decide +kernel)
def ix_L_law : List Nat := [1000, 1002, 1003, 1004, 1005, 1006, 1007, 1008, 1009, 1010, 1011, 1012, 1013, 1014, 1015, 1016, 1017, 1018, 1019, 1020, 1021, 1022, 1023, 1024, 1025, 1026, 1027, 1028, 1029, 1030, 1031, 1032, 1033, 1034, 1035, 1036, 1037, 1038, 1039, 1040, 1041, 1042, 1043, 2000, 2001, 2002, 2003, 2004, 2005, 2006, 2010, 2011, 2012, 2013, 2014, 2015, 2016, 2017, 2018, 2019, 2020, 2021, 2022, 2024, 2025, 2026, 2033, 2034, 2035, 2036, 2037, 2039, 2040, 2041, 2042, 2043, 2044, 2045, 2046, 2072, 2073, 2116, 2117, 2118, 2119, 2120, 2121, 2122, 2123, 2124, 2125, 2126, 2127, 2128, 2129, 2130, 2131, 2132, 2133, 2134, 2136, 2137, 2138, 2139, 2141, 2142, 2143, 2145, 2146, 2147, 2149, 2150, 2151, 2152, 2168, 2169, 2170, 2171, 2172, 2174, 2175, 2177, 2178, 2179, 2180, 2182, 2183, 2184, 2185, 2186, 2188, 2189, 2190, 2192, 2193, 2194, 2196, 2197, 2198, 2200, 2201, 2202, 2204, 2205, 2207, 2208, 2209, 2210, 2211, 2213, 2214, 2215, 2217, 2218, 2219, 2220, 2221, 2222, 2223, 2224, 2225, 2226, 2227, 2228, 2229, 2230, 2231, 2232, 2233, 2234, 2235, 2236, 2237, 2238, 2239, 3000, 3001, 3002, 3003, 3004, 3005, 3006, 3008, 3009, 3011, 3013, 3014, 3015, 3017, 3018, 3019, 3021, 3022, 3024, 3025, 3026, 3027, 3028, 3030, 3031, 3033, 3034, 3035, 3036, 3037, 3038, 3039, 3040, 3041, 3042, 3043, 3044, 3045, 3047, 3048, 3049, 3050, 3051, 3052, 3053, 3054, 3055, 3056, 3057, 3058, 3059, 3060, 3061, 3062, 3063, 3064, 3065, 3066, 3068, 3069, 3070, 3071, 3072, 3074, 3075, 3076, 3077, 3078, 3079, 3080, 3081, 3082, 3083, 3084, 3085, 3086, 3087, 3088, 3089, 3090, 3092, 3093, 3094, 3095, 3096, 3097, 3098, 3099, 3101, 3102, 3103, 3104, 3105, 3106, 3107, 3108, 3109, 3110, 3111, 3112, 3113, 3115, 3116, 3117, 3119, 3120, 3121, 3122, 3123, 3124, 3125, 3126, 3127, 3129, 3131, 3132, 3133, 3135, 3136, 3137, 3138, 3139, 3140, 3141, 3142, 3143, 3144, 3145, 3146, 3148, 3149, 3150, 3152, 3153, 3154, 3156, 3157, 3158, 3159, 3160, 3161, 3162, 3163, 3164, 3165, 3166, 3167, 3168, 3169, 3170, 3171, 3173, 3174, 3175, 3176, 3177, 3178, 3179, 3180, 3181, 3182, 3183, 3184, 3185, 3187, 3188, 3189, 3190, 3191, 3192, 3194, 3196, 3199, 3200, 3202, 3203, 3204, 3205, 3206, 3207, 3208, 3210, 3213, 3215, 3216, 3217, 3218, 3219, 3220, 3221, 3222, 3223, 3224, 3225, 3226, 3227, 3228, 3229, 3230, 3231, 3233, 3235, 3237, 3239, 4001, 4003, 4006, 4007, 4008, 4009, 4010, 4011, 4012, 4013, 4014, 4015, 4016, 4017, 4018, 4020, 4022, 4024, 4026, 4028, 4030, 4032, 4034, 4036, 4038, 4041, 4042, 4043, 4044, 4045, 4046, 4047, 4048, 4049, 4050, 4051, 4052, 4053, 4055, 4071, 4072, 4073, 4074, 4077, 4078, 4079, 4080, 4081, 4082, 4083, 4084, 4085, 4087, 4088, 4089, 4090, 4091, 4092, 4094, 4097, 4098, 4099, 4100, 4101, 4102, 4103, 4104, 4105, 4106, 4107, 4108, 4109, 4110, 4111, 4112, 4113, 4114, 4115, 4117, 4119, 4121, 4123, 4125, 4127, 4129, 4131, 4133, 4136, 4137, 4138, 4139, 4140, 4142, 4143, 4144, 4146, 4147, 4148, 4150, 4151, 4152, 4153, 4154, 4155, 4156, 4157, 4158, 4159, 4160, 4161, 4162, 4163, 4164, 4181, 4182, 4183, 4184, 4185, 4187, 4188, 4189, 4190, 4191, 4192, 4193, 4194, 4195, 4196, 4197, 4198, 4199, 4200, 4201, 4203, 4204, 4205, 4206, 4207, 4208, 4209, 4210, 4211, 4212, 4213, 4214, 4215, 4216, 4217, 4218, 4219, 4220, 4221, 4222, 4223, 4224, 4225, 4226, 4227, 4229, 4231, 4233, 4235, 4237, 4239, 5001, 5003, 5006, 5007, 5008, 5009, 5011, 5012, 5013, 5014, 5015, 5016, 5017, 5018, 5019, 5020, 5021, 5022, 5023, 5024, 5025, 5026, 5027, 5028, 5029, 5030, 5031, 5033, 5035, 5037, 5039, 5041, 5043, 5045, 5048, 5049, 5050, 5051, 5053, 5054, 5055, 5056, 5057, 5059, 5060, 5061, 5062, 5063, 5065, 5066, 5067, 5068, 5070, 5071, 5072, 5073, 5074, 5075, 5076, 5078, 5079, 5080, 5082, 5083, 5084, 5085, 5086, 5087, 5088, 5089, 5090, 5091, 5092, 5093, 5094, 5095, 5097, 5099, 5102, 5103, 5104, 5105, 5106, 5108, 5109, 5110, 5111, 5112, 5113, 5114, 5116, 5117, 5118, 5120, 5121, 5122, 5123, 5124, 5125, 5127, 5128, 5129, 5130, 5133, 5134, 5135, 5136, 5138, 5139, 5140, 5141, 5142, 5143, 5144, 5145, 5146, 5147, 5148, 5149, 5150, 5151, 5152, 5153, 5154, 5155, 5156, 5157, 5158, 5160, 5162, 5165, 5166, 5167, 5168, 5169, 5170, 5171, 5172, 5173, 5174, 5175, 5176, 5178, 5180, 5181, 5182, 5184, 5185, 5186, 5188, 5189, 5190, 5191, 5192, 5193, 5194, 5195, 5196, 5197, 5198, 5199, 5200, 5201, 5202, 5205, 5206, 5207, 5208, 5209, 5210, 5211, 5212, 5213, 5215, 5216, 6206, 6207, 6208, 6209, 6210, 6211, 6212, 6213, 6214, 7001]
def wsL_law : List Cond := wk ix_L_law ++ (vx_atS RX8 446 "java/lang/IndexOutOfBoundsException" ["java/lang/RuntimeException", "java/lang/Exception"]).filter goodWord ++ (vx_atS RX8 69 "java/lang/IllegalArgumentException" ["java/lang/RuntimeException", "java/lang/Exception"]).filter goodWord ++ (vx_atS RX8 79 "java/lang/IllegalStateException" ["java/lang/RuntimeException", "java/lang/Exception"]).filter goodWord
theorem wm_L_law : ∀ w ∈ wk ix_L_law, w ∈ wsL_law := fun _ h => List.mem_append_left _ (List.mem_append_left _ (List.mem_append_left _ (h)))
