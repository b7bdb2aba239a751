theorem dL_below_0 : decode cL_below 0 = .ok (.iload_n 0, 1) := by decide +kernel
theorem dL_below_1 : decode cL_below 1 = .ok (.ldc 7, 2) := by decide +kernel
theorem dL_below_3 : decode cL_below 3 = .ok (.iand, 1) := by decide +kernel
theorem dL_below_4 : decode cL_below 4 = .ok (.iload_n 1, 1) := by decide +kernel
theorem dL_below_5 : decode cL_below 5 = .ok (.irem, 1) := by decide +kernel
theorem dL_below_6 : decode cL_below 6 = .ok (.ireturn, 1) := by decide +kernel
theorem dL_cell_0 : decode cL_cell 0 = .ok (.iload_n 1, 1) := by decide +kernel
theorem dL_cell_1 : decode cL_cell 1 = .ok (.aload_n 0, 1) := by decide +kernel
theorem dL_cell_2 : decode cL_cell 2 = .ok (.arraylength, 1) := by decide +kernel
theorem dL_cell_3 : decode cL_cell 3 = .ok (.if_icmp .ge 9, 3) := by decide +kernel
theorem dL_cell_6 : decode cL_cell 6 = .ok (.aload_n 0, 1) := by decide +kernel
theorem dL_cell_7 : decode cL_cell 7 = .ok (.iload_n 1, 1) := by decide +kernel
theorem dL_cell_8 : decode cL_cell 8 = .ok (.iaload, 1) := by decide +kernel
theorem dL_cell_9 : decode cL_cell 9 = .ok (.goto 9, 3) := by decide +kernel
theorem dL_cell_12 : decode cL_cell 12 = .ok (.ldc 8, 2) := by decide +kernel
theorem dL_cell_14 : decode cL_cell 14 = .ok (.iload_n 1, 1) := by decide +kernel
theorem dL_cell_15 : decode cL_cell 15 = .ok (.iconst 3, 1) := by decide +kernel
theorem dL_cell_16 : decode cL_cell 16 = .ok (.iadd, 1) := by decide +kernel
theorem dL_cell_17 : decode cL_cell 17 = .ok (.imul, 1) := by decide +kernel
theorem dL_cell_18 : decode cL_cell 18 = .ok (.ireturn, 1) := by decide +kernel
set_option maxRecDepth 100000 in
theorem ggL_night_X8_init : GoodIn wsL_night wsX8_init := wk_g wm_L_night 3169 wc_X8_init rfl (by decide +kernel) (by decide +kernel) wq_X8_init
set_option maxRecDepth 100000 in
theorem gL_night_X8_init : GoodIn wsL_night (wsX8_init) := ggL_night_X8_init
set_option maxRecDepth 100000 in
theorem ggL_night_L_cell : GoodIn wsL_night wsL_cell := wk_g wm_L_night 3161 wc_L_cell rfl (by decide +kernel) (by decide +kernel) wq_L_cell
set_option maxRecDepth 100000 in
theorem gL_night_L_cell : GoodIn wsL_night (va_wsS RL 12 yL_cell wsL_cell) := goodIn_app (wk_h wm_L_night [3159, 3160, 2000] (by decide +kernel) (by decide +kernel) (by decide +kernel)) ggL_night_L_cell
set_option maxRecDepth 100000 in
theorem ggL_night_L_below : GoodIn wsL_night wsL_below := wk_g wm_L_night 4043 wc_L_below rfl (by decide +kernel) (by decide +kernel) wq_L_below
set_option maxRecDepth 100000 in
theorem gL_night_L_below : GoodIn wsL_night (va_wsS RL 18 yL_below wsL_below) := goodIn_app (wk_h wm_L_night [4041, 4042, 2000] (by decide +kernel) (by decide +kernel) (by decide +kernel)) ggL_night_L_below
set_option maxRecDepth 100000 in
theorem ggL_night_X8_land : GoodIn wsL_night wsX8_land := goodIn_ca (goodIn_ca (wk_g wm_L_night 4048 wc_X8_land rfl (by decide +kernel) (by decide +kernel) wq_X8_land) (goodIn_sub (fun _ h => List.mem_cons_of_mem _ (List.mem_append_left _ (List.mem_append_left _ (List.mem_append_right _ h)))) (by decide +kernel))) (goodIn_sub (fun _ h => List.mem_cons_of_mem _ (List.mem_append_left _ (List.mem_append_right _ h))) (by decide +kernel))
set_option maxRecDepth 100000 in
theorem gL_night_X8_land : GoodIn wsL_night (wsV RL 22 RX8 yX8_land wsX8_land) := goodIn_app (wk_h wm_L_night [4045, 4046, 4047, 2001] (by decide +kernel) (by decide +kernel) (by decide +kernel)) ggL_night_X8_land
set_option maxRecDepth 100000 in
theorem ggL_night_X8_ofLand : GoodIn wsL_night wsX8_ofLand := goodIn_ca (goodIn_ca (wk_g wm_L_night 3005 wc_X8_ofLand rfl (by decide +kernel) (by decide +kernel) wq_X8_ofLand) (goodIn_sub (fun _ h => List.mem_cons_of_mem _ (List.mem_append_left _ (List.mem_append_right _ h))) (by decide +kernel))) (goodIn_sub (fun _ h => List.mem_cons_of_mem _ (List.mem_append_left _ (List.mem_append_left _ (List.mem_append_right _ h)))) (by decide +kernel))
set_option maxRecDepth 100000 in
theorem gL_night_X8_ofLand : GoodIn wsL_night (wsV RL 26 RX8 yX8_ofLand wsX8_ofLand) := goodIn_app (wk_h wm_L_night [4049, 3003, 3004, 2001] (by decide +kernel) (by decide +kernel) (by decide +kernel)) ggL_night_X8_ofLand
set_option maxRecDepth 100000 in
theorem ggL_night_X8_trade : GoodIn wsL_night wsX8_trade := goodIn_ca (goodIn_ca (goodIn_ca (wk_g wm_L_night 4053 wc_X8_trade rfl (by decide +kernel) (by decide +kernel) wq_X8_trade) (goodIn_sub (fun _ h => List.mem_cons_of_mem _ (List.mem_append_left _ (List.mem_append_right _ h))) (by decide +kernel))) (goodIn_sub (fun _ h => List.mem_cons_of_mem _ (List.mem_append_right _ h)) (by decide +kernel))) (goodIn_sub (fun _ h => List.mem_cons_of_mem _ (List.mem_append_left _ (List.mem_append_left _ (List.mem_append_right _ h)))) (by decide +kernel))
set_option maxRecDepth 100000 in
theorem gL_night_X8_trade : GoodIn wsL_night (wsV RL 29 RX8 yX8_trade wsX8_trade) := goodIn_app (wk_h wm_L_night [4050, 4051, 4052, 2001] (by decide +kernel) (by decide +kernel) (by decide +kernel)) ggL_night_X8_trade
set_option maxRecDepth 100000 in
theorem ggL_night_X8_gate : GoodIn wsL_night wsX8_gate := goodIn_ca (goodIn_ca (goodIn_ca (wk_g wm_L_night 4074 wc_X8_gate rfl (by decide +kernel) (by decide +kernel) wq_X8_gate) (goodIn_sub (fun _ h => List.mem_cons_of_mem _ (List.mem_append_left _ (List.mem_append_right _ h))) (by decide +kernel))) (goodIn_sub (fun _ h => List.mem_cons_of_mem _ (List.mem_append_right _ h)) (by decide +kernel))) (goodIn_sub (fun _ h => List.mem_cons_of_mem _ (List.mem_append_left _ (List.mem_append_left _ (List.mem_append_right _ h)))) (by decide +kernel))
set_option maxRecDepth 100000 in
theorem gL_night_X8_gate : GoodIn wsL_night (wsV RL 32 RX8 yX8_gate wsX8_gate) := goodIn_app (wk_h wm_L_night [4071, 4072, 4073, 2001] (by decide +kernel) (by decide +kernel) (by decide +kernel)) ggL_night_X8_gate
set_option maxRecDepth 100000 in
theorem ggL_night_X8_odds : GoodIn wsL_night wsX8_odds := goodIn_ca (goodIn_ca (wk_g wm_L_night 4197 wc_X8_odds rfl (by decide +kernel) (by decide +kernel) wq_X8_odds) (goodIn_sub (fun _ h => List.mem_cons_of_mem _ (List.mem_append_left _ (List.mem_append_left _ (List.mem_append_right _ h)))) (by decide +kernel))) (goodIn_sub (fun _ h => List.mem_cons_of_mem _ (List.mem_append_left _ (List.mem_append_right _ h))) (by decide +kernel))
set_option maxRecDepth 100000 in
theorem gL_night_X8_odds : GoodIn wsL_night (wsV RL 36 RX8 yX8_odds wsX8_odds) := goodIn_app (wk_h wm_L_night [4194, 4195, 4196, 2001] (by decide +kernel) (by decide +kernel) (by decide +kernel)) ggL_night_X8_odds
set_option maxRecDepth 100000 in
theorem ggL_night_X8_sleeper : GoodIn wsL_night wsX8_sleeper := goodIn_ca (goodIn_ca (goodIn_ca (wk_g wm_L_night 4201 wc_X8_sleeper rfl (by decide +kernel) (by decide +kernel) wq_X8_sleeper) (goodIn_sub (fun _ h => List.mem_cons_of_mem _ (List.mem_append_right _ h)) (by decide +kernel))) (goodIn_sub (fun _ h => List.mem_cons_of_mem _ (List.mem_append_left _ (List.mem_append_left _ (List.mem_append_right _ h)))) (by decide +kernel))) (goodIn_sub (fun _ h => List.mem_cons_of_mem _ (List.mem_append_left _ (List.mem_append_right _ h))) (by decide +kernel))
set_option maxRecDepth 100000 in
theorem gL_night_X8_sleeper : GoodIn wsL_night (wsV RL 39 RX8 yX8_sleeper wsX8_sleeper) := goodIn_app (wk_h wm_L_night [4198, 4199, 4200, 2001] (by decide +kernel) (by decide +kernel) (by decide +kernel)) ggL_night_X8_sleeper
set_option maxRecDepth 100000 in
theorem ggL_night_X8_part : GoodIn wsL_night wsX8_part := goodIn_ca (goodIn_ca (goodIn_ca (wk_g wm_L_night 5009 wc_X8_part rfl (by decide +kernel) (by decide +kernel) wq_X8_part) (goodIn_sub (fun _ h => List.mem_cons_of_mem _ (List.mem_append_right _ h)) (by decide +kernel))) (goodIn_sub (fun _ h => List.mem_cons_of_mem _ (List.mem_append_left _ (List.mem_append_left _ (List.mem_append_right _ h)))) (by decide +kernel))) (goodIn_sub (fun _ h => List.mem_cons_of_mem _ (List.mem_append_left _ (List.mem_append_right _ h))) (by decide +kernel))
set_option maxRecDepth 100000 in
theorem gL_night_X8_part : GoodIn wsL_night (wsV RL 43 RX8 yX8_part wsX8_part) := goodIn_app (wk_h wm_L_night [5006, 5007, 5008, 2001] (by decide +kernel) (by decide +kernel) (by decide +kernel)) ggL_night_X8_part
theorem dL_night_0 : decode cL_night 0 = .ok (.new 9, 3) := by decide +kernel
theorem dL_night_3 : decode cL_night 3 = .ok (.dup, 1) := by decide +kernel
theorem dL_night_4 : decode cL_night 4 = .ok (.invokespecial 11, 3) := by decide +kernel
theorem dL_night_7 : decode cL_night 7 = .ok (.astore_n 1, 1) := by decide +kernel
theorem dL_night_8 : decode cL_night 8 = .ok (.iconst 0, 1) := by decide +kernel
theorem dL_night_9 : decode cL_night 9 = .ok (.istore_n 2, 1) := by decide +kernel
theorem dL_night_10 : decode cL_night 10 = .ok (.iload_n 2, 1) := by decide +kernel
theorem dL_night_11 : decode cL_night 11 = .ok (.iconst 4, 1) := by decide +kernel
theorem dL_night_12 : decode cL_night 12 = .ok (.if_icmp .ge 43, 3) := by decide +kernel
theorem dL_night_15 : decode cL_night 15 = .ok (.aload_n 1, 1) := by decide +kernel
theorem dL_night_16 : decode cL_night 16 = .ok (.iload_n 2, 1) := by decide +kernel
theorem dL_night_17 : decode cL_night 17 = .ok (.aload_n 0, 1) := by decide +kernel
theorem dL_night_18 : decode cL_night 18 = .ok (.iconst 0, 1) := by decide +kernel
theorem dL_night_19 : decode cL_night 19 = .ok (.invokestatic 12, 3) := by decide +kernel
theorem dL_night_22 : decode cL_night 22 = .ok (.iconst 3, 1) := by decide +kernel
theorem dL_night_23 : decode cL_night 23 = .ok (.iload_n 2, 1) := by decide +kernel
theorem dL_night_24 : decode cL_night 24 = .ok (.imul, 1) := by decide +kernel
theorem dL_night_25 : decode cL_night 25 = .ok (.ishr, 1) := by decide +kernel
theorem dL_night_26 : decode cL_night 26 = .ok (.bipush 51, 2) := by decide +kernel
theorem dL_night_28 : decode cL_night 28 = .ok (.invokestatic 18, 3) := by decide +kernel
theorem dL_night_31 : decode cL_night 31 = .ok (.aload_n 0, 1) := by decide +kernel
theorem dL_night_32 : decode cL_night 32 = .ok (.iconst 1, 1) := by decide +kernel
theorem dL_night_33 : decode cL_night 33 = .ok (.invokestatic 12, 3) := by decide +kernel
theorem dL_night_36 : decode cL_night 36 = .ok (.iconst 3, 1) := by decide +kernel
theorem dL_night_37 : decode cL_night 37 = .ok (.iload_n 2, 1) := by decide +kernel
theorem dL_night_38 : decode cL_night 38 = .ok (.imul, 1) := by decide +kernel
theorem dL_night_39 : decode cL_night 39 = .ok (.ishr, 1) := by decide +kernel
theorem dL_night_40 : decode cL_night 40 = .ok (.bipush 60, 2) := by decide +kernel
theorem dL_night_42 : decode cL_night 42 = .ok (.invokestatic 18, 3) := by decide +kernel
theorem dL_night_45 : decode cL_night 45 = .ok (.invokevirtual 22, 3) := by decide +kernel
theorem dL_night_48 : decode cL_night 48 = .ok (.pop, 1) := by decide +kernel
theorem dL_night_49 : decode cL_night 49 = .ok (.iinc 2 1, 3) := by decide +kernel
theorem dL_night_52 : decode cL_night 52 = .ok (.goto (-42), 3) := by decide +kernel
theorem dL_night_55 : decode cL_night 55 = .ok (.iconst 0, 1) := by decide +kernel
theorem dL_night_56 : decode cL_night 56 = .ok (.istore_n 2, 1) := by decide +kernel
theorem dL_night_57 : decode cL_night 57 = .ok (.iload_n 2, 1) := by decide +kernel
theorem dL_night_58 : decode cL_night 58 = .ok (.iconst 2, 1) := by decide +kernel
theorem dL_night_59 : decode cL_night 59 = .ok (.if_icmp .ge 88, 3) := by decide +kernel
theorem dL_night_62 : decode cL_night 62 = .ok (.aload_n 0, 1) := by decide +kernel
theorem dL_night_63 : decode cL_night 63 = .ok (.iconst 2, 1) := by decide +kernel
theorem dL_night_64 : decode cL_night 64 = .ok (.invokestatic 12, 3) := by decide +kernel
theorem dL_night_67 : decode cL_night 67 = .ok (.iconst 3, 1) := by decide +kernel
theorem dL_night_68 : decode cL_night 68 = .ok (.iload_n 2, 1) := by decide +kernel
theorem dL_night_69 : decode cL_night 69 = .ok (.imul, 1) := by decide +kernel
theorem dL_night_70 : decode cL_night 70 = .ok (.ishr, 1) := by decide +kernel
theorem dL_night_71 : decode cL_night 71 = .ok (.iconst 4, 1) := by decide +kernel
theorem dL_night_72 : decode cL_night 72 = .ok (.invokestatic 18, 3) := by decide +kernel
theorem dL_night_75 : decode cL_night 75 = .ok (.istore_n 3, 1) := by decide +kernel
theorem dL_night_76 : decode cL_night 76 = .ok (.aload_n 0, 1) := by decide +kernel
theorem dL_night_77 : decode cL_night 77 = .ok (.iconst 2, 1) := by decide +kernel
theorem dL_night_78 : decode cL_night 78 = .ok (.invokestatic 12, 3) := by decide +kernel
theorem dL_night_81 : decode cL_night 81 = .ok (.iconst 3, 1) := by decide +kernel
theorem dL_night_82 : decode cL_night 82 = .ok (.iload_n 2, 1) := by decide +kernel
theorem dL_night_83 : decode cL_night 83 = .ok (.imul, 1) := by decide +kernel
theorem dL_night_84 : decode cL_night 84 = .ok (.bipush 6, 2) := by decide +kernel
theorem dL_night_86 : decode cL_night 86 = .ok (.iadd, 1) := by decide +kernel
theorem dL_night_87 : decode cL_night 87 = .ok (.ishr, 1) := by decide +kernel
theorem dL_night_88 : decode cL_night 88 = .ok (.iconst 4, 1) := by decide +kernel
theorem dL_night_89 : decode cL_night 89 = .ok (.invokestatic 18, 3) := by decide +kernel
theorem dL_night_92 : decode cL_night 92 = .ok (.istore 4, 2) := by decide +kernel
theorem dL_night_94 : decode cL_night 94 = .ok (.iconst 1, 1) := by decide +kernel
theorem dL_night_95 : decode cL_night 95 = .ok (.aload_n 0, 1) := by decide +kernel
theorem dL_night_96 : decode cL_night 96 = .ok (.iconst 2, 1) := by decide +kernel
theorem dL_night_97 : decode cL_night 97 = .ok (.invokestatic 12, 3) := by decide +kernel
theorem dL_night_100 : decode cL_night 100 = .ok (.iconst 3, 1) := by decide +kernel
theorem dL_night_101 : decode cL_night 101 = .ok (.iload_n 2, 1) := by decide +kernel
theorem dL_night_102 : decode cL_night 102 = .ok (.imul, 1) := by decide +kernel
theorem dL_night_103 : decode cL_night 103 = .ok (.bipush 12, 2) := by decide +kernel
theorem dL_night_105 : decode cL_night 105 = .ok (.iadd, 1) := by decide +kernel
theorem dL_night_106 : decode cL_night 106 = .ok (.ishr, 1) := by decide +kernel
theorem dL_night_107 : decode cL_night 107 = .ok (.iconst 5, 1) := by decide +kernel
theorem dL_night_108 : decode cL_night 108 = .ok (.invokestatic 18, 3) := by decide +kernel
theorem dL_night_111 : decode cL_night 111 = .ok (.iadd, 1) := by decide +kernel
theorem dL_night_112 : decode cL_night 112 = .ok (.istore 5, 2) := by decide +kernel
theorem dL_night_114 : decode cL_night 114 = .ok (.iload_n 3, 1) := by decide +kernel
theorem dL_night_115 : decode cL_night 115 = .ok (.iload 4, 2) := by decide +kernel
theorem dL_night_117 : decode cL_night 117 = .ok (.if_icmp .eq 24, 3) := by decide +kernel
theorem dL_night_120 : decode cL_night 120 = .ok (.aload_n 1, 1) := by decide +kernel
theorem dL_night_121 : decode cL_night 121 = .ok (.iload_n 3, 1) := by decide +kernel
theorem dL_night_122 : decode cL_night 122 = .ok (.iconst 2, 1) := by decide +kernel
theorem dL_night_123 : decode cL_night 123 = .ok (.invokevirtual 26, 3) := by decide +kernel
theorem dL_night_126 : decode cL_night 126 = .ok (.iload 5, 2) := by decide +kernel
theorem dL_night_128 : decode cL_night 128 = .ok (.if_icmp .lt 13, 3) := by decide +kernel
theorem dL_night_131 : decode cL_night 131 = .ok (.aload_n 1, 1) := by decide +kernel
theorem dL_night_132 : decode cL_night 132 = .ok (.iload_n 3, 1) := by decide +kernel
theorem dL_night_133 : decode cL_night 133 = .ok (.iload 4, 2) := by decide +kernel
theorem dL_night_135 : decode cL_night 135 = .ok (.iload 5, 2) := by decide +kernel
theorem dL_night_137 : decode cL_night 137 = .ok (.invokevirtual 29, 3) := by decide +kernel
theorem dL_night_140 : decode cL_night 140 = .ok (.pop, 1) := by decide +kernel
theorem dL_night_141 : decode cL_night 141 = .ok (.iinc 2 1, 3) := by decide +kernel
theorem dL_night_144 : decode cL_night 144 = .ok (.goto (-87), 3) := by decide +kernel
theorem dL_night_147 : decode cL_night 147 = .ok (.iconst 1, 1) := by decide +kernel
theorem dL_night_148 : decode cL_night 148 = .ok (.aload_n 0, 1) := by decide +kernel
theorem dL_night_149 : decode cL_night 149 = .ok (.iconst 3, 1) := by decide +kernel
theorem dL_night_150 : decode cL_night 150 = .ok (.invokestatic 12, 3) := by decide +kernel
theorem dL_night_153 : decode cL_night 153 = .ok (.iconst 4, 1) := by decide +kernel
theorem dL_night_154 : decode cL_night 154 = .ok (.invokestatic 18, 3) := by decide +kernel
theorem dL_night_157 : decode cL_night 157 = .ok (.iadd, 1) := by decide +kernel
theorem dL_night_158 : decode cL_night 158 = .ok (.istore_n 2, 1) := by decide +kernel
theorem dL_night_159 : decode cL_night 159 = .ok (.iconst 0, 1) := by decide +kernel
theorem dL_night_160 : decode cL_night 160 = .ok (.istore_n 3, 1) := by decide +kernel
theorem dL_night_161 : decode cL_night 161 = .ok (.iload_n 3, 1) := by decide +kernel
theorem dL_night_162 : decode cL_night 162 = .ok (.iload_n 2, 1) := by decide +kernel
theorem dL_night_163 : decode cL_night 163 = .ok (.if_icmp .ge 104, 3) := by decide +kernel
theorem dL_night_166 : decode cL_night 166 = .ok (.aload_n 0, 1) := by decide +kernel
theorem dL_night_167 : decode cL_night 167 = .ok (.iconst 4, 1) := by decide +kernel
theorem dL_night_168 : decode cL_night 168 = .ok (.invokestatic 12, 3) := by decide +kernel
theorem dL_night_171 : decode cL_night 171 = .ok (.iconst 3, 1) := by decide +kernel
theorem dL_night_172 : decode cL_night 172 = .ok (.iload_n 3, 1) := by decide +kernel
theorem dL_night_173 : decode cL_night 173 = .ok (.imul, 1) := by decide +kernel
theorem dL_night_174 : decode cL_night 174 = .ok (.ishr, 1) := by decide +kernel
theorem dL_night_175 : decode cL_night 175 = .ok (.iconst 4, 1) := by decide +kernel
theorem dL_night_176 : decode cL_night 176 = .ok (.invokestatic 18, 3) := by decide +kernel
theorem dL_night_179 : decode cL_night 179 = .ok (.istore 4, 2) := by decide +kernel
theorem dL_night_181 : decode cL_night 181 = .ok (.aload_n 1, 1) := by decide +kernel
theorem dL_night_182 : decode cL_night 182 = .ok (.iload 4, 2) := by decide +kernel
theorem dL_night_184 : decode cL_night 184 = .ok (.iload 4, 2) := by decide +kernel
theorem dL_night_186 : decode cL_night 186 = .ok (.iconst 1, 1) := by decide +kernel
theorem dL_night_187 : decode cL_night 187 = .ok (.iadd, 1) := by decide +kernel
theorem dL_night_188 : decode cL_night 188 = .ok (.aload_n 0, 1) := by decide +kernel
theorem dL_night_189 : decode cL_night 189 = .ok (.iconst 5, 1) := by decide +kernel
theorem dL_night_190 : decode cL_night 190 = .ok (.invokestatic 12, 3) := by decide +kernel
theorem dL_night_193 : decode cL_night 193 = .ok (.iconst 2, 1) := by decide +kernel
theorem dL_night_194 : decode cL_night 194 = .ok (.iload_n 3, 1) := by decide +kernel
theorem dL_night_195 : decode cL_night 195 = .ok (.imul, 1) := by decide +kernel
theorem dL_night_196 : decode cL_night 196 = .ok (.ishr, 1) := by decide +kernel
theorem dL_night_197 : decode cL_night 197 = .ok (.iconst 3, 1) := by decide +kernel
theorem dL_night_198 : decode cL_night 198 = .ok (.invokestatic 18, 3) := by decide +kernel
theorem dL_night_201 : decode cL_night 201 = .ok (.iadd, 1) := by decide +kernel
theorem dL_night_202 : decode cL_night 202 = .ok (.iconst 4, 1) := by decide +kernel
theorem dL_night_203 : decode cL_night 203 = .ok (.irem, 1) := by decide +kernel
theorem dL_night_204 : decode cL_night 204 = .ok (.aload_n 0, 1) := by decide +kernel
theorem dL_night_205 : decode cL_night 205 = .ok (.bipush 6, 2) := by decide +kernel
theorem dL_night_207 : decode cL_night 207 = .ok (.invokestatic 12, 3) := by decide +kernel
theorem dL_night_210 : decode cL_night 210 = .ok (.iconst 3, 1) := by decide +kernel
theorem dL_night_211 : decode cL_night 211 = .ok (.iload_n 3, 1) := by decide +kernel
theorem dL_night_212 : decode cL_night 212 = .ok (.imul, 1) := by decide +kernel
theorem dL_night_213 : decode cL_night 213 = .ok (.ishr, 1) := by decide +kernel
theorem dL_night_214 : decode cL_night 214 = .ok (.bipush 24, 2) := by decide +kernel
theorem dL_night_216 : decode cL_night 216 = .ok (.invokestatic 18, 3) := by decide +kernel
theorem dL_night_219 : decode cL_night 219 = .ok (.iconst 1, 1) := by decide +kernel
theorem dL_night_220 : decode cL_night 220 = .ok (.aload_n 0, 1) := by decide +kernel
theorem dL_night_221 : decode cL_night 221 = .ok (.bipush 7, 2) := by decide +kernel
theorem dL_night_223 : decode cL_night 223 = .ok (.invokestatic 12, 3) := by decide +kernel
theorem dL_night_226 : decode cL_night 226 = .ok (.iconst 3, 1) := by decide +kernel
theorem dL_night_227 : decode cL_night 227 = .ok (.iload_n 3, 1) := by decide +kernel
theorem dL_night_228 : decode cL_night 228 = .ok (.imul, 1) := by decide +kernel
theorem dL_night_229 : decode cL_night 229 = .ok (.ishr, 1) := by decide +kernel
theorem dL_night_230 : decode cL_night 230 = .ok (.bipush 24, 2) := by decide +kernel
theorem dL_night_232 : decode cL_night 232 = .ok (.invokestatic 18, 3) := by decide +kernel
theorem dL_night_235 : decode cL_night 235 = .ok (.iadd, 1) := by decide +kernel
theorem dL_night_236 : decode cL_night 236 = .ok (.invokevirtual 32, 3) := by decide +kernel
theorem dL_night_239 : decode cL_night 239 = .ok (.pop, 1) := by decide +kernel
theorem dL_night_240 : decode cL_night 240 = .ok (.aload_n 1, 1) := by decide +kernel
theorem dL_night_241 : decode cL_night 241 = .ok (.iload_n 3, 1) := by decide +kernel
theorem dL_night_242 : decode cL_night 242 = .ok (.aload_n 0, 1) := by decide +kernel
theorem dL_night_243 : decode cL_night 243 = .ok (.bipush 8, 2) := by decide +kernel
theorem dL_night_245 : decode cL_night 245 = .ok (.invokestatic 12, 3) := by decide +kernel
theorem dL_night_248 : decode cL_night 248 = .ok (.iconst 3, 1) := by decide +kernel
theorem dL_night_249 : decode cL_night 249 = .ok (.iload_n 3, 1) := by decide +kernel
theorem dL_night_250 : decode cL_night 250 = .ok (.imul, 1) := by decide +kernel
theorem dL_night_251 : decode cL_night 251 = .ok (.ishr, 1) := by decide +kernel
theorem dL_night_252 : decode cL_night 252 = .ok (.bipush 11, 2) := by decide +kernel
theorem dL_night_254 : decode cL_night 254 = .ok (.invokestatic 18, 3) := by decide +kernel
theorem dL_night_257 : decode cL_night 257 = .ok (.invokevirtual 36, 3) := by decide +kernel
theorem dL_night_260 : decode cL_night 260 = .ok (.pop, 1) := by decide +kernel
theorem dL_night_261 : decode cL_night 261 = .ok (.iinc 3 1, 3) := by decide +kernel
theorem dL_night_264 : decode cL_night 264 = .ok (.goto (-103), 3) := by decide +kernel
theorem dL_night_267 : decode cL_night 267 = .ok (.iconst 2, 1) := by decide +kernel
theorem dL_night_268 : decode cL_night 268 = .ok (.aload_n 0, 1) := by decide +kernel
theorem dL_night_269 : decode cL_night 269 = .ok (.bipush 9, 2) := by decide +kernel
theorem dL_night_271 : decode cL_night 271 = .ok (.invokestatic 12, 3) := by decide +kernel
theorem dL_night_274 : decode cL_night 274 = .ok (.bipush 6, 2) := by decide +kernel
theorem dL_night_276 : decode cL_night 276 = .ok (.invokestatic 18, 3) := by decide +kernel
theorem dL_night_279 : decode cL_night 279 = .ok (.iadd, 1) := by decide +kernel
theorem dL_night_280 : decode cL_night 280 = .ok (.istore_n 3, 1) := by decide +kernel
theorem dL_night_281 : decode cL_night 281 = .ok (.iconst 0, 1) := by decide +kernel
theorem dL_night_282 : decode cL_night 282 = .ok (.istore 4, 2) := by decide +kernel
theorem dL_night_284 : decode cL_night 284 = .ok (.iload 4, 2) := by decide +kernel
theorem dL_night_286 : decode cL_night 286 = .ok (.iload_n 3, 1) := by decide +kernel
theorem dL_night_287 : decode cL_night 287 = .ok (.if_icmp .ge 68, 3) := by decide +kernel
theorem dL_night_290 : decode cL_night 290 = .ok (.aload_n 1, 1) := by decide +kernel
theorem dL_night_291 : decode cL_night 291 = .ok (.aload_n 0, 1) := by decide +kernel
theorem dL_night_292 : decode cL_night 292 = .ok (.bipush 10, 2) := by decide +kernel
theorem dL_night_294 : decode cL_night 294 = .ok (.invokestatic 12, 3) := by decide +kernel
theorem dL_night_297 : decode cL_night 297 = .ok (.iconst 2, 1) := by decide +kernel
theorem dL_night_298 : decode cL_night 298 = .ok (.iload 4, 2) := by decide +kernel
theorem dL_night_300 : decode cL_night 300 = .ok (.imul, 1) := by decide +kernel
theorem dL_night_301 : decode cL_night 301 = .ok (.ishr, 1) := by decide +kernel
theorem dL_night_302 : decode cL_night 302 = .ok (.iconst 4, 1) := by decide +kernel
theorem dL_night_303 : decode cL_night 303 = .ok (.invokestatic 18, 3) := by decide +kernel
theorem dL_night_306 : decode cL_night 306 = .ok (.aload_n 0, 1) := by decide +kernel
theorem dL_night_307 : decode cL_night 307 = .ok (.bipush 11, 2) := by decide +kernel
theorem dL_night_309 : decode cL_night 309 = .ok (.invokestatic 12, 3) := by decide +kernel
theorem dL_night_312 : decode cL_night 312 = .ok (.iload 4, 2) := by decide +kernel
theorem dL_night_314 : decode cL_night 314 = .ok (.ishr, 1) := by decide +kernel
theorem dL_night_315 : decode cL_night 315 = .ok (.iconst 3, 1) := by decide +kernel
theorem dL_night_316 : decode cL_night 316 = .ok (.invokestatic 18, 3) := by decide +kernel
theorem dL_night_319 : decode cL_night 319 = .ok (.ifCond .ne 7, 3) := by decide +kernel
theorem dL_night_322 : decode cL_night 322 = .ok (.iconst 1, 1) := by decide +kernel
theorem dL_night_323 : decode cL_night 323 = .ok (.goto 4, 3) := by decide +kernel
theorem dL_night_326 : decode cL_night 326 = .ok (.iconst 0, 1) := by decide +kernel
theorem dL_night_327 : decode cL_night 327 = .ok (.iconst 1, 1) := by decide +kernel
theorem dL_night_328 : decode cL_night 328 = .ok (.aload_n 0, 1) := by decide +kernel
theorem dL_night_329 : decode cL_night 329 = .ok (.bipush 12, 2) := by decide +kernel
theorem dL_night_331 : decode cL_night 331 = .ok (.invokestatic 12, 3) := by decide +kernel
theorem dL_night_334 : decode cL_night 334 = .ok (.iconst 2, 1) := by decide +kernel
theorem dL_night_335 : decode cL_night 335 = .ok (.iload 4, 2) := by decide +kernel
theorem dL_night_337 : decode cL_night 337 = .ok (.imul, 1) := by decide +kernel
theorem dL_night_338 : decode cL_night 338 = .ok (.ishr, 1) := by decide +kernel
theorem dL_night_339 : decode cL_night 339 = .ok (.bipush 9, 2) := by decide +kernel
theorem dL_night_341 : decode cL_night 341 = .ok (.invokestatic 18, 3) := by decide +kernel
theorem dL_night_344 : decode cL_night 344 = .ok (.iadd, 1) := by decide +kernel
theorem dL_night_345 : decode cL_night 345 = .ok (.invokevirtual 39, 3) := by decide +kernel
theorem dL_night_348 : decode cL_night 348 = .ok (.pop, 1) := by decide +kernel
theorem dL_night_349 : decode cL_night 349 = .ok (.iinc 4 1, 3) := by decide +kernel
theorem dL_night_352 : decode cL_night 352 = .ok (.goto (-68), 3) := by decide +kernel
theorem dL_night_355 : decode cL_night 355 = .ok (.iconst 0, 1) := by decide +kernel
theorem dL_night_356 : decode cL_night 356 = .ok (.istore 4, 2) := by decide +kernel
theorem dL_night_358 : decode cL_night 358 = .ok (.iload 4, 2) := by decide +kernel
theorem dL_night_360 : decode cL_night 360 = .ok (.bipush 10, 2) := by decide +kernel
theorem dL_night_362 : decode cL_night 362 = .ok (.if_icmp .ge 57, 3) := by decide +kernel
theorem dL_night_365 : decode cL_night 365 = .ok (.aload_n 0, 1) := by decide +kernel
theorem dL_night_366 : decode cL_night 366 = .ok (.bipush 13, 2) := by decide +kernel
theorem dL_night_368 : decode cL_night 368 = .ok (.invokestatic 12, 3) := by decide +kernel
theorem dL_night_371 : decode cL_night 371 = .ok (.iload 4, 2) := by decide +kernel
theorem dL_night_373 : decode cL_night 373 = .ok (.ishr, 1) := by decide +kernel
theorem dL_night_374 : decode cL_night 374 = .ok (.istore 5, 2) := by decide +kernel
theorem dL_night_376 : decode cL_night 376 = .ok (.aload_n 1, 1) := by decide +kernel
theorem dL_night_377 : decode cL_night 377 = .ok (.iload 5, 2) := by decide +kernel
theorem dL_night_379 : decode cL_night 379 = .ok (.iload_n 3, 1) := by decide +kernel
theorem dL_night_380 : decode cL_night 380 = .ok (.invokestatic 18, 3) := by decide +kernel
theorem dL_night_383 : decode cL_night 383 = .ok (.iload 5, 2) := by decide +kernel
theorem dL_night_385 : decode cL_night 385 = .ok (.iconst 3, 1) := by decide +kernel
theorem dL_night_386 : decode cL_night 386 = .ok (.ishr, 1) := by decide +kernel
theorem dL_night_387 : decode cL_night 387 = .ok (.iconst 4, 1) := by decide +kernel
theorem dL_night_388 : decode cL_night 388 = .ok (.invokestatic 18, 3) := by decide +kernel
theorem dL_night_391 : decode cL_night 391 = .ok (.iload 5, 2) := by decide +kernel
theorem dL_night_393 : decode cL_night 393 = .ok (.iconst 5, 1) := by decide +kernel
theorem dL_night_394 : decode cL_night 394 = .ok (.ishr, 1) := by decide +kernel
theorem dL_night_395 : decode cL_night 395 = .ok (.bipush 60, 2) := by decide +kernel
theorem dL_night_397 : decode cL_night 397 = .ok (.invokestatic 18, 3) := by decide +kernel
theorem dL_night_400 : decode cL_night 400 = .ok (.iload 5, 2) := by decide +kernel
theorem dL_night_402 : decode cL_night 402 = .ok (.iconst 2, 1) := by decide +kernel
theorem dL_night_403 : decode cL_night 403 = .ok (.ishr, 1) := by decide +kernel
theorem dL_night_404 : decode cL_night 404 = .ok (.bipush 10, 2) := by decide +kernel
theorem dL_night_406 : decode cL_night 406 = .ok (.invokestatic 18, 3) := by decide +kernel
theorem dL_night_409 : decode cL_night 409 = .ok (.invokevirtual 43, 3) := by decide +kernel
theorem dL_night_412 : decode cL_night 412 = .ok (.pop, 1) := by decide +kernel
theorem dL_night_413 : decode cL_night 413 = .ok (.iinc 4 1, 3) := by decide +kernel
theorem dL_night_416 : decode cL_night 416 = .ok (.goto (-58), 3) := by decide +kernel
theorem dL_night_419 : decode cL_night 419 = .ok (.aload_n 1, 1) := by decide +kernel
theorem dL_night_420 : decode cL_night 420 = .ok (.areturn, 1) := by decide +kernel
set_option maxRecDepth 100000 in
theorem ggL_come_X8_night : GoodIn wsL_come wsX8_night := goodIn_ca (wk_g wm_L_come 2185 wc_X8_night rfl (by decide +kernel) (by decide +kernel) wq_X8_night) (goodIn_sub (fun _ h => List.mem_cons_of_mem _ (List.mem_append_left _ (List.mem_append_left _ (List.mem_append_right _ h)))) (by decide +kernel))
set_option maxRecDepth 100000 in
theorem gL_come_X8_night : GoodIn wsL_come (wsV RL 46 RX8 yX8_night wsX8_night) := goodIn_app (wk_h wm_L_come [2182, 2183, 2184, 2001] (by decide +kernel) (by decide +kernel) (by decide +kernel)) ggL_come_X8_night
set_option maxRecDepth 100000 in
theorem ggL_come_L_below : GoodIn wsL_come wsL_below := wk_g wm_L_come 4043 wc_L_below rfl (by decide +kernel) (by decide +kernel) wq_L_below
set_option maxRecDepth 100000 in
theorem gL_come_L_below : GoodIn wsL_come (va_wsS RL 18 yL_below wsL_below) := goodIn_app (wk_h wm_L_come [4041, 4042, 2000] (by decide +kernel) (by decide +kernel) (by decide +kernel)) ggL_come_L_below
set_option maxRecDepth 100000 in
theorem ggL_come_X8_sing : GoodIn wsL_come wsX8_sing := goodIn_ca (goodIn_ca (wk_g wm_L_come 5145 wc_X8_sing rfl (by decide +kernel) (by decide +kernel) wq_X8_sing) (goodIn_sub (fun _ h => List.mem_cons_of_mem _ (List.mem_append_left _ (List.mem_append_right _ h))) (by decide +kernel))) (goodIn_sub (fun _ h => List.mem_cons_of_mem _ (List.mem_append_left _ (List.mem_append_left _ (List.mem_append_right _ h)))) (by decide +kernel))
set_option maxRecDepth 100000 in
theorem gL_come_X8_sing : GoodIn wsL_come (wsV RL 50 RX8 yX8_sing wsX8_sing) := goodIn_app (wk_h wm_L_come [5142, 5143, 5144, 2001] (by decide +kernel) (by decide +kernel) (by decide +kernel)) ggL_come_X8_sing
set_option maxRecDepth 100000 in
theorem ggL_come_X8_ofSleeper : GoodIn wsL_come wsX8_ofSleeper := goodIn_ca (goodIn_ca (wk_g wm_L_come 2036 wc_X8_ofSleeper rfl (by decide +kernel) (by decide +kernel) wq_X8_ofSleeper) (goodIn_sub (fun _ h => List.mem_cons_of_mem _ (List.mem_append_left _ (List.mem_append_left _ (List.mem_append_right _ h)))) (by decide +kernel))) (goodIn_sub (fun _ h => List.mem_cons_of_mem _ (List.mem_append_left _ (List.mem_append_right _ h))) (by decide +kernel))
set_option maxRecDepth 100000 in
theorem gL_come_X8_ofSleeper : GoodIn wsL_come (wsV RL 58 RX8 yX8_ofSleeper wsX8_ofSleeper) := goodIn_app (wk_h wm_L_come [2033, 2034, 2035, 2001] (by decide +kernel) (by decide +kernel) (by decide +kernel)) ggL_come_X8_ofSleeper
set_option maxRecDepth 100000 in
theorem ggL_come_X8_ofGate : GoodIn wsL_come wsX8_ofGate := goodIn_ca (goodIn_ca (wk_g wm_L_come 3027 wc_X8_ofGate rfl (by decide +kernel) (by decide +kernel) wq_X8_ofGate) (goodIn_sub (fun _ h => List.mem_cons_of_mem _ (List.mem_append_left _ (List.mem_append_left _ (List.mem_append_right _ h)))) (by decide +kernel))) (goodIn_sub (fun _ h => List.mem_cons_of_mem _ (List.mem_append_left _ (List.mem_append_right _ h))) (by decide +kernel))
set_option maxRecDepth 100000 in
theorem gL_come_X8_ofGate : GoodIn wsL_come (wsV RL 61 RX8 yX8_ofGate wsX8_ofGate) := goodIn_app (wk_h wm_L_come [5198, 3025, 3026, 2001] (by decide +kernel) (by decide +kernel) (by decide +kernel)) ggL_come_X8_ofGate
set_option maxRecDepth 100000 in
theorem ggL_come_X8_join : GoodIn wsL_come wsX8_join := goodIn_ca (goodIn_ca (goodIn_ca (wk_g wm_L_come 5202 wc_X8_join rfl (by decide +kernel) (by decide +kernel) wq_X8_join) (goodIn_sub (fun _ h => List.mem_cons_of_mem _ (List.mem_append_left _ (List.mem_append_left _ (List.mem_append_right _ h)))) (by decide +kernel))) (goodIn_sub (fun _ h => List.mem_cons_of_mem _ (List.mem_append_right _ h)) (by decide +kernel))) (goodIn_sub (fun _ h => List.mem_cons_of_mem _ (List.mem_append_left _ (List.mem_append_right _ h))) (by decide +kernel))
set_option maxRecDepth 100000 in
theorem gL_come_X8_join : GoodIn wsL_come (wsV RL 64 RX8 yX8_join wsX8_join) := goodIn_app (wk_h wm_L_come [5199, 5200, 5201, 2001] (by decide +kernel) (by decide +kernel) (by decide +kernel)) ggL_come_X8_join
theorem dL_come_0 : decode cL_come 0 = .ok (.iload_n 1, 1) := by decide +kernel
theorem dL_come_1 : decode cL_come 1 = .ok (.aload_n 0, 1) := by decide +kernel
theorem dL_come_2 : decode cL_come 2 = .ok (.iconst 3, 1) := by decide +kernel
theorem dL_come_3 : decode cL_come 3 = .ok (.invokevirtual 46, 3) := by decide +kernel
theorem dL_come_6 : decode cL_come 6 = .ok (.invokestatic 18, 3) := by decide +kernel
theorem dL_come_9 : decode cL_come 9 = .ok (.istore_n 2, 1) := by decide +kernel
theorem dL_come_10 : decode cL_come 10 = .ok (.iload_n 1, 1) := by decide +kernel
theorem dL_come_11 : decode cL_come 11 = .ok (.iconst 3, 1) := by decide +kernel
theorem dL_come_12 : decode cL_come 12 = .ok (.ishr, 1) := by decide +kernel
theorem dL_come_13 : decode cL_come 13 = .ok (.aload_n 0, 1) := by decide +kernel
theorem dL_come_14 : decode cL_come 14 = .ok (.iconst 2, 1) := by decide +kernel
theorem dL_come_15 : decode cL_come 15 = .ok (.invokevirtual 46, 3) := by decide +kernel
theorem dL_come_18 : decode cL_come 18 = .ok (.invokestatic 18, 3) := by decide +kernel
theorem dL_come_21 : decode cL_come 21 = .ok (.istore_n 3, 1) := by decide +kernel
theorem dL_come_22 : decode cL_come 22 = .ok (.aload_n 0, 1) := by decide +kernel
theorem dL_come_23 : decode cL_come 23 = .ok (.iload_n 2, 1) := by decide +kernel
theorem dL_come_24 : decode cL_come 24 = .ok (.iload_n 3, 1) := by decide +kernel
theorem dL_come_25 : decode cL_come 25 = .ok (.aload_n 0, 1) := by decide +kernel
theorem dL_come_26 : decode cL_come 26 = .ok (.iconst 0, 1) := by decide +kernel
theorem dL_come_27 : decode cL_come 27 = .ok (.invokevirtual 46, 3) := by decide +kernel
theorem dL_come_30 : decode cL_come 30 = .ok (.iconst 0, 1) := by decide +kernel
theorem dL_come_31 : decode cL_come 31 = .ok (.invokevirtual 50, 3) := by decide +kernel
theorem dL_come_34 : decode cL_come 34 = .ok (.istore 4, 2) := by decide +kernel
theorem dL_come_36 : decode cL_come 36 = .ok (.iload_n 1, 1) := by decide +kernel
theorem dL_come_37 : decode cL_come 37 = .ok (.iconst 5, 1) := by decide +kernel
theorem dL_come_38 : decode cL_come 38 = .ok (.ishr, 1) := by decide +kernel
theorem dL_come_39 : decode cL_come 39 = .ok (.iconst 5, 1) := by decide +kernel
theorem dL_come_40 : decode cL_come 40 = .ok (.invokestatic 18, 3) := by decide +kernel
theorem dL_come_43 : decode cL_come 43 = .ok (.istore 5, 2) := by decide +kernel
theorem dL_come_45 : decode cL_come 45 = .ok (.aload_n 0, 1) := by decide +kernel
theorem dL_come_46 : decode cL_come 46 = .ok (.iload_n 2, 1) := by decide +kernel
theorem dL_come_47 : decode cL_come 47 = .ok (.iload_n 3, 1) := by decide +kernel
theorem dL_come_48 : decode cL_come 48 = .ok (.bipush 99, 2) := by decide +kernel
theorem dL_come_50 : decode cL_come 50 = .ok (.aload_n 0, 1) := by decide +kernel
theorem dL_come_51 : decode cL_come 51 = .ok (.iconst 0, 1) := by decide +kernel
theorem dL_come_52 : decode cL_come 52 = .ok (.invokevirtual 46, 3) := by decide +kernel
theorem dL_come_55 : decode cL_come 55 = .ok (.iload 5, 2) := by decide +kernel
theorem dL_come_57 : decode cL_come 57 = .ok (.iconst 4, 1) := by decide +kernel
theorem dL_come_58 : decode cL_come 58 = .ok (.if_icmp .ne 7, 3) := by decide +kernel
theorem dL_come_61 : decode cL_come 61 = .ok (.iconst 1, 1) := by decide +kernel
theorem dL_come_62 : decode cL_come 62 = .ok (.goto 4, 3) := by decide +kernel
theorem dL_come_65 : decode cL_come 65 = .ok (.iconst 0, 1) := by decide +kernel
theorem dL_come_66 : decode cL_come 66 = .ok (.iadd, 1) := by decide +kernel
theorem dL_come_67 : decode cL_come 67 = .ok (.invokestatic 53, 3) := by decide +kernel
theorem dL_come_70 : decode cL_come 70 = .ok (.iload 5, 2) := by decide +kernel
theorem dL_come_72 : decode cL_come 72 = .ok (.iconst 3, 1) := by decide +kernel
theorem dL_come_73 : decode cL_come 73 = .ok (.if_icmp .ge 8, 3) := by decide +kernel
theorem dL_come_76 : decode cL_come 76 = .ok (.iload 4, 2) := by decide +kernel
theorem dL_come_78 : decode cL_come 78 = .ok (.goto 21, 3) := by decide +kernel
theorem dL_come_81 : decode cL_come 81 = .ok (.iload 5, 2) := by decide +kernel
theorem dL_come_83 : decode cL_come 83 = .ok (.iconst 3, 1) := by decide +kernel
theorem dL_come_84 : decode cL_come 84 = .ok (.if_icmp .ne 13, 3) := by decide +kernel
theorem dL_come_87 : decode cL_come 87 = .ok (.iload 4, 2) := by decide +kernel
theorem dL_come_89 : decode cL_come 89 = .ok (.iconst 1, 1) := by decide +kernel
theorem dL_come_90 : decode cL_come 90 = .ok (.iadd, 1) := by decide +kernel
theorem dL_come_91 : decode cL_come 91 = .ok (.bipush 97, 2) := by decide +kernel
theorem dL_come_93 : decode cL_come 93 = .ok (.irem, 1) := by decide +kernel
theorem dL_come_94 : decode cL_come 94 = .ok (.goto 5, 3) := by decide +kernel
theorem dL_come_97 : decode cL_come 97 = .ok (.iload 4, 2) := by decide +kernel
theorem dL_come_99 : decode cL_come 99 = .ok (.invokevirtual 50, 3) := by decide +kernel
theorem dL_come_102 : decode cL_come 102 = .ok (.pop, 1) := by decide +kernel
theorem dL_come_103 : decode cL_come 103 = .ok (.aload_n 0, 1) := by decide +kernel
theorem dL_come_104 : decode cL_come 104 = .ok (.iload_n 2, 1) := by decide +kernel
theorem dL_come_105 : decode cL_come 105 = .ok (.iconst 0, 1) := by decide +kernel
theorem dL_come_106 : decode cL_come 106 = .ok (.invokevirtual 58, 3) := by decide +kernel
theorem dL_come_109 : decode cL_come 109 = .ok (.istore 6, 2) := by decide +kernel
theorem dL_come_111 : decode cL_come 111 = .ok (.aload_n 0, 1) := by decide +kernel
theorem dL_come_112 : decode cL_come 112 = .ok (.iload_n 3, 1) := by decide +kernel
theorem dL_come_113 : decode cL_come 113 = .ok (.iconst 0, 1) := by decide +kernel
theorem dL_come_114 : decode cL_come 114 = .ok (.invokevirtual 61, 3) := by decide +kernel
theorem dL_come_117 : decode cL_come 117 = .ok (.iload 6, 2) := by decide +kernel
theorem dL_come_119 : decode cL_come 119 = .ok (.if_icmp .eq 14, 3) := by decide +kernel
theorem dL_come_122 : decode cL_come 122 = .ok (.aload_n 0, 1) := by decide +kernel
theorem dL_come_123 : decode cL_come 123 = .ok (.iload_n 3, 1) := by decide +kernel
theorem dL_come_124 : decode cL_come 124 = .ok (.iconst 1, 1) := by decide +kernel
theorem dL_come_125 : decode cL_come 125 = .ok (.invokevirtual 61, 3) := by decide +kernel
theorem dL_come_128 : decode cL_come 128 = .ok (.iload 6, 2) := by decide +kernel
theorem dL_come_130 : decode cL_come 130 = .ok (.if_icmp .ne 7, 3) := by decide +kernel
theorem dL_come_133 : decode cL_come 133 = .ok (.iconst 1, 1) := by decide +kernel
theorem dL_come_134 : decode cL_come 134 = .ok (.goto 4, 3) := by decide +kernel
theorem dL_come_137 : decode cL_come 137 = .ok (.iconst 0, 1) := by decide +kernel
theorem dL_come_138 : decode cL_come 138 = .ok (.istore 7, 2) := by decide +kernel
theorem dL_come_140 : decode cL_come 140 = .ok (.iload 7, 2) := by decide +kernel
theorem dL_come_142 : decode cL_come 142 = .ok (.ifCond .eq 30, 3) := by decide +kernel
theorem dL_come_145 : decode cL_come 145 = .ok (.aload_n 0, 1) := by decide +kernel
theorem dL_come_146 : decode cL_come 146 = .ok (.iload_n 2, 1) := by decide +kernel
theorem dL_come_147 : decode cL_come 147 = .ok (.iconst 2, 1) := by decide +kernel
theorem dL_come_148 : decode cL_come 148 = .ok (.invokevirtual 58, 3) := by decide +kernel
theorem dL_come_151 : decode cL_come 151 = .ok (.ifCond .ne 21, 3) := by decide +kernel
theorem dL_come_154 : decode cL_come 154 = .ok (.aload_n 0, 1) := by decide +kernel
theorem dL_come_155 : decode cL_come 155 = .ok (.iload_n 2, 1) := by decide +kernel
theorem dL_come_156 : decode cL_come 156 = .ok (.iload_n 3, 1) := by decide +kernel
theorem dL_come_157 : decode cL_come 157 = .ok (.aload_n 0, 1) := by decide +kernel
theorem dL_come_158 : decode cL_come 158 = .ok (.iload_n 2, 1) := by decide +kernel
theorem dL_come_159 : decode cL_come 159 = .ok (.iconst 5, 1) := by decide +kernel
theorem dL_come_160 : decode cL_come 160 = .ok (.invokevirtual 58, 3) := by decide +kernel
theorem dL_come_163 : decode cL_come 163 = .ok (.iload_n 1, 1) := by decide +kernel
theorem dL_come_164 : decode cL_come 164 = .ok (.bipush 7, 2) := by decide +kernel
theorem dL_come_166 : decode cL_come 166 = .ok (.ishr, 1) := by decide +kernel
theorem dL_come_167 : decode cL_come 167 = .ok (.iand, 1) := by decide +kernel
theorem dL_come_168 : decode cL_come 168 = .ok (.invokevirtual 64, 3) := by decide +kernel
theorem dL_come_171 : decode cL_come 171 = .ok (.pop, 1) := by decide +kernel
theorem dL_come_172 : decode cL_come 172 = .ok (.return_, 1) := by decide +kernel
set_option maxRecDepth 100000 in
theorem ggL_isDone_X8_night : GoodIn wsL_isDone wsX8_night := goodIn_ca (wk_g wm_L_isDone 2185 wc_X8_night rfl (by decide +kernel) (by decide +kernel) wq_X8_night) (goodIn_sub (fun _ h => List.mem_cons_of_mem _ (List.mem_append_left _ (List.mem_append_left _ (List.mem_append_right _ h)))) (by decide +kernel))
set_option maxRecDepth 100000 in
theorem gL_isDone_X8_night : GoodIn wsL_isDone (wsV RL 46 RX8 yX8_night wsX8_night) := goodIn_app (wk_h wm_L_isDone [2182, 2183, 2184, 2001] (by decide +kernel) (by decide +kernel) (by decide +kernel)) ggL_isDone_X8_night
set_option maxRecDepth 100000 in
theorem ggL_isDone_L_below : GoodIn wsL_isDone wsL_below := wk_g wm_L_isDone 4043 wc_L_below rfl (by decide +kernel) (by decide +kernel) wq_L_below
set_option maxRecDepth 100000 in
theorem gL_isDone_L_below : GoodIn wsL_isDone (va_wsS RL 18 yL_below wsL_below) := goodIn_app (wk_h wm_L_isDone [4041, 4042, 2000] (by decide +kernel) (by decide +kernel) (by decide +kernel)) ggL_isDone_L_below
set_option maxRecDepth 100000 in
theorem ggL_isDone_X8_yawn : GoodIn wsL_isDone wsX8_yawn := goodIn_ca (goodIn_ca (wk_g wm_L_isDone 5057 wc_X8_yawn rfl (by decide +kernel) (by decide +kernel) wq_X8_yawn) (goodIn_sub (fun _ h => List.mem_cons_of_mem _ (List.mem_append_left _ (List.mem_append_right _ h))) (by decide +kernel))) (goodIn_sub (fun _ h => List.mem_cons_of_mem _ (List.mem_append_right _ h)) (by decide +kernel))
set_option maxRecDepth 100000 in
theorem gL_isDone_X8_yawn : GoodIn wsL_isDone (wsV RL 70 RX8 yX8_yawn wsX8_yawn) := goodIn_app (wk_h wm_L_isDone [5054, 5055, 5056, 2001] (by decide +kernel) (by decide +kernel) (by decide +kernel)) ggL_isDone_X8_yawn
set_option maxRecDepth 100000 in
theorem ggL_isDone_X8_leave : GoodIn wsL_isDone wsX8_leave := goodIn_ca (goodIn_ca (wk_g wm_L_isDone 5125 wc_X8_leave rfl (by decide +kernel) (by decide +kernel) wq_X8_leave) (goodIn_sub (fun _ h => List.mem_cons_of_mem _ (List.mem_append_left _ (List.mem_append_right _ h))) (by decide +kernel))) (goodIn_sub (fun _ h => List.mem_cons_of_mem _ (List.mem_append_right _ h)) (by decide +kernel))
set_option maxRecDepth 100000 in
theorem gL_isDone_X8_leave : GoodIn wsL_isDone (wsV RL 73 RX8 yX8_leave wsX8_leave) := goodIn_app (wk_h wm_L_isDone [5122, 5123, 5124, 2001] (by decide +kernel) (by decide +kernel) (by decide +kernel)) ggL_isDone_X8_leave
set_option maxRecDepth 100000 in
theorem ggL_isDone_X8_give : GoodIn wsL_isDone wsX8_give := goodIn_ca (goodIn_ca (wk_g wm_L_isDone 5130 wc_X8_give rfl (by decide +kernel) (by decide +kernel) wq_X8_give) (goodIn_sub (fun _ h => List.mem_cons_of_mem _ (List.mem_append_left _ (List.mem_append_right _ h))) (by decide +kernel))) (goodIn_sub (fun _ h => List.mem_cons_of_mem _ (List.mem_append_right _ h)) (by decide +kernel))
set_option maxRecDepth 100000 in
theorem gL_isDone_X8_give : GoodIn wsL_isDone (wsV RL 76 RX8 yX8_give wsX8_give) := goodIn_app (wk_h wm_L_isDone [5127, 5128, 5129, 2001] (by decide +kernel) (by decide +kernel) (by decide +kernel)) ggL_isDone_X8_give
set_option maxRecDepth 100000 in
theorem ggL_isDone_X8_appeal : GoodIn wsL_isDone wsX8_appeal := goodIn_ca (goodIn_ca (wk_g wm_L_isDone 5136 wc_X8_appeal rfl (by decide +kernel) (by decide +kernel) wq_X8_appeal) (goodIn_sub (fun _ h => List.mem_cons_of_mem _ (List.mem_append_left _ (List.mem_append_right _ h))) (by decide +kernel))) (goodIn_sub (fun _ h => List.mem_cons_of_mem _ (List.mem_append_right _ h)) (by decide +kernel))
set_option maxRecDepth 100000 in
theorem gL_isDone_X8_appeal : GoodIn wsL_isDone (wsV RL 79 RX8 yX8_appeal wsX8_appeal) := goodIn_app (wk_h wm_L_isDone [5133, 5134, 5135, 2001] (by decide +kernel) (by decide +kernel) (by decide +kernel)) ggL_isDone_X8_appeal
set_option maxRecDepth 100000 in
theorem ggL_isDone_X8_relieve : GoodIn wsL_isDone wsX8_relieve := goodIn_ca (wk_g wm_L_isDone 5141 wc_X8_relieve rfl (by decide +kernel) (by decide +kernel) wq_X8_relieve) (goodIn_sub (fun _ h => List.mem_cons_of_mem _ (List.mem_append_right _ h)) (by decide +kernel))
set_option maxRecDepth 100000 in
theorem gL_isDone_X8_relieve : GoodIn wsL_isDone (wsV RL 83 RX8 yX8_relieve wsX8_relieve) := goodIn_app (wk_h wm_L_isDone [5138, 5139, 5140, 2001] (by decide +kernel) (by decide +kernel) (by decide +kernel)) ggL_isDone_X8_relieve
set_option maxRecDepth 100000 in
theorem ggL_isDone_X8_sing : GoodIn wsL_isDone wsX8_sing := goodIn_ca (goodIn_ca (wk_g wm_L_isDone 5145 wc_X8_sing rfl (by decide +kernel) (by decide +kernel) wq_X8_sing) (goodIn_sub (fun _ h => List.mem_cons_of_mem _ (List.mem_append_right _ h)) (by decide +kernel))) (goodIn_sub (fun _ h => List.mem_cons_of_mem _ (List.mem_append_left _ (List.mem_append_left _ (List.mem_append_right _ h)))) (by decide +kernel))
set_option maxRecDepth 100000 in
theorem gL_isDone_X8_sing : GoodIn wsL_isDone (wsV RL 50 RX8 yX8_sing wsX8_sing) := goodIn_app (wk_h wm_L_isDone [5142, 5143, 5144, 2001] (by decide +kernel) (by decide +kernel) (by decide +kernel)) ggL_isDone_X8_sing
set_option maxRecDepth 100000 in
theorem ggL_isDone_X8_revoke : GoodIn wsL_isDone wsX8_revoke := goodIn_ca (goodIn_ca (wk_g wm_L_isDone 5168 wc_X8_revoke rfl (by decide +kernel) (by decide +kernel) wq_X8_revoke) (goodIn_sub (fun _ h => List.mem_cons_of_mem _ (List.mem_append_right _ h)) (by decide +kernel))) (goodIn_sub (fun _ h => List.mem_cons_of_mem _ (List.mem_append_left _ (List.mem_append_left _ (List.mem_append_right _ h)))) (by decide +kernel))
set_option maxRecDepth 100000 in
theorem gL_isDone_X8_revoke : GoodIn wsL_isDone (wsV RL 86 RX8 yX8_revoke wsX8_revoke) := goodIn_app (wk_h wm_L_isDone [5165, 5166, 5167, 2001] (by decide +kernel) (by decide +kernel) (by decide +kernel)) ggL_isDone_X8_revoke
set_option maxRecDepth 100000 in
theorem ggL_isDone_X8_odds : GoodIn wsL_isDone wsX8_odds := goodIn_ca (goodIn_ca (wk_g wm_L_isDone 4197 wc_X8_odds rfl (by decide +kernel) (by decide +kernel) wq_X8_odds) (goodIn_sub (fun _ h => List.mem_cons_of_mem _ (List.mem_append_right _ h)) (by decide +kernel))) (goodIn_sub (fun _ h => List.mem_cons_of_mem _ (List.mem_append_left _ (List.mem_append_left _ (List.mem_append_right _ h)))) (by decide +kernel))
set_option maxRecDepth 100000 in
theorem gL_isDone_X8_odds : GoodIn wsL_isDone (wsV RL 36 RX8 yX8_odds wsX8_odds) := goodIn_app (wk_h wm_L_isDone [4194, 4195, 4196, 2001] (by decide +kernel) (by decide +kernel) (by decide +kernel)) ggL_isDone_X8_odds
set_option maxRecDepth 100000 in
theorem ggL_isDone_X8_pass : GoodIn wsL_isDone wsX8_pass := goodIn_ca (goodIn_ca (wk_g wm_L_isDone 5176 wc_X8_pass rfl (by decide +kernel) (by decide +kernel) wq_X8_pass) (goodIn_sub (fun _ h => List.mem_cons_of_mem _ (List.mem_append_left _ (List.mem_append_right _ h))) (by decide +kernel))) (goodIn_sub (fun _ h => List.mem_cons_of_mem _ (List.mem_append_left _ (List.mem_append_left _ (List.mem_append_right _ h)))) (by decide +kernel))
set_option maxRecDepth 100000 in
theorem gL_isDone_X8_pass : GoodIn wsL_isDone (wsV RL 90 RX8 yX8_pass wsX8_pass) := goodIn_app (wk_h wm_L_isDone [5173, 5174, 5175, 2001] (by decide +kernel) (by decide +kernel) (by decide +kernel)) ggL_isDone_X8_pass
set_option maxRecDepth 100000 in
theorem ggL_isDone_L_come : GoodIn wsL_isDone wsL_come := goodIn_ca (goodIn_ca (goodIn_ca (wk_g wm_L_isDone 5196 wc_L_come rfl (by decide +kernel) (by decide +kernel) wq_L_come) (goodIn_sub (fun _ h => List.mem_cons_of_mem _ (List.mem_append_left _ (List.mem_append_left _ (List.mem_append_right _ h)))) (by decide +kernel))) (goodIn_sub (fun _ h => List.mem_cons_of_mem _ (List.mem_append_right _ h)) (by decide +kernel))) (goodIn_sub (fun _ h => List.mem_cons_of_mem _ (List.mem_append_left _ (List.mem_append_right _ h))) (by decide +kernel))
set_option maxRecDepth 100000 in
theorem gL_isDone_L_come : GoodIn wsL_isDone (va_wsS RL 93 yL_come wsL_come) := goodIn_app (wk_h wm_L_isDone [5194, 5195, 2000] (by decide +kernel) (by decide +kernel) (by decide +kernel)) ggL_isDone_L_come
theorem dL_isDone_0 : decode cL_isDone 0 = .ok (.iload_n 1, 1) := by decide +kernel
theorem dL_isDone_1 : decode cL_isDone 1 = .ok (.iconst 4, 1) := by decide +kernel
theorem dL_isDone_2 : decode cL_isDone 2 = .ok (.ishr, 1) := by decide +kernel
theorem dL_isDone_3 : decode cL_isDone 3 = .ok (.aload_n 0, 1) := by decide +kernel
theorem dL_isDone_4 : decode cL_isDone 4 = .ok (.iconst 2, 1) := by decide +kernel
theorem dL_isDone_5 : decode cL_isDone 5 = .ok (.invokevirtual 46, 3) := by decide +kernel
theorem dL_isDone_8 : decode cL_isDone 8 = .ok (.invokestatic 18, 3) := by decide +kernel
theorem dL_isDone_11 : decode cL_isDone 11 = .ok (.istore_n 2, 1) := by decide +kernel
theorem dL_isDone_12 : decode cL_isDone 12 = .ok (.iload_n 1, 1) := by decide +kernel
theorem dL_isDone_13 : decode cL_isDone 13 = .ok (.bipush 6, 2) := by decide +kernel
theorem dL_isDone_15 : decode cL_isDone 15 = .ok (.ishr, 1) := by decide +kernel
theorem dL_isDone_16 : decode cL_isDone 16 = .ok (.aload_n 0, 1) := by decide +kernel
theorem dL_isDone_17 : decode cL_isDone 17 = .ok (.iconst 3, 1) := by decide +kernel
theorem dL_isDone_18 : decode cL_isDone 18 = .ok (.invokevirtual 46, 3) := by decide +kernel
theorem dL_isDone_21 : decode cL_isDone 21 = .ok (.invokestatic 18, 3) := by decide +kernel
theorem dL_isDone_24 : decode cL_isDone 24 = .ok (.istore_n 3, 1) := by decide +kernel
theorem dL_isDone_25 : decode cL_isDone 25 = .ok (.iload_n 1, 1) := by decide +kernel
theorem dL_isDone_26 : decode cL_isDone 26 = .ok (.iconst 5, 1) := by decide +kernel
theorem dL_isDone_27 : decode cL_isDone 27 = .ok (.ishr, 1) := by decide +kernel
theorem dL_isDone_28 : decode cL_isDone 28 = .ok (.iconst 1, 1) := by decide +kernel
theorem dL_isDone_29 : decode cL_isDone 29 = .ok (.aload_n 0, 1) := by decide +kernel
theorem dL_isDone_30 : decode cL_isDone 30 = .ok (.iconst 5, 1) := by decide +kernel
theorem dL_isDone_31 : decode cL_isDone 31 = .ok (.invokevirtual 46, 3) := by decide +kernel
theorem dL_isDone_34 : decode cL_isDone 34 = .ok (.invokestatic 67, 3) := by decide +kernel
theorem dL_isDone_37 : decode cL_isDone 37 = .ok (.invokestatic 18, 3) := by decide +kernel
theorem dL_isDone_40 : decode cL_isDone 40 = .ok (.istore 4, 2) := by decide +kernel
theorem dL_isDone_42 : decode cL_isDone 42 = .ok (.iload_n 1, 1) := by decide +kernel
theorem dL_isDone_43 : decode cL_isDone 43 = .ok (.bipush 13, 2) := by decide +kernel
theorem dL_isDone_45 : decode cL_isDone 45 = .ok (.invokestatic 18, 3) := by decide +kernel
theorem dL_isDone_48 : decode cL_isDone 48 = .ok (.tableswitch 172 0 10 #[60, 60, 60, 60, 69, 78, 89, 99, 108, 136, 154], 60) := by decide +kernel
theorem dL_isDone_108 : decode cL_isDone 108 = .ok (.aload_n 0, 1) := by decide +kernel
theorem dL_isDone_109 : decode cL_isDone 109 = .ok (.iload_n 2, 1) := by decide +kernel
theorem dL_isDone_110 : decode cL_isDone 110 = .ok (.invokevirtual 70, 3) := by decide +kernel
theorem dL_isDone_113 : decode cL_isDone 113 = .ok (.pop, 1) := by decide +kernel
theorem dL_isDone_114 : decode cL_isDone 114 = .ok (.goto 113, 3) := by decide +kernel
theorem dL_isDone_117 : decode cL_isDone 117 = .ok (.aload_n 0, 1) := by decide +kernel
theorem dL_isDone_118 : decode cL_isDone 118 = .ok (.iload_n 3, 1) := by decide +kernel
theorem dL_isDone_119 : decode cL_isDone 119 = .ok (.invokevirtual 73, 3) := by decide +kernel
theorem dL_isDone_122 : decode cL_isDone 122 = .ok (.pop, 1) := by decide +kernel
theorem dL_isDone_123 : decode cL_isDone 123 = .ok (.goto 104, 3) := by decide +kernel
theorem dL_isDone_126 : decode cL_isDone 126 = .ok (.aload_n 0, 1) := by decide +kernel
theorem dL_isDone_127 : decode cL_isDone 127 = .ok (.iload 4, 2) := by decide +kernel
theorem dL_isDone_129 : decode cL_isDone 129 = .ok (.iload_n 3, 1) := by decide +kernel
theorem dL_isDone_130 : decode cL_isDone 130 = .ok (.invokevirtual 76, 3) := by decide +kernel
theorem dL_isDone_133 : decode cL_isDone 133 = .ok (.pop, 1) := by decide +kernel
theorem dL_isDone_134 : decode cL_isDone 134 = .ok (.goto 93, 3) := by decide +kernel
theorem dL_isDone_137 : decode cL_isDone 137 = .ok (.aload_n 0, 1) := by decide +kernel
theorem dL_isDone_138 : decode cL_isDone 138 = .ok (.iload 4, 2) := by decide +kernel
theorem dL_isDone_140 : decode cL_isDone 140 = .ok (.invokevirtual 79, 3) := by decide +kernel
theorem dL_isDone_143 : decode cL_isDone 143 = .ok (.pop, 1) := by decide +kernel
theorem dL_isDone_144 : decode cL_isDone 144 = .ok (.goto 83, 3) := by decide +kernel
theorem dL_isDone_147 : decode cL_isDone 147 = .ok (.aload_n 0, 1) := by decide +kernel
theorem dL_isDone_148 : decode cL_isDone 148 = .ok (.iload_n 2, 1) := by decide +kernel
theorem dL_isDone_149 : decode cL_isDone 149 = .ok (.invokevirtual 83, 3) := by decide +kernel
theorem dL_isDone_152 : decode cL_isDone 152 = .ok (.pop, 1) := by decide +kernel
theorem dL_isDone_153 : decode cL_isDone 153 = .ok (.goto 74, 3) := by decide +kernel
theorem dL_isDone_156 : decode cL_isDone 156 = .ok (.aload_n 0, 1) := by decide +kernel
theorem dL_isDone_157 : decode cL_isDone 157 = .ok (.iload_n 2, 1) := by decide +kernel
theorem dL_isDone_158 : decode cL_isDone 158 = .ok (.aload_n 0, 1) := by decide +kernel
theorem dL_isDone_159 : decode cL_isDone 159 = .ok (.iload_n 3, 1) := by decide +kernel
theorem dL_isDone_160 : decode cL_isDone 160 = .ok (.iload_n 2, 1) := by decide +kernel
theorem dL_isDone_161 : decode cL_isDone 161 = .ok (.aload_n 0, 1) := by decide +kernel
theorem dL_isDone_162 : decode cL_isDone 162 = .ok (.iconst 0, 1) := by decide +kernel
theorem dL_isDone_163 : decode cL_isDone 163 = .ok (.invokevirtual 46, 3) := by decide +kernel
theorem dL_isDone_166 : decode cL_isDone 166 = .ok (.iload_n 1, 1) := by decide +kernel
theorem dL_isDone_167 : decode cL_isDone 167 = .ok (.iconst 3, 1) := by decide +kernel
theorem dL_isDone_168 : decode cL_isDone 168 = .ok (.ishr, 1) := by decide +kernel
theorem dL_isDone_169 : decode cL_isDone 169 = .ok (.bipush 97, 2) := by decide +kernel
theorem dL_isDone_171 : decode cL_isDone 171 = .ok (.invokestatic 18, 3) := by decide +kernel
theorem dL_isDone_174 : decode cL_isDone 174 = .ok (.invokevirtual 50, 3) := by decide +kernel
theorem dL_isDone_177 : decode cL_isDone 177 = .ok (.invokevirtual 86, 3) := by decide +kernel
theorem dL_isDone_180 : decode cL_isDone 180 = .ok (.pop, 1) := by decide +kernel
theorem dL_isDone_181 : decode cL_isDone 181 = .ok (.goto 46, 3) := by decide +kernel
theorem dL_isDone_184 : decode cL_isDone 184 = .ok (.aload_n 0, 1) := by decide +kernel
theorem dL_isDone_185 : decode cL_isDone 185 = .ok (.iload_n 2, 1) := by decide +kernel
theorem dL_isDone_186 : decode cL_isDone 186 = .ok (.iload_n 1, 1) := by decide +kernel
theorem dL_isDone_187 : decode cL_isDone 187 = .ok (.bipush 7, 2) := by decide +kernel
theorem dL_isDone_189 : decode cL_isDone 189 = .ok (.ishr, 1) := by decide +kernel
theorem dL_isDone_190 : decode cL_isDone 190 = .ok (.bipush 11, 2) := by decide +kernel
theorem dL_isDone_192 : decode cL_isDone 192 = .ok (.invokestatic 18, 3) := by decide +kernel
theorem dL_isDone_195 : decode cL_isDone 195 = .ok (.invokevirtual 36, 3) := by decide +kernel
theorem dL_isDone_198 : decode cL_isDone 198 = .ok (.pop, 1) := by decide +kernel
theorem dL_isDone_199 : decode cL_isDone 199 = .ok (.goto 28, 3) := by decide +kernel
theorem dL_isDone_202 : decode cL_isDone 202 = .ok (.aload_n 0, 1) := by decide +kernel
theorem dL_isDone_203 : decode cL_isDone 203 = .ok (.iconst 1, 1) := by decide +kernel
theorem dL_isDone_204 : decode cL_isDone 204 = .ok (.iload_n 1, 1) := by decide +kernel
theorem dL_isDone_205 : decode cL_isDone 205 = .ok (.iconst 4, 1) := by decide +kernel
theorem dL_isDone_206 : decode cL_isDone 206 = .ok (.ishr, 1) := by decide +kernel
theorem dL_isDone_207 : decode cL_isDone 207 = .ok (.bipush 7, 2) := by decide +kernel
theorem dL_isDone_209 : decode cL_isDone 209 = .ok (.invokestatic 18, 3) := by decide +kernel
theorem dL_isDone_212 : decode cL_isDone 212 = .ok (.iadd, 1) := by decide +kernel
theorem dL_isDone_213 : decode cL_isDone 213 = .ok (.invokevirtual 90, 3) := by decide +kernel
theorem dL_isDone_216 : decode cL_isDone 216 = .ok (.pop, 1) := by decide +kernel
theorem dL_isDone_217 : decode cL_isDone 217 = .ok (.goto 10, 3) := by decide +kernel
theorem dL_isDone_220 : decode cL_isDone 220 = .ok (.aload_n 0, 1) := by decide +kernel
theorem dL_isDone_221 : decode cL_isDone 221 = .ok (.iload_n 1, 1) := by decide +kernel
theorem dL_isDone_222 : decode cL_isDone 222 = .ok (.iconst 4, 1) := by decide +kernel
theorem dL_isDone_223 : decode cL_isDone 223 = .ok (.ishr, 1) := by decide +kernel
theorem dL_isDone_224 : decode cL_isDone 224 = .ok (.invokestatic 93, 3) := by decide +kernel
theorem dL_isDone_227 : decode cL_isDone 227 = .ok (.iconst 1, 1) := by decide +kernel
theorem dL_isDone_228 : decode cL_isDone 228 = .ok (.ireturn, 1) := by decide +kernel
theorem dL_isDone_229 : decode cL_isDone 229 = .ok (.astore 5, 2) := by decide +kernel
theorem dL_isDone_231 : decode cL_isDone 231 = .ok (.iconst 0, 1) := by decide +kernel
theorem dL_isDone_232 : decode cL_isDone 232 = .ok (.ireturn, 1) := by decide +kernel
theorem dL_isDone_233 : decode cL_isDone 233 = .ok (.astore 5, 2) := by decide +kernel
theorem dL_isDone_235 : decode cL_isDone 235 = .ok (.aload_n 0, 1) := by decide +kernel
theorem dL_isDone_236 : decode cL_isDone 236 = .ok (.iconst 5, 1) := by decide +kernel
theorem dL_isDone_237 : decode cL_isDone 237 = .ok (.invokevirtual 46, 3) := by decide +kernel
theorem dL_isDone_240 : decode cL_isDone 240 = .ok (.ifCond .ne 7, 3) := by decide +kernel
theorem dL_isDone_243 : decode cL_isDone 243 = .ok (.iconst 1, 1) := by decide +kernel
theorem dL_isDone_244 : decode cL_isDone 244 = .ok (.goto 4, 3) := by decide +kernel
theorem dL_isDone_247 : decode cL_isDone 247 = .ok (.iconst 0, 1) := by decide +kernel
theorem dL_isDone_248 : decode cL_isDone 248 = .ok (.ireturn, 1) := by decide +kernel
set_option maxRecDepth 100000 in
theorem ggL_law_L_night : GoodIn wsL_law wsL_night := goodIn_ca (goodIn_ca (goodIn_ca (wk_g wm_L_law 3165 wc_L_night rfl (by decide +kernel) (by decide +kernel) wq_L_night) (goodIn_sub (fun _ h => List.mem_append_left _ (List.mem_append_left _ (List.mem_append_right _ h))) (by decide +kernel))) (goodIn_sub (fun _ h => List.mem_append_left _ (List.mem_append_right _ h)) (by decide +kernel))) (goodIn_sub (fun _ h => List.mem_append_right _ h) (by decide +kernel))
set_option maxRecDepth 100000 in
theorem gL_law_L_night : GoodIn wsL_law (va_wsS RL 101 yL_night wsL_night) := goodIn_app (wk_h wm_L_law [3163, 3164, 2000] (by decide +kernel) (by decide +kernel) (by decide +kernel)) ggL_law_L_night
set_option maxRecDepth 100000 in
theorem ggL_law_X8_night : GoodIn wsL_law wsX8_night := goodIn_ca (wk_g wm_L_law 2185 wc_X8_night rfl (by decide +kernel) (by decide +kernel) wq_X8_night) (goodIn_sub (fun _ h => List.mem_append_left _ (List.mem_append_right _ h)) (by decide +kernel))
set_option maxRecDepth 100000 in
theorem gL_law_X8_night : GoodIn wsL_law (wsV RL 46 RX8 yX8_night wsX8_night) := goodIn_app (wk_h wm_L_law [2182, 2183, 2184, 2001] (by decide +kernel) (by decide +kernel) (by decide +kernel)) ggL_law_X8_night
set_option maxRecDepth 100000 in
theorem ggL_law_X8_ofPart : GoodIn wsL_law wsX8_ofPart := goodIn_ca (goodIn_ca (wk_g wm_L_law 2171 wc_X8_ofPart rfl (by decide +kernel) (by decide +kernel) wq_X8_ofPart) (goodIn_sub (fun _ h => List.mem_append_left _ (List.mem_append_right _ h)) (by decide +kernel))) (goodIn_sub (fun _ h => List.mem_append_left _ (List.mem_append_left _ (List.mem_append_right _ h))) (by decide +kernel))
set_option maxRecDepth 100000 in
theorem gL_law_X8_ofPart : GoodIn wsL_law (wsV RL 104 RX8 yX8_ofPart wsX8_ofPart) := goodIn_app (wk_h wm_L_law [2168, 2169, 2170, 2001] (by decide +kernel) (by decide +kernel) (by decide +kernel)) ggL_law_X8_ofPart
set_option maxRecDepth 100000 in
theorem ggL_law_L_cell : GoodIn wsL_law wsL_cell := wk_g wm_L_law 3161 wc_L_cell rfl (by decide +kernel) (by decide +kernel) wq_L_cell
set_option maxRecDepth 100000 in
theorem gL_law_L_cell : GoodIn wsL_law (va_wsS RL 12 yL_cell wsL_cell) := goodIn_app (wk_h wm_L_law [3159, 3160, 2000] (by decide +kernel) (by decide +kernel) (by decide +kernel)) ggL_law_L_cell
set_option maxRecDepth 100000 in
theorem ggL_law_X8_digest : GoodIn wsL_law wsX8_digest := goodIn_ca (goodIn_ca (wk_g wm_L_law 2238 wc_X8_digest rfl (by decide +kernel) (by decide +kernel) wq_X8_digest) (goodIn_sub (fun _ h => List.mem_append_left _ (List.mem_append_right _ h)) (by decide +kernel))) (goodIn_sub (fun _ h => List.mem_append_left _ (List.mem_append_left _ (List.mem_append_right _ h))) (by decide +kernel))
set_option maxRecDepth 100000 in
theorem gL_law_X8_digest : GoodIn wsL_law (wsV RL 107 RX8 yX8_digest wsX8_digest) := goodIn_app (wk_h wm_L_law [2235, 2236, 2237, 2001] (by decide +kernel) (by decide +kernel) (by decide +kernel)) ggL_law_X8_digest
set_option maxRecDepth 100000 in
theorem ggL_law_L_isDone : GoodIn wsL_law wsL_isDone := goodIn_ca (goodIn_ca (goodIn_ca (wk_g wm_L_law 5050 wc_L_isDone rfl (by decide +kernel) (by decide +kernel) wq_L_isDone) (goodIn_sub (fun _ h => List.mem_append_left _ (List.mem_append_right _ h)) (by decide +kernel))) (goodIn_sub (fun _ h => List.mem_append_right _ h) (by decide +kernel))) (goodIn_sub (fun _ h => List.mem_append_left _ (List.mem_append_left _ (List.mem_append_right _ h))) (by decide +kernel))
set_option maxRecDepth 100000 in
theorem gL_law_L_isDone : GoodIn wsL_law (va_wsS RL 111 yL_isDone wsL_isDone) := goodIn_app (wk_h wm_L_law [5048, 5049, 2000] (by decide +kernel) (by decide +kernel) (by decide +kernel)) ggL_law_L_isDone
set_option maxRecDepth 100000 in
theorem ggL_law_X8_ofSleeper : GoodIn wsL_law wsX8_ofSleeper := goodIn_ca (goodIn_ca (wk_g wm_L_law 2036 wc_X8_ofSleeper rfl (by decide +kernel) (by decide +kernel) wq_X8_ofSleeper) (goodIn_sub (fun _ h => List.mem_append_left _ (List.mem_append_right _ h)) (by decide +kernel))) (goodIn_sub (fun _ h => List.mem_append_left _ (List.mem_append_left _ (List.mem_append_right _ h))) (by decide +kernel))
set_option maxRecDepth 100000 in
theorem gL_law_X8_ofSleeper : GoodIn wsL_law (wsV RL 58 RX8 yX8_ofSleeper wsX8_ofSleeper) := goodIn_app (wk_h wm_L_law [2033, 2034, 2035, 2001] (by decide +kernel) (by decide +kernel) (by decide +kernel)) ggL_law_X8_ofSleeper
set_option maxRecDepth 100000 in
theorem ggL_law_L_isSo : GoodIn wsL_law wsL_isSo := goodIn_ca (goodIn_ca (wk_g wm_L_law 6212 wc_L_isSo rfl (by decide +kernel) (by decide +kernel) wq_L_isSo) (goodIn_sub (fun _ h => List.mem_append_left _ (List.mem_append_right _ h)) (by decide +kernel))) (goodIn_sub (fun _ h => List.mem_append_left _ (List.mem_append_left _ (List.mem_append_right _ h))) (by decide +kernel))
set_option maxRecDepth 100000 in
theorem gL_law_L_isSo : GoodIn wsL_law (va_wsS RL 115 yL_isSo wsL_isSo) := goodIn_app (wk_h wm_L_law [6210, 6211, 2000] (by decide +kernel) (by decide +kernel) (by decide +kernel)) ggL_law_L_isSo
set_option maxRecDepth 100000 in
theorem ggL_law_X8_isSound : GoodIn wsL_law wsX8_isSound := wk_g wm_L_law 2210 wc_X8_isSound rfl (by decide +kernel) (by decide +kernel) wq_X8_isSound
set_option maxRecDepth 100000 in
theorem gL_law_X8_isSound : GoodIn wsL_law (wsV RL 119 RX8 yX8_isSound wsX8_isSound) := goodIn_app (wk_h wm_L_law [2207, 2208, 2209, 2001] (by decide +kernel) (by decide +kernel) (by decide +kernel)) ggL_law_X8_isSound
theorem dL_law_0 : decode cL_law 0 = .ok (.aload_n 0, 1) := by decide +kernel
theorem dL_law_1 : decode cL_law 1 = .ok (.invokestatic 101, 3) := by decide +kernel
theorem dL_law_4 : decode cL_law 4 = .ok (.astore_n 1, 1) := by decide +kernel
theorem dL_law_5 : decode cL_law 5 = .ok (.aload_n 1, 1) := by decide +kernel
theorem dL_law_6 : decode cL_law 6 = .ok (.iconst 5, 1) := by decide +kernel
theorem dL_law_7 : decode cL_law 7 = .ok (.invokevirtual 46, 3) := by decide +kernel
theorem dL_law_10 : decode cL_law 10 = .ok (.istore_n 2, 1) := by decide +kernel
theorem dL_law_11 : decode cL_law 11 = .ok (.aload_n 1, 1) := by decide +kernel
theorem dL_law_12 : decode cL_law 12 = .ok (.iconst 3, 1) := by decide +kernel
theorem dL_law_13 : decode cL_law 13 = .ok (.invokevirtual 46, 3) := by decide +kernel
theorem dL_law_16 : decode cL_law 16 = .ok (.istore_n 3, 1) := by decide +kernel
theorem dL_law_17 : decode cL_law 17 = .ok (.iload_n 2, 1) := by decide +kernel
theorem dL_law_18 : decode cL_law 18 = .ok (.newarray .int, 2) := by decide +kernel
theorem dL_law_20 : decode cL_law 20 = .ok (.astore 4, 2) := by decide +kernel
theorem dL_law_22 : decode cL_law 22 = .ok (.iload_n 2, 1) := by decide +kernel
theorem dL_law_23 : decode cL_law 23 = .ok (.newarray .boolean, 2) := by decide +kernel
theorem dL_law_25 : decode cL_law 25 = .ok (.astore 5, 2) := by decide +kernel
theorem dL_law_27 : decode cL_law 27 = .ok (.iload_n 3, 1) := by decide +kernel
theorem dL_law_28 : decode cL_law 28 = .ok (.newarray .boolean, 2) := by decide +kernel
theorem dL_law_30 : decode cL_law 30 = .ok (.astore 6, 2) := by decide +kernel
theorem dL_law_32 : decode cL_law 32 = .ok (.iconst 0, 1) := by decide +kernel
theorem dL_law_33 : decode cL_law 33 = .ok (.istore 7, 2) := by decide +kernel
theorem dL_law_35 : decode cL_law 35 = .ok (.iload 7, 2) := by decide +kernel
theorem dL_law_37 : decode cL_law 37 = .ok (.iload_n 2, 1) := by decide +kernel
theorem dL_law_38 : decode cL_law 38 = .ok (.if_icmp .ge 44, 3) := by decide +kernel
theorem dL_law_41 : decode cL_law 41 = .ok (.aload 4, 2) := by decide +kernel
theorem dL_law_43 : decode cL_law 43 = .ok (.iload 7, 2) := by decide +kernel
theorem dL_law_45 : decode cL_law 45 = .ok (.bipush 100, 2) := by decide +kernel
theorem dL_law_47 : decode cL_law 47 = .ok (.aload_n 1, 1) := by decide +kernel
theorem dL_law_48 : decode cL_law 48 = .ok (.iload 7, 2) := by decide +kernel
theorem dL_law_50 : decode cL_law 50 = .ok (.iconst 0, 1) := by decide +kernel
theorem dL_law_51 : decode cL_law 51 = .ok (.invokevirtual 104, 3) := by decide +kernel
theorem dL_law_54 : decode cL_law 54 = .ok (.imul, 1) := by decide +kernel
theorem dL_law_55 : decode cL_law 55 = .ok (.aload_n 1, 1) := by decide +kernel
theorem dL_law_56 : decode cL_law 56 = .ok (.iload 7, 2) := by decide +kernel
theorem dL_law_58 : decode cL_law 58 = .ok (.iconst 1, 1) := by decide +kernel
theorem dL_law_59 : decode cL_law 59 = .ok (.invokevirtual 104, 3) := by decide +kernel
theorem dL_law_62 : decode cL_law 62 = .ok (.iadd, 1) := by decide +kernel
theorem dL_law_63 : decode cL_law 63 = .ok (.sipush 1000, 3) := by decide +kernel
theorem dL_law_66 : decode cL_law 66 = .ok (.aload_n 1, 1) := by decide +kernel
theorem dL_law_67 : decode cL_law 67 = .ok (.iload 7, 2) := by decide +kernel
theorem dL_law_69 : decode cL_law 69 = .ok (.iconst 2, 1) := by decide +kernel
theorem dL_law_70 : decode cL_law 70 = .ok (.invokevirtual 104, 3) := by decide +kernel
theorem dL_law_73 : decode cL_law 73 = .ok (.imul, 1) := by decide +kernel
theorem dL_law_74 : decode cL_law 74 = .ok (.iadd, 1) := by decide +kernel
theorem dL_law_75 : decode cL_law 75 = .ok (.iastore, 1) := by decide +kernel
theorem dL_law_76 : decode cL_law 76 = .ok (.iinc 7 1, 3) := by decide +kernel
theorem dL_law_79 : decode cL_law 79 = .ok (.goto (-44), 3) := by decide +kernel
theorem dL_law_82 : decode cL_law 82 = .ok (.iconst 4, 1) := by decide +kernel
theorem dL_law_83 : decode cL_law 83 = .ok (.newarray .int, 2) := by decide +kernel
theorem dL_law_85 : decode cL_law 85 = .ok (.astore 7, 2) := by decide +kernel
theorem dL_law_87 : decode cL_law 87 = .ok (.iconst 0, 1) := by decide +kernel
theorem dL_law_88 : decode cL_law 88 = .ok (.istore 8, 2) := by decide +kernel
theorem dL_law_90 : decode cL_law 90 = .ok (.iload 8, 2) := by decide +kernel
theorem dL_law_92 : decode cL_law 92 = .ok (.bipush 22, 2) := by decide +kernel
theorem dL_law_94 : decode cL_law 94 = .ok (.if_icmp .ge 356, 3) := by decide +kernel
theorem dL_law_97 : decode cL_law 97 = .ok (.aload_n 0, 1) := by decide +kernel
theorem dL_law_98 : decode cL_law 98 = .ok (.bipush 14, 2) := by decide +kernel
theorem dL_law_100 : decode cL_law 100 = .ok (.iload 8, 2) := by decide +kernel
theorem dL_law_102 : decode cL_law 102 = .ok (.iadd, 1) := by decide +kernel
theorem dL_law_103 : decode cL_law 103 = .ok (.invokestatic 12, 3) := by decide +kernel
theorem dL_law_106 : decode cL_law 106 = .ok (.istore 9, 2) := by decide +kernel
theorem dL_law_108 : decode cL_law 108 = .ok (.aload_n 1, 1) := by decide +kernel
theorem dL_law_109 : decode cL_law 109 = .ok (.invokevirtual 107, 3) := by decide +kernel
theorem dL_law_112 : decode cL_law 112 = .ok (.lstore 10, 2) := by decide +kernel
theorem dL_law_114 : decode cL_law 114 = .ok (.aload_n 1, 1) := by decide +kernel
theorem dL_law_115 : decode cL_law 115 = .ok (.iload 9, 2) := by decide +kernel
theorem dL_law_117 : decode cL_law 117 = .ok (.invokestatic 111, 3) := by decide +kernel
theorem dL_law_120 : decode cL_law 120 = .ok (.ifCond .ne 15, 3) := by decide +kernel
theorem dL_law_123 : decode cL_law 123 = .ok (.aload_n 1, 1) := by decide +kernel
theorem dL_law_124 : decode cL_law 124 = .ok (.invokevirtual 107, 3) := by decide +kernel
theorem dL_law_127 : decode cL_law 127 = .ok (.lload 10, 2) := by decide +kernel
theorem dL_law_129 : decode cL_law 129 = .ok (.lcmp, 1) := by decide +kernel
theorem dL_law_130 : decode cL_law 130 = .ok (.ifCond .eq 5, 3) := by decide +kernel
theorem dL_law_133 : decode cL_law 133 = .ok (.iconst 0, 1) := by decide +kernel
theorem dL_law_134 : decode cL_law 134 = .ok (.ireturn, 1) := by decide +kernel
theorem dL_law_135 : decode cL_law 135 = .ok (.iconst 4, 1) := by decide +kernel
theorem dL_law_136 : decode cL_law 136 = .ok (.newarray .int, 2) := by decide +kernel
theorem dL_law_138 : decode cL_law 138 = .ok (.dup, 1) := by decide +kernel
theorem dL_law_139 : decode cL_law 139 = .ok (.iconst 0, 1) := by decide +kernel
theorem dL_law_140 : decode cL_law 140 = .ok (.aload_n 1, 1) := by decide +kernel
theorem dL_law_141 : decode cL_law 141 = .ok (.bipush 12, 2) := by decide +kernel
theorem dL_law_143 : decode cL_law 143 = .ok (.invokevirtual 46, 3) := by decide +kernel
theorem dL_law_146 : decode cL_law 146 = .ok (.iastore, 1) := by decide +kernel
theorem dL_law_147 : decode cL_law 147 = .ok (.dup, 1) := by decide +kernel
theorem dL_law_148 : decode cL_law 148 = .ok (.iconst 1, 1) := by decide +kernel
theorem dL_law_149 : decode cL_law 149 = .ok (.aload_n 1, 1) := by decide +kernel
theorem dL_law_150 : decode cL_law 150 = .ok (.bipush 13, 2) := by decide +kernel
theorem dL_law_152 : decode cL_law 152 = .ok (.invokevirtual 46, 3) := by decide +kernel
theorem dL_law_155 : decode cL_law 155 = .ok (.iastore, 1) := by decide +kernel
theorem dL_law_156 : decode cL_law 156 = .ok (.dup, 1) := by decide +kernel
theorem dL_law_157 : decode cL_law 157 = .ok (.iconst 2, 1) := by decide +kernel
theorem dL_law_158 : decode cL_law 158 = .ok (.aload_n 1, 1) := by decide +kernel
theorem dL_law_159 : decode cL_law 159 = .ok (.bipush 15, 2) := by decide +kernel
theorem dL_law_161 : decode cL_law 161 = .ok (.invokevirtual 46, 3) := by decide +kernel
theorem dL_law_164 : decode cL_law 164 = .ok (.iastore, 1) := by decide +kernel
theorem dL_law_165 : decode cL_law 165 = .ok (.dup, 1) := by decide +kernel
theorem dL_law_166 : decode cL_law 166 = .ok (.iconst 3, 1) := by decide +kernel
theorem dL_law_167 : decode cL_law 167 = .ok (.aload_n 1, 1) := by decide +kernel
theorem dL_law_168 : decode cL_law 168 = .ok (.iconst 0, 1) := by decide +kernel
theorem dL_law_169 : decode cL_law 169 = .ok (.invokevirtual 46, 3) := by decide +kernel
theorem dL_law_172 : decode cL_law 172 = .ok (.bipush 24, 2) := by decide +kernel
theorem dL_law_174 : decode cL_law 174 = .ok (.imul, 1) := by decide +kernel
theorem dL_law_175 : decode cL_law 175 = .ok (.aload_n 1, 1) := by decide +kernel
theorem dL_law_176 : decode cL_law 176 = .ok (.iconst 1, 1) := by decide +kernel
theorem dL_law_177 : decode cL_law 177 = .ok (.invokevirtual 46, 3) := by decide +kernel
theorem dL_law_180 : decode cL_law 180 = .ok (.iadd, 1) := by decide +kernel
theorem dL_law_181 : decode cL_law 181 = .ok (.iastore, 1) := by decide +kernel
theorem dL_law_182 : decode cL_law 182 = .ok (.astore 12, 2) := by decide +kernel
theorem dL_law_184 : decode cL_law 184 = .ok (.iconst 0, 1) := by decide +kernel
theorem dL_law_185 : decode cL_law 185 = .ok (.istore 13, 2) := by decide +kernel
theorem dL_law_187 : decode cL_law 187 = .ok (.iload 13, 2) := by decide +kernel
theorem dL_law_189 : decode cL_law 189 = .ok (.iconst 4, 1) := by decide +kernel
theorem dL_law_190 : decode cL_law 190 = .ok (.if_icmp .ge 34, 3) := by decide +kernel
theorem dL_law_193 : decode cL_law 193 = .ok (.aload 12, 2) := by decide +kernel
theorem dL_law_195 : decode cL_law 195 = .ok (.iload 13, 2) := by decide +kernel
theorem dL_law_197 : decode cL_law 197 = .ok (.iaload, 1) := by decide +kernel
theorem dL_law_198 : decode cL_law 198 = .ok (.aload 7, 2) := by decide +kernel
theorem dL_law_200 : decode cL_law 200 = .ok (.iload 13, 2) := by decide +kernel
theorem dL_law_202 : decode cL_law 202 = .ok (.iaload, 1) := by decide +kernel
theorem dL_law_203 : decode cL_law 203 = .ok (.if_icmp .ge 5, 3) := by decide +kernel
theorem dL_law_206 : decode cL_law 206 = .ok (.iconst 0, 1) := by decide +kernel
theorem dL_law_207 : decode cL_law 207 = .ok (.ireturn, 1) := by decide +kernel
theorem dL_law_208 : decode cL_law 208 = .ok (.aload 7, 2) := by decide +kernel
theorem dL_law_210 : decode cL_law 210 = .ok (.iload 13, 2) := by decide +kernel
theorem dL_law_212 : decode cL_law 212 = .ok (.aload 12, 2) := by decide +kernel
theorem dL_law_214 : decode cL_law 214 = .ok (.iload 13, 2) := by decide +kernel
theorem dL_law_216 : decode cL_law 216 = .ok (.iaload, 1) := by decide +kernel
theorem dL_law_217 : decode cL_law 217 = .ok (.iastore, 1) := by decide +kernel
theorem dL_law_218 : decode cL_law 218 = .ok (.iinc 13 1, 3) := by decide +kernel
theorem dL_law_221 : decode cL_law 221 = .ok (.goto (-34), 3) := by decide +kernel
theorem dL_law_224 : decode cL_law 224 = .ok (.iconst 0, 1) := by decide +kernel
theorem dL_law_225 : decode cL_law 225 = .ok (.istore 13, 2) := by decide +kernel
theorem dL_law_227 : decode cL_law 227 = .ok (.iload 13, 2) := by decide +kernel
theorem dL_law_229 : decode cL_law 229 = .ok (.iload_n 2, 1) := by decide +kernel
theorem dL_law_230 : decode cL_law 230 = .ok (.if_icmp .ge 120, 3) := by decide +kernel
theorem dL_law_233 : decode cL_law 233 = .ok (.aload_n 1, 1) := by decide +kernel
theorem dL_law_234 : decode cL_law 234 = .ok (.iload 13, 2) := by decide +kernel
theorem dL_law_236 : decode cL_law 236 = .ok (.iconst 4, 1) := by decide +kernel
theorem dL_law_237 : decode cL_law 237 = .ok (.invokevirtual 104, 3) := by decide +kernel
theorem dL_law_240 : decode cL_law 240 = .ok (.istore 14, 2) := by decide +kernel
theorem dL_law_242 : decode cL_law 242 = .ok (.aload_n 1, 1) := by decide +kernel
theorem dL_law_243 : decode cL_law 243 = .ok (.iload 13, 2) := by decide +kernel
theorem dL_law_245 : decode cL_law 245 = .ok (.iconst 5, 1) := by decide +kernel
theorem dL_law_246 : decode cL_law 246 = .ok (.invokevirtual 104, 3) := by decide +kernel
theorem dL_law_249 : decode cL_law 249 = .ok (.istore 15, 2) := by decide +kernel
theorem dL_law_251 : decode cL_law 251 = .ok (.aload 4, 2) := by decide +kernel
theorem dL_law_253 : decode cL_law 253 = .ok (.iload 13, 2) := by decide +kernel
theorem dL_law_255 : decode cL_law 255 = .ok (.iaload, 1) := by decide +kernel
theorem dL_law_256 : decode cL_law 256 = .ok (.bipush 100, 2) := by decide +kernel
theorem dL_law_258 : decode cL_law 258 = .ok (.aload_n 1, 1) := by decide +kernel
theorem dL_law_259 : decode cL_law 259 = .ok (.iload 13, 2) := by decide +kernel
theorem dL_law_261 : decode cL_law 261 = .ok (.iconst 0, 1) := by decide +kernel
theorem dL_law_262 : decode cL_law 262 = .ok (.invokevirtual 104, 3) := by decide +kernel
theorem dL_law_265 : decode cL_law 265 = .ok (.imul, 1) := by decide +kernel
theorem dL_law_266 : decode cL_law 266 = .ok (.aload_n 1, 1) := by decide +kernel
theorem dL_law_267 : decode cL_law 267 = .ok (.iload 13, 2) := by decide +kernel
theorem dL_law_269 : decode cL_law 269 = .ok (.iconst 1, 1) := by decide +kernel
theorem dL_law_270 : decode cL_law 270 = .ok (.invokevirtual 104, 3) := by decide +kernel
theorem dL_law_273 : decode cL_law 273 = .ok (.iadd, 1) := by decide +kernel
theorem dL_law_274 : decode cL_law 274 = .ok (.sipush 1000, 3) := by decide +kernel
theorem dL_law_277 : decode cL_law 277 = .ok (.aload_n 1, 1) := by decide +kernel
theorem dL_law_278 : decode cL_law 278 = .ok (.iload 13, 2) := by decide +kernel
theorem dL_law_280 : decode cL_law 280 = .ok (.iconst 2, 1) := by decide +kernel
theorem dL_law_281 : decode cL_law 281 = .ok (.invokevirtual 104, 3) := by decide +kernel
theorem dL_law_284 : decode cL_law 284 = .ok (.imul, 1) := by decide +kernel
theorem dL_law_285 : decode cL_law 285 = .ok (.iadd, 1) := by decide +kernel
theorem dL_law_286 : decode cL_law 286 = .ok (.if_icmp .ne 37, 3) := by decide +kernel
theorem dL_law_289 : decode cL_law 289 = .ok (.aload 5, 2) := by decide +kernel
theorem dL_law_291 : decode cL_law 291 = .ok (.iload 13, 2) := by decide +kernel
theorem dL_law_293 : decode cL_law 293 = .ok (.baload, 1) := by decide +kernel
theorem dL_law_294 : decode cL_law 294 = .ok (.ifCond .eq 9, 3) := by decide +kernel
theorem dL_law_297 : decode cL_law 297 = .ok (.iload 14, 2) := by decide +kernel
theorem dL_law_299 : decode cL_law 299 = .ok (.iconst (-1), 1) := by decide +kernel
theorem dL_law_300 : decode cL_law 300 = .ok (.if_icmp .ne 23, 3) := by decide +kernel
theorem dL_law_303 : decode cL_law 303 = .ok (.iload 15, 2) := by decide +kernel
theorem dL_law_305 : decode cL_law 305 = .ok (.ifCond .lt 20, 3) := by decide +kernel
theorem dL_law_308 : decode cL_law 308 = .ok (.aload_n 1, 1) := by decide +kernel
theorem dL_law_309 : decode cL_law 309 = .ok (.iload 15, 2) := by decide +kernel
theorem dL_law_311 : decode cL_law 311 = .ok (.iconst 5, 1) := by decide +kernel
theorem dL_law_312 : decode cL_law 312 = .ok (.invokevirtual 58, 3) := by decide +kernel
theorem dL_law_315 : decode cL_law 315 = .ok (.iload 13, 2) := by decide +kernel
theorem dL_law_317 : decode cL_law 317 = .ok (.ishr, 1) := by decide +kernel
theorem dL_law_318 : decode cL_law 318 = .ok (.iconst 1, 1) := by decide +kernel
theorem dL_law_319 : decode cL_law 319 = .ok (.iand, 1) := by decide +kernel
theorem dL_law_320 : decode cL_law 320 = .ok (.ifCond .ne 5, 3) := by decide +kernel
theorem dL_law_323 : decode cL_law 323 = .ok (.iconst 0, 1) := by decide +kernel
theorem dL_law_324 : decode cL_law 324 = .ok (.ireturn, 1) := by decide +kernel
theorem dL_law_325 : decode cL_law 325 = .ok (.aload 5, 2) := by decide +kernel
theorem dL_law_327 : decode cL_law 327 = .ok (.iload 13, 2) := by decide +kernel
theorem dL_law_329 : decode cL_law 329 = .ok (.dup2, 1) := by decide +kernel
theorem dL_law_330 : decode cL_law 330 = .ok (.baload, 1) := by decide +kernel
theorem dL_law_331 : decode cL_law 331 = .ok (.iload 14, 2) := by decide +kernel
theorem dL_law_333 : decode cL_law 333 = .ok (.iconst (-1), 1) := by decide +kernel
theorem dL_law_334 : decode cL_law 334 = .ok (.if_icmp .ne 7, 3) := by decide +kernel
theorem dL_law_337 : decode cL_law 337 = .ok (.iconst 1, 1) := by decide +kernel
theorem dL_law_338 : decode cL_law 338 = .ok (.goto 4, 3) := by decide +kernel
theorem dL_law_341 : decode cL_law 341 = .ok (.iconst 0, 1) := by decide +kernel
theorem dL_law_342 : decode cL_law 342 = .ok (.ior, 1) := by decide +kernel
theorem dL_law_343 : decode cL_law 343 = .ok (.bastore, 1) := by decide +kernel
theorem dL_law_344 : decode cL_law 344 = .ok (.iinc 13 1, 3) := by decide +kernel
theorem dL_law_347 : decode cL_law 347 = .ok (.goto (-120), 3) := by decide +kernel
theorem dL_law_350 : decode cL_law 350 = .ok (.iconst 0, 1) := by decide +kernel
theorem dL_law_351 : decode cL_law 351 = .ok (.istore 13, 2) := by decide +kernel
theorem dL_law_353 : decode cL_law 353 = .ok (.iload 13, 2) := by decide +kernel
theorem dL_law_355 : decode cL_law 355 = .ok (.iload_n 3, 1) := by decide +kernel
theorem dL_law_356 : decode cL_law 356 = .ok (.if_icmp .ge 79, 3) := by decide +kernel
theorem dL_law_359 : decode cL_law 359 = .ok (.aload_n 1, 1) := by decide +kernel
theorem dL_law_360 : decode cL_law 360 = .ok (.iload 13, 2) := by decide +kernel
theorem dL_law_362 : decode cL_law 362 = .ok (.iconst 2, 1) := by decide +kernel
theorem dL_law_363 : decode cL_law 363 = .ok (.invokevirtual 58, 3) := by decide +kernel
theorem dL_law_366 : decode cL_law 366 = .ok (.istore 14, 2) := by decide +kernel
theorem dL_law_368 : decode cL_law 368 = .ok (.aload 6, 2) := by decide +kernel
theorem dL_law_370 : decode cL_law 370 = .ok (.iload 13, 2) := by decide +kernel
theorem dL_law_372 : decode cL_law 372 = .ok (.baload, 1) := by decide +kernel
theorem dL_law_373 : decode cL_law 373 = .ok (.ifCond .eq 9, 3) := by decide +kernel
theorem dL_law_376 : decode cL_law 376 = .ok (.iload 14, 2) := by decide +kernel
theorem dL_law_378 : decode cL_law 378 = .ok (.iconst 2, 1) := by decide +kernel
theorem dL_law_379 : decode cL_law 379 = .ok (.if_icmp .ne 29, 3) := by decide +kernel
theorem dL_law_382 : decode cL_law 382 = .ok (.iload 14, 2) := by decide +kernel
theorem dL_law_384 : decode cL_law 384 = .ok (.iconst 2, 1) := by decide +kernel
theorem dL_law_385 : decode cL_law 385 = .ok (.if_icmp .ne 25, 3) := by decide +kernel
theorem dL_law_388 : decode cL_law 388 = .ok (.aload_n 1, 1) := by decide +kernel
theorem dL_law_389 : decode cL_law 389 = .ok (.iload 13, 2) := by decide +kernel
theorem dL_law_391 : decode cL_law 391 = .ok (.iconst 5, 1) := by decide +kernel
theorem dL_law_392 : decode cL_law 392 = .ok (.invokevirtual 58, 3) := by decide +kernel
theorem dL_law_395 : decode cL_law 395 = .ok (.ifCond .ne 13, 3) := by decide +kernel
theorem dL_law_398 : decode cL_law 398 = .ok (.aload_n 1, 1) := by decide +kernel
theorem dL_law_399 : decode cL_law 399 = .ok (.iload 13, 2) := by decide +kernel
theorem dL_law_401 : decode cL_law 401 = .ok (.iconst 1, 1) := by decide +kernel
theorem dL_law_402 : decode cL_law 402 = .ok (.invokevirtual 58, 3) := by decide +kernel
theorem dL_law_405 : decode cL_law 405 = .ok (.ifCond .eq 5, 3) := by decide +kernel
theorem dL_law_408 : decode cL_law 408 = .ok (.iconst 0, 1) := by decide +kernel
theorem dL_law_409 : decode cL_law 409 = .ok (.ireturn, 1) := by decide +kernel
theorem dL_law_410 : decode cL_law 410 = .ok (.aload 6, 2) := by decide +kernel
theorem dL_law_412 : decode cL_law 412 = .ok (.iload 13, 2) := by decide +kernel
theorem dL_law_414 : decode cL_law 414 = .ok (.dup2, 1) := by decide +kernel
theorem dL_law_415 : decode cL_law 415 = .ok (.baload, 1) := by decide +kernel
theorem dL_law_416 : decode cL_law 416 = .ok (.iload 14, 2) := by decide +kernel
theorem dL_law_418 : decode cL_law 418 = .ok (.iconst 2, 1) := by decide +kernel
theorem dL_law_419 : decode cL_law 419 = .ok (.if_icmp .ne 7, 3) := by decide +kernel
theorem dL_law_422 : decode cL_law 422 = .ok (.iconst 1, 1) := by decide +kernel
theorem dL_law_423 : decode cL_law 423 = .ok (.goto 4, 3) := by decide +kernel
theorem dL_law_426 : decode cL_law 426 = .ok (.iconst 0, 1) := by decide +kernel
theorem dL_law_427 : decode cL_law 427 = .ok (.ior, 1) := by decide +kernel
theorem dL_law_428 : decode cL_law 428 = .ok (.bastore, 1) := by decide +kernel
theorem dL_law_429 : decode cL_law 429 = .ok (.iinc 13 1, 3) := by decide +kernel
theorem dL_law_432 : decode cL_law 432 = .ok (.goto (-79), 3) := by decide +kernel
theorem dL_law_435 : decode cL_law 435 = .ok (.aload_n 1, 1) := by decide +kernel
theorem dL_law_436 : decode cL_law 436 = .ok (.invokestatic 115, 3) := by decide +kernel
theorem dL_law_439 : decode cL_law 439 = .ok (.ifCond .ne 5, 3) := by decide +kernel
theorem dL_law_442 : decode cL_law 442 = .ok (.iconst 0, 1) := by decide +kernel
theorem dL_law_443 : decode cL_law 443 = .ok (.ireturn, 1) := by decide +kernel
theorem dL_law_444 : decode cL_law 444 = .ok (.iinc 8 1, 3) := by decide +kernel
theorem dL_law_447 : decode cL_law 447 = .ok (.goto (-357), 3) := by decide +kernel
theorem dL_law_450 : decode cL_law 450 = .ok (.aload_n 1, 1) := by decide +kernel
theorem dL_law_451 : decode cL_law 451 = .ok (.invokevirtual 107, 3) := by decide +kernel
theorem dL_law_454 : decode cL_law 454 = .ok (.lstore 8, 2) := by decide +kernel
theorem dL_law_456 : decode cL_law 456 = .ok (.aload_n 1, 1) := by decide +kernel
theorem dL_law_457 : decode cL_law 457 = .ok (.invokevirtual 119, 3) := by decide +kernel
theorem dL_law_460 : decode cL_law 460 = .ok (.ifCond .eq 17, 3) := by decide +kernel
theorem dL_law_463 : decode cL_law 463 = .ok (.aload_n 1, 1) := by decide +kernel
theorem dL_law_464 : decode cL_law 464 = .ok (.invokevirtual 107, 3) := by decide +kernel
theorem dL_law_467 : decode cL_law 467 = .ok (.lload 8, 2) := by decide +kernel
theorem dL_law_469 : decode cL_law 469 = .ok (.lcmp, 1) := by decide +kernel
theorem dL_law_470 : decode cL_law 470 = .ok (.ifCond .ne 7, 3) := by decide +kernel
theorem dL_law_473 : decode cL_law 473 = .ok (.iconst 1, 1) := by decide +kernel
theorem dL_law_474 : decode cL_law 474 = .ok (.goto 4, 3) := by decide +kernel
theorem dL_law_477 : decode cL_law 477 = .ok (.iconst 0, 1) := by decide +kernel
theorem dL_law_478 : decode cL_law 478 = .ok (.ireturn, 1) := by decide +kernel
set_option maxRecDepth 100000 in
theorem ggL_isSo_X8_ofLand : GoodIn wsL_isSo wsX8_ofLand := goodIn_ca (goodIn_ca (wk_g wm_L_isSo 3005 wc_X8_ofLand rfl (by decide +kernel) (by decide +kernel) wq_X8_ofLand) (goodIn_sub (fun _ h => List.mem_cons_of_mem _ (List.mem_append_left _ (List.mem_append_right _ h))) (by decide +kernel))) (goodIn_sub (fun _ h => List.mem_cons_of_mem _ (List.mem_append_right _ h)) (by decide +kernel))
set_option maxRecDepth 100000 in
theorem gL_isSo_X8_ofLand : GoodIn wsL_isSo (wsV RL 26 RX8 yX8_ofLand wsX8_ofLand) := goodIn_app (wk_h wm_L_isSo [4049, 3003, 3004, 2001] (by decide +kernel) (by decide +kernel) (by decide +kernel)) ggL_isSo_X8_ofLand
set_option maxRecDepth 100000 in
theorem ggL_isSo_X8_night : GoodIn wsL_isSo wsX8_night := goodIn_ca (wk_g wm_L_isSo 2185 wc_X8_night rfl (by decide +kernel) (by decide +kernel) wq_X8_night) (goodIn_sub (fun _ h => List.mem_cons_of_mem _ (List.mem_append_left _ (List.mem_append_right _ h))) (by decide +kernel))
set_option maxRecDepth 100000 in
theorem gL_isSo_X8_night : GoodIn wsL_isSo (wsV RL 46 RX8 yX8_night wsX8_night) := goodIn_app (wk_h wm_L_isSo [2182, 2183, 2184, 2001] (by decide +kernel) (by decide +kernel) (by decide +kernel)) ggL_isSo_X8_night
set_option maxRecDepth 100000 in
theorem ggL_isSo_X8_ofGate : GoodIn wsL_isSo wsX8_ofGate := goodIn_ca (goodIn_ca (wk_g wm_L_isSo 3027 wc_X8_ofGate rfl (by decide +kernel) (by decide +kernel) wq_X8_ofGate) (goodIn_sub (fun _ h => List.mem_cons_of_mem _ (List.mem_append_left _ (List.mem_append_right _ h))) (by decide +kernel))) (goodIn_sub (fun _ h => List.mem_cons_of_mem _ (List.mem_append_right _ h)) (by decide +kernel))
set_option maxRecDepth 100000 in
theorem gL_isSo_X8_ofGate : GoodIn wsL_isSo (wsV RL 61 RX8 yX8_ofGate wsX8_ofGate) := goodIn_app (wk_h wm_L_isSo [5198, 3025, 3026, 2001] (by decide +kernel) (by decide +kernel) (by decide +kernel)) ggL_isSo_X8_ofGate
set_option maxRecDepth 100000 in
theorem ggL_isSo_X8_ofSleeper : GoodIn wsL_isSo wsX8_ofSleeper := goodIn_ca (goodIn_ca (wk_g wm_L_isSo 2036 wc_X8_ofSleeper rfl (by decide +kernel) (by decide +kernel) wq_X8_ofSleeper) (goodIn_sub (fun _ h => List.mem_cons_of_mem _ (List.mem_append_left _ (List.mem_append_right _ h))) (by decide +kernel))) (goodIn_sub (fun _ h => List.mem_cons_of_mem _ (List.mem_append_right _ h)) (by decide +kernel))
set_option maxRecDepth 100000 in
theorem gL_isSo_X8_ofSleeper : GoodIn wsL_isSo (wsV RL 58 RX8 yX8_ofSleeper wsX8_ofSleeper) := goodIn_app (wk_h wm_L_isSo [2033, 2034, 2035, 2001] (by decide +kernel) (by decide +kernel) (by decide +kernel)) ggL_isSo_X8_ofSleeper
set_option maxRecDepth 100000 in
theorem ggL_isSo_X8_wouldPay : GoodIn wsL_isSo wsX8_wouldPay := goodIn_ca (wk_g wm_L_isSo 3071 wc_X8_wouldPay rfl (by decide +kernel) (by decide +kernel) wq_X8_wouldPay) (goodIn_sub (fun _ h => List.mem_cons_of_mem _ (List.mem_append_right _ h)) (by decide +kernel))
set_option maxRecDepth 100000 in
theorem gL_isSo_X8_wouldPay : GoodIn wsL_isSo (wsV RL 123 RX8 yX8_wouldPay wsX8_wouldPay) := goodIn_app (wk_h wm_L_isSo [6213, 3069, 3070, 2001] (by decide +kernel) (by decide +kernel) (by decide +kernel)) ggL_isSo_X8_wouldPay
set_option maxRecDepth 100000 in
theorem ggL_isSo_X8_ofPart : GoodIn wsL_isSo wsX8_ofPart := goodIn_ca (goodIn_ca (wk_g wm_L_isSo 2171 wc_X8_ofPart rfl (by decide +kernel) (by decide +kernel) wq_X8_ofPart) (goodIn_sub (fun _ h => List.mem_cons_of_mem _ (List.mem_append_left _ (List.mem_append_right _ h))) (by decide +kernel))) (goodIn_sub (fun _ h => List.mem_cons_of_mem _ (List.mem_append_right _ h)) (by decide +kernel))
set_option maxRecDepth 100000 in
theorem gL_isSo_X8_ofPart : GoodIn wsL_isSo (wsV RL 104 RX8 yX8_ofPart wsX8_ofPart) := goodIn_app (wk_h wm_L_isSo [2168, 2169, 2170, 2001] (by decide +kernel) (by decide +kernel) (by decide +kernel)) ggL_isSo_X8_ofPart
theorem dL_isSo_0 : decode cL_isSo 0 = .ok (.iconst 0, 1) := by decide +kernel
theorem dL_isSo_1 : decode cL_isSo 1 = .ok (.istore_n 1, 1) := by decide +kernel
theorem dL_isSo_2 : decode cL_isSo 2 = .ok (.iconst 0, 1) := by decide +kernel
theorem dL_isSo_3 : decode cL_isSo 3 = .ok (.istore_n 2, 1) := by decide +kernel
theorem dL_isSo_4 : decode cL_isSo 4 = .ok (.iload_n 2, 1) := by decide +kernel
theorem dL_isSo_5 : decode cL_isSo 5 = .ok (.bipush 6, 2) := by decide +kernel
theorem dL_isSo_7 : decode cL_isSo 7 = .ok (.if_icmp .ge 56, 3) := by decide +kernel
theorem dL_isSo_10 : decode cL_isSo 10 = .ok (.iload_n 1, 1) := by decide +kernel
theorem dL_isSo_11 : decode cL_isSo 11 = .ok (.aload_n 0, 1) := by decide +kernel
theorem dL_isSo_12 : decode cL_isSo 12 = .ok (.iload_n 2, 1) := by decide +kernel
theorem dL_isSo_13 : decode cL_isSo 13 = .ok (.iconst 2, 1) := by decide +kernel
theorem dL_isSo_14 : decode cL_isSo 14 = .ok (.invokevirtual 26, 3) := by decide +kernel
theorem dL_isSo_17 : decode cL_isSo 17 = .ok (.iadd, 1) := by decide +kernel
theorem dL_isSo_18 : decode cL_isSo 18 = .ok (.istore_n 1, 1) := by decide +kernel
theorem dL_isSo_19 : decode cL_isSo 19 = .ok (.aload_n 0, 1) := by decide +kernel
theorem dL_isSo_20 : decode cL_isSo 20 = .ok (.iload_n 2, 1) := by decide +kernel
theorem dL_isSo_21 : decode cL_isSo 21 = .ok (.iconst 2, 1) := by decide +kernel
theorem dL_isSo_22 : decode cL_isSo 22 = .ok (.invokevirtual 26, 3) := by decide +kernel
theorem dL_isSo_25 : decode cL_isSo 25 = .ok (.ifCond .lt 30, 3) := by decide +kernel
theorem dL_isSo_28 : decode cL_isSo 28 = .ok (.aload_n 0, 1) := by decide +kernel
theorem dL_isSo_29 : decode cL_isSo 29 = .ok (.iload_n 2, 1) := by decide +kernel
theorem dL_isSo_30 : decode cL_isSo 30 = .ok (.iconst 4, 1) := by decide +kernel
theorem dL_isSo_31 : decode cL_isSo 31 = .ok (.invokevirtual 26, 3) := by decide +kernel
theorem dL_isSo_34 : decode cL_isSo 34 = .ok (.ifCond .lt 21, 3) := by decide +kernel
theorem dL_isSo_37 : decode cL_isSo 37 = .ok (.aload_n 0, 1) := by decide +kernel
theorem dL_isSo_38 : decode cL_isSo 38 = .ok (.iload_n 2, 1) := by decide +kernel
theorem dL_isSo_39 : decode cL_isSo 39 = .ok (.iconst 5, 1) := by decide +kernel
theorem dL_isSo_40 : decode cL_isSo 40 = .ok (.invokevirtual 26, 3) := by decide +kernel
theorem dL_isSo_43 : decode cL_isSo 43 = .ok (.ifCond .lt 12, 3) := by decide +kernel
theorem dL_isSo_46 : decode cL_isSo 46 = .ok (.aload_n 0, 1) := by decide +kernel
theorem dL_isSo_47 : decode cL_isSo 47 = .ok (.iload_n 2, 1) := by decide +kernel
theorem dL_isSo_48 : decode cL_isSo 48 = .ok (.iconst 3, 1) := by decide +kernel
theorem dL_isSo_49 : decode cL_isSo 49 = .ok (.invokevirtual 26, 3) := by decide +kernel
theorem dL_isSo_52 : decode cL_isSo 52 = .ok (.ifCond .ge 5, 3) := by decide +kernel
theorem dL_isSo_55 : decode cL_isSo 55 = .ok (.iconst 0, 1) := by decide +kernel
theorem dL_isSo_56 : decode cL_isSo 56 = .ok (.ireturn, 1) := by decide +kernel
theorem dL_isSo_57 : decode cL_isSo 57 = .ok (.iinc 2 1, 3) := by decide +kernel
theorem dL_isSo_60 : decode cL_isSo 60 = .ok (.goto (-56), 3) := by decide +kernel
theorem dL_isSo_63 : decode cL_isSo 63 = .ok (.iconst 0, 1) := by decide +kernel
theorem dL_isSo_64 : decode cL_isSo 64 = .ok (.istore_n 2, 1) := by decide +kernel
theorem dL_isSo_65 : decode cL_isSo 65 = .ok (.iconst 0, 1) := by decide +kernel
theorem dL_isSo_66 : decode cL_isSo 66 = .ok (.istore_n 3, 1) := by decide +kernel
theorem dL_isSo_67 : decode cL_isSo 67 = .ok (.iload_n 3, 1) := by decide +kernel
theorem dL_isSo_68 : decode cL_isSo 68 = .ok (.aload_n 0, 1) := by decide +kernel
theorem dL_isSo_69 : decode cL_isSo 69 = .ok (.iconst 2, 1) := by decide +kernel
theorem dL_isSo_70 : decode cL_isSo 70 = .ok (.invokevirtual 46, 3) := by decide +kernel
theorem dL_isSo_73 : decode cL_isSo 73 = .ok (.if_icmp .ge 135, 3) := by decide +kernel
theorem dL_isSo_76 : decode cL_isSo 76 = .ok (.iload_n 2, 1) := by decide +kernel
theorem dL_isSo_77 : decode cL_isSo 77 = .ok (.aload_n 0, 1) := by decide +kernel
theorem dL_isSo_78 : decode cL_isSo 78 = .ok (.iload_n 3, 1) := by decide +kernel
theorem dL_isSo_79 : decode cL_isSo 79 = .ok (.bipush 6, 2) := by decide +kernel
theorem dL_isSo_81 : decode cL_isSo 81 = .ok (.invokevirtual 61, 3) := by decide +kernel
theorem dL_isSo_84 : decode cL_isSo 84 = .ok (.iadd, 1) := by decide +kernel
theorem dL_isSo_85 : decode cL_isSo 85 = .ok (.istore_n 2, 1) := by decide +kernel
theorem dL_isSo_86 : decode cL_isSo 86 = .ok (.aload_n 0, 1) := by decide +kernel
theorem dL_isSo_87 : decode cL_isSo 87 = .ok (.iload_n 3, 1) := by decide +kernel
theorem dL_isSo_88 : decode cL_isSo 88 = .ok (.bipush 7, 2) := by decide +kernel
theorem dL_isSo_90 : decode cL_isSo 90 = .ok (.invokevirtual 61, 3) := by decide +kernel
theorem dL_isSo_93 : decode cL_isSo 93 = .ok (.istore 4, 2) := by decide +kernel
theorem dL_isSo_95 : decode cL_isSo 95 = .ok (.iload 4, 2) := by decide +kernel
theorem dL_isSo_97 : decode cL_isSo 97 = .ok (.ifCond .lt 24, 3) := by decide +kernel
theorem dL_isSo_100 : decode cL_isSo 100 = .ok (.aload_n 0, 1) := by decide +kernel
theorem dL_isSo_101 : decode cL_isSo 101 = .ok (.iload 4, 2) := by decide +kernel
theorem dL_isSo_103 : decode cL_isSo 103 = .ok (.iconst 3, 1) := by decide +kernel
theorem dL_isSo_104 : decode cL_isSo 104 = .ok (.invokevirtual 58, 3) := by decide +kernel
theorem dL_isSo_107 : decode cL_isSo 107 = .ok (.iload_n 3, 1) := by decide +kernel
theorem dL_isSo_108 : decode cL_isSo 108 = .ok (.if_icmp .ne 92, 3) := by decide +kernel
theorem dL_isSo_111 : decode cL_isSo 111 = .ok (.aload_n 0, 1) := by decide +kernel
theorem dL_isSo_112 : decode cL_isSo 112 = .ok (.iload 4, 2) := by decide +kernel
theorem dL_isSo_114 : decode cL_isSo 114 = .ok (.iconst 4, 1) := by decide +kernel
theorem dL_isSo_115 : decode cL_isSo 115 = .ok (.invokevirtual 58, 3) := by decide +kernel
theorem dL_isSo_118 : decode cL_isSo 118 = .ok (.ifCond .ne 82, 3) := by decide +kernel
theorem dL_isSo_121 : decode cL_isSo 121 = .ok (.iload 4, 2) := by decide +kernel
theorem dL_isSo_123 : decode cL_isSo 123 = .ok (.ifCond .ge 7, 3) := by decide +kernel
theorem dL_isSo_126 : decode cL_isSo 126 = .ok (.iconst 1, 1) := by decide +kernel
theorem dL_isSo_127 : decode cL_isSo 127 = .ok (.goto 4, 3) := by decide +kernel
theorem dL_isSo_130 : decode cL_isSo 130 = .ok (.iconst 0, 1) := by decide +kernel
theorem dL_isSo_131 : decode cL_isSo 131 = .ok (.aload_n 0, 1) := by decide +kernel
theorem dL_isSo_132 : decode cL_isSo 132 = .ok (.iload_n 3, 1) := by decide +kernel
theorem dL_isSo_133 : decode cL_isSo 133 = .ok (.bipush 6, 2) := by decide +kernel
theorem dL_isSo_135 : decode cL_isSo 135 = .ok (.invokevirtual 61, 3) := by decide +kernel
theorem dL_isSo_138 : decode cL_isSo 138 = .ok (.ifCond .ne 7, 3) := by decide +kernel
theorem dL_isSo_141 : decode cL_isSo 141 = .ok (.iconst 1, 1) := by decide +kernel
theorem dL_isSo_142 : decode cL_isSo 142 = .ok (.goto 4, 3) := by decide +kernel
theorem dL_isSo_145 : decode cL_isSo 145 = .ok (.iconst 0, 1) := by decide +kernel
theorem dL_isSo_146 : decode cL_isSo 146 = .ok (.if_icmp .ne 54, 3) := by decide +kernel
theorem dL_isSo_149 : decode cL_isSo 149 = .ok (.aload_n 0, 1) := by decide +kernel
theorem dL_isSo_150 : decode cL_isSo 150 = .ok (.iload_n 3, 1) := by decide +kernel
theorem dL_isSo_151 : decode cL_isSo 151 = .ok (.iconst 4, 1) := by decide +kernel
theorem dL_isSo_152 : decode cL_isSo 152 = .ok (.invokevirtual 61, 3) := by decide +kernel
theorem dL_isSo_155 : decode cL_isSo 155 = .ok (.iconst 5, 1) := by decide +kernel
theorem dL_isSo_156 : decode cL_isSo 156 = .ok (.if_icmp .lt 7, 3) := by decide +kernel
theorem dL_isSo_159 : decode cL_isSo 159 = .ok (.iconst 1, 1) := by decide +kernel
theorem dL_isSo_160 : decode cL_isSo 160 = .ok (.goto 4, 3) := by decide +kernel
theorem dL_isSo_163 : decode cL_isSo 163 = .ok (.iconst 0, 1) := by decide +kernel
theorem dL_isSo_164 : decode cL_isSo 164 = .ok (.aload_n 0, 1) := by decide +kernel
theorem dL_isSo_165 : decode cL_isSo 165 = .ok (.iload_n 3, 1) := by decide +kernel
theorem dL_isSo_166 : decode cL_isSo 166 = .ok (.iconst 5, 1) := by decide +kernel
theorem dL_isSo_167 : decode cL_isSo 167 = .ok (.invokevirtual 61, 3) := by decide +kernel
theorem dL_isSo_170 : decode cL_isSo 170 = .ok (.iconst 1, 1) := by decide +kernel
theorem dL_isSo_171 : decode cL_isSo 171 = .ok (.if_icmp .ne 7, 3) := by decide +kernel
theorem dL_isSo_174 : decode cL_isSo 174 = .ok (.iconst 1, 1) := by decide +kernel
theorem dL_isSo_175 : decode cL_isSo 175 = .ok (.goto 4, 3) := by decide +kernel
theorem dL_isSo_178 : decode cL_isSo 178 = .ok (.iconst 0, 1) := by decide +kernel
theorem dL_isSo_179 : decode cL_isSo 179 = .ok (.if_icmp .ne 21, 3) := by decide +kernel
theorem dL_isSo_182 : decode cL_isSo 182 = .ok (.aload_n 0, 1) := by decide +kernel
theorem dL_isSo_183 : decode cL_isSo 183 = .ok (.iload_n 3, 1) := by decide +kernel
theorem dL_isSo_184 : decode cL_isSo 184 = .ok (.bipush 8, 2) := by decide +kernel
theorem dL_isSo_186 : decode cL_isSo 186 = .ok (.invokevirtual 61, 3) := by decide +kernel
theorem dL_isSo_189 : decode cL_isSo 189 = .ok (.ifCond .lt 11, 3) := by decide +kernel
theorem dL_isSo_192 : decode cL_isSo 192 = .ok (.aload_n 0, 1) := by decide +kernel
theorem dL_isSo_193 : decode cL_isSo 193 = .ok (.iload_n 3, 1) := by decide +kernel
theorem dL_isSo_194 : decode cL_isSo 194 = .ok (.invokevirtual 123, 3) := by decide +kernel
theorem dL_isSo_197 : decode cL_isSo 197 = .ok (.ifCond .ge 5, 3) := by decide +kernel
theorem dL_isSo_200 : decode cL_isSo 200 = .ok (.iconst 0, 1) := by decide +kernel
theorem dL_isSo_201 : decode cL_isSo 201 = .ok (.ireturn, 1) := by decide +kernel
theorem dL_isSo_202 : decode cL_isSo 202 = .ok (.iinc 3 1, 3) := by decide +kernel
theorem dL_isSo_205 : decode cL_isSo 205 = .ok (.goto (-138), 3) := by decide +kernel
theorem dL_isSo_208 : decode cL_isSo 208 = .ok (.iconst 0, 1) := by decide +kernel
theorem dL_isSo_209 : decode cL_isSo 209 = .ok (.istore_n 3, 1) := by decide +kernel
theorem dL_isSo_210 : decode cL_isSo 210 = .ok (.iconst 0, 1) := by decide +kernel
theorem dL_isSo_211 : decode cL_isSo 211 = .ok (.istore 4, 2) := by decide +kernel
theorem dL_isSo_213 : decode cL_isSo 213 = .ok (.iload 4, 2) := by decide +kernel
theorem dL_isSo_215 : decode cL_isSo 215 = .ok (.aload_n 0, 1) := by decide +kernel
theorem dL_isSo_216 : decode cL_isSo 216 = .ok (.iconst 3, 1) := by decide +kernel
theorem dL_isSo_217 : decode cL_isSo 217 = .ok (.invokevirtual 46, 3) := by decide +kernel
theorem dL_isSo_220 : decode cL_isSo 220 = .ok (.if_icmp .ge 199, 3) := by decide +kernel
theorem dL_isSo_223 : decode cL_isSo 223 = .ok (.aload_n 0, 1) := by decide +kernel
theorem dL_isSo_224 : decode cL_isSo 224 = .ok (.iload 4, 2) := by decide +kernel
theorem dL_isSo_226 : decode cL_isSo 226 = .ok (.iconst 3, 1) := by decide +kernel
theorem dL_isSo_227 : decode cL_isSo 227 = .ok (.invokevirtual 58, 3) := by decide +kernel
theorem dL_isSo_230 : decode cL_isSo 230 = .ok (.istore 5, 2) := by decide +kernel
theorem dL_isSo_232 : decode cL_isSo 232 = .ok (.aload_n 0, 1) := by decide +kernel
theorem dL_isSo_233 : decode cL_isSo 233 = .ok (.iload 4, 2) := by decide +kernel
theorem dL_isSo_235 : decode cL_isSo 235 = .ok (.iconst 0, 1) := by decide +kernel
theorem dL_isSo_236 : decode cL_isSo 236 = .ok (.invokevirtual 58, 3) := by decide +kernel
theorem dL_isSo_239 : decode cL_isSo 239 = .ok (.istore 6, 2) := by decide +kernel
theorem dL_isSo_241 : decode cL_isSo 241 = .ok (.iload_n 3, 1) := by decide +kernel
theorem dL_isSo_242 : decode cL_isSo 242 = .ok (.aload_n 0, 1) := by decide +kernel
theorem dL_isSo_243 : decode cL_isSo 243 = .ok (.iload 4, 2) := by decide +kernel
theorem dL_isSo_245 : decode cL_isSo 245 = .ok (.bipush 8, 2) := by decide +kernel
theorem dL_isSo_247 : decode cL_isSo 247 = .ok (.invokevirtual 58, 3) := by decide +kernel
theorem dL_isSo_250 : decode cL_isSo 250 = .ok (.iadd, 1) := by decide +kernel
theorem dL_isSo_251 : decode cL_isSo 251 = .ok (.istore_n 3, 1) := by decide +kernel
theorem dL_isSo_252 : decode cL_isSo 252 = .ok (.iload_n 2, 1) := by decide +kernel
theorem dL_isSo_253 : decode cL_isSo 253 = .ok (.iload 5, 2) := by decide +kernel
theorem dL_isSo_255 : decode cL_isSo 255 = .ok (.ifCond .lt 7, 3) := by decide +kernel
theorem dL_isSo_258 : decode cL_isSo 258 = .ok (.iconst 1, 1) := by decide +kernel
theorem dL_isSo_259 : decode cL_isSo 259 = .ok (.goto 4, 3) := by decide +kernel
theorem dL_isSo_262 : decode cL_isSo 262 = .ok (.iconst 0, 1) := by decide +kernel
theorem dL_isSo_263 : decode cL_isSo 263 = .ok (.isub, 1) := by decide +kernel
theorem dL_isSo_264 : decode cL_isSo 264 = .ok (.istore_n 2, 1) := by decide +kernel
theorem dL_isSo_265 : decode cL_isSo 265 = .ok (.iload 5, 2) := by decide +kernel
theorem dL_isSo_267 : decode cL_isSo 267 = .ok (.ifCond .lt 7, 3) := by decide +kernel
theorem dL_isSo_270 : decode cL_isSo 270 = .ok (.iconst 1, 1) := by decide +kernel
theorem dL_isSo_271 : decode cL_isSo 271 = .ok (.goto 4, 3) := by decide +kernel
theorem dL_isSo_274 : decode cL_isSo 274 = .ok (.iconst 0, 1) := by decide +kernel
theorem dL_isSo_275 : decode cL_isSo 275 = .ok (.aload_n 0, 1) := by decide +kernel
theorem dL_isSo_276 : decode cL_isSo 276 = .ok (.iload 4, 2) := by decide +kernel
theorem dL_isSo_278 : decode cL_isSo 278 = .ok (.iconst 2, 1) := by decide +kernel
theorem dL_isSo_279 : decode cL_isSo 279 = .ok (.invokevirtual 58, 3) := by decide +kernel
theorem dL_isSo_282 : decode cL_isSo 282 = .ok (.iconst 1, 1) := by decide +kernel
theorem dL_isSo_283 : decode cL_isSo 283 = .ok (.if_icmp .ne 7, 3) := by decide +kernel
theorem dL_isSo_286 : decode cL_isSo 286 = .ok (.iconst 1, 1) := by decide +kernel
theorem dL_isSo_287 : decode cL_isSo 287 = .ok (.goto 4, 3) := by decide +kernel
theorem dL_isSo_290 : decode cL_isSo 290 = .ok (.iconst 0, 1) := by decide +kernel
theorem dL_isSo_291 : decode cL_isSo 291 = .ok (.if_icmp .ne 70, 3) := by decide +kernel
theorem dL_isSo_294 : decode cL_isSo 294 = .ok (.iload 5, 2) := by decide +kernel
theorem dL_isSo_296 : decode cL_isSo 296 = .ok (.ifCond .lt 27, 3) := by decide +kernel
theorem dL_isSo_299 : decode cL_isSo 299 = .ok (.aload_n 0, 1) := by decide +kernel
theorem dL_isSo_300 : decode cL_isSo 300 = .ok (.iload 5, 2) := by decide +kernel
theorem dL_isSo_302 : decode cL_isSo 302 = .ok (.iconst 0, 1) := by decide +kernel
theorem dL_isSo_303 : decode cL_isSo 303 = .ok (.invokevirtual 61, 3) := by decide +kernel
theorem dL_isSo_306 : decode cL_isSo 306 = .ok (.iload 6, 2) := by decide +kernel
theorem dL_isSo_308 : decode cL_isSo 308 = .ok (.if_icmp .eq 15, 3) := by decide +kernel
theorem dL_isSo_311 : decode cL_isSo 311 = .ok (.aload_n 0, 1) := by decide +kernel
theorem dL_isSo_312 : decode cL_isSo 312 = .ok (.iload 5, 2) := by decide +kernel
theorem dL_isSo_314 : decode cL_isSo 314 = .ok (.iconst 1, 1) := by decide +kernel
theorem dL_isSo_315 : decode cL_isSo 315 = .ok (.invokevirtual 61, 3) := by decide +kernel
theorem dL_isSo_318 : decode cL_isSo 318 = .ok (.iload 6, 2) := by decide +kernel
theorem dL_isSo_320 : decode cL_isSo 320 = .ok (.if_icmp .ne 41, 3) := by decide +kernel
theorem dL_isSo_323 : decode cL_isSo 323 = .ok (.aload_n 0, 1) := by decide +kernel
theorem dL_isSo_324 : decode cL_isSo 324 = .ok (.iload 4, 2) := by decide +kernel
theorem dL_isSo_326 : decode cL_isSo 326 = .ok (.bipush 7, 2) := by decide +kernel
theorem dL_isSo_328 : decode cL_isSo 328 = .ok (.invokevirtual 58, 3) := by decide +kernel
theorem dL_isSo_331 : decode cL_isSo 331 = .ok (.iload 4, 2) := by decide +kernel
theorem dL_isSo_333 : decode cL_isSo 333 = .ok (.ishr, 1) := by decide +kernel
theorem dL_isSo_334 : decode cL_isSo 334 = .ok (.iconst 1, 1) := by decide +kernel
theorem dL_isSo_335 : decode cL_isSo 335 = .ok (.iand, 1) := by decide +kernel
theorem dL_isSo_336 : decode cL_isSo 336 = .ok (.ifCond .eq 25, 3) := by decide +kernel
theorem dL_isSo_339 : decode cL_isSo 339 = .ok (.aload_n 0, 1) := by decide +kernel
theorem dL_isSo_340 : decode cL_isSo 340 = .ok (.iload 4, 2) := by decide +kernel
theorem dL_isSo_342 : decode cL_isSo 342 = .ok (.iconst 1, 1) := by decide +kernel
theorem dL_isSo_343 : decode cL_isSo 343 = .ok (.invokevirtual 58, 3) := by decide +kernel
theorem dL_isSo_346 : decode cL_isSo 346 = .ok (.ifCond .lt 15, 3) := by decide +kernel
theorem dL_isSo_349 : decode cL_isSo 349 = .ok (.aload_n 0, 1) := by decide +kernel
theorem dL_isSo_350 : decode cL_isSo 350 = .ok (.iload 4, 2) := by decide +kernel
theorem dL_isSo_352 : decode cL_isSo 352 = .ok (.iconst 1, 1) := by decide +kernel
theorem dL_isSo_353 : decode cL_isSo 353 = .ok (.invokevirtual 58, 3) := by decide +kernel
theorem dL_isSo_356 : decode cL_isSo 356 = .ok (.bipush 9, 2) := by decide +kernel
theorem dL_isSo_358 : decode cL_isSo 358 = .ok (.if_icmp .le 5, 3) := by decide +kernel
theorem dL_isSo_361 : decode cL_isSo 361 = .ok (.iconst 0, 1) := by decide +kernel
theorem dL_isSo_362 : decode cL_isSo 362 = .ok (.ireturn, 1) := by decide +kernel
theorem dL_isSo_363 : decode cL_isSo 363 = .ok (.iconst 0, 1) := by decide +kernel
theorem dL_isSo_364 : decode cL_isSo 364 = .ok (.istore 7, 2) := by decide +kernel
theorem dL_isSo_366 : decode cL_isSo 366 = .ok (.iload 7, 2) := by decide +kernel
theorem dL_isSo_368 : decode cL_isSo 368 = .ok (.aload_n 0, 1) := by decide +kernel
theorem dL_isSo_369 : decode cL_isSo 369 = .ok (.iconst 3, 1) := by decide +kernel
theorem dL_isSo_370 : decode cL_isSo 370 = .ok (.invokevirtual 46, 3) := by decide +kernel
theorem dL_isSo_373 : decode cL_isSo 373 = .ok (.if_icmp .ge 40, 3) := by decide +kernel
theorem dL_isSo_376 : decode cL_isSo 376 = .ok (.aload_n 0, 1) := by decide +kernel
theorem dL_isSo_377 : decode cL_isSo 377 = .ok (.iload 4, 2) := by decide +kernel
theorem dL_isSo_379 : decode cL_isSo 379 = .ok (.bipush 7, 2) := by decide +kernel
theorem dL_isSo_381 : decode cL_isSo 381 = .ok (.invokevirtual 58, 3) := by decide +kernel
theorem dL_isSo_384 : decode cL_isSo 384 = .ok (.iload 7, 2) := by decide +kernel
theorem dL_isSo_386 : decode cL_isSo 386 = .ok (.ishr, 1) := by decide +kernel
theorem dL_isSo_387 : decode cL_isSo 387 = .ok (.iconst 1, 1) := by decide +kernel
theorem dL_isSo_388 : decode cL_isSo 388 = .ok (.iand, 1) := by decide +kernel
theorem dL_isSo_389 : decode cL_isSo 389 = .ok (.aload_n 0, 1) := by decide +kernel
theorem dL_isSo_390 : decode cL_isSo 390 = .ok (.iload 7, 2) := by decide +kernel
theorem dL_isSo_392 : decode cL_isSo 392 = .ok (.bipush 7, 2) := by decide +kernel
theorem dL_isSo_394 : decode cL_isSo 394 = .ok (.invokevirtual 58, 3) := by decide +kernel
theorem dL_isSo_397 : decode cL_isSo 397 = .ok (.iload 4, 2) := by decide +kernel
theorem dL_isSo_399 : decode cL_isSo 399 = .ok (.ishr, 1) := by decide +kernel
theorem dL_isSo_400 : decode cL_isSo 400 = .ok (.iconst 1, 1) := by decide +kernel
theorem dL_isSo_401 : decode cL_isSo 401 = .ok (.iand, 1) := by decide +kernel
theorem dL_isSo_402 : decode cL_isSo 402 = .ok (.if_icmp .eq 5, 3) := by decide +kernel
theorem dL_isSo_405 : decode cL_isSo 405 = .ok (.iconst 0, 1) := by decide +kernel
theorem dL_isSo_406 : decode cL_isSo 406 = .ok (.ireturn, 1) := by decide +kernel
theorem dL_isSo_407 : decode cL_isSo 407 = .ok (.iinc 7 1, 3) := by decide +kernel
theorem dL_isSo_410 : decode cL_isSo 410 = .ok (.goto (-44), 3) := by decide +kernel
theorem dL_isSo_413 : decode cL_isSo 413 = .ok (.iinc 4 1, 3) := by decide +kernel
theorem dL_isSo_416 : decode cL_isSo 416 = .ok (.goto (-203), 3) := by decide +kernel
theorem dL_isSo_419 : decode cL_isSo 419 = .ok (.iconst 0, 1) := by decide +kernel
theorem dL_isSo_420 : decode cL_isSo 420 = .ok (.istore 4, 2) := by decide +kernel
theorem dL_isSo_422 : decode cL_isSo 422 = .ok (.iconst 0, 1) := by decide +kernel
theorem dL_isSo_423 : decode cL_isSo 423 = .ok (.istore 5, 2) := by decide +kernel
theorem dL_isSo_425 : decode cL_isSo 425 = .ok (.iload 5, 2) := by decide +kernel
theorem dL_isSo_427 : decode cL_isSo 427 = .ok (.aload_n 0, 1) := by decide +kernel
theorem dL_isSo_428 : decode cL_isSo 428 = .ok (.iconst 5, 1) := by decide +kernel
theorem dL_isSo_429 : decode cL_isSo 429 = .ok (.invokevirtual 46, 3) := by decide +kernel
theorem dL_isSo_432 : decode cL_isSo 432 = .ok (.if_icmp .ge 36, 3) := by decide +kernel
theorem dL_isSo_435 : decode cL_isSo 435 = .ok (.iload 4, 2) := by decide +kernel
theorem dL_isSo_437 : decode cL_isSo 437 = .ok (.aload_n 0, 1) := by decide +kernel
theorem dL_isSo_438 : decode cL_isSo 438 = .ok (.iload 5, 2) := by decide +kernel
theorem dL_isSo_440 : decode cL_isSo 440 = .ok (.iconst 3, 1) := by decide +kernel
theorem dL_isSo_441 : decode cL_isSo 441 = .ok (.invokevirtual 104, 3) := by decide +kernel
theorem dL_isSo_444 : decode cL_isSo 444 = .ok (.iconst 3, 1) := by decide +kernel
theorem dL_isSo_445 : decode cL_isSo 445 = .ok (.if_icmp .ne 13, 3) := by decide +kernel
theorem dL_isSo_448 : decode cL_isSo 448 = .ok (.aload_n 0, 1) := by decide +kernel
theorem dL_isSo_449 : decode cL_isSo 449 = .ok (.iload 5, 2) := by decide +kernel
theorem dL_isSo_451 : decode cL_isSo 451 = .ok (.iconst 1, 1) := by decide +kernel
theorem dL_isSo_452 : decode cL_isSo 452 = .ok (.invokevirtual 104, 3) := by decide +kernel
theorem dL_isSo_455 : decode cL_isSo 455 = .ok (.goto 4, 3) := by decide +kernel
theorem dL_isSo_458 : decode cL_isSo 458 = .ok (.iconst 0, 1) := by decide +kernel
theorem dL_isSo_459 : decode cL_isSo 459 = .ok (.iadd, 1) := by decide +kernel
theorem dL_isSo_460 : decode cL_isSo 460 = .ok (.istore 4, 2) := by decide +kernel
theorem dL_isSo_462 : decode cL_isSo 462 = .ok (.iinc 5 1, 3) := by decide +kernel
theorem dL_isSo_465 : decode cL_isSo 465 = .ok (.goto (-40), 3) := by decide +kernel
theorem dL_isSo_468 : decode cL_isSo 468 = .ok (.iload_n 1, 1) := by decide +kernel
theorem dL_isSo_469 : decode cL_isSo 469 = .ok (.bipush 30, 2) := by decide +kernel
theorem dL_isSo_471 : decode cL_isSo 471 = .ok (.if_icmp .ne 43, 3) := by decide +kernel
theorem dL_isSo_474 : decode cL_isSo 474 = .ok (.iload_n 2, 1) := by decide +kernel
theorem dL_isSo_475 : decode cL_isSo 475 = .ok (.ifCond .ne 39, 3) := by decide +kernel
theorem dL_isSo_478 : decode cL_isSo 478 = .ok (.iload_n 3, 1) := by decide +kernel
theorem dL_isSo_479 : decode cL_isSo 479 = .ok (.aload_n 0, 1) := by decide +kernel
theorem dL_isSo_480 : decode cL_isSo 480 = .ok (.bipush 12, 2) := by decide +kernel
theorem dL_isSo_482 : decode cL_isSo 482 = .ok (.invokevirtual 46, 3) := by decide +kernel
theorem dL_isSo_485 : decode cL_isSo 485 = .ok (.if_icmp .ne 29, 3) := by decide +kernel
theorem dL_isSo_488 : decode cL_isSo 488 = .ok (.aload_n 0, 1) := by decide +kernel
theorem dL_isSo_489 : decode cL_isSo 489 = .ok (.bipush 12, 2) := by decide +kernel
theorem dL_isSo_491 : decode cL_isSo 491 = .ok (.invokevirtual 46, 3) := by decide +kernel
theorem dL_isSo_494 : decode cL_isSo 494 = .ok (.bipush 40, 2) := by decide +kernel
theorem dL_isSo_496 : decode cL_isSo 496 = .ok (.if_icmp .gt 18, 3) := by decide +kernel
theorem dL_isSo_499 : decode cL_isSo 499 = .ok (.aload_n 0, 1) := by decide +kernel
theorem dL_isSo_500 : decode cL_isSo 500 = .ok (.bipush 16, 2) := by decide +kernel
theorem dL_isSo_502 : decode cL_isSo 502 = .ok (.invokevirtual 46, 3) := by decide +kernel
theorem dL_isSo_505 : decode cL_isSo 505 = .ok (.iload 4, 2) := by decide +kernel
theorem dL_isSo_507 : decode cL_isSo 507 = .ok (.if_icmp .ne 7, 3) := by decide +kernel
theorem dL_isSo_510 : decode cL_isSo 510 = .ok (.iconst 1, 1) := by decide +kernel
theorem dL_isSo_511 : decode cL_isSo 511 = .ok (.goto 4, 3) := by decide +kernel
theorem dL_isSo_514 : decode cL_isSo 514 = .ok (.iconst 0, 1) := by decide +kernel
theorem dL_isSo_515 : decode cL_isSo 515 = .ok (.ireturn, 1) := by decide +kernel
