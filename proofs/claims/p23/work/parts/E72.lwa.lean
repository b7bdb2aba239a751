set_option maxRecDepth 100000 in
theorem ggL_land_X8_land : GoodIn wsL_land wsX8_land := goodIn_ca (goodIn_ca (wk_g rfl wm_L_land 4063 wc_X8_land rfl (by decide +kernel) (by decide +kernel) wq_X8_land) (goodIn_sub (fun _ h => List.mem_cons_of_mem _ (List.mem_append_left _ (List.mem_append_right _ h))) (by decide +kernel))) (goodIn_sub (fun _ h => List.mem_cons_of_mem _ (List.mem_append_right _ h)) (by decide +kernel))
set_option maxRecDepth 100000 in
theorem gL_land_X8_land : GoodIn wsL_land (wsV RL 7 RX8 yX8_land wsX8_land) := goodIn_app (wk_h rfl wm_L_land [4060, 4061, 4062, 2001] (by decide +kernel) (by decide +kernel) (by decide +kernel)) ggL_land_X8_land
theorem dL_land_0 : decode cL_land 0 = .ok (.aload 4, 2) := by decide +kernel
theorem dL_land_2 : decode cL_land 2 = .ok (.aload_n 0, 1) := by decide +kernel
theorem dL_land_3 : decode cL_land 3 = .ok (.iload_n 1, 1) := by decide +kernel
theorem dL_land_4 : decode cL_land 4 = .ok (.iload_n 2, 1) := by decide +kernel
theorem dL_land_5 : decode cL_land 5 = .ok (.iload_n 3, 1) := by decide +kernel
theorem dL_land_6 : decode cL_land 6 = .ok (.invokevirtual 7, 3) := by decide +kernel
theorem dL_land_9 : decode cL_land 9 = .ok (.i2l, 1) := by decide +kernel
theorem dL_land_10 : decode cL_land 10 = .ok (.putfield 13, 3) := by decide +kernel
theorem dL_land_13 : decode cL_land 13 = .ok (.goto 11, 3) := by decide +kernel
theorem dL_land_16 : decode cL_land 16 = .ok (.astore 5, 2) := by decide +kernel
theorem dL_land_18 : decode cL_land 18 = .ok (.iconst 1, 1) := by decide +kernel
theorem dL_land_19 : decode cL_land 19 = .ok (.ireturn, 1) := by decide +kernel
theorem dL_land_20 : decode cL_land 20 = .ok (.astore 5, 2) := by decide +kernel
theorem dL_land_22 : decode cL_land 22 = .ok (.iconst 2, 1) := by decide +kernel
theorem dL_land_23 : decode cL_land 23 = .ok (.ireturn, 1) := by decide +kernel
theorem dL_land_24 : decode cL_land 24 = .ok (.iconst 0, 1) := by decide +kernel
theorem dL_land_25 : decode cL_land 25 = .ok (.ireturn, 1) := by decide +kernel
set_option maxRecDepth 100000 in
theorem ggL_trade_X8_trade : GoodIn wsL_trade wsX8_trade := goodIn_ca (goodIn_ca (goodIn_ca (wk_g rfl wm_L_trade 4071 wc_X8_trade rfl (by decide +kernel) (by decide +kernel) wq_X8_trade) (goodIn_sub (fun _ h => List.mem_cons_of_mem _ (List.mem_append_left _ (List.mem_append_left _ (List.mem_append_right _ h)))) (by decide +kernel))) (goodIn_sub (fun _ h => List.mem_cons_of_mem _ (List.mem_append_left _ (List.mem_append_right _ h))) (by decide +kernel))) (goodIn_sub (fun _ h => List.mem_cons_of_mem _ (List.mem_append_right _ h)) (by decide +kernel))
set_option maxRecDepth 100000 in
theorem gL_trade_X8_trade : GoodIn wsL_trade (wsV RL 23 RX8 yX8_trade wsX8_trade) := goodIn_app (wk_h rfl wm_L_trade [4068, 4069, 4070, 2001] (by decide +kernel) (by decide +kernel) (by decide +kernel)) ggL_trade_X8_trade
theorem dL_trade_0 : decode cL_trade 0 = .ok (.aload 4, 2) := by decide +kernel
theorem dL_trade_2 : decode cL_trade 2 = .ok (.aload_n 0, 1) := by decide +kernel
theorem dL_trade_3 : decode cL_trade 3 = .ok (.iload_n 1, 1) := by decide +kernel
theorem dL_trade_4 : decode cL_trade 4 = .ok (.iload_n 2, 1) := by decide +kernel
theorem dL_trade_5 : decode cL_trade 5 = .ok (.iload_n 3, 1) := by decide +kernel
theorem dL_trade_6 : decode cL_trade 6 = .ok (.invokevirtual 23, 3) := by decide +kernel
theorem dL_trade_9 : decode cL_trade 9 = .ok (.i2l, 1) := by decide +kernel
theorem dL_trade_10 : decode cL_trade 10 = .ok (.putfield 13, 3) := by decide +kernel
theorem dL_trade_13 : decode cL_trade 13 = .ok (.goto 15, 3) := by decide +kernel
theorem dL_trade_16 : decode cL_trade 16 = .ok (.astore 5, 2) := by decide +kernel
theorem dL_trade_18 : decode cL_trade 18 = .ok (.iconst 1, 1) := by decide +kernel
theorem dL_trade_19 : decode cL_trade 19 = .ok (.ireturn, 1) := by decide +kernel
theorem dL_trade_20 : decode cL_trade 20 = .ok (.astore 5, 2) := by decide +kernel
theorem dL_trade_22 : decode cL_trade 22 = .ok (.iconst 2, 1) := by decide +kernel
theorem dL_trade_23 : decode cL_trade 23 = .ok (.ireturn, 1) := by decide +kernel
theorem dL_trade_24 : decode cL_trade 24 = .ok (.astore 5, 2) := by decide +kernel
theorem dL_trade_26 : decode cL_trade 26 = .ok (.iconst 3, 1) := by decide +kernel
theorem dL_trade_27 : decode cL_trade 27 = .ok (.ireturn, 1) := by decide +kernel
theorem dL_trade_28 : decode cL_trade 28 = .ok (.iconst 0, 1) := by decide +kernel
theorem dL_trade_29 : decode cL_trade 29 = .ok (.ireturn, 1) := by decide +kernel
set_option maxRecDepth 100000 in
theorem ggL_gate_X8_gate : GoodIn wsL_gate wsX8_gate := goodIn_ca (goodIn_ca (goodIn_ca (wk_g rfl wm_L_gate 4095 wc_X8_gate rfl (by decide +kernel) (by decide +kernel) wq_X8_gate) (goodIn_sub (fun _ h => List.mem_cons_of_mem _ (List.mem_append_left _ (List.mem_append_left _ (List.mem_append_right _ h)))) (by decide +kernel))) (goodIn_sub (fun _ h => List.mem_cons_of_mem _ (List.mem_append_left _ (List.mem_append_right _ h))) (by decide +kernel))) (goodIn_sub (fun _ h => List.mem_cons_of_mem _ (List.mem_append_right _ h)) (by decide +kernel))
set_option maxRecDepth 100000 in
theorem gL_gate_X8_gate : GoodIn wsL_gate (wsV RL 28 RX8 yX8_gate wsX8_gate) := goodIn_app (wk_h rfl wm_L_gate [4092, 4093, 4094, 2001] (by decide +kernel) (by decide +kernel) (by decide +kernel)) ggL_gate_X8_gate
theorem dL_gate_0 : decode cL_gate 0 = .ok (.aload 5, 2) := by decide +kernel
theorem dL_gate_2 : decode cL_gate 2 = .ok (.aload_n 0, 1) := by decide +kernel
theorem dL_gate_3 : decode cL_gate 3 = .ok (.iload_n 1, 1) := by decide +kernel
theorem dL_gate_4 : decode cL_gate 4 = .ok (.iload_n 2, 1) := by decide +kernel
theorem dL_gate_5 : decode cL_gate 5 = .ok (.iload_n 3, 1) := by decide +kernel
theorem dL_gate_6 : decode cL_gate 6 = .ok (.iload 4, 2) := by decide +kernel
theorem dL_gate_8 : decode cL_gate 8 = .ok (.invokevirtual 28, 3) := by decide +kernel
theorem dL_gate_11 : decode cL_gate 11 = .ok (.i2l, 1) := by decide +kernel
theorem dL_gate_12 : decode cL_gate 12 = .ok (.putfield 13, 3) := by decide +kernel
theorem dL_gate_15 : decode cL_gate 15 = .ok (.goto 15, 3) := by decide +kernel
theorem dL_gate_18 : decode cL_gate 18 = .ok (.astore 6, 2) := by decide +kernel
theorem dL_gate_20 : decode cL_gate 20 = .ok (.iconst 1, 1) := by decide +kernel
theorem dL_gate_21 : decode cL_gate 21 = .ok (.ireturn, 1) := by decide +kernel
theorem dL_gate_22 : decode cL_gate 22 = .ok (.astore 6, 2) := by decide +kernel
theorem dL_gate_24 : decode cL_gate 24 = .ok (.iconst 2, 1) := by decide +kernel
theorem dL_gate_25 : decode cL_gate 25 = .ok (.ireturn, 1) := by decide +kernel
theorem dL_gate_26 : decode cL_gate 26 = .ok (.astore 6, 2) := by decide +kernel
theorem dL_gate_28 : decode cL_gate 28 = .ok (.iconst 3, 1) := by decide +kernel
theorem dL_gate_29 : decode cL_gate 29 = .ok (.ireturn, 1) := by decide +kernel
theorem dL_gate_30 : decode cL_gate 30 = .ok (.iconst 0, 1) := by decide +kernel
theorem dL_gate_31 : decode cL_gate 31 = .ok (.ireturn, 1) := by decide +kernel
set_option maxRecDepth 100000 in
theorem ggL_odds_X8_odds : GoodIn wsL_odds wsX8_odds := goodIn_ca (goodIn_ca (wk_g rfl wm_L_odds 4229 wc_X8_odds rfl (by decide +kernel) (by decide +kernel) wq_X8_odds) (goodIn_sub (fun _ h => List.mem_cons_of_mem _ (List.mem_append_left _ (List.mem_append_right _ h))) (by decide +kernel))) (goodIn_sub (fun _ h => List.mem_cons_of_mem _ (List.mem_append_right _ h)) (by decide +kernel))
set_option maxRecDepth 100000 in
theorem gL_odds_X8_odds : GoodIn wsL_odds (wsV RL 32 RX8 yX8_odds wsX8_odds) := goodIn_app (wk_h rfl wm_L_odds [4226, 4227, 4228, 2001] (by decide +kernel) (by decide +kernel) (by decide +kernel)) ggL_odds_X8_odds
theorem dL_odds_0 : decode cL_odds 0 = .ok (.aload_n 3, 1) := by decide +kernel
theorem dL_odds_1 : decode cL_odds 1 = .ok (.aload_n 0, 1) := by decide +kernel
theorem dL_odds_2 : decode cL_odds 2 = .ok (.iload_n 1, 1) := by decide +kernel
theorem dL_odds_3 : decode cL_odds 3 = .ok (.iload_n 2, 1) := by decide +kernel
theorem dL_odds_4 : decode cL_odds 4 = .ok (.invokevirtual 32, 3) := by decide +kernel
theorem dL_odds_7 : decode cL_odds 7 = .ok (.i2l, 1) := by decide +kernel
theorem dL_odds_8 : decode cL_odds 8 = .ok (.putfield 13, 3) := by decide +kernel
theorem dL_odds_11 : decode cL_odds 11 = .ok (.goto 11, 3) := by decide +kernel
theorem dL_odds_14 : decode cL_odds 14 = .ok (.astore 4, 2) := by decide +kernel
theorem dL_odds_16 : decode cL_odds 16 = .ok (.iconst 1, 1) := by decide +kernel
theorem dL_odds_17 : decode cL_odds 17 = .ok (.ireturn, 1) := by decide +kernel
theorem dL_odds_18 : decode cL_odds 18 = .ok (.astore 4, 2) := by decide +kernel
theorem dL_odds_20 : decode cL_odds 20 = .ok (.iconst 2, 1) := by decide +kernel
theorem dL_odds_21 : decode cL_odds 21 = .ok (.ireturn, 1) := by decide +kernel
theorem dL_odds_22 : decode cL_odds 22 = .ok (.iconst 0, 1) := by decide +kernel
theorem dL_odds_23 : decode cL_odds 23 = .ok (.ireturn, 1) := by decide +kernel
set_option maxRecDepth 100000 in
theorem ggL_relieve_X8_relieve : GoodIn wsL_relieve wsX8_relieve := goodIn_ca (wk_g rfl wm_L_relieve 4236 wc_X8_relieve rfl (by decide +kernel) (by decide +kernel) wq_X8_relieve) (goodIn_sub (fun _ h => List.mem_cons_of_mem _ (List.mem_append_right _ h)) (by decide +kernel))
set_option maxRecDepth 100000 in
theorem gL_relieve_X8_relieve : GoodIn wsL_relieve (wsV RL 36 RX8 yX8_relieve wsX8_relieve) := goodIn_app (wk_h rfl wm_L_relieve [4233, 4234, 4235, 2001] (by decide +kernel) (by decide +kernel) (by decide +kernel)) ggL_relieve_X8_relieve
theorem dL_relieve_0 : decode cL_relieve 0 = .ok (.aload_n 2, 1) := by decide +kernel
theorem dL_relieve_1 : decode cL_relieve 1 = .ok (.aload_n 0, 1) := by decide +kernel
theorem dL_relieve_2 : decode cL_relieve 2 = .ok (.iload_n 1, 1) := by decide +kernel
theorem dL_relieve_3 : decode cL_relieve 3 = .ok (.invokevirtual 36, 3) := by decide +kernel
theorem dL_relieve_6 : decode cL_relieve 6 = .ok (.i2l, 1) := by decide +kernel
theorem dL_relieve_7 : decode cL_relieve 7 = .ok (.putfield 13, 3) := by decide +kernel
theorem dL_relieve_10 : decode cL_relieve 10 = .ok (.goto 6, 3) := by decide +kernel
theorem dL_relieve_13 : decode cL_relieve 13 = .ok (.astore_n 3, 1) := by decide +kernel
theorem dL_relieve_14 : decode cL_relieve 14 = .ok (.iconst 1, 1) := by decide +kernel
theorem dL_relieve_15 : decode cL_relieve 15 = .ok (.ireturn, 1) := by decide +kernel
theorem dL_relieve_16 : decode cL_relieve 16 = .ok (.iconst 0, 1) := by decide +kernel
theorem dL_relieve_17 : decode cL_relieve 17 = .ok (.ireturn, 1) := by decide +kernel
set_option maxRecDepth 100000 in
theorem ggL_sleeper_X8_sleeper : GoodIn wsL_sleeper wsX8_sleeper := goodIn_ca (goodIn_ca (goodIn_ca (wk_g rfl wm_L_sleeper 5003 wc_X8_sleeper rfl (by decide +kernel) (by decide +kernel) wq_X8_sleeper) (goodIn_sub (fun _ h => List.mem_cons_of_mem _ (List.mem_append_left _ (List.mem_append_left _ (List.mem_append_right _ h)))) (by decide +kernel))) (goodIn_sub (fun _ h => List.mem_cons_of_mem _ (List.mem_append_left _ (List.mem_append_right _ h))) (by decide +kernel))) (goodIn_sub (fun _ h => List.mem_cons_of_mem _ (List.mem_append_right _ h)) (by decide +kernel))
set_option maxRecDepth 100000 in
theorem gL_sleeper_X8_sleeper : GoodIn wsL_sleeper (wsV RL 40 RX8 yX8_sleeper wsX8_sleeper) := goodIn_app (wk_h rfl wm_L_sleeper [5000, 5001, 5002, 2001] (by decide +kernel) (by decide +kernel) (by decide +kernel)) ggL_sleeper_X8_sleeper
theorem dL_sleeper_0 : decode cL_sleeper 0 = .ok (.aload 4, 2) := by decide +kernel
theorem dL_sleeper_2 : decode cL_sleeper 2 = .ok (.aload_n 0, 1) := by decide +kernel
theorem dL_sleeper_3 : decode cL_sleeper 3 = .ok (.iload_n 1, 1) := by decide +kernel
theorem dL_sleeper_4 : decode cL_sleeper 4 = .ok (.iload_n 2, 1) := by decide +kernel
theorem dL_sleeper_5 : decode cL_sleeper 5 = .ok (.iload_n 3, 1) := by decide +kernel
theorem dL_sleeper_6 : decode cL_sleeper 6 = .ok (.invokevirtual 40, 3) := by decide +kernel
theorem dL_sleeper_9 : decode cL_sleeper 9 = .ok (.i2l, 1) := by decide +kernel
theorem dL_sleeper_10 : decode cL_sleeper 10 = .ok (.putfield 13, 3) := by decide +kernel
theorem dL_sleeper_13 : decode cL_sleeper 13 = .ok (.goto 15, 3) := by decide +kernel
theorem dL_sleeper_16 : decode cL_sleeper 16 = .ok (.astore 5, 2) := by decide +kernel
theorem dL_sleeper_18 : decode cL_sleeper 18 = .ok (.iconst 1, 1) := by decide +kernel
theorem dL_sleeper_19 : decode cL_sleeper 19 = .ok (.ireturn, 1) := by decide +kernel
theorem dL_sleeper_20 : decode cL_sleeper 20 = .ok (.astore 5, 2) := by decide +kernel
theorem dL_sleeper_22 : decode cL_sleeper 22 = .ok (.iconst 2, 1) := by decide +kernel
theorem dL_sleeper_23 : decode cL_sleeper 23 = .ok (.ireturn, 1) := by decide +kernel
theorem dL_sleeper_24 : decode cL_sleeper 24 = .ok (.astore 5, 2) := by decide +kernel
theorem dL_sleeper_26 : decode cL_sleeper 26 = .ok (.iconst 3, 1) := by decide +kernel
theorem dL_sleeper_27 : decode cL_sleeper 27 = .ok (.ireturn, 1) := by decide +kernel
theorem dL_sleeper_28 : decode cL_sleeper 28 = .ok (.iconst 0, 1) := by decide +kernel
theorem dL_sleeper_29 : decode cL_sleeper 29 = .ok (.ireturn, 1) := by decide +kernel
set_option maxRecDepth 100000 in
theorem ggL_part_X8_part : GoodIn wsL_part wsX8_part := goodIn_ca (goodIn_ca (goodIn_ca (wk_g rfl wm_L_part 5054 wc_X8_part rfl (by decide +kernel) (by decide +kernel) wq_X8_part) (goodIn_sub (fun _ h => List.mem_cons_of_mem _ (List.mem_append_left _ (List.mem_append_left _ (List.mem_append_right _ h)))) (by decide +kernel))) (goodIn_sub (fun _ h => List.mem_cons_of_mem _ (List.mem_append_left _ (List.mem_append_right _ h))) (by decide +kernel))) (goodIn_sub (fun _ h => List.mem_cons_of_mem _ (List.mem_append_right _ h)) (by decide +kernel))
set_option maxRecDepth 100000 in
theorem gL_part_X8_part : GoodIn wsL_part (wsV RL 44 RX8 yX8_part wsX8_part) := goodIn_app (wk_h rfl wm_L_part [5051, 5052, 5053, 2001] (by decide +kernel) (by decide +kernel) (by decide +kernel)) ggL_part_X8_part
theorem dL_part_0 : decode cL_part 0 = .ok (.aload 5, 2) := by decide +kernel
theorem dL_part_2 : decode cL_part 2 = .ok (.aload_n 0, 1) := by decide +kernel
theorem dL_part_3 : decode cL_part 3 = .ok (.iload_n 1, 1) := by decide +kernel
theorem dL_part_4 : decode cL_part 4 = .ok (.iload_n 2, 1) := by decide +kernel
theorem dL_part_5 : decode cL_part 5 = .ok (.iload_n 3, 1) := by decide +kernel
theorem dL_part_6 : decode cL_part 6 = .ok (.iload 4, 2) := by decide +kernel
theorem dL_part_8 : decode cL_part 8 = .ok (.invokevirtual 44, 3) := by decide +kernel
theorem dL_part_11 : decode cL_part 11 = .ok (.i2l, 1) := by decide +kernel
theorem dL_part_12 : decode cL_part 12 = .ok (.putfield 13, 3) := by decide +kernel
theorem dL_part_15 : decode cL_part 15 = .ok (.goto 15, 3) := by decide +kernel
theorem dL_part_18 : decode cL_part 18 = .ok (.astore 6, 2) := by decide +kernel
theorem dL_part_20 : decode cL_part 20 = .ok (.iconst 1, 1) := by decide +kernel
theorem dL_part_21 : decode cL_part 21 = .ok (.ireturn, 1) := by decide +kernel
theorem dL_part_22 : decode cL_part 22 = .ok (.astore 6, 2) := by decide +kernel
theorem dL_part_24 : decode cL_part 24 = .ok (.iconst 2, 1) := by decide +kernel
theorem dL_part_25 : decode cL_part 25 = .ok (.ireturn, 1) := by decide +kernel
theorem dL_part_26 : decode cL_part 26 = .ok (.astore 6, 2) := by decide +kernel
theorem dL_part_28 : decode cL_part 28 = .ok (.iconst 3, 1) := by decide +kernel
theorem dL_part_29 : decode cL_part 29 = .ok (.ireturn, 1) := by decide +kernel
theorem dL_part_30 : decode cL_part 30 = .ok (.iconst 0, 1) := by decide +kernel
theorem dL_part_31 : decode cL_part 31 = .ok (.ireturn, 1) := by decide +kernel
set_option maxRecDepth 100000 in
theorem ggL_give_X8_give : GoodIn wsL_give wsX8_give := goodIn_ca (goodIn_ca (wk_g rfl wm_L_give 5099 wc_X8_give rfl (by decide +kernel) (by decide +kernel) wq_X8_give) (goodIn_sub (fun _ h => List.mem_cons_of_mem _ (List.mem_append_left _ (List.mem_append_right _ h))) (by decide +kernel))) (goodIn_sub (fun _ h => List.mem_cons_of_mem _ (List.mem_append_right _ h)) (by decide +kernel))
set_option maxRecDepth 100000 in
theorem gL_give_X8_give : GoodIn wsL_give (wsV RL 47 RX8 yX8_give wsX8_give) := goodIn_app (wk_h rfl wm_L_give [5096, 5097, 5098, 2001] (by decide +kernel) (by decide +kernel) (by decide +kernel)) ggL_give_X8_give
theorem dL_give_0 : decode cL_give 0 = .ok (.aload_n 3, 1) := by decide +kernel
theorem dL_give_1 : decode cL_give 1 = .ok (.aload_n 0, 1) := by decide +kernel
theorem dL_give_2 : decode cL_give 2 = .ok (.iload_n 1, 1) := by decide +kernel
theorem dL_give_3 : decode cL_give 3 = .ok (.iload_n 2, 1) := by decide +kernel
theorem dL_give_4 : decode cL_give 4 = .ok (.invokevirtual 47, 3) := by decide +kernel
theorem dL_give_7 : decode cL_give 7 = .ok (.i2l, 1) := by decide +kernel
theorem dL_give_8 : decode cL_give 8 = .ok (.putfield 13, 3) := by decide +kernel
theorem dL_give_11 : decode cL_give 11 = .ok (.goto 11, 3) := by decide +kernel
theorem dL_give_14 : decode cL_give 14 = .ok (.astore 4, 2) := by decide +kernel
theorem dL_give_16 : decode cL_give 16 = .ok (.iconst 1, 1) := by decide +kernel
theorem dL_give_17 : decode cL_give 17 = .ok (.ireturn, 1) := by decide +kernel
theorem dL_give_18 : decode cL_give 18 = .ok (.astore 4, 2) := by decide +kernel
theorem dL_give_20 : decode cL_give 20 = .ok (.iconst 2, 1) := by decide +kernel
theorem dL_give_21 : decode cL_give 21 = .ok (.ireturn, 1) := by decide +kernel
theorem dL_give_22 : decode cL_give 22 = .ok (.iconst 0, 1) := by decide +kernel
theorem dL_give_23 : decode cL_give 23 = .ok (.ireturn, 1) := by decide +kernel
set_option maxRecDepth 100000 in
theorem ggL_sing_X8_sing : GoodIn wsL_sing wsX8_sing := goodIn_ca (goodIn_ca (wk_g rfl wm_L_sing 5108 wc_X8_sing rfl (by decide +kernel) (by decide +kernel) wq_X8_sing) (goodIn_sub (fun _ h => List.mem_cons_of_mem _ (List.mem_append_left _ (List.mem_append_right _ h))) (by decide +kernel))) (goodIn_sub (fun _ h => List.mem_cons_of_mem _ (List.mem_append_right _ h)) (by decide +kernel))
set_option maxRecDepth 100000 in
theorem gL_sing_X8_sing : GoodIn wsL_sing (wsV RL 50 RX8 yX8_sing wsX8_sing) := goodIn_app (wk_h rfl wm_L_sing [5105, 5106, 5107, 2001] (by decide +kernel) (by decide +kernel) (by decide +kernel)) ggL_sing_X8_sing
theorem dL_sing_0 : decode cL_sing 0 = .ok (.aload 5, 2) := by decide +kernel
theorem dL_sing_2 : decode cL_sing 2 = .ok (.aload_n 0, 1) := by decide +kernel
theorem dL_sing_3 : decode cL_sing 3 = .ok (.iload_n 1, 1) := by decide +kernel
theorem dL_sing_4 : decode cL_sing 4 = .ok (.iload_n 2, 1) := by decide +kernel
theorem dL_sing_5 : decode cL_sing 5 = .ok (.iload_n 3, 1) := by decide +kernel
theorem dL_sing_6 : decode cL_sing 6 = .ok (.iload 4, 2) := by decide +kernel
theorem dL_sing_8 : decode cL_sing 8 = .ok (.invokevirtual 50, 3) := by decide +kernel
theorem dL_sing_11 : decode cL_sing 11 = .ok (.i2l, 1) := by decide +kernel
theorem dL_sing_12 : decode cL_sing 12 = .ok (.putfield 13, 3) := by decide +kernel
theorem dL_sing_15 : decode cL_sing 15 = .ok (.goto 11, 3) := by decide +kernel
theorem dL_sing_18 : decode cL_sing 18 = .ok (.astore 6, 2) := by decide +kernel
theorem dL_sing_20 : decode cL_sing 20 = .ok (.iconst 1, 1) := by decide +kernel
theorem dL_sing_21 : decode cL_sing 21 = .ok (.ireturn, 1) := by decide +kernel
theorem dL_sing_22 : decode cL_sing 22 = .ok (.astore 6, 2) := by decide +kernel
theorem dL_sing_24 : decode cL_sing 24 = .ok (.iconst 2, 1) := by decide +kernel
theorem dL_sing_25 : decode cL_sing 25 = .ok (.ireturn, 1) := by decide +kernel
theorem dL_sing_26 : decode cL_sing 26 = .ok (.iconst 0, 1) := by decide +kernel
theorem dL_sing_27 : decode cL_sing 27 = .ok (.ireturn, 1) := by decide +kernel
set_option maxRecDepth 100000 in
theorem ggL_revoke_X8_revoke : GoodIn wsL_revoke wsX8_revoke := goodIn_ca (goodIn_ca (wk_g rfl wm_L_revoke 5134 wc_X8_revoke rfl (by decide +kernel) (by decide +kernel) wq_X8_revoke) (goodIn_sub (fun _ h => List.mem_cons_of_mem _ (List.mem_append_left _ (List.mem_append_right _ h))) (by decide +kernel))) (goodIn_sub (fun _ h => List.mem_cons_of_mem _ (List.mem_append_right _ h)) (by decide +kernel))
set_option maxRecDepth 100000 in
theorem gL_revoke_X8_revoke : GoodIn wsL_revoke (wsV RL 53 RX8 yX8_revoke wsX8_revoke) := goodIn_app (wk_h rfl wm_L_revoke [5131, 5132, 5133, 2001] (by decide +kernel) (by decide +kernel) (by decide +kernel)) ggL_revoke_X8_revoke
theorem dL_revoke_0 : decode cL_revoke 0 = .ok (.aload_n 3, 1) := by decide +kernel
theorem dL_revoke_1 : decode cL_revoke 1 = .ok (.aload_n 0, 1) := by decide +kernel
theorem dL_revoke_2 : decode cL_revoke 2 = .ok (.iload_n 1, 1) := by decide +kernel
theorem dL_revoke_3 : decode cL_revoke 3 = .ok (.iload_n 2, 1) := by decide +kernel
theorem dL_revoke_4 : decode cL_revoke 4 = .ok (.invokevirtual 53, 3) := by decide +kernel
theorem dL_revoke_7 : decode cL_revoke 7 = .ok (.ifCond .eq 7, 3) := by decide +kernel
theorem dL_revoke_10 : decode cL_revoke 10 = .ok (.lconst 1, 1) := by decide +kernel
theorem dL_revoke_11 : decode cL_revoke 11 = .ok (.goto 4, 3) := by decide +kernel
theorem dL_revoke_14 : decode cL_revoke 14 = .ok (.lconst 0, 1) := by decide +kernel
theorem dL_revoke_15 : decode cL_revoke 15 = .ok (.putfield 13, 3) := by decide +kernel
theorem dL_revoke_18 : decode cL_revoke 18 = .ok (.goto 11, 3) := by decide +kernel
theorem dL_revoke_21 : decode cL_revoke 21 = .ok (.astore 4, 2) := by decide +kernel
theorem dL_revoke_23 : decode cL_revoke 23 = .ok (.iconst 1, 1) := by decide +kernel
theorem dL_revoke_24 : decode cL_revoke 24 = .ok (.ireturn, 1) := by decide +kernel
theorem dL_revoke_25 : decode cL_revoke 25 = .ok (.astore 4, 2) := by decide +kernel
theorem dL_revoke_27 : decode cL_revoke 27 = .ok (.iconst 2, 1) := by decide +kernel
theorem dL_revoke_28 : decode cL_revoke 28 = .ok (.ireturn, 1) := by decide +kernel
theorem dL_revoke_29 : decode cL_revoke 29 = .ok (.iconst 0, 1) := by decide +kernel
theorem dL_revoke_30 : decode cL_revoke 30 = .ok (.ireturn, 1) := by decide +kernel
set_option maxRecDepth 100000 in
theorem ggL_join_X8_join : GoodIn wsL_join wsX8_join := goodIn_ca (goodIn_ca (goodIn_ca (wk_g bm_L_join wm_L_join 5145 wc_X8_join rfl (by decide +kernel) (by decide +kernel) wq_X8_join) (goodIn_sub (fun _ h => List.mem_cons_of_mem _ (List.mem_append_left _ (List.mem_append_left _ (List.mem_append_right _ h)))) (by decide +kernel))) (goodIn_sub (fun _ h => List.mem_cons_of_mem _ (List.mem_append_left _ (List.mem_append_right _ h))) (by decide +kernel))) (goodIn_sub (fun _ h => List.mem_cons_of_mem _ (List.mem_append_right _ h)) (by decide +kernel))
set_option maxRecDepth 100000 in
theorem gL_join_X8_join : GoodIn wsL_join (wsV RL 57 RX8 yX8_join wsX8_join) := goodIn_app (wk_h bm_L_join wm_L_join [5142, 5143, 5144, 2001] (by decide +kernel) (by decide +kernel) (by decide +kernel)) ggL_join_X8_join
theorem dL_join_0 : decode cL_join 0 = .ok (.aload 4, 2) := by decide +kernel
theorem dL_join_2 : decode cL_join 2 = .ok (.aload_n 0, 1) := by decide +kernel
theorem dL_join_3 : decode cL_join 3 = .ok (.iload_n 1, 1) := by decide +kernel
theorem dL_join_4 : decode cL_join 4 = .ok (.iload_n 2, 1) := by decide +kernel
theorem dL_join_5 : decode cL_join 5 = .ok (.iload_n 3, 1) := by decide +kernel
theorem dL_join_6 : decode cL_join 6 = .ok (.invokevirtual 57, 3) := by decide +kernel
theorem dL_join_9 : decode cL_join 9 = .ok (.i2l, 1) := by decide +kernel
theorem dL_join_10 : decode cL_join 10 = .ok (.putfield 13, 3) := by decide +kernel
theorem dL_join_13 : decode cL_join 13 = .ok (.goto 15, 3) := by decide +kernel
theorem dL_join_16 : decode cL_join 16 = .ok (.astore 5, 2) := by decide +kernel
theorem dL_join_18 : decode cL_join 18 = .ok (.iconst 1, 1) := by decide +kernel
theorem dL_join_19 : decode cL_join 19 = .ok (.ireturn, 1) := by decide +kernel
theorem dL_join_20 : decode cL_join 20 = .ok (.astore 5, 2) := by decide +kernel
theorem dL_join_22 : decode cL_join 22 = .ok (.iconst 2, 1) := by decide +kernel
theorem dL_join_23 : decode cL_join 23 = .ok (.ireturn, 1) := by decide +kernel
theorem dL_join_24 : decode cL_join 24 = .ok (.astore 5, 2) := by decide +kernel
theorem dL_join_26 : decode cL_join 26 = .ok (.iconst 3, 1) := by decide +kernel
theorem dL_join_27 : decode cL_join 27 = .ok (.ireturn, 1) := by decide +kernel
theorem dL_join_28 : decode cL_join 28 = .ok (.iconst 0, 1) := by decide +kernel
theorem dL_join_29 : decode cL_join 29 = .ok (.ireturn, 1) := by decide +kernel
set_option maxRecDepth 100000 in
theorem ggL_leave_X8_leave : GoodIn wsL_leave wsX8_leave := goodIn_ca (goodIn_ca (wk_g rfl wm_L_leave 6168 wc_X8_leave rfl (by decide +kernel) (by decide +kernel) wq_X8_leave) (goodIn_sub (fun _ h => List.mem_cons_of_mem _ (List.mem_append_left _ (List.mem_append_right _ h))) (by decide +kernel))) (goodIn_sub (fun _ h => List.mem_cons_of_mem _ (List.mem_append_right _ h)) (by decide +kernel))
set_option maxRecDepth 100000 in
theorem gL_leave_X8_leave : GoodIn wsL_leave (wsV RL 60 RX8 yX8_leave wsX8_leave) := goodIn_app (wk_h rfl wm_L_leave [6165, 6166, 6167, 2001] (by decide +kernel) (by decide +kernel) (by decide +kernel)) ggL_leave_X8_leave
theorem dL_leave_0 : decode cL_leave 0 = .ok (.aload_n 2, 1) := by decide +kernel
theorem dL_leave_1 : decode cL_leave 1 = .ok (.aload_n 0, 1) := by decide +kernel
theorem dL_leave_2 : decode cL_leave 2 = .ok (.iload_n 1, 1) := by decide +kernel
theorem dL_leave_3 : decode cL_leave 3 = .ok (.invokevirtual 60, 3) := by decide +kernel
theorem dL_leave_6 : decode cL_leave 6 = .ok (.i2l, 1) := by decide +kernel
theorem dL_leave_7 : decode cL_leave 7 = .ok (.putfield 13, 3) := by decide +kernel
theorem dL_leave_10 : decode cL_leave 10 = .ok (.goto 9, 3) := by decide +kernel
theorem dL_leave_13 : decode cL_leave 13 = .ok (.astore_n 3, 1) := by decide +kernel
theorem dL_leave_14 : decode cL_leave 14 = .ok (.iconst 1, 1) := by decide +kernel
theorem dL_leave_15 : decode cL_leave 15 = .ok (.ireturn, 1) := by decide +kernel
theorem dL_leave_16 : decode cL_leave 16 = .ok (.astore_n 3, 1) := by decide +kernel
theorem dL_leave_17 : decode cL_leave 17 = .ok (.iconst 2, 1) := by decide +kernel
theorem dL_leave_18 : decode cL_leave 18 = .ok (.ireturn, 1) := by decide +kernel
theorem dL_leave_19 : decode cL_leave 19 = .ok (.iconst 0, 1) := by decide +kernel
theorem dL_leave_20 : decode cL_leave 20 = .ok (.ireturn, 1) := by decide +kernel
set_option maxRecDepth 100000 in
theorem ggL_yawn_X8_yawn : GoodIn wsL_yawn wsX8_yawn := goodIn_ca (goodIn_ca (wk_g bm_L_yawn wm_L_yawn 6188 wc_X8_yawn rfl (by decide +kernel) (by decide +kernel) wq_X8_yawn) (goodIn_sub (fun _ h => List.mem_cons_of_mem _ (List.mem_append_left _ (List.mem_append_right _ h))) (by decide +kernel))) (goodIn_sub (fun _ h => List.mem_cons_of_mem _ (List.mem_append_right _ h)) (by decide +kernel))
set_option maxRecDepth 100000 in
theorem gL_yawn_X8_yawn : GoodIn wsL_yawn (wsV RL 63 RX8 yX8_yawn wsX8_yawn) := goodIn_app (wk_h bm_L_yawn wm_L_yawn [6185, 6186, 6187, 2001] (by decide +kernel) (by decide +kernel) (by decide +kernel)) ggL_yawn_X8_yawn
theorem dL_yawn_0 : decode cL_yawn 0 = .ok (.aload_n 2, 1) := by decide +kernel
theorem dL_yawn_1 : decode cL_yawn 1 = .ok (.aload_n 0, 1) := by decide +kernel
theorem dL_yawn_2 : decode cL_yawn 2 = .ok (.iload_n 1, 1) := by decide +kernel
theorem dL_yawn_3 : decode cL_yawn 3 = .ok (.invokevirtual 63, 3) := by decide +kernel
theorem dL_yawn_6 : decode cL_yawn 6 = .ok (.i2l, 1) := by decide +kernel
theorem dL_yawn_7 : decode cL_yawn 7 = .ok (.putfield 13, 3) := by decide +kernel
theorem dL_yawn_10 : decode cL_yawn 10 = .ok (.goto 9, 3) := by decide +kernel
theorem dL_yawn_13 : decode cL_yawn 13 = .ok (.astore_n 3, 1) := by decide +kernel
theorem dL_yawn_14 : decode cL_yawn 14 = .ok (.iconst 1, 1) := by decide +kernel
theorem dL_yawn_15 : decode cL_yawn 15 = .ok (.ireturn, 1) := by decide +kernel
theorem dL_yawn_16 : decode cL_yawn 16 = .ok (.astore_n 3, 1) := by decide +kernel
theorem dL_yawn_17 : decode cL_yawn 17 = .ok (.iconst 2, 1) := by decide +kernel
theorem dL_yawn_18 : decode cL_yawn 18 = .ok (.ireturn, 1) := by decide +kernel
theorem dL_yawn_19 : decode cL_yawn 19 = .ok (.iconst 0, 1) := by decide +kernel
theorem dL_yawn_20 : decode cL_yawn 20 = .ok (.ireturn, 1) := by decide +kernel
set_option maxRecDepth 100000 in
theorem ggL_appeal_X8_appeal : GoodIn wsL_appeal wsX8_appeal := goodIn_ca (goodIn_ca (wk_g rfl wm_L_appeal 7006 wc_X8_appeal rfl (by decide +kernel) (by decide +kernel) wq_X8_appeal) (goodIn_sub (fun _ h => List.mem_cons_of_mem _ (List.mem_append_left _ (List.mem_append_right _ h))) (by decide +kernel))) (goodIn_sub (fun _ h => List.mem_cons_of_mem _ (List.mem_append_right _ h)) (by decide +kernel))
set_option maxRecDepth 100000 in
theorem gL_appeal_X8_appeal : GoodIn wsL_appeal (wsV RL 66 RX8 yX8_appeal wsX8_appeal) := goodIn_app (wk_h rfl wm_L_appeal [7003, 7004, 7005, 2001] (by decide +kernel) (by decide +kernel) (by decide +kernel)) ggL_appeal_X8_appeal
theorem dL_appeal_0 : decode cL_appeal 0 = .ok (.aload_n 2, 1) := by decide +kernel
theorem dL_appeal_1 : decode cL_appeal 1 = .ok (.aload_n 0, 1) := by decide +kernel
theorem dL_appeal_2 : decode cL_appeal 2 = .ok (.iload_n 1, 1) := by decide +kernel
theorem dL_appeal_3 : decode cL_appeal 3 = .ok (.invokevirtual 66, 3) := by decide +kernel
theorem dL_appeal_6 : decode cL_appeal 6 = .ok (.ifCond .eq 7, 3) := by decide +kernel
theorem dL_appeal_9 : decode cL_appeal 9 = .ok (.lconst 1, 1) := by decide +kernel
theorem dL_appeal_10 : decode cL_appeal 10 = .ok (.goto 4, 3) := by decide +kernel
theorem dL_appeal_13 : decode cL_appeal 13 = .ok (.lconst 0, 1) := by decide +kernel
theorem dL_appeal_14 : decode cL_appeal 14 = .ok (.putfield 13, 3) := by decide +kernel
theorem dL_appeal_17 : decode cL_appeal 17 = .ok (.goto 9, 3) := by decide +kernel
theorem dL_appeal_20 : decode cL_appeal 20 = .ok (.astore_n 3, 1) := by decide +kernel
theorem dL_appeal_21 : decode cL_appeal 21 = .ok (.iconst 1, 1) := by decide +kernel
theorem dL_appeal_22 : decode cL_appeal 22 = .ok (.ireturn, 1) := by decide +kernel
theorem dL_appeal_23 : decode cL_appeal 23 = .ok (.astore_n 3, 1) := by decide +kernel
theorem dL_appeal_24 : decode cL_appeal 24 = .ok (.iconst 2, 1) := by decide +kernel
theorem dL_appeal_25 : decode cL_appeal 25 = .ok (.ireturn, 1) := by decide +kernel
theorem dL_appeal_26 : decode cL_appeal 26 = .ok (.iconst 0, 1) := by decide +kernel
theorem dL_appeal_27 : decode cL_appeal 27 = .ok (.ireturn, 1) := by decide +kernel
set_option maxRecDepth 100000 in
theorem ggL_pass_X8_pass : GoodIn wsL_pass wsX8_pass := goodIn_ca (goodIn_ca (wk_g rfl wm_L_pass 7014 wc_X8_pass rfl (by decide +kernel) (by decide +kernel) wq_X8_pass) (goodIn_sub (fun _ h => List.mem_cons_of_mem _ (List.mem_append_left _ (List.mem_append_right _ h))) (by decide +kernel))) (goodIn_sub (fun _ h => List.mem_cons_of_mem _ (List.mem_append_right _ h)) (by decide +kernel))
set_option maxRecDepth 100000 in
theorem gL_pass_X8_pass : GoodIn wsL_pass (wsV RL 70 RX8 yX8_pass wsX8_pass) := goodIn_app (wk_h rfl wm_L_pass [7011, 7012, 7013, 2001] (by decide +kernel) (by decide +kernel) (by decide +kernel)) ggL_pass_X8_pass
theorem dL_pass_0 : decode cL_pass 0 = .ok (.aload_n 2, 1) := by decide +kernel
theorem dL_pass_1 : decode cL_pass 1 = .ok (.aload_n 0, 1) := by decide +kernel
theorem dL_pass_2 : decode cL_pass 2 = .ok (.iload_n 1, 1) := by decide +kernel
theorem dL_pass_3 : decode cL_pass 3 = .ok (.invokevirtual 70, 3) := by decide +kernel
theorem dL_pass_6 : decode cL_pass 6 = .ok (.i2l, 1) := by decide +kernel
theorem dL_pass_7 : decode cL_pass 7 = .ok (.putfield 13, 3) := by decide +kernel
theorem dL_pass_10 : decode cL_pass 10 = .ok (.goto 9, 3) := by decide +kernel
theorem dL_pass_13 : decode cL_pass 13 = .ok (.astore_n 3, 1) := by decide +kernel
theorem dL_pass_14 : decode cL_pass 14 = .ok (.iconst 1, 1) := by decide +kernel
theorem dL_pass_15 : decode cL_pass 15 = .ok (.ireturn, 1) := by decide +kernel
theorem dL_pass_16 : decode cL_pass 16 = .ok (.astore_n 3, 1) := by decide +kernel
theorem dL_pass_17 : decode cL_pass 17 = .ok (.iconst 2, 1) := by decide +kernel
theorem dL_pass_18 : decode cL_pass 18 = .ok (.ireturn, 1) := by decide +kernel
theorem dL_pass_19 : decode cL_pass 19 = .ok (.iconst 0, 1) := by decide +kernel
theorem dL_pass_20 : decode cL_pass 20 = .ok (.ireturn, 1) := by decide +kernel
set_option maxRecDepth 100000 in
theorem ggL_ofLand_X8_ofLand : GoodIn wsL_ofLand wsX8_ofLand := goodIn_ca (goodIn_ca (wk_g rfl wm_L_ofLand 3079 wc_X8_ofLand rfl (by decide +kernel) (by decide +kernel) wq_X8_ofLand) (goodIn_sub (fun _ h => List.mem_cons_of_mem _ (List.mem_append_left _ (List.mem_append_right _ h))) (by decide +kernel))) (goodIn_sub (fun _ h => List.mem_cons_of_mem _ (List.mem_append_right _ h)) (by decide +kernel))
set_option maxRecDepth 100000 in
theorem gL_ofLand_X8_ofLand : GoodIn wsL_ofLand (wsV RL 73 RX8 yX8_ofLand wsX8_ofLand) := goodIn_app (wk_h rfl wm_L_ofLand [7035, 3077, 3078, 2001] (by decide +kernel) (by decide +kernel) (by decide +kernel)) ggL_ofLand_X8_ofLand
theorem dL_ofLand_0 : decode cL_ofLand 0 = .ok (.aload_n 3, 1) := by decide +kernel
theorem dL_ofLand_1 : decode cL_ofLand 1 = .ok (.aload_n 0, 1) := by decide +kernel
theorem dL_ofLand_2 : decode cL_ofLand 2 = .ok (.iload_n 1, 1) := by decide +kernel
theorem dL_ofLand_3 : decode cL_ofLand 3 = .ok (.iload_n 2, 1) := by decide +kernel
theorem dL_ofLand_4 : decode cL_ofLand 4 = .ok (.invokevirtual 73, 3) := by decide +kernel
theorem dL_ofLand_7 : decode cL_ofLand 7 = .ok (.i2l, 1) := by decide +kernel
theorem dL_ofLand_8 : decode cL_ofLand 8 = .ok (.putfield 13, 3) := by decide +kernel
theorem dL_ofLand_11 : decode cL_ofLand 11 = .ok (.goto 11, 3) := by decide +kernel
theorem dL_ofLand_14 : decode cL_ofLand 14 = .ok (.astore 4, 2) := by decide +kernel
theorem dL_ofLand_16 : decode cL_ofLand 16 = .ok (.iconst 1, 1) := by decide +kernel
theorem dL_ofLand_17 : decode cL_ofLand 17 = .ok (.ireturn, 1) := by decide +kernel
theorem dL_ofLand_18 : decode cL_ofLand 18 = .ok (.astore 4, 2) := by decide +kernel
theorem dL_ofLand_20 : decode cL_ofLand 20 = .ok (.iconst 2, 1) := by decide +kernel
theorem dL_ofLand_21 : decode cL_ofLand 21 = .ok (.ireturn, 1) := by decide +kernel
theorem dL_ofLand_22 : decode cL_ofLand 22 = .ok (.iconst 0, 1) := by decide +kernel
theorem dL_ofLand_23 : decode cL_ofLand 23 = .ok (.ireturn, 1) := by decide +kernel
set_option maxRecDepth 100000 in
theorem ggL_ofGate_X8_ofGate : GoodIn wsL_ofGate wsX8_ofGate := goodIn_ca (goodIn_ca (wk_g bm_L_ofGate wm_L_ofGate 3116 wc_X8_ofGate rfl (by decide +kernel) (by decide +kernel) wq_X8_ofGate) (goodIn_sub (fun _ h => List.mem_cons_of_mem _ (List.mem_append_left _ (List.mem_append_right _ h))) (by decide +kernel))) (goodIn_sub (fun _ h => List.mem_cons_of_mem _ (List.mem_append_right _ h)) (by decide +kernel))
set_option maxRecDepth 100000 in
theorem gL_ofGate_X8_ofGate : GoodIn wsL_ofGate (wsV RL 76 RX8 yX8_ofGate wsX8_ofGate) := goodIn_app (wk_h bm_L_ofGate wm_L_ofGate [7039, 3114, 3115, 2001] (by decide +kernel) (by decide +kernel) (by decide +kernel)) ggL_ofGate_X8_ofGate
theorem dL_ofGate_0 : decode cL_ofGate 0 = .ok (.aload_n 3, 1) := by decide +kernel
theorem dL_ofGate_1 : decode cL_ofGate 1 = .ok (.aload_n 0, 1) := by decide +kernel
theorem dL_ofGate_2 : decode cL_ofGate 2 = .ok (.iload_n 1, 1) := by decide +kernel
theorem dL_ofGate_3 : decode cL_ofGate 3 = .ok (.iload_n 2, 1) := by decide +kernel
theorem dL_ofGate_4 : decode cL_ofGate 4 = .ok (.invokevirtual 76, 3) := by decide +kernel
theorem dL_ofGate_7 : decode cL_ofGate 7 = .ok (.i2l, 1) := by decide +kernel
theorem dL_ofGate_8 : decode cL_ofGate 8 = .ok (.putfield 13, 3) := by decide +kernel
theorem dL_ofGate_11 : decode cL_ofGate 11 = .ok (.goto 11, 3) := by decide +kernel
theorem dL_ofGate_14 : decode cL_ofGate 14 = .ok (.astore 4, 2) := by decide +kernel
theorem dL_ofGate_16 : decode cL_ofGate 16 = .ok (.iconst 1, 1) := by decide +kernel
theorem dL_ofGate_17 : decode cL_ofGate 17 = .ok (.ireturn, 1) := by decide +kernel
theorem dL_ofGate_18 : decode cL_ofGate 18 = .ok (.astore 4, 2) := by decide +kernel
theorem dL_ofGate_20 : decode cL_ofGate 20 = .ok (.iconst 2, 1) := by decide +kernel
theorem dL_ofGate_21 : decode cL_ofGate 21 = .ok (.ireturn, 1) := by decide +kernel
theorem dL_ofGate_22 : decode cL_ofGate 22 = .ok (.iconst 0, 1) := by decide +kernel
theorem dL_ofGate_23 : decode cL_ofGate 23 = .ok (.ireturn, 1) := by decide +kernel
set_option maxRecDepth 100000 in
theorem ggL_ofSleeper_X8_ofSleeper : GoodIn wsL_ofSleeper wsX8_ofSleeper := goodIn_ca (goodIn_ca (wk_g rfl wm_L_ofSleeper 3199 wc_X8_ofSleeper rfl (by decide +kernel) (by decide +kernel) wq_X8_ofSleeper) (goodIn_sub (fun _ h => List.mem_cons_of_mem _ (List.mem_append_left _ (List.mem_append_right _ h))) (by decide +kernel))) (goodIn_sub (fun _ h => List.mem_cons_of_mem _ (List.mem_append_right _ h)) (by decide +kernel))
set_option maxRecDepth 100000 in
theorem gL_ofSleeper_X8_ofSleeper : GoodIn wsL_ofSleeper (wsV RL 79 RX8 yX8_ofSleeper wsX8_ofSleeper) := goodIn_app (wk_h rfl wm_L_ofSleeper [7043, 3197, 3198, 2001] (by decide +kernel) (by decide +kernel) (by decide +kernel)) ggL_ofSleeper_X8_ofSleeper
theorem dL_ofSleeper_0 : decode cL_ofSleeper 0 = .ok (.aload_n 3, 1) := by decide +kernel
theorem dL_ofSleeper_1 : decode cL_ofSleeper 1 = .ok (.aload_n 0, 1) := by decide +kernel
theorem dL_ofSleeper_2 : decode cL_ofSleeper 2 = .ok (.iload_n 1, 1) := by decide +kernel
theorem dL_ofSleeper_3 : decode cL_ofSleeper 3 = .ok (.iload_n 2, 1) := by decide +kernel
theorem dL_ofSleeper_4 : decode cL_ofSleeper 4 = .ok (.invokevirtual 79, 3) := by decide +kernel
theorem dL_ofSleeper_7 : decode cL_ofSleeper 7 = .ok (.i2l, 1) := by decide +kernel
theorem dL_ofSleeper_8 : decode cL_ofSleeper 8 = .ok (.putfield 13, 3) := by decide +kernel
theorem dL_ofSleeper_11 : decode cL_ofSleeper 11 = .ok (.goto 11, 3) := by decide +kernel
theorem dL_ofSleeper_14 : decode cL_ofSleeper 14 = .ok (.astore 4, 2) := by decide +kernel
theorem dL_ofSleeper_16 : decode cL_ofSleeper 16 = .ok (.iconst 1, 1) := by decide +kernel
theorem dL_ofSleeper_17 : decode cL_ofSleeper 17 = .ok (.ireturn, 1) := by decide +kernel
theorem dL_ofSleeper_18 : decode cL_ofSleeper 18 = .ok (.astore 4, 2) := by decide +kernel
theorem dL_ofSleeper_20 : decode cL_ofSleeper 20 = .ok (.iconst 2, 1) := by decide +kernel
theorem dL_ofSleeper_21 : decode cL_ofSleeper 21 = .ok (.ireturn, 1) := by decide +kernel
theorem dL_ofSleeper_22 : decode cL_ofSleeper 22 = .ok (.iconst 0, 1) := by decide +kernel
theorem dL_ofSleeper_23 : decode cL_ofSleeper 23 = .ok (.ireturn, 1) := by decide +kernel
set_option maxRecDepth 100000 in
theorem ggL_ofPart_X8_ofPart : GoodIn wsL_ofPart wsX8_ofPart := goodIn_ca (goodIn_ca (wk_g rfl wm_L_ofPart 3225 wc_X8_ofPart rfl (by decide +kernel) (by decide +kernel) wq_X8_ofPart) (goodIn_sub (fun _ h => List.mem_cons_of_mem _ (List.mem_append_left _ (List.mem_append_right _ h))) (by decide +kernel))) (goodIn_sub (fun _ h => List.mem_cons_of_mem _ (List.mem_append_right _ h)) (by decide +kernel))
set_option maxRecDepth 100000 in
theorem gL_ofPart_X8_ofPart : GoodIn wsL_ofPart (wsV RL 82 RX8 yX8_ofPart wsX8_ofPart) := goodIn_app (wk_h rfl wm_L_ofPart [7047, 3223, 3224, 2001] (by decide +kernel) (by decide +kernel) (by decide +kernel)) ggL_ofPart_X8_ofPart
theorem dL_ofPart_0 : decode cL_ofPart 0 = .ok (.aload_n 3, 1) := by decide +kernel
theorem dL_ofPart_1 : decode cL_ofPart 1 = .ok (.aload_n 0, 1) := by decide +kernel
theorem dL_ofPart_2 : decode cL_ofPart 2 = .ok (.iload_n 1, 1) := by decide +kernel
theorem dL_ofPart_3 : decode cL_ofPart 3 = .ok (.iload_n 2, 1) := by decide +kernel
theorem dL_ofPart_4 : decode cL_ofPart 4 = .ok (.invokevirtual 82, 3) := by decide +kernel
theorem dL_ofPart_7 : decode cL_ofPart 7 = .ok (.i2l, 1) := by decide +kernel
theorem dL_ofPart_8 : decode cL_ofPart 8 = .ok (.putfield 13, 3) := by decide +kernel
theorem dL_ofPart_11 : decode cL_ofPart 11 = .ok (.goto 11, 3) := by decide +kernel
theorem dL_ofPart_14 : decode cL_ofPart 14 = .ok (.astore 4, 2) := by decide +kernel
theorem dL_ofPart_16 : decode cL_ofPart 16 = .ok (.iconst 1, 1) := by decide +kernel
theorem dL_ofPart_17 : decode cL_ofPart 17 = .ok (.ireturn, 1) := by decide +kernel
theorem dL_ofPart_18 : decode cL_ofPart 18 = .ok (.astore 4, 2) := by decide +kernel
theorem dL_ofPart_20 : decode cL_ofPart 20 = .ok (.iconst 2, 1) := by decide +kernel
theorem dL_ofPart_21 : decode cL_ofPart 21 = .ok (.ireturn, 1) := by decide +kernel
theorem dL_ofPart_22 : decode cL_ofPart 22 = .ok (.iconst 0, 1) := by decide +kernel
theorem dL_ofPart_23 : decode cL_ofPart 23 = .ok (.ireturn, 1) := by decide +kernel
set_option maxRecDepth 100000 in
theorem ggL_isGood_X8_isGood : GoodIn wsL_isGood wsX8_isGood := goodIn_ca (wk_g rfl wm_L_isGood 7054 wc_X8_isGood rfl (by decide +kernel) (by decide +kernel) wq_X8_isGood) (goodIn_sub (fun _ h => List.mem_cons_of_mem _ (List.mem_append_right _ h)) (by decide +kernel))
set_option maxRecDepth 100000 in
theorem gL_isGood_X8_isGood : GoodIn wsL_isGood (wsV RL 85 RX8 yX8_isGood wsX8_isGood) := goodIn_app (wk_h rfl wm_L_isGood [7051, 7052, 7053, 2001] (by decide +kernel) (by decide +kernel) (by decide +kernel)) ggL_isGood_X8_isGood
theorem dL_isGood_0 : decode cL_isGood 0 = .ok (.aload_n 3, 1) := by decide +kernel
theorem dL_isGood_1 : decode cL_isGood 1 = .ok (.aload_n 0, 1) := by decide +kernel
theorem dL_isGood_2 : decode cL_isGood 2 = .ok (.iload_n 1, 1) := by decide +kernel
theorem dL_isGood_3 : decode cL_isGood 3 = .ok (.iload_n 2, 1) := by decide +kernel
theorem dL_isGood_4 : decode cL_isGood 4 = .ok (.invokevirtual 85, 3) := by decide +kernel
theorem dL_isGood_7 : decode cL_isGood 7 = .ok (.ifCond .eq 7, 3) := by decide +kernel
theorem dL_isGood_10 : decode cL_isGood 10 = .ok (.lconst 1, 1) := by decide +kernel
theorem dL_isGood_11 : decode cL_isGood 11 = .ok (.goto 4, 3) := by decide +kernel
theorem dL_isGood_14 : decode cL_isGood 14 = .ok (.lconst 0, 1) := by decide +kernel
theorem dL_isGood_15 : decode cL_isGood 15 = .ok (.putfield 13, 3) := by decide +kernel
theorem dL_isGood_18 : decode cL_isGood 18 = .ok (.goto 7, 3) := by decide +kernel
theorem dL_isGood_21 : decode cL_isGood 21 = .ok (.astore 4, 2) := by decide +kernel
theorem dL_isGood_23 : decode cL_isGood 23 = .ok (.iconst 1, 1) := by decide +kernel
theorem dL_isGood_24 : decode cL_isGood 24 = .ok (.ireturn, 1) := by decide +kernel
theorem dL_isGood_25 : decode cL_isGood 25 = .ok (.iconst 0, 1) := by decide +kernel
theorem dL_isGood_26 : decode cL_isGood 26 = .ok (.ireturn, 1) := by decide +kernel
set_option maxRecDepth 100000 in
theorem ggL_queue_X8_queue : GoodIn wsL_queue wsX8_queue := goodIn_ca (wk_g bm_L_queue wm_L_queue 7061 wc_X8_queue rfl (by decide +kernel) (by decide +kernel) wq_X8_queue) (goodIn_sub (fun _ h => List.mem_cons_of_mem _ (List.mem_append_right _ h)) (by decide +kernel))
set_option maxRecDepth 100000 in
theorem gL_queue_X8_queue : GoodIn wsL_queue (wsV RL 88 RX8 yX8_queue wsX8_queue) := goodIn_app (wk_h bm_L_queue wm_L_queue [7058, 7059, 7060, 2001] (by decide +kernel) (by decide +kernel) (by decide +kernel)) ggL_queue_X8_queue
theorem dL_queue_0 : decode cL_queue 0 = .ok (.aload_n 2, 1) := by decide +kernel
theorem dL_queue_1 : decode cL_queue 1 = .ok (.aload_n 0, 1) := by decide +kernel
theorem dL_queue_2 : decode cL_queue 2 = .ok (.iload_n 1, 1) := by decide +kernel
theorem dL_queue_3 : decode cL_queue 3 = .ok (.invokevirtual 88, 3) := by decide +kernel
theorem dL_queue_6 : decode cL_queue 6 = .ok (.putfield 92, 3) := by decide +kernel
theorem dL_queue_9 : decode cL_queue 9 = .ok (.goto 6, 3) := by decide +kernel
theorem dL_queue_12 : decode cL_queue 12 = .ok (.astore_n 3, 1) := by decide +kernel
theorem dL_queue_13 : decode cL_queue 13 = .ok (.iconst 1, 1) := by decide +kernel
theorem dL_queue_14 : decode cL_queue 14 = .ok (.ireturn, 1) := by decide +kernel
theorem dL_queue_15 : decode cL_queue 15 = .ok (.iconst 0, 1) := by decide +kernel
theorem dL_queue_16 : decode cL_queue 16 = .ok (.ireturn, 1) := by decide +kernel
set_option maxRecDepth 100000 in
theorem ggL_night_X8_night : GoodIn wsL_night wsX8_night := goodIn_ca (wk_g rfl wm_L_night 2223 wc_X8_night rfl (by decide +kernel) (by decide +kernel) wq_X8_night) (goodIn_sub (fun _ h => List.mem_cons_of_mem _ (List.mem_append_right _ h)) (by decide +kernel))
set_option maxRecDepth 100000 in
theorem gL_night_X8_night : GoodIn wsL_night (wsV RL 96 RX8 yX8_night wsX8_night) := goodIn_app (wk_h rfl wm_L_night [7090, 2221, 2222, 2001] (by decide +kernel) (by decide +kernel) (by decide +kernel)) ggL_night_X8_night
theorem dL_night_0 : decode cL_night 0 = .ok (.aload_n 2, 1) := by decide +kernel
theorem dL_night_1 : decode cL_night 1 = .ok (.aload_n 0, 1) := by decide +kernel
theorem dL_night_2 : decode cL_night 2 = .ok (.iload_n 1, 1) := by decide +kernel
theorem dL_night_3 : decode cL_night 3 = .ok (.invokevirtual 96, 3) := by decide +kernel
theorem dL_night_6 : decode cL_night 6 = .ok (.i2l, 1) := by decide +kernel
theorem dL_night_7 : decode cL_night 7 = .ok (.putfield 13, 3) := by decide +kernel
theorem dL_night_10 : decode cL_night 10 = .ok (.goto 6, 3) := by decide +kernel
theorem dL_night_13 : decode cL_night 13 = .ok (.astore_n 3, 1) := by decide +kernel
theorem dL_night_14 : decode cL_night 14 = .ok (.iconst 1, 1) := by decide +kernel
theorem dL_night_15 : decode cL_night 15 = .ok (.ireturn, 1) := by decide +kernel
theorem dL_night_16 : decode cL_night 16 = .ok (.iconst 0, 1) := by decide +kernel
theorem dL_night_17 : decode cL_night 17 = .ok (.ireturn, 1) := by decide +kernel
set_option maxRecDepth 100000 in
theorem ggL_way_X8_way : GoodIn wsL_way wsX8_way := goodIn_ca (wk_g rfl wm_L_way 3235 wc_X8_way rfl (by decide +kernel) (by decide +kernel) wq_X8_way) (goodIn_sub (fun _ h => List.mem_cons_of_mem _ (List.mem_append_right _ h)) (by decide +kernel))
set_option maxRecDepth 100000 in
theorem gL_way_X8_way : GoodIn wsL_way (wsV RL 99 RX8 yX8_way wsX8_way) := goodIn_app (wk_h rfl wm_L_way [7094, 3233, 3234, 2001] (by decide +kernel) (by decide +kernel) (by decide +kernel)) ggL_way_X8_way
theorem dL_way_0 : decode cL_way 0 = .ok (.aload_n 3, 1) := by decide +kernel
theorem dL_way_1 : decode cL_way 1 = .ok (.aload_n 0, 1) := by decide +kernel
theorem dL_way_2 : decode cL_way 2 = .ok (.iload_n 1, 1) := by decide +kernel
theorem dL_way_3 : decode cL_way 3 = .ok (.iload_n 2, 1) := by decide +kernel
theorem dL_way_4 : decode cL_way 4 = .ok (.invokevirtual 99, 3) := by decide +kernel
theorem dL_way_7 : decode cL_way 7 = .ok (.i2l, 1) := by decide +kernel
theorem dL_way_8 : decode cL_way 8 = .ok (.putfield 13, 3) := by decide +kernel
theorem dL_way_11 : decode cL_way 11 = .ok (.goto 7, 3) := by decide +kernel
theorem dL_way_14 : decode cL_way 14 = .ok (.astore 4, 2) := by decide +kernel
theorem dL_way_16 : decode cL_way 16 = .ok (.iconst 1, 1) := by decide +kernel
theorem dL_way_17 : decode cL_way 17 = .ok (.ireturn, 1) := by decide +kernel
theorem dL_way_18 : decode cL_way 18 = .ok (.iconst 0, 1) := by decide +kernel
theorem dL_way_19 : decode cL_way 19 = .ok (.ireturn, 1) := by decide +kernel
set_option maxRecDepth 100000 in
theorem ggL_plan_X8_plan : GoodIn wsL_plan wsX8_plan := goodIn_ca (goodIn_ca (wk_g rfl wm_L_plan 4007 wc_X8_plan rfl (by decide +kernel) (by decide +kernel) wq_X8_plan) (goodIn_sub (fun _ h => List.mem_cons_of_mem _ (List.mem_append_left _ (List.mem_append_right _ h))) (by decide +kernel))) (goodIn_sub (fun _ h => List.mem_cons_of_mem _ (List.mem_append_right _ h)) (by decide +kernel))
set_option maxRecDepth 100000 in
theorem gL_plan_X8_plan : GoodIn wsL_plan (wsV RL 102 RX8 yX8_plan wsX8_plan) := goodIn_app (wk_h rfl wm_L_plan [7098, 4005, 4006, 2001] (by decide +kernel) (by decide +kernel) (by decide +kernel)) ggL_plan_X8_plan
theorem dL_plan_0 : decode cL_plan 0 = .ok (.aload_n 3, 1) := by decide +kernel
theorem dL_plan_1 : decode cL_plan 1 = .ok (.aload_n 0, 1) := by decide +kernel
theorem dL_plan_2 : decode cL_plan 2 = .ok (.iload_n 1, 1) := by decide +kernel
theorem dL_plan_3 : decode cL_plan 3 = .ok (.iload_n 2, 1) := by decide +kernel
theorem dL_plan_4 : decode cL_plan 4 = .ok (.invokevirtual 102, 3) := by decide +kernel
theorem dL_plan_7 : decode cL_plan 7 = .ok (.i2l, 1) := by decide +kernel
theorem dL_plan_8 : decode cL_plan 8 = .ok (.putfield 13, 3) := by decide +kernel
theorem dL_plan_11 : decode cL_plan 11 = .ok (.goto 11, 3) := by decide +kernel
theorem dL_plan_14 : decode cL_plan 14 = .ok (.astore 4, 2) := by decide +kernel
theorem dL_plan_16 : decode cL_plan 16 = .ok (.iconst 1, 1) := by decide +kernel
theorem dL_plan_17 : decode cL_plan 17 = .ok (.ireturn, 1) := by decide +kernel
theorem dL_plan_18 : decode cL_plan 18 = .ok (.astore 4, 2) := by decide +kernel
theorem dL_plan_20 : decode cL_plan 20 = .ok (.iconst 2, 1) := by decide +kernel
theorem dL_plan_21 : decode cL_plan 21 = .ok (.ireturn, 1) := by decide +kernel
theorem dL_plan_22 : decode cL_plan 22 = .ok (.iconst 0, 1) := by decide +kernel
theorem dL_plan_23 : decode cL_plan 23 = .ok (.ireturn, 1) := by decide +kernel
set_option maxRecDepth 100000 in
theorem ggL_wouldPay_X8_wouldPay : GoodIn wsL_wouldPay wsX8_wouldPay := goodIn_ca (wk_g bm_L_wouldPay wm_L_wouldPay 3160 wc_X8_wouldPay rfl (by decide +kernel) (by decide +kernel) wq_X8_wouldPay) (goodIn_sub (fun _ h => List.mem_cons_of_mem _ (List.mem_append_right _ h)) (by decide +kernel))
set_option maxRecDepth 100000 in
theorem gL_wouldPay_X8_wouldPay : GoodIn wsL_wouldPay (wsV RL 105 RX8 yX8_wouldPay wsX8_wouldPay) := goodIn_app (wk_h bm_L_wouldPay wm_L_wouldPay [7102, 3158, 3159, 2001] (by decide +kernel) (by decide +kernel) (by decide +kernel)) ggL_wouldPay_X8_wouldPay
theorem dL_wouldPay_0 : decode cL_wouldPay 0 = .ok (.aload_n 2, 1) := by decide +kernel
theorem dL_wouldPay_1 : decode cL_wouldPay 1 = .ok (.aload_n 0, 1) := by decide +kernel
theorem dL_wouldPay_2 : decode cL_wouldPay 2 = .ok (.iload_n 1, 1) := by decide +kernel
theorem dL_wouldPay_3 : decode cL_wouldPay 3 = .ok (.invokevirtual 105, 3) := by decide +kernel
theorem dL_wouldPay_6 : decode cL_wouldPay 6 = .ok (.i2l, 1) := by decide +kernel
theorem dL_wouldPay_7 : decode cL_wouldPay 7 = .ok (.putfield 13, 3) := by decide +kernel
theorem dL_wouldPay_10 : decode cL_wouldPay 10 = .ok (.goto 6, 3) := by decide +kernel
theorem dL_wouldPay_13 : decode cL_wouldPay 13 = .ok (.astore_n 3, 1) := by decide +kernel
theorem dL_wouldPay_14 : decode cL_wouldPay 14 = .ok (.iconst 1, 1) := by decide +kernel
theorem dL_wouldPay_15 : decode cL_wouldPay 15 = .ok (.ireturn, 1) := by decide +kernel
theorem dL_wouldPay_16 : decode cL_wouldPay 16 = .ok (.iconst 0, 1) := by decide +kernel
theorem dL_wouldPay_17 : decode cL_wouldPay 17 = .ok (.ireturn, 1) := by decide +kernel
set_option maxRecDepth 100000 in
theorem ggL_law_X8_init : GoodIn wsL_law wsX8_init := wk_g bm_L_law wm_L_law 2045 wc_X8_init rfl (by decide +kernel) (by decide +kernel) wq_X8_init
set_option maxRecDepth 100000 in
theorem gL_law_X8_init : GoodIn wsL_law (wsX8_init) := ggL_law_X8_init
set_option maxRecDepth 100000 in
theorem ggL_law_X14_init : GoodIn wsL_law wsX14_init := wk_g bm_L_law wm_L_law 7107 wc_X14_init rfl (by decide +kernel) (by decide +kernel) wq_X14_init
set_option maxRecDepth 100000 in
theorem gL_law_X14_init : GoodIn wsL_law (wsX14_init) := ggL_law_X14_init
set_option maxRecDepth 100000 in
theorem ggL_law_X9_init : GoodIn wsL_law wsX9_init := wk_g bm_L_law wm_L_law 4046 wc_X9_init rfl (by decide +kernel) (by decide +kernel) wq_X9_init
set_option maxRecDepth 100000 in
theorem gL_law_X9_init_n112 : GoodIn wsL_law (wsX9_init) := ggL_law_X9_init
set_option maxRecDepth 100000 in
theorem ggL_law_L_land : GoodIn wsL_law wsL_land := goodIn_ca (goodIn_ca (wk_g bm_L_law wm_L_law 4057 wc_L_land rfl (by decide +kernel) (by decide +kernel) wq_L_land) (goodIn_sub (fun _ h => List.mem_append_left _ (List.mem_append_left _ (List.mem_append_right _ h))) (by decide +kernel))) (goodIn_sub (fun _ h => List.mem_append_left _ (List.mem_append_right _ h)) (by decide +kernel))
set_option maxRecDepth 100000 in
theorem gL_law_L_land : GoodIn wsL_law (va_wsS RL 113 yL_land wsL_land) := goodIn_app (wk_h bm_L_law wm_L_law [4055, 4056, 2000] (by decide +kernel) (by decide +kernel) (by decide +kernel)) ggL_law_L_land
set_option maxRecDepth 100000 in
theorem ggL_law_X14_land : GoodIn wsL_law wsX14_land := wk_g bm_L_law wm_L_law 7188 wc_X14_land rfl (by decide +kernel) (by decide +kernel) wq_X14_land
set_option maxRecDepth 100000 in
theorem gL_law_X14_land : GoodIn wsL_law (wsV RL 118 RX14 yX14_land wsX14_land) := goodIn_app (wk_h bm_L_law wm_L_law [7185, 7186, 7187, 2007] (by decide +kernel) (by decide +kernel) (by decide +kernel)) ggL_law_X14_land
set_option maxRecDepth 100000 in
theorem ggL_law_L_trade : GoodIn wsL_law wsL_trade := goodIn_ca (goodIn_ca (goodIn_ca (wk_g bm_L_law wm_L_law 4066 wc_L_trade rfl (by decide +kernel) (by decide +kernel) wq_L_trade) (goodIn_sub (fun _ h => List.mem_append_left _ (List.mem_append_right _ h)) (by decide +kernel))) (goodIn_sub (fun _ h => List.mem_append_right _ h) (by decide +kernel))) (goodIn_sub (fun _ h => List.mem_append_left _ (List.mem_append_left _ (List.mem_append_right _ h))) (by decide +kernel))
set_option maxRecDepth 100000 in
theorem gL_law_L_trade : GoodIn wsL_law (va_wsS RL 119 yL_trade wsL_trade) := goodIn_app (wk_h bm_L_law wm_L_law [4064, 4065, 2000] (by decide +kernel) (by decide +kernel) (by decide +kernel)) ggL_law_L_trade
set_option maxRecDepth 100000 in
theorem ggL_law_X14_trade : GoodIn wsL_law wsX14_trade := wk_g bm_L_law wm_L_law 7203 wc_X14_trade rfl (by decide +kernel) (by decide +kernel) wq_X14_trade
set_option maxRecDepth 100000 in
theorem gL_law_X14_trade : GoodIn wsL_law (wsV RL 121 RX14 yX14_trade wsX14_trade) := goodIn_app (wk_h bm_L_law wm_L_law [7200, 7201, 7202, 2007] (by decide +kernel) (by decide +kernel) (by decide +kernel)) ggL_law_X14_trade
set_option maxRecDepth 100000 in
theorem ggL_law_L_gate : GoodIn wsL_law wsL_gate := goodIn_ca (goodIn_ca (goodIn_ca (wk_g bm_L_law wm_L_law 4091 wc_L_gate rfl (by decide +kernel) (by decide +kernel) wq_L_gate) (goodIn_sub (fun _ h => List.mem_append_left _ (List.mem_append_right _ h)) (by decide +kernel))) (goodIn_sub (fun _ h => List.mem_append_right _ h) (by decide +kernel))) (goodIn_sub (fun _ h => List.mem_append_left _ (List.mem_append_left _ (List.mem_append_right _ h))) (by decide +kernel))
set_option maxRecDepth 100000 in
theorem gL_law_L_gate : GoodIn wsL_law (va_wsS RL 122 yL_gate wsL_gate) := goodIn_app (wk_h bm_L_law wm_L_law [4089, 4090, 2000] (by decide +kernel) (by decide +kernel) (by decide +kernel)) ggL_law_L_gate
set_option maxRecDepth 100000 in
theorem ggL_law_X14_gate : GoodIn wsL_law wsX14_gate := wk_g bm_L_law wm_L_law 7207 wc_X14_gate rfl (by decide +kernel) (by decide +kernel) wq_X14_gate
set_option maxRecDepth 100000 in
theorem gL_law_X14_gate : GoodIn wsL_law (wsV RL 125 RX14 yX14_gate wsX14_gate) := goodIn_app (wk_h bm_L_law wm_L_law [7204, 7205, 7206, 2007] (by decide +kernel) (by decide +kernel) (by decide +kernel)) ggL_law_X14_gate
set_option maxRecDepth 100000 in
theorem ggL_law_L_odds : GoodIn wsL_law wsL_odds := goodIn_ca (goodIn_ca (wk_g bm_L_law wm_L_law 4225 wc_L_odds rfl (by decide +kernel) (by decide +kernel) wq_L_odds) (goodIn_sub (fun _ h => List.mem_append_left _ (List.mem_append_left _ (List.mem_append_right _ h))) (by decide +kernel))) (goodIn_sub (fun _ h => List.mem_append_left _ (List.mem_append_right _ h)) (by decide +kernel))
set_option maxRecDepth 100000 in
theorem gL_law_L_odds : GoodIn wsL_law (va_wsS RL 126 yL_odds wsL_odds) := goodIn_app (wk_h bm_L_law wm_L_law [4223, 4224, 2000] (by decide +kernel) (by decide +kernel) (by decide +kernel)) ggL_law_L_odds
set_option maxRecDepth 100000 in
theorem ggL_law_X14_odds : GoodIn wsL_law wsX14_odds := wk_g bm_L_law wm_L_law 8014 wc_X14_odds rfl (by decide +kernel) (by decide +kernel) wq_X14_odds
set_option maxRecDepth 100000 in
theorem gL_law_X14_odds : GoodIn wsL_law (wsV RL 129 RX14 yX14_odds wsX14_odds) := goodIn_app (wk_h bm_L_law wm_L_law [8011, 8012, 8013, 2007] (by decide +kernel) (by decide +kernel) (by decide +kernel)) ggL_law_X14_odds
set_option maxRecDepth 100000 in
theorem ggL_law_L_relieve : GoodIn wsL_law wsL_relieve := goodIn_ca (wk_g bm_L_law wm_L_law 4232 wc_L_relieve rfl (by decide +kernel) (by decide +kernel) wq_L_relieve) (goodIn_sub (fun _ h => List.mem_append_left _ (List.mem_append_left _ (List.mem_append_right _ h))) (by decide +kernel))
set_option maxRecDepth 100000 in
theorem gL_law_L_relieve : GoodIn wsL_law (va_wsS RL 130 yL_relieve wsL_relieve) := goodIn_app (wk_h bm_L_law wm_L_law [4230, 4231, 2000] (by decide +kernel) (by decide +kernel) (by decide +kernel)) ggL_law_L_relieve
set_option maxRecDepth 100000 in
theorem ggL_law_X14_relieve : GoodIn wsL_law wsX14_relieve := wk_g bm_L_law wm_L_law 8023 wc_X14_relieve rfl (by decide +kernel) (by decide +kernel) wq_X14_relieve
set_option maxRecDepth 100000 in
theorem gL_law_X14_relieve : GoodIn wsL_law (wsV RL 133 RX14 yX14_relieve wsX14_relieve) := goodIn_app (wk_h bm_L_law wm_L_law [8020, 8021, 8022, 2007] (by decide +kernel) (by decide +kernel) (by decide +kernel)) ggL_law_X14_relieve
set_option maxRecDepth 100000 in
theorem ggL_law_L_sleeper : GoodIn wsL_law wsL_sleeper := goodIn_ca (goodIn_ca (goodIn_ca (wk_g bm_L_law wm_L_law 4239 wc_L_sleeper rfl (by decide +kernel) (by decide +kernel) wq_L_sleeper) (goodIn_sub (fun _ h => List.mem_append_right _ h) (by decide +kernel))) (goodIn_sub (fun _ h => List.mem_append_left _ (List.mem_append_left _ (List.mem_append_right _ h))) (by decide +kernel))) (goodIn_sub (fun _ h => List.mem_append_left _ (List.mem_append_right _ h)) (by decide +kernel))
set_option maxRecDepth 100000 in
theorem gL_law_L_sleeper : GoodIn wsL_law (va_wsS RL 134 yL_sleeper wsL_sleeper) := goodIn_app (wk_h bm_L_law wm_L_law [4237, 4238, 2000] (by decide +kernel) (by decide +kernel) (by decide +kernel)) ggL_law_L_sleeper
set_option maxRecDepth 100000 in
theorem ggL_law_X14_sleeper : GoodIn wsL_law wsX14_sleeper := wk_g bm_L_law wm_L_law 8027 wc_X14_sleeper rfl (by decide +kernel) (by decide +kernel) wq_X14_sleeper
set_option maxRecDepth 100000 in
theorem gL_law_X14_sleeper : GoodIn wsL_law (wsV RL 137 RX14 yX14_sleeper wsX14_sleeper) := goodIn_app (wk_h bm_L_law wm_L_law [8024, 8025, 8026, 2007] (by decide +kernel) (by decide +kernel) (by decide +kernel)) ggL_law_X14_sleeper
set_option maxRecDepth 100000 in
theorem ggL_law_L_part : GoodIn wsL_law wsL_part := goodIn_ca (goodIn_ca (goodIn_ca (wk_g bm_L_law wm_L_law 5050 wc_L_part rfl (by decide +kernel) (by decide +kernel) wq_L_part) (goodIn_sub (fun _ h => List.mem_append_right _ h) (by decide +kernel))) (goodIn_sub (fun _ h => List.mem_append_left _ (List.mem_append_left _ (List.mem_append_right _ h))) (by decide +kernel))) (goodIn_sub (fun _ h => List.mem_append_left _ (List.mem_append_right _ h)) (by decide +kernel))
set_option maxRecDepth 100000 in
theorem gL_law_L_part : GoodIn wsL_law (va_wsS RL 138 yL_part wsL_part) := goodIn_app (wk_h bm_L_law wm_L_law [5048, 5049, 2000] (by decide +kernel) (by decide +kernel) (by decide +kernel)) ggL_law_L_part
set_option maxRecDepth 100000 in
theorem ggL_law_X14_part : GoodIn wsL_law wsX14_part := wk_g bm_L_law wm_L_law 8068 wc_X14_part rfl (by decide +kernel) (by decide +kernel) wq_X14_part
set_option maxRecDepth 100000 in
theorem gL_law_X14_part : GoodIn wsL_law (wsV RL 140 RX14 yX14_part wsX14_part) := goodIn_app (wk_h bm_L_law wm_L_law [8065, 8066, 8067, 2007] (by decide +kernel) (by decide +kernel) (by decide +kernel)) ggL_law_X14_part
set_option maxRecDepth 100000 in
theorem ggL_law_L_give : GoodIn wsL_law wsL_give := goodIn_ca (goodIn_ca (wk_g bm_L_law wm_L_law 5095 wc_L_give rfl (by decide +kernel) (by decide +kernel) wq_L_give) (goodIn_sub (fun _ h => List.mem_append_right _ h) (by decide +kernel))) (goodIn_sub (fun _ h => List.mem_append_left _ (List.mem_append_left _ (List.mem_append_right _ h))) (by decide +kernel))
set_option maxRecDepth 100000 in
theorem gL_law_L_give : GoodIn wsL_law (va_wsS RL 141 yL_give wsL_give) := goodIn_app (wk_h bm_L_law wm_L_law [5093, 5094, 2000] (by decide +kernel) (by decide +kernel) (by decide +kernel)) ggL_law_L_give
set_option maxRecDepth 100000 in
theorem ggL_law_X14_give : GoodIn wsL_law wsX14_give := wk_g bm_L_law wm_L_law 8103 wc_X14_give rfl (by decide +kernel) (by decide +kernel) wq_X14_give
set_option maxRecDepth 100000 in
theorem gL_law_X14_give : GoodIn wsL_law (wsV RL 143 RX14 yX14_give wsX14_give) := goodIn_app (wk_h bm_L_law wm_L_law [8100, 8101, 8102, 2007] (by decide +kernel) (by decide +kernel) (by decide +kernel)) ggL_law_X14_give
set_option maxRecDepth 100000 in
theorem ggL_law_L_sing : GoodIn wsL_law wsL_sing := goodIn_ca (goodIn_ca (wk_g bm_L_law wm_L_law 5104 wc_L_sing rfl (by decide +kernel) (by decide +kernel) wq_L_sing) (goodIn_sub (fun _ h => List.mem_append_left _ (List.mem_append_left _ (List.mem_append_right _ h))) (by decide +kernel))) (goodIn_sub (fun _ h => List.mem_append_left _ (List.mem_append_right _ h)) (by decide +kernel))
set_option maxRecDepth 100000 in
theorem gL_law_L_sing : GoodIn wsL_law (va_wsS RL 144 yL_sing wsL_sing) := goodIn_app (wk_h bm_L_law wm_L_law [5102, 5103, 2000] (by decide +kernel) (by decide +kernel) (by decide +kernel)) ggL_law_L_sing
set_option maxRecDepth 100000 in
theorem ggL_law_X14_sing : GoodIn wsL_law wsX14_sing := wk_g bm_L_law wm_L_law 8111 wc_X14_sing rfl (by decide +kernel) (by decide +kernel) wq_X14_sing
set_option maxRecDepth 100000 in
theorem gL_law_X14_sing : GoodIn wsL_law (wsV RL 146 RX14 yX14_sing wsX14_sing) := goodIn_app (wk_h bm_L_law wm_L_law [8108, 8109, 8110, 2007] (by decide +kernel) (by decide +kernel) (by decide +kernel)) ggL_law_X14_sing
set_option maxRecDepth 100000 in
theorem ggL_law_L_revoke : GoodIn wsL_law wsL_revoke := goodIn_ca (goodIn_ca (wk_g bm_L_law wm_L_law 5130 wc_L_revoke rfl (by decide +kernel) (by decide +kernel) wq_L_revoke) (goodIn_sub (fun _ h => List.mem_append_left _ (List.mem_append_left _ (List.mem_append_right _ h))) (by decide +kernel))) (goodIn_sub (fun _ h => List.mem_append_left _ (List.mem_append_right _ h)) (by decide +kernel))
set_option maxRecDepth 100000 in
theorem gL_law_L_revoke : GoodIn wsL_law (va_wsS RL 147 yL_revoke wsL_revoke) := goodIn_app (wk_h bm_L_law wm_L_law [5128, 5129, 2000] (by decide +kernel) (by decide +kernel) (by decide +kernel)) ggL_law_L_revoke
set_option maxRecDepth 100000 in
theorem ggL_law_X14_revoke : GoodIn wsL_law wsX14_revoke := wk_g bm_L_law wm_L_law 8118 wc_X14_revoke rfl (by decide +kernel) (by decide +kernel) wq_X14_revoke
set_option maxRecDepth 100000 in
theorem gL_law_X14_revoke : GoodIn wsL_law (wsV RL 149 RX14 yX14_revoke wsX14_revoke) := goodIn_app (wk_h bm_L_law wm_L_law [8115, 8116, 8117, 2007] (by decide +kernel) (by decide +kernel) (by decide +kernel)) ggL_law_X14_revoke
set_option maxRecDepth 100000 in
theorem ggL_law_L_join : GoodIn wsL_law wsL_join := goodIn_ca (goodIn_ca (goodIn_ca (wk_g bm_L_law wm_L_law 5141 wc_L_join rfl (by decide +kernel) (by decide +kernel) wq_L_join) (goodIn_sub (fun _ h => List.mem_append_left _ (List.mem_append_right _ h)) (by decide +kernel))) (goodIn_sub (fun _ h => List.mem_append_right _ h) (by decide +kernel))) (goodIn_sub (fun _ h => List.mem_append_left _ (List.mem_append_left _ (List.mem_append_right _ h))) (by decide +kernel))
set_option maxRecDepth 100000 in
theorem gL_law_L_join : GoodIn wsL_law (va_wsS RL 150 yL_join wsL_join) := goodIn_app (wk_h bm_L_law wm_L_law [5139, 5140, 2000] (by decide +kernel) (by decide +kernel) (by decide +kernel)) ggL_law_L_join
set_option maxRecDepth 100000 in
theorem ggL_law_X14_join : GoodIn wsL_law wsX14_join := wk_g bm_L_law wm_L_law 8122 wc_X14_join rfl (by decide +kernel) (by decide +kernel) wq_X14_join
set_option maxRecDepth 100000 in
theorem gL_law_X14_join : GoodIn wsL_law (wsV RL 152 RX14 yX14_join wsX14_join) := goodIn_app (wk_h bm_L_law wm_L_law [8119, 8120, 8121, 2007] (by decide +kernel) (by decide +kernel) (by decide +kernel)) ggL_law_X14_join
set_option maxRecDepth 100000 in
theorem ggL_law_L_leave : GoodIn wsL_law wsL_leave := goodIn_ca (goodIn_ca (wk_g bm_L_law wm_L_law 6164 wc_L_leave rfl (by decide +kernel) (by decide +kernel) wq_L_leave) (goodIn_sub (fun _ h => List.mem_append_right _ h) (by decide +kernel))) (goodIn_sub (fun _ h => List.mem_append_left _ (List.mem_append_left _ (List.mem_append_right _ h))) (by decide +kernel))
set_option maxRecDepth 100000 in
theorem gL_law_L_leave : GoodIn wsL_law (va_wsS RL 153 yL_leave wsL_leave) := goodIn_app (wk_h bm_L_law wm_L_law [6162, 6163, 2000] (by decide +kernel) (by decide +kernel) (by decide +kernel)) ggL_law_L_leave
set_option maxRecDepth 100000 in
theorem ggL_law_X14_leave : GoodIn wsL_law wsX14_leave := wk_g bm_L_law wm_L_law 8160 wc_X14_leave rfl (by decide +kernel) (by decide +kernel) wq_X14_leave
set_option maxRecDepth 100000 in
theorem gL_law_X14_leave : GoodIn wsL_law (wsV RL 155 RX14 yX14_leave wsX14_leave) := goodIn_app (wk_h bm_L_law wm_L_law [8157, 8158, 8159, 2007] (by decide +kernel) (by decide +kernel) (by decide +kernel)) ggL_law_X14_leave
set_option maxRecDepth 100000 in
theorem ggL_law_L_yawn : GoodIn wsL_law wsL_yawn := goodIn_ca (goodIn_ca (wk_g bm_L_law wm_L_law 6184 wc_L_yawn rfl (by decide +kernel) (by decide +kernel) wq_L_yawn) (goodIn_sub (fun _ h => List.mem_append_right _ h) (by decide +kernel))) (goodIn_sub (fun _ h => List.mem_append_left _ (List.mem_append_left _ (List.mem_append_right _ h))) (by decide +kernel))
set_option maxRecDepth 100000 in
theorem gL_law_L_yawn : GoodIn wsL_law (va_wsS RL 156 yL_yawn wsL_yawn) := goodIn_app (wk_h bm_L_law wm_L_law [6182, 6183, 2000] (by decide +kernel) (by decide +kernel) (by decide +kernel)) ggL_law_L_yawn
set_option maxRecDepth 100000 in
theorem ggL_law_X14_yawn : GoodIn wsL_law wsX14_yawn := wk_g bm_L_law wm_L_law 8177 wc_X14_yawn rfl (by decide +kernel) (by decide +kernel) wq_X14_yawn
set_option maxRecDepth 100000 in
theorem gL_law_X14_yawn : GoodIn wsL_law (wsV RL 158 RX14 yX14_yawn wsX14_yawn) := goodIn_app (wk_h bm_L_law wm_L_law [8174, 8175, 8176, 2007] (by decide +kernel) (by decide +kernel) (by decide +kernel)) ggL_law_X14_yawn
set_option maxRecDepth 100000 in
theorem ggL_law_L_appeal : GoodIn wsL_law wsL_appeal := goodIn_ca (goodIn_ca (wk_g bm_L_law wm_L_law 7002 wc_L_appeal rfl (by decide +kernel) (by decide +kernel) wq_L_appeal) (goodIn_sub (fun _ h => List.mem_append_right _ h) (by decide +kernel))) (goodIn_sub (fun _ h => List.mem_append_left _ (List.mem_append_left _ (List.mem_append_right _ h))) (by decide +kernel))
set_option maxRecDepth 100000 in
theorem gL_law_L_appeal : GoodIn wsL_law (va_wsS RL 159 yL_appeal wsL_appeal) := goodIn_app (wk_h bm_L_law wm_L_law [7000, 7001, 2000] (by decide +kernel) (by decide +kernel) (by decide +kernel)) ggL_law_L_appeal
set_option maxRecDepth 100000 in
theorem ggL_law_X14_appeal : GoodIn wsL_law wsX14_appeal := wk_g bm_L_law wm_L_law 8220 wc_X14_appeal rfl (by decide +kernel) (by decide +kernel) wq_X14_appeal
set_option maxRecDepth 100000 in
theorem gL_law_X14_appeal : GoodIn wsL_law (wsV RL 161 RX14 yX14_appeal wsX14_appeal) := goodIn_app (wk_h bm_L_law wm_L_law [8217, 8218, 8219, 2007] (by decide +kernel) (by decide +kernel) (by decide +kernel)) ggL_law_X14_appeal
set_option maxRecDepth 100000 in
theorem ggL_law_L_pass : GoodIn wsL_law wsL_pass := goodIn_ca (goodIn_ca (wk_g bm_L_law wm_L_law 7010 wc_L_pass rfl (by decide +kernel) (by decide +kernel) wq_L_pass) (goodIn_sub (fun _ h => List.mem_append_right _ h) (by decide +kernel))) (goodIn_sub (fun _ h => List.mem_append_left _ (List.mem_append_right _ h)) (by decide +kernel))
set_option maxRecDepth 100000 in
theorem gL_law_L_pass : GoodIn wsL_law (va_wsS RL 162 yL_pass wsL_pass) := goodIn_app (wk_h bm_L_law wm_L_law [7008, 7009, 2000] (by decide +kernel) (by decide +kernel) (by decide +kernel)) ggL_law_L_pass
set_option maxRecDepth 100000 in
theorem ggL_law_X14_pass : GoodIn wsL_law wsX14_pass := wk_g bm_L_law wm_L_law 8224 wc_X14_pass rfl (by decide +kernel) (by decide +kernel) wq_X14_pass
set_option maxRecDepth 100000 in
theorem gL_law_X14_pass : GoodIn wsL_law (wsV RL 164 RX14 yX14_pass wsX14_pass) := goodIn_app (wk_h bm_L_law wm_L_law [8221, 8222, 8223, 2007] (by decide +kernel) (by decide +kernel) (by decide +kernel)) ggL_law_X14_pass
set_option maxRecDepth 100000 in
theorem ggL_law_L_ofLand : GoodIn wsL_law wsL_ofLand := goodIn_ca (goodIn_ca (wk_g bm_L_law wm_L_law 7034 wc_L_ofLand rfl (by decide +kernel) (by decide +kernel) wq_L_ofLand) (goodIn_sub (fun _ h => List.mem_append_left _ (List.mem_append_right _ h)) (by decide +kernel))) (goodIn_sub (fun _ h => List.mem_append_left _ (List.mem_append_left _ (List.mem_append_right _ h))) (by decide +kernel))
set_option maxRecDepth 100000 in
theorem gL_law_L_ofLand : GoodIn wsL_law (va_wsS RL 165 yL_ofLand wsL_ofLand) := goodIn_app (wk_h bm_L_law wm_L_law [7032, 7033, 2000] (by decide +kernel) (by decide +kernel) (by decide +kernel)) ggL_law_L_ofLand
set_option maxRecDepth 100000 in
theorem ggL_law_X14_ofLand : GoodIn wsL_law wsX14_ofLand := wk_g bm_L_law wm_L_law 9038 wc_X14_ofLand rfl (by decide +kernel) (by decide +kernel) wq_X14_ofLand
set_option maxRecDepth 100000 in
theorem gL_law_X14_ofLand : GoodIn wsL_law (wsV RL 167 RX14 yX14_ofLand wsX14_ofLand) := goodIn_app (wk_h bm_L_law wm_L_law [9035, 9036, 9037, 2007] (by decide +kernel) (by decide +kernel) (by decide +kernel)) ggL_law_X14_ofLand
set_option maxRecDepth 100000 in
theorem ggL_law_L_ofGate : GoodIn wsL_law wsL_ofGate := goodIn_ca (goodIn_ca (wk_g bm_L_law wm_L_law 7038 wc_L_ofGate rfl (by decide +kernel) (by decide +kernel) wq_L_ofGate) (goodIn_sub (fun _ h => List.mem_append_left _ (List.mem_append_right _ h)) (by decide +kernel))) (goodIn_sub (fun _ h => List.mem_append_left _ (List.mem_append_left _ (List.mem_append_right _ h))) (by decide +kernel))
set_option maxRecDepth 100000 in
theorem gL_law_L_ofGate : GoodIn wsL_law (va_wsS RL 168 yL_ofGate wsL_ofGate) := goodIn_app (wk_h bm_L_law wm_L_law [7036, 7037, 2000] (by decide +kernel) (by decide +kernel) (by decide +kernel)) ggL_law_L_ofGate
set_option maxRecDepth 100000 in
theorem ggL_law_X14_ofGate : GoodIn wsL_law wsX14_ofGate := wk_g bm_L_law wm_L_law 9054 wc_X14_ofGate rfl (by decide +kernel) (by decide +kernel) wq_X14_ofGate
set_option maxRecDepth 100000 in
theorem gL_law_X14_ofGate : GoodIn wsL_law (wsV RL 170 RX14 yX14_ofGate wsX14_ofGate) := goodIn_app (wk_h bm_L_law wm_L_law [9051, 9052, 9053, 2007] (by decide +kernel) (by decide +kernel) (by decide +kernel)) ggL_law_X14_ofGate
set_option maxRecDepth 100000 in
theorem ggL_law_L_ofSleeper : GoodIn wsL_law wsL_ofSleeper := goodIn_ca (goodIn_ca (wk_g bm_L_law wm_L_law 7042 wc_L_ofSleeper rfl (by decide +kernel) (by decide +kernel) wq_L_ofSleeper) (goodIn_sub (fun _ h => List.mem_append_left _ (List.mem_append_right _ h)) (by decide +kernel))) (goodIn_sub (fun _ h => List.mem_append_left _ (List.mem_append_left _ (List.mem_append_right _ h))) (by decide +kernel))
set_option maxRecDepth 100000 in
theorem gL_law_L_ofSleeper : GoodIn wsL_law (va_wsS RL 171 yL_ofSleeper wsL_ofSleeper) := goodIn_app (wk_h bm_L_law wm_L_law [7040, 7041, 2000] (by decide +kernel) (by decide +kernel) (by decide +kernel)) ggL_law_L_ofSleeper
set_option maxRecDepth 100000 in
theorem ggL_law_X14_ofSleeper : GoodIn wsL_law wsX14_ofSleeper := wk_g bm_L_law wm_L_law 9066 wc_X14_ofSleeper rfl (by decide +kernel) (by decide +kernel) wq_X14_ofSleeper
set_option maxRecDepth 100000 in
theorem gL_law_X14_ofSleeper : GoodIn wsL_law (wsV RL 173 RX14 yX14_ofSleeper wsX14_ofSleeper) := goodIn_app (wk_h bm_L_law wm_L_law [9063, 9064, 9065, 2007] (by decide +kernel) (by decide +kernel) (by decide +kernel)) ggL_law_X14_ofSleeper
set_option maxRecDepth 100000 in
theorem ggL_law_L_ofPart : GoodIn wsL_law wsL_ofPart := goodIn_ca (goodIn_ca (wk_g bm_L_law wm_L_law 7046 wc_L_ofPart rfl (by decide +kernel) (by decide +kernel) wq_L_ofPart) (goodIn_sub (fun _ h => List.mem_append_left _ (List.mem_append_right _ h)) (by decide +kernel))) (goodIn_sub (fun _ h => List.mem_append_left _ (List.mem_append_left _ (List.mem_append_right _ h))) (by decide +kernel))
set_option maxRecDepth 100000 in
theorem gL_law_L_ofPart : GoodIn wsL_law (va_wsS RL 174 yL_ofPart wsL_ofPart) := goodIn_app (wk_h bm_L_law wm_L_law [7044, 7045, 2000] (by decide +kernel) (by decide +kernel) (by decide +kernel)) ggL_law_L_ofPart
set_option maxRecDepth 100000 in
theorem ggL_law_X14_ofPart : GoodIn wsL_law wsX14_ofPart := wk_g bm_L_law wm_L_law 9078 wc_X14_ofPart rfl (by decide +kernel) (by decide +kernel) wq_X14_ofPart
set_option maxRecDepth 100000 in
theorem gL_law_X14_ofPart : GoodIn wsL_law (wsV RL 176 RX14 yX14_ofPart wsX14_ofPart) := goodIn_app (wk_h bm_L_law wm_L_law [9075, 9076, 9077, 2007] (by decide +kernel) (by decide +kernel) (by decide +kernel)) ggL_law_X14_ofPart
set_option maxRecDepth 100000 in
theorem ggL_law_L_isGood : GoodIn wsL_law wsL_isGood := goodIn_ca (wk_g bm_L_law wm_L_law 7050 wc_L_isGood rfl (by decide +kernel) (by decide +kernel) wq_L_isGood) (goodIn_sub (fun _ h => List.mem_append_left _ (List.mem_append_left _ (List.mem_append_right _ h))) (by decide +kernel))
set_option maxRecDepth 100000 in
theorem gL_law_L_isGood : GoodIn wsL_law (va_wsS RL 177 yL_isGood wsL_isGood) := goodIn_app (wk_h bm_L_law wm_L_law [7048, 7049, 2000] (by decide +kernel) (by decide +kernel) (by decide +kernel)) ggL_law_L_isGood
set_option maxRecDepth 100000 in
theorem ggL_law_X14_isGood : GoodIn wsL_law wsX14_isGood := wk_g bm_L_law wm_L_law 9086 wc_X14_isGood rfl (by decide +kernel) (by decide +kernel) wq_X14_isGood
set_option maxRecDepth 100000 in
theorem gL_law_X14_isGood : GoodIn wsL_law (wsV RL 179 RX14 yX14_isGood wsX14_isGood) := goodIn_app (wk_h bm_L_law wm_L_law [9083, 9084, 9085, 2007] (by decide +kernel) (by decide +kernel) (by decide +kernel)) ggL_law_X14_isGood
set_option maxRecDepth 100000 in
theorem ggL_law_L_queue : GoodIn wsL_law wsL_queue := goodIn_ca (wk_g bm_L_law wm_L_law 7057 wc_L_queue rfl (by decide +kernel) (by decide +kernel) wq_L_queue) (goodIn_sub (fun _ h => List.mem_append_left _ (List.mem_append_left _ (List.mem_append_right _ h))) (by decide +kernel))
set_option maxRecDepth 100000 in
theorem gL_law_L_queue : GoodIn wsL_law (va_wsS RL 180 yL_queue wsL_queue) := goodIn_app (wk_h bm_L_law wm_L_law [7055, 7056, 2000] (by decide +kernel) (by decide +kernel) (by decide +kernel)) ggL_law_L_queue
set_option maxRecDepth 100000 in
theorem ggL_law_X14_queue : GoodIn wsL_law wsX14_queue := wk_g bm_L_law wm_L_law 9090 wc_X14_queue rfl (by decide +kernel) (by decide +kernel) wq_X14_queue
set_option maxRecDepth 100000 in
theorem gL_law_X14_queue : GoodIn wsL_law (wsV RL 182 RX14 yX14_queue wsX14_queue) := goodIn_app (wk_h bm_L_law wm_L_law [9087, 9088, 9089, 2007] (by decide +kernel) (by decide +kernel) (by decide +kernel)) ggL_law_X14_queue
set_option maxRecDepth 100000 in
theorem ggL_law_L_night : GoodIn wsL_law wsL_night := goodIn_ca (wk_g bm_L_law wm_L_law 7089 wc_L_night rfl (by decide +kernel) (by decide +kernel) wq_L_night) (goodIn_sub (fun _ h => List.mem_append_left _ (List.mem_append_right _ h)) (by decide +kernel))
set_option maxRecDepth 100000 in
theorem gL_law_L_night : GoodIn wsL_law (va_wsS RL 183 yL_night wsL_night) := goodIn_app (wk_h bm_L_law wm_L_law [7087, 7088, 2000] (by decide +kernel) (by decide +kernel) (by decide +kernel)) ggL_law_L_night
set_option maxRecDepth 100000 in
theorem ggL_law_X14_night : GoodIn wsL_law wsX14_night := wk_g bm_L_law wm_L_law 9103 wc_X14_night rfl (by decide +kernel) (by decide +kernel) wq_X14_night
set_option maxRecDepth 100000 in
theorem gL_law_X14_night : GoodIn wsL_law (wsV RL 185 RX14 yX14_night wsX14_night) := goodIn_app (wk_h bm_L_law wm_L_law [9100, 9101, 9102, 2007] (by decide +kernel) (by decide +kernel) (by decide +kernel)) ggL_law_X14_night
set_option maxRecDepth 100000 in
theorem ggL_law_X14_thrown : GoodIn wsL_law wsX14_thrown := wk_g bm_L_law wm_L_law 7184 wc_X14_thrown rfl (by decide +kernel) (by decide +kernel) wq_X14_thrown
set_option maxRecDepth 100000 in
theorem gL_law_X14_thrown : GoodIn wsL_law (wsV RL 186 RX14 yX14_thrown wsX14_thrown) := goodIn_app (wk_h bm_L_law wm_L_law [7181, 7182, 7183, 2007] (by decide +kernel) (by decide +kernel) (by decide +kernel)) ggL_law_X14_thrown
set_option maxRecDepth 100000 in
theorem ggL_law_L_way : GoodIn wsL_law wsL_way := goodIn_ca (wk_g bm_L_law wm_L_law 7093 wc_L_way rfl (by decide +kernel) (by decide +kernel) wq_L_way) (goodIn_sub (fun _ h => List.mem_append_left _ (List.mem_append_left _ (List.mem_append_right _ h))) (by decide +kernel))
set_option maxRecDepth 100000 in
theorem gL_law_L_way : GoodIn wsL_law (va_wsS RL 190 yL_way wsL_way) := goodIn_app (wk_h bm_L_law wm_L_law [7091, 7092, 2000] (by decide +kernel) (by decide +kernel) (by decide +kernel)) ggL_law_L_way
set_option maxRecDepth 100000 in
theorem ggL_law_X14_way : GoodIn wsL_law wsX14_way := wk_g bm_L_law wm_L_law 9111 wc_X14_way rfl (by decide +kernel) (by decide +kernel) wq_X14_way
set_option maxRecDepth 100000 in
theorem gL_law_X14_way : GoodIn wsL_law (wsV RL 192 RX14 yX14_way wsX14_way) := goodIn_app (wk_h bm_L_law wm_L_law [9108, 9109, 9110, 2007] (by decide +kernel) (by decide +kernel) (by decide +kernel)) ggL_law_X14_way
set_option maxRecDepth 100000 in
theorem ggL_law_L_plan : GoodIn wsL_law wsL_plan := goodIn_ca (goodIn_ca (wk_g bm_L_law wm_L_law 7097 wc_L_plan rfl (by decide +kernel) (by decide +kernel) wq_L_plan) (goodIn_sub (fun _ h => List.mem_append_left _ (List.mem_append_left _ (List.mem_append_right _ h))) (by decide +kernel))) (goodIn_sub (fun _ h => List.mem_append_left _ (List.mem_append_right _ h)) (by decide +kernel))
set_option maxRecDepth 100000 in
theorem gL_law_L_plan : GoodIn wsL_law (va_wsS RL 193 yL_plan wsL_plan) := goodIn_app (wk_h bm_L_law wm_L_law [7095, 7096, 2000] (by decide +kernel) (by decide +kernel) (by decide +kernel)) ggL_law_L_plan
set_option maxRecDepth 100000 in
theorem ggL_law_X14_plan : GoodIn wsL_law wsX14_plan := wk_g bm_L_law wm_L_law 9119 wc_X14_plan rfl (by decide +kernel) (by decide +kernel) wq_X14_plan
set_option maxRecDepth 100000 in
theorem gL_law_X14_plan : GoodIn wsL_law (wsV RL 195 RX14 yX14_plan wsX14_plan) := goodIn_app (wk_h bm_L_law wm_L_law [9116, 9117, 9118, 2007] (by decide +kernel) (by decide +kernel) (by decide +kernel)) ggL_law_X14_plan
set_option maxRecDepth 100000 in
theorem ggL_law_L_wouldPay : GoodIn wsL_law wsL_wouldPay := goodIn_ca (wk_g bm_L_law wm_L_law 7101 wc_L_wouldPay rfl (by decide +kernel) (by decide +kernel) wq_L_wouldPay) (goodIn_sub (fun _ h => List.mem_append_left _ (List.mem_append_left _ (List.mem_append_right _ h))) (by decide +kernel))
set_option maxRecDepth 100000 in
theorem gL_law_L_wouldPay : GoodIn wsL_law (va_wsS RL 196 yL_wouldPay wsL_wouldPay) := goodIn_app (wk_h bm_L_law wm_L_law [7099, 7100, 2000] (by decide +kernel) (by decide +kernel) (by decide +kernel)) ggL_law_L_wouldPay
set_option maxRecDepth 100000 in
theorem ggL_law_X14_wouldPay : GoodIn wsL_law wsX14_wouldPay := wk_g bm_L_law wm_L_law 9132 wc_X14_wouldPay rfl (by decide +kernel) (by decide +kernel) wq_X14_wouldPay
set_option maxRecDepth 100000 in
theorem gL_law_X14_wouldPay : GoodIn wsL_law (wsV RL 198 RX14 yX14_wouldPay wsX14_wouldPay) := goodIn_app (wk_h bm_L_law wm_L_law [9129, 9130, 9131, 2007] (by decide +kernel) (by decide +kernel) (by decide +kernel)) ggL_law_X14_wouldPay
set_option maxRecDepth 100000 in
theorem ggL_law_X8_isSound : GoodIn wsL_law wsX8_isSound := wk_g bm_L_law wm_L_law 2165 wc_X8_isSound rfl (by decide +kernel) (by decide +kernel) wq_X8_isSound
set_option maxRecDepth 100000 in
theorem gL_law_X8_isSound : GoodIn wsL_law (wsV RL 199 RX8 yX8_isSound wsX8_isSound) := goodIn_app (wk_h bm_L_law wm_L_law [2162, 2163, 2164, 2001] (by decide +kernel) (by decide +kernel) (by decide +kernel)) ggL_law_X8_isSound
set_option maxRecDepth 100000 in
theorem ggL_law_X14_isSound : GoodIn wsL_law wsX14_isSound := wk_g bm_L_law wm_L_law 9140 wc_X14_isSound rfl (by decide +kernel) (by decide +kernel) wq_X14_isSound
set_option maxRecDepth 100000 in
theorem gL_law_X14_isSound : GoodIn wsL_law (wsV RL 203 RX14 yX14_isSound wsX14_isSound) := goodIn_app (wk_h bm_L_law wm_L_law [9137, 9138, 9139, 2007] (by decide +kernel) (by decide +kernel) (by decide +kernel)) ggL_law_X14_isSound
set_option maxRecDepth 100000 in
theorem ggL_law_X8_digest : GoodIn wsL_law wsX8_digest := goodIn_ca (goodIn_ca (wk_g bm_L_law wm_L_law 2217 wc_X8_digest rfl (by decide +kernel) (by decide +kernel) wq_X8_digest) (goodIn_sub (fun _ h => List.mem_append_left _ (List.mem_append_right _ h)) (by decide +kernel))) (goodIn_sub (fun _ h => List.mem_append_left _ (List.mem_append_left _ (List.mem_append_right _ h))) (by decide +kernel))
set_option maxRecDepth 100000 in
theorem gL_law_X8_digest : GoodIn wsL_law (wsV RL 204 RX8 yX8_digest wsX8_digest) := goodIn_app (wk_h bm_L_law wm_L_law [2214, 2215, 2216, 2001] (by decide +kernel) (by decide +kernel) (by decide +kernel)) ggL_law_X8_digest
set_option maxRecDepth 100000 in
theorem ggL_law_X14_digest : GoodIn wsL_law wsX14_digest := wk_g bm_L_law wm_L_law 9148 wc_X14_digest rfl (by decide +kernel) (by decide +kernel) wq_X14_digest
set_option maxRecDepth 100000 in
theorem gL_law_X14_digest : GoodIn wsL_law (wsV RL 208 RX14 yX14_digest wsX14_digest) := goodIn_app (wk_h bm_L_law wm_L_law [9145, 9146, 9147, 2007] (by decide +kernel) (by decide +kernel) (by decide +kernel)) ggL_law_X14_digest
theorem dL_law_0 : decode cL_law 0 = .ok (.new 8, 3) := by decide +kernel
theorem dL_law_3 : decode cL_law 3 = .ok (.dup, 1) := by decide +kernel
theorem dL_law_4 : decode cL_law 4 = .ok (.invokespecial 108, 3) := by decide +kernel
theorem dL_law_7 : decode cL_law 7 = .ok (.astore_n 1, 1) := by decide +kernel
theorem dL_law_8 : decode cL_law 8 = .ok (.new 109, 3) := by decide +kernel
theorem dL_law_11 : decode cL_law 11 = .ok (.dup, 1) := by decide +kernel
theorem dL_law_12 : decode cL_law 12 = .ok (.invokespecial 111, 3) := by decide +kernel
theorem dL_law_15 : decode cL_law 15 = .ok (.astore_n 2, 1) := by decide +kernel
theorem dL_law_16 : decode cL_law 16 = .ok (.new 14, 3) := by decide +kernel
theorem dL_law_19 : decode cL_law 19 = .ok (.dup, 1) := by decide +kernel
theorem dL_law_20 : decode cL_law 20 = .ok (.invokespecial 112, 3) := by decide +kernel
theorem dL_law_23 : decode cL_law 23 = .ok (.astore_n 3, 1) := by decide +kernel
theorem dL_law_24 : decode cL_law 24 = .ok (.iconst 0, 1) := by decide +kernel
theorem dL_law_25 : decode cL_law 25 = .ok (.istore 4, 2) := by decide +kernel
theorem dL_law_27 : decode cL_law 27 = .ok (.iload 4, 2) := by decide +kernel
theorem dL_law_29 : decode cL_law 29 = .ok (.aload_n 0, 1) := by decide +kernel
theorem dL_law_30 : decode cL_law 30 = .ok (.arraylength, 1) := by decide +kernel
theorem dL_law_31 : decode cL_law 31 = .ok (.iconst 5, 1) := by decide +kernel
theorem dL_law_32 : decode cL_law 32 = .ok (.isub, 1) := by decide +kernel
theorem dL_law_33 : decode cL_law 33 = .ok (.if_icmp .gt 1232, 3) := by decide +kernel
theorem dL_law_36 : decode cL_law 36 = .ok (.aload_n 0, 1) := by decide +kernel
theorem dL_law_37 : decode cL_law 37 = .ok (.iload 4, 2) := by decide +kernel
theorem dL_law_39 : decode cL_law 39 = .ok (.iaload, 1) := by decide +kernel
theorem dL_law_40 : decode cL_law 40 = .ok (.bipush 31, 2) := by decide +kernel
theorem dL_law_42 : decode cL_law 42 = .ok (.iand, 1) := by decide +kernel
theorem dL_law_43 : decode cL_law 43 = .ok (.tableswitch 1216 0 26 #[121, 173, 225, 289, 329, 357, 425, 489, 529, 593, 633, 685, 713, 741, 769, 797, 837, 877, 917, 957, 997, 1025, 1082, 1122, 1162, 1190, 1203], 121) := by decide +kernel
theorem dL_law_164 : decode cL_law 164 = .ok (.aload_n 1, 1) := by decide +kernel
theorem dL_law_165 : decode cL_law 165 = .ok (.aload_n 0, 1) := by decide +kernel
theorem dL_law_166 : decode cL_law 166 = .ok (.iload 4, 2) := by decide +kernel
theorem dL_law_168 : decode cL_law 168 = .ok (.iconst 1, 1) := by decide +kernel
theorem dL_law_169 : decode cL_law 169 = .ok (.iadd, 1) := by decide +kernel
theorem dL_law_170 : decode cL_law 170 = .ok (.iaload, 1) := by decide +kernel
theorem dL_law_171 : decode cL_law 171 = .ok (.aload_n 0, 1) := by decide +kernel
theorem dL_law_172 : decode cL_law 172 = .ok (.iload 4, 2) := by decide +kernel
theorem dL_law_174 : decode cL_law 174 = .ok (.iconst 2, 1) := by decide +kernel
theorem dL_law_175 : decode cL_law 175 = .ok (.iadd, 1) := by decide +kernel
theorem dL_law_176 : decode cL_law 176 = .ok (.iaload, 1) := by decide +kernel
theorem dL_law_177 : decode cL_law 177 = .ok (.aload_n 0, 1) := by decide +kernel
theorem dL_law_178 : decode cL_law 178 = .ok (.iload 4, 2) := by decide +kernel
theorem dL_law_180 : decode cL_law 180 = .ok (.iconst 3, 1) := by decide +kernel
theorem dL_law_181 : decode cL_law 181 = .ok (.iadd, 1) := by decide +kernel
theorem dL_law_182 : decode cL_law 182 = .ok (.iaload, 1) := by decide +kernel
theorem dL_law_183 : decode cL_law 183 = .ok (.aload_n 3, 1) := by decide +kernel
theorem dL_law_184 : decode cL_law 184 = .ok (.invokestatic 113, 3) := by decide +kernel
theorem dL_law_187 : decode cL_law 187 = .ok (.istore 5, 2) := by decide +kernel
theorem dL_law_189 : decode cL_law 189 = .ok (.aload_n 2, 1) := by decide +kernel
theorem dL_law_190 : decode cL_law 190 = .ok (.aload_n 0, 1) := by decide +kernel
theorem dL_law_191 : decode cL_law 191 = .ok (.iload 4, 2) := by decide +kernel
theorem dL_law_193 : decode cL_law 193 = .ok (.iconst 1, 1) := by decide +kernel
theorem dL_law_194 : decode cL_law 194 = .ok (.iadd, 1) := by decide +kernel
theorem dL_law_195 : decode cL_law 195 = .ok (.iaload, 1) := by decide +kernel
theorem dL_law_196 : decode cL_law 196 = .ok (.aload_n 0, 1) := by decide +kernel
theorem dL_law_197 : decode cL_law 197 = .ok (.iload 4, 2) := by decide +kernel
theorem dL_law_199 : decode cL_law 199 = .ok (.iconst 2, 1) := by decide +kernel
theorem dL_law_200 : decode cL_law 200 = .ok (.iadd, 1) := by decide +kernel
theorem dL_law_201 : decode cL_law 201 = .ok (.iaload, 1) := by decide +kernel
theorem dL_law_202 : decode cL_law 202 = .ok (.aload_n 0, 1) := by decide +kernel
theorem dL_law_203 : decode cL_law 203 = .ok (.iload 4, 2) := by decide +kernel
theorem dL_law_205 : decode cL_law 205 = .ok (.iconst 3, 1) := by decide +kernel
theorem dL_law_206 : decode cL_law 206 = .ok (.iadd, 1) := by decide +kernel
theorem dL_law_207 : decode cL_law 207 = .ok (.iaload, 1) := by decide +kernel
theorem dL_law_208 : decode cL_law 208 = .ok (.invokevirtual 118, 3) := by decide +kernel
theorem dL_law_211 : decode cL_law 211 = .ok (.istore 6, 2) := by decide +kernel
theorem dL_law_213 : decode cL_law 213 = .ok (.goto 1046, 3) := by decide +kernel
theorem dL_law_216 : decode cL_law 216 = .ok (.aload_n 1, 1) := by decide +kernel
theorem dL_law_217 : decode cL_law 217 = .ok (.aload_n 0, 1) := by decide +kernel
theorem dL_law_218 : decode cL_law 218 = .ok (.iload 4, 2) := by decide +kernel
theorem dL_law_220 : decode cL_law 220 = .ok (.iconst 1, 1) := by decide +kernel
theorem dL_law_221 : decode cL_law 221 = .ok (.iadd, 1) := by decide +kernel
theorem dL_law_222 : decode cL_law 222 = .ok (.iaload, 1) := by decide +kernel
theorem dL_law_223 : decode cL_law 223 = .ok (.aload_n 0, 1) := by decide +kernel
theorem dL_law_224 : decode cL_law 224 = .ok (.iload 4, 2) := by decide +kernel
theorem dL_law_226 : decode cL_law 226 = .ok (.iconst 2, 1) := by decide +kernel
theorem dL_law_227 : decode cL_law 227 = .ok (.iadd, 1) := by decide +kernel
theorem dL_law_228 : decode cL_law 228 = .ok (.iaload, 1) := by decide +kernel
theorem dL_law_229 : decode cL_law 229 = .ok (.aload_n 0, 1) := by decide +kernel
theorem dL_law_230 : decode cL_law 230 = .ok (.iload 4, 2) := by decide +kernel
theorem dL_law_232 : decode cL_law 232 = .ok (.iconst 3, 1) := by decide +kernel
theorem dL_law_233 : decode cL_law 233 = .ok (.iadd, 1) := by decide +kernel
theorem dL_law_234 : decode cL_law 234 = .ok (.iaload, 1) := by decide +kernel
theorem dL_law_235 : decode cL_law 235 = .ok (.aload_n 3, 1) := by decide +kernel
theorem dL_law_236 : decode cL_law 236 = .ok (.invokestatic 119, 3) := by decide +kernel
theorem dL_law_239 : decode cL_law 239 = .ok (.istore 5, 2) := by decide +kernel
theorem dL_law_241 : decode cL_law 241 = .ok (.aload_n 2, 1) := by decide +kernel
theorem dL_law_242 : decode cL_law 242 = .ok (.aload_n 0, 1) := by decide +kernel
theorem dL_law_243 : decode cL_law 243 = .ok (.iload 4, 2) := by decide +kernel
theorem dL_law_245 : decode cL_law 245 = .ok (.iconst 1, 1) := by decide +kernel
theorem dL_law_246 : decode cL_law 246 = .ok (.iadd, 1) := by decide +kernel
theorem dL_law_247 : decode cL_law 247 = .ok (.iaload, 1) := by decide +kernel
theorem dL_law_248 : decode cL_law 248 = .ok (.aload_n 0, 1) := by decide +kernel
theorem dL_law_249 : decode cL_law 249 = .ok (.iload 4, 2) := by decide +kernel
theorem dL_law_251 : decode cL_law 251 = .ok (.iconst 2, 1) := by decide +kernel
theorem dL_law_252 : decode cL_law 252 = .ok (.iadd, 1) := by decide +kernel
theorem dL_law_253 : decode cL_law 253 = .ok (.iaload, 1) := by decide +kernel
theorem dL_law_254 : decode cL_law 254 = .ok (.aload_n 0, 1) := by decide +kernel
theorem dL_law_255 : decode cL_law 255 = .ok (.iload 4, 2) := by decide +kernel
theorem dL_law_257 : decode cL_law 257 = .ok (.iconst 3, 1) := by decide +kernel
theorem dL_law_258 : decode cL_law 258 = .ok (.iadd, 1) := by decide +kernel
theorem dL_law_259 : decode cL_law 259 = .ok (.iaload, 1) := by decide +kernel
theorem dL_law_260 : decode cL_law 260 = .ok (.invokevirtual 121, 3) := by decide +kernel
theorem dL_law_263 : decode cL_law 263 = .ok (.istore 6, 2) := by decide +kernel
theorem dL_law_265 : decode cL_law 265 = .ok (.goto 994, 3) := by decide +kernel
theorem dL_law_268 : decode cL_law 268 = .ok (.aload_n 1, 1) := by decide +kernel
theorem dL_law_269 : decode cL_law 269 = .ok (.aload_n 0, 1) := by decide +kernel
theorem dL_law_270 : decode cL_law 270 = .ok (.iload 4, 2) := by decide +kernel
theorem dL_law_272 : decode cL_law 272 = .ok (.iconst 1, 1) := by decide +kernel
theorem dL_law_273 : decode cL_law 273 = .ok (.iadd, 1) := by decide +kernel
theorem dL_law_274 : decode cL_law 274 = .ok (.iaload, 1) := by decide +kernel
theorem dL_law_275 : decode cL_law 275 = .ok (.aload_n 0, 1) := by decide +kernel
theorem dL_law_276 : decode cL_law 276 = .ok (.iload 4, 2) := by decide +kernel
theorem dL_law_278 : decode cL_law 278 = .ok (.iconst 2, 1) := by decide +kernel
theorem dL_law_279 : decode cL_law 279 = .ok (.iadd, 1) := by decide +kernel
theorem dL_law_280 : decode cL_law 280 = .ok (.iaload, 1) := by decide +kernel
theorem dL_law_281 : decode cL_law 281 = .ok (.aload_n 0, 1) := by decide +kernel
theorem dL_law_282 : decode cL_law 282 = .ok (.iload 4, 2) := by decide +kernel
theorem dL_law_284 : decode cL_law 284 = .ok (.iconst 3, 1) := by decide +kernel
theorem dL_law_285 : decode cL_law 285 = .ok (.iadd, 1) := by decide +kernel
theorem dL_law_286 : decode cL_law 286 = .ok (.iaload, 1) := by decide +kernel
theorem dL_law_287 : decode cL_law 287 = .ok (.aload_n 0, 1) := by decide +kernel
theorem dL_law_288 : decode cL_law 288 = .ok (.iload 4, 2) := by decide +kernel
theorem dL_law_290 : decode cL_law 290 = .ok (.iconst 4, 1) := by decide +kernel
theorem dL_law_291 : decode cL_law 291 = .ok (.iadd, 1) := by decide +kernel
theorem dL_law_292 : decode cL_law 292 = .ok (.iaload, 1) := by decide +kernel
theorem dL_law_293 : decode cL_law 293 = .ok (.aload_n 3, 1) := by decide +kernel
theorem dL_law_294 : decode cL_law 294 = .ok (.invokestatic 122, 3) := by decide +kernel
theorem dL_law_297 : decode cL_law 297 = .ok (.istore 5, 2) := by decide +kernel
theorem dL_law_299 : decode cL_law 299 = .ok (.aload_n 2, 1) := by decide +kernel
theorem dL_law_300 : decode cL_law 300 = .ok (.aload_n 0, 1) := by decide +kernel
theorem dL_law_301 : decode cL_law 301 = .ok (.iload 4, 2) := by decide +kernel
theorem dL_law_303 : decode cL_law 303 = .ok (.iconst 1, 1) := by decide +kernel
theorem dL_law_304 : decode cL_law 304 = .ok (.iadd, 1) := by decide +kernel
theorem dL_law_305 : decode cL_law 305 = .ok (.iaload, 1) := by decide +kernel
theorem dL_law_306 : decode cL_law 306 = .ok (.aload_n 0, 1) := by decide +kernel
theorem dL_law_307 : decode cL_law 307 = .ok (.iload 4, 2) := by decide +kernel
theorem dL_law_309 : decode cL_law 309 = .ok (.iconst 2, 1) := by decide +kernel
theorem dL_law_310 : decode cL_law 310 = .ok (.iadd, 1) := by decide +kernel
theorem dL_law_311 : decode cL_law 311 = .ok (.iaload, 1) := by decide +kernel
theorem dL_law_312 : decode cL_law 312 = .ok (.aload_n 0, 1) := by decide +kernel
theorem dL_law_313 : decode cL_law 313 = .ok (.iload 4, 2) := by decide +kernel
theorem dL_law_315 : decode cL_law 315 = .ok (.iconst 3, 1) := by decide +kernel
theorem dL_law_316 : decode cL_law 316 = .ok (.iadd, 1) := by decide +kernel
theorem dL_law_317 : decode cL_law 317 = .ok (.iaload, 1) := by decide +kernel
theorem dL_law_318 : decode cL_law 318 = .ok (.aload_n 0, 1) := by decide +kernel
theorem dL_law_319 : decode cL_law 319 = .ok (.iload 4, 2) := by decide +kernel
theorem dL_law_321 : decode cL_law 321 = .ok (.iconst 4, 1) := by decide +kernel
theorem dL_law_322 : decode cL_law 322 = .ok (.iadd, 1) := by decide +kernel
theorem dL_law_323 : decode cL_law 323 = .ok (.iaload, 1) := by decide +kernel
theorem dL_law_324 : decode cL_law 324 = .ok (.invokevirtual 125, 3) := by decide +kernel
theorem dL_law_327 : decode cL_law 327 = .ok (.istore 6, 2) := by decide +kernel
theorem dL_law_329 : decode cL_law 329 = .ok (.goto 930, 3) := by decide +kernel
theorem dL_law_332 : decode cL_law 332 = .ok (.aload_n 1, 1) := by decide +kernel
theorem dL_law_333 : decode cL_law 333 = .ok (.aload_n 0, 1) := by decide +kernel
theorem dL_law_334 : decode cL_law 334 = .ok (.iload 4, 2) := by decide +kernel
theorem dL_law_336 : decode cL_law 336 = .ok (.iconst 1, 1) := by decide +kernel
theorem dL_law_337 : decode cL_law 337 = .ok (.iadd, 1) := by decide +kernel
theorem dL_law_338 : decode cL_law 338 = .ok (.iaload, 1) := by decide +kernel
theorem dL_law_339 : decode cL_law 339 = .ok (.aload_n 0, 1) := by decide +kernel
theorem dL_law_340 : decode cL_law 340 = .ok (.iload 4, 2) := by decide +kernel
theorem dL_law_342 : decode cL_law 342 = .ok (.iconst 2, 1) := by decide +kernel
theorem dL_law_343 : decode cL_law 343 = .ok (.iadd, 1) := by decide +kernel
theorem dL_law_344 : decode cL_law 344 = .ok (.iaload, 1) := by decide +kernel
theorem dL_law_345 : decode cL_law 345 = .ok (.aload_n 3, 1) := by decide +kernel
theorem dL_law_346 : decode cL_law 346 = .ok (.invokestatic 126, 3) := by decide +kernel
theorem dL_law_349 : decode cL_law 349 = .ok (.istore 5, 2) := by decide +kernel
theorem dL_law_351 : decode cL_law 351 = .ok (.aload_n 2, 1) := by decide +kernel
theorem dL_law_352 : decode cL_law 352 = .ok (.aload_n 0, 1) := by decide +kernel
theorem dL_law_353 : decode cL_law 353 = .ok (.iload 4, 2) := by decide +kernel
theorem dL_law_355 : decode cL_law 355 = .ok (.iconst 1, 1) := by decide +kernel
theorem dL_law_356 : decode cL_law 356 = .ok (.iadd, 1) := by decide +kernel
theorem dL_law_357 : decode cL_law 357 = .ok (.iaload, 1) := by decide +kernel
theorem dL_law_358 : decode cL_law 358 = .ok (.aload_n 0, 1) := by decide +kernel
theorem dL_law_359 : decode cL_law 359 = .ok (.iload 4, 2) := by decide +kernel
theorem dL_law_361 : decode cL_law 361 = .ok (.iconst 2, 1) := by decide +kernel
theorem dL_law_362 : decode cL_law 362 = .ok (.iadd, 1) := by decide +kernel
theorem dL_law_363 : decode cL_law 363 = .ok (.iaload, 1) := by decide +kernel
theorem dL_law_364 : decode cL_law 364 = .ok (.invokevirtual 129, 3) := by decide +kernel
theorem dL_law_367 : decode cL_law 367 = .ok (.istore 6, 2) := by decide +kernel
theorem dL_law_369 : decode cL_law 369 = .ok (.goto 890, 3) := by decide +kernel
theorem dL_law_372 : decode cL_law 372 = .ok (.aload_n 1, 1) := by decide +kernel
theorem dL_law_373 : decode cL_law 373 = .ok (.aload_n 0, 1) := by decide +kernel
theorem dL_law_374 : decode cL_law 374 = .ok (.iload 4, 2) := by decide +kernel
theorem dL_law_376 : decode cL_law 376 = .ok (.iconst 1, 1) := by decide +kernel
theorem dL_law_377 : decode cL_law 377 = .ok (.iadd, 1) := by decide +kernel
theorem dL_law_378 : decode cL_law 378 = .ok (.iaload, 1) := by decide +kernel
theorem dL_law_379 : decode cL_law 379 = .ok (.aload_n 3, 1) := by decide +kernel
theorem dL_law_380 : decode cL_law 380 = .ok (.invokestatic 130, 3) := by decide +kernel
theorem dL_law_383 : decode cL_law 383 = .ok (.istore 5, 2) := by decide +kernel
theorem dL_law_385 : decode cL_law 385 = .ok (.aload_n 2, 1) := by decide +kernel
theorem dL_law_386 : decode cL_law 386 = .ok (.aload_n 0, 1) := by decide +kernel
theorem dL_law_387 : decode cL_law 387 = .ok (.iload 4, 2) := by decide +kernel
theorem dL_law_389 : decode cL_law 389 = .ok (.iconst 1, 1) := by decide +kernel
theorem dL_law_390 : decode cL_law 390 = .ok (.iadd, 1) := by decide +kernel
theorem dL_law_391 : decode cL_law 391 = .ok (.iaload, 1) := by decide +kernel
theorem dL_law_392 : decode cL_law 392 = .ok (.invokevirtual 133, 3) := by decide +kernel
theorem dL_law_395 : decode cL_law 395 = .ok (.istore 6, 2) := by decide +kernel
theorem dL_law_397 : decode cL_law 397 = .ok (.goto 862, 3) := by decide +kernel
theorem dL_law_400 : decode cL_law 400 = .ok (.aload_n 1, 1) := by decide +kernel
theorem dL_law_401 : decode cL_law 401 = .ok (.aload_n 0, 1) := by decide +kernel
theorem dL_law_402 : decode cL_law 402 = .ok (.iload 4, 2) := by decide +kernel
theorem dL_law_404 : decode cL_law 404 = .ok (.iconst 1, 1) := by decide +kernel
theorem dL_law_405 : decode cL_law 405 = .ok (.iadd, 1) := by decide +kernel
theorem dL_law_406 : decode cL_law 406 = .ok (.iaload, 1) := by decide +kernel
theorem dL_law_407 : decode cL_law 407 = .ok (.aload_n 0, 1) := by decide +kernel
theorem dL_law_408 : decode cL_law 408 = .ok (.iload 4, 2) := by decide +kernel
theorem dL_law_410 : decode cL_law 410 = .ok (.iconst 2, 1) := by decide +kernel
theorem dL_law_411 : decode cL_law 411 = .ok (.iadd, 1) := by decide +kernel
theorem dL_law_412 : decode cL_law 412 = .ok (.iaload, 1) := by decide +kernel
theorem dL_law_413 : decode cL_law 413 = .ok (.ifCond .eq 7, 3) := by decide +kernel
theorem dL_law_416 : decode cL_law 416 = .ok (.iconst 1, 1) := by decide +kernel
theorem dL_law_417 : decode cL_law 417 = .ok (.goto 4, 3) := by decide +kernel
theorem dL_law_420 : decode cL_law 420 = .ok (.iconst 0, 1) := by decide +kernel
theorem dL_law_421 : decode cL_law 421 = .ok (.aload_n 0, 1) := by decide +kernel
theorem dL_law_422 : decode cL_law 422 = .ok (.iload 4, 2) := by decide +kernel
theorem dL_law_424 : decode cL_law 424 = .ok (.iconst 3, 1) := by decide +kernel
theorem dL_law_425 : decode cL_law 425 = .ok (.iadd, 1) := by decide +kernel
theorem dL_law_426 : decode cL_law 426 = .ok (.iaload, 1) := by decide +kernel
theorem dL_law_427 : decode cL_law 427 = .ok (.aload_n 3, 1) := by decide +kernel
theorem dL_law_428 : decode cL_law 428 = .ok (.invokestatic 134, 3) := by decide +kernel
theorem dL_law_431 : decode cL_law 431 = .ok (.istore 5, 2) := by decide +kernel
theorem dL_law_433 : decode cL_law 433 = .ok (.aload_n 2, 1) := by decide +kernel
theorem dL_law_434 : decode cL_law 434 = .ok (.aload_n 0, 1) := by decide +kernel
theorem dL_law_435 : decode cL_law 435 = .ok (.iload 4, 2) := by decide +kernel
theorem dL_law_437 : decode cL_law 437 = .ok (.iconst 1, 1) := by decide +kernel
theorem dL_law_438 : decode cL_law 438 = .ok (.iadd, 1) := by decide +kernel
theorem dL_law_439 : decode cL_law 439 = .ok (.iaload, 1) := by decide +kernel
theorem dL_law_440 : decode cL_law 440 = .ok (.aload_n 0, 1) := by decide +kernel
theorem dL_law_441 : decode cL_law 441 = .ok (.iload 4, 2) := by decide +kernel
theorem dL_law_443 : decode cL_law 443 = .ok (.iconst 2, 1) := by decide +kernel
theorem dL_law_444 : decode cL_law 444 = .ok (.iadd, 1) := by decide +kernel
theorem dL_law_445 : decode cL_law 445 = .ok (.iaload, 1) := by decide +kernel
theorem dL_law_446 : decode cL_law 446 = .ok (.ifCond .eq 7, 3) := by decide +kernel
theorem dL_law_449 : decode cL_law 449 = .ok (.iconst 1, 1) := by decide +kernel
theorem dL_law_450 : decode cL_law 450 = .ok (.goto 4, 3) := by decide +kernel
theorem dL_law_453 : decode cL_law 453 = .ok (.iconst 0, 1) := by decide +kernel
theorem dL_law_454 : decode cL_law 454 = .ok (.aload_n 0, 1) := by decide +kernel
theorem dL_law_455 : decode cL_law 455 = .ok (.iload 4, 2) := by decide +kernel
theorem dL_law_457 : decode cL_law 457 = .ok (.iconst 3, 1) := by decide +kernel
theorem dL_law_458 : decode cL_law 458 = .ok (.iadd, 1) := by decide +kernel
theorem dL_law_459 : decode cL_law 459 = .ok (.iaload, 1) := by decide +kernel
theorem dL_law_460 : decode cL_law 460 = .ok (.invokevirtual 137, 3) := by decide +kernel
theorem dL_law_463 : decode cL_law 463 = .ok (.istore 6, 2) := by decide +kernel
theorem dL_law_465 : decode cL_law 465 = .ok (.goto 794, 3) := by decide +kernel
theorem dL_law_468 : decode cL_law 468 = .ok (.aload_n 1, 1) := by decide +kernel
theorem dL_law_469 : decode cL_law 469 = .ok (.aload_n 0, 1) := by decide +kernel
theorem dL_law_470 : decode cL_law 470 = .ok (.iload 4, 2) := by decide +kernel
theorem dL_law_472 : decode cL_law 472 = .ok (.iconst 1, 1) := by decide +kernel
theorem dL_law_473 : decode cL_law 473 = .ok (.iadd, 1) := by decide +kernel
theorem dL_law_474 : decode cL_law 474 = .ok (.iaload, 1) := by decide +kernel
theorem dL_law_475 : decode cL_law 475 = .ok (.aload_n 0, 1) := by decide +kernel
theorem dL_law_476 : decode cL_law 476 = .ok (.iload 4, 2) := by decide +kernel
theorem dL_law_478 : decode cL_law 478 = .ok (.iconst 2, 1) := by decide +kernel
theorem dL_law_479 : decode cL_law 479 = .ok (.iadd, 1) := by decide +kernel
theorem dL_law_480 : decode cL_law 480 = .ok (.iaload, 1) := by decide +kernel
theorem dL_law_481 : decode cL_law 481 = .ok (.aload_n 0, 1) := by decide +kernel
theorem dL_law_482 : decode cL_law 482 = .ok (.iload 4, 2) := by decide +kernel
theorem dL_law_484 : decode cL_law 484 = .ok (.iconst 3, 1) := by decide +kernel
theorem dL_law_485 : decode cL_law 485 = .ok (.iadd, 1) := by decide +kernel
theorem dL_law_486 : decode cL_law 486 = .ok (.iaload, 1) := by decide +kernel
theorem dL_law_487 : decode cL_law 487 = .ok (.aload_n 0, 1) := by decide +kernel
theorem dL_law_488 : decode cL_law 488 = .ok (.iload 4, 2) := by decide +kernel
theorem dL_law_490 : decode cL_law 490 = .ok (.iconst 4, 1) := by decide +kernel
theorem dL_law_491 : decode cL_law 491 = .ok (.iadd, 1) := by decide +kernel
theorem dL_law_492 : decode cL_law 492 = .ok (.iaload, 1) := by decide +kernel
theorem dL_law_493 : decode cL_law 493 = .ok (.aload_n 3, 1) := by decide +kernel
theorem dL_law_494 : decode cL_law 494 = .ok (.invokestatic 138, 3) := by decide +kernel
theorem dL_law_497 : decode cL_law 497 = .ok (.istore 5, 2) := by decide +kernel
theorem dL_law_499 : decode cL_law 499 = .ok (.aload_n 2, 1) := by decide +kernel
theorem dL_law_500 : decode cL_law 500 = .ok (.aload_n 0, 1) := by decide +kernel
theorem dL_law_501 : decode cL_law 501 = .ok (.iload 4, 2) := by decide +kernel
theorem dL_law_503 : decode cL_law 503 = .ok (.iconst 1, 1) := by decide +kernel
theorem dL_law_504 : decode cL_law 504 = .ok (.iadd, 1) := by decide +kernel
theorem dL_law_505 : decode cL_law 505 = .ok (.iaload, 1) := by decide +kernel
theorem dL_law_506 : decode cL_law 506 = .ok (.aload_n 0, 1) := by decide +kernel
theorem dL_law_507 : decode cL_law 507 = .ok (.iload 4, 2) := by decide +kernel
theorem dL_law_509 : decode cL_law 509 = .ok (.iconst 2, 1) := by decide +kernel
theorem dL_law_510 : decode cL_law 510 = .ok (.iadd, 1) := by decide +kernel
theorem dL_law_511 : decode cL_law 511 = .ok (.iaload, 1) := by decide +kernel
theorem dL_law_512 : decode cL_law 512 = .ok (.aload_n 0, 1) := by decide +kernel
theorem dL_law_513 : decode cL_law 513 = .ok (.iload 4, 2) := by decide +kernel
theorem dL_law_515 : decode cL_law 515 = .ok (.iconst 3, 1) := by decide +kernel
theorem dL_law_516 : decode cL_law 516 = .ok (.iadd, 1) := by decide +kernel
theorem dL_law_517 : decode cL_law 517 = .ok (.iaload, 1) := by decide +kernel
theorem dL_law_518 : decode cL_law 518 = .ok (.aload_n 0, 1) := by decide +kernel
theorem dL_law_519 : decode cL_law 519 = .ok (.iload 4, 2) := by decide +kernel
theorem dL_law_521 : decode cL_law 521 = .ok (.iconst 4, 1) := by decide +kernel
theorem dL_law_522 : decode cL_law 522 = .ok (.iadd, 1) := by decide +kernel
theorem dL_law_523 : decode cL_law 523 = .ok (.iaload, 1) := by decide +kernel
theorem dL_law_524 : decode cL_law 524 = .ok (.invokevirtual 140, 3) := by decide +kernel
theorem dL_law_527 : decode cL_law 527 = .ok (.istore 6, 2) := by decide +kernel
theorem dL_law_529 : decode cL_law 529 = .ok (.goto 730, 3) := by decide +kernel
theorem dL_law_532 : decode cL_law 532 = .ok (.aload_n 1, 1) := by decide +kernel
theorem dL_law_533 : decode cL_law 533 = .ok (.aload_n 0, 1) := by decide +kernel
theorem dL_law_534 : decode cL_law 534 = .ok (.iload 4, 2) := by decide +kernel
theorem dL_law_536 : decode cL_law 536 = .ok (.iconst 1, 1) := by decide +kernel
theorem dL_law_537 : decode cL_law 537 = .ok (.iadd, 1) := by decide +kernel
theorem dL_law_538 : decode cL_law 538 = .ok (.iaload, 1) := by decide +kernel
theorem dL_law_539 : decode cL_law 539 = .ok (.aload_n 0, 1) := by decide +kernel
theorem dL_law_540 : decode cL_law 540 = .ok (.iload 4, 2) := by decide +kernel
theorem dL_law_542 : decode cL_law 542 = .ok (.iconst 2, 1) := by decide +kernel
theorem dL_law_543 : decode cL_law 543 = .ok (.iadd, 1) := by decide +kernel
theorem dL_law_544 : decode cL_law 544 = .ok (.iaload, 1) := by decide +kernel
theorem dL_law_545 : decode cL_law 545 = .ok (.aload_n 3, 1) := by decide +kernel
theorem dL_law_546 : decode cL_law 546 = .ok (.invokestatic 141, 3) := by decide +kernel
theorem dL_law_549 : decode cL_law 549 = .ok (.istore 5, 2) := by decide +kernel
theorem dL_law_551 : decode cL_law 551 = .ok (.aload_n 2, 1) := by decide +kernel
theorem dL_law_552 : decode cL_law 552 = .ok (.aload_n 0, 1) := by decide +kernel
theorem dL_law_553 : decode cL_law 553 = .ok (.iload 4, 2) := by decide +kernel
theorem dL_law_555 : decode cL_law 555 = .ok (.iconst 1, 1) := by decide +kernel
theorem dL_law_556 : decode cL_law 556 = .ok (.iadd, 1) := by decide +kernel
theorem dL_law_557 : decode cL_law 557 = .ok (.iaload, 1) := by decide +kernel
theorem dL_law_558 : decode cL_law 558 = .ok (.aload_n 0, 1) := by decide +kernel
theorem dL_law_559 : decode cL_law 559 = .ok (.iload 4, 2) := by decide +kernel
theorem dL_law_561 : decode cL_law 561 = .ok (.iconst 2, 1) := by decide +kernel
theorem dL_law_562 : decode cL_law 562 = .ok (.iadd, 1) := by decide +kernel
theorem dL_law_563 : decode cL_law 563 = .ok (.iaload, 1) := by decide +kernel
theorem dL_law_564 : decode cL_law 564 = .ok (.invokevirtual 143, 3) := by decide +kernel
theorem dL_law_567 : decode cL_law 567 = .ok (.istore 6, 2) := by decide +kernel
theorem dL_law_569 : decode cL_law 569 = .ok (.goto 690, 3) := by decide +kernel
theorem dL_law_572 : decode cL_law 572 = .ok (.aload_n 1, 1) := by decide +kernel
theorem dL_law_573 : decode cL_law 573 = .ok (.aload_n 0, 1) := by decide +kernel
theorem dL_law_574 : decode cL_law 574 = .ok (.iload 4, 2) := by decide +kernel
theorem dL_law_576 : decode cL_law 576 = .ok (.iconst 1, 1) := by decide +kernel
theorem dL_law_577 : decode cL_law 577 = .ok (.iadd, 1) := by decide +kernel
theorem dL_law_578 : decode cL_law 578 = .ok (.iaload, 1) := by decide +kernel
theorem dL_law_579 : decode cL_law 579 = .ok (.aload_n 0, 1) := by decide +kernel
theorem dL_law_580 : decode cL_law 580 = .ok (.iload 4, 2) := by decide +kernel
theorem dL_law_582 : decode cL_law 582 = .ok (.iconst 2, 1) := by decide +kernel
theorem dL_law_583 : decode cL_law 583 = .ok (.iadd, 1) := by decide +kernel
theorem dL_law_584 : decode cL_law 584 = .ok (.iaload, 1) := by decide +kernel
theorem dL_law_585 : decode cL_law 585 = .ok (.aload_n 0, 1) := by decide +kernel
theorem dL_law_586 : decode cL_law 586 = .ok (.iload 4, 2) := by decide +kernel
theorem dL_law_588 : decode cL_law 588 = .ok (.iconst 3, 1) := by decide +kernel
theorem dL_law_589 : decode cL_law 589 = .ok (.iadd, 1) := by decide +kernel
theorem dL_law_590 : decode cL_law 590 = .ok (.iaload, 1) := by decide +kernel
theorem dL_law_591 : decode cL_law 591 = .ok (.aload_n 0, 1) := by decide +kernel
theorem dL_law_592 : decode cL_law 592 = .ok (.iload 4, 2) := by decide +kernel
theorem dL_law_594 : decode cL_law 594 = .ok (.iconst 4, 1) := by decide +kernel
theorem dL_law_595 : decode cL_law 595 = .ok (.iadd, 1) := by decide +kernel
theorem dL_law_596 : decode cL_law 596 = .ok (.iaload, 1) := by decide +kernel
theorem dL_law_597 : decode cL_law 597 = .ok (.aload_n 3, 1) := by decide +kernel
theorem dL_law_598 : decode cL_law 598 = .ok (.invokestatic 144, 3) := by decide +kernel
theorem dL_law_601 : decode cL_law 601 = .ok (.istore 5, 2) := by decide +kernel
theorem dL_law_603 : decode cL_law 603 = .ok (.aload_n 2, 1) := by decide +kernel
theorem dL_law_604 : decode cL_law 604 = .ok (.aload_n 0, 1) := by decide +kernel
theorem dL_law_605 : decode cL_law 605 = .ok (.iload 4, 2) := by decide +kernel
theorem dL_law_607 : decode cL_law 607 = .ok (.iconst 1, 1) := by decide +kernel
theorem dL_law_608 : decode cL_law 608 = .ok (.iadd, 1) := by decide +kernel
theorem dL_law_609 : decode cL_law 609 = .ok (.iaload, 1) := by decide +kernel
theorem dL_law_610 : decode cL_law 610 = .ok (.aload_n 0, 1) := by decide +kernel
theorem dL_law_611 : decode cL_law 611 = .ok (.iload 4, 2) := by decide +kernel
theorem dL_law_613 : decode cL_law 613 = .ok (.iconst 2, 1) := by decide +kernel
theorem dL_law_614 : decode cL_law 614 = .ok (.iadd, 1) := by decide +kernel
theorem dL_law_615 : decode cL_law 615 = .ok (.iaload, 1) := by decide +kernel
theorem dL_law_616 : decode cL_law 616 = .ok (.aload_n 0, 1) := by decide +kernel
theorem dL_law_617 : decode cL_law 617 = .ok (.iload 4, 2) := by decide +kernel
theorem dL_law_619 : decode cL_law 619 = .ok (.iconst 3, 1) := by decide +kernel
theorem dL_law_620 : decode cL_law 620 = .ok (.iadd, 1) := by decide +kernel
theorem dL_law_621 : decode cL_law 621 = .ok (.iaload, 1) := by decide +kernel
theorem dL_law_622 : decode cL_law 622 = .ok (.aload_n 0, 1) := by decide +kernel
theorem dL_law_623 : decode cL_law 623 = .ok (.iload 4, 2) := by decide +kernel
theorem dL_law_625 : decode cL_law 625 = .ok (.iconst 4, 1) := by decide +kernel
theorem dL_law_626 : decode cL_law 626 = .ok (.iadd, 1) := by decide +kernel
theorem dL_law_627 : decode cL_law 627 = .ok (.iaload, 1) := by decide +kernel
theorem dL_law_628 : decode cL_law 628 = .ok (.invokevirtual 146, 3) := by decide +kernel
theorem dL_law_631 : decode cL_law 631 = .ok (.istore 6, 2) := by decide +kernel
theorem dL_law_633 : decode cL_law 633 = .ok (.goto 626, 3) := by decide +kernel
theorem dL_law_636 : decode cL_law 636 = .ok (.aload_n 1, 1) := by decide +kernel
theorem dL_law_637 : decode cL_law 637 = .ok (.aload_n 0, 1) := by decide +kernel
theorem dL_law_638 : decode cL_law 638 = .ok (.iload 4, 2) := by decide +kernel
theorem dL_law_640 : decode cL_law 640 = .ok (.iconst 1, 1) := by decide +kernel
theorem dL_law_641 : decode cL_law 641 = .ok (.iadd, 1) := by decide +kernel
theorem dL_law_642 : decode cL_law 642 = .ok (.iaload, 1) := by decide +kernel
theorem dL_law_643 : decode cL_law 643 = .ok (.aload_n 0, 1) := by decide +kernel
theorem dL_law_644 : decode cL_law 644 = .ok (.iload 4, 2) := by decide +kernel
theorem dL_law_646 : decode cL_law 646 = .ok (.iconst 2, 1) := by decide +kernel
theorem dL_law_647 : decode cL_law 647 = .ok (.iadd, 1) := by decide +kernel
theorem dL_law_648 : decode cL_law 648 = .ok (.iaload, 1) := by decide +kernel
theorem dL_law_649 : decode cL_law 649 = .ok (.aload_n 3, 1) := by decide +kernel
theorem dL_law_650 : decode cL_law 650 = .ok (.invokestatic 147, 3) := by decide +kernel
theorem dL_law_653 : decode cL_law 653 = .ok (.istore 5, 2) := by decide +kernel
theorem dL_law_655 : decode cL_law 655 = .ok (.aload_n 2, 1) := by decide +kernel
theorem dL_law_656 : decode cL_law 656 = .ok (.aload_n 0, 1) := by decide +kernel
theorem dL_law_657 : decode cL_law 657 = .ok (.iload 4, 2) := by decide +kernel
theorem dL_law_659 : decode cL_law 659 = .ok (.iconst 1, 1) := by decide +kernel
theorem dL_law_660 : decode cL_law 660 = .ok (.iadd, 1) := by decide +kernel
theorem dL_law_661 : decode cL_law 661 = .ok (.iaload, 1) := by decide +kernel
theorem dL_law_662 : decode cL_law 662 = .ok (.aload_n 0, 1) := by decide +kernel
theorem dL_law_663 : decode cL_law 663 = .ok (.iload 4, 2) := by decide +kernel
theorem dL_law_665 : decode cL_law 665 = .ok (.iconst 2, 1) := by decide +kernel
theorem dL_law_666 : decode cL_law 666 = .ok (.iadd, 1) := by decide +kernel
theorem dL_law_667 : decode cL_law 667 = .ok (.iaload, 1) := by decide +kernel
theorem dL_law_668 : decode cL_law 668 = .ok (.invokevirtual 149, 3) := by decide +kernel
theorem dL_law_671 : decode cL_law 671 = .ok (.istore 6, 2) := by decide +kernel
theorem dL_law_673 : decode cL_law 673 = .ok (.goto 586, 3) := by decide +kernel
theorem dL_law_676 : decode cL_law 676 = .ok (.aload_n 1, 1) := by decide +kernel
theorem dL_law_677 : decode cL_law 677 = .ok (.aload_n 0, 1) := by decide +kernel
theorem dL_law_678 : decode cL_law 678 = .ok (.iload 4, 2) := by decide +kernel
theorem dL_law_680 : decode cL_law 680 = .ok (.iconst 1, 1) := by decide +kernel
theorem dL_law_681 : decode cL_law 681 = .ok (.iadd, 1) := by decide +kernel
theorem dL_law_682 : decode cL_law 682 = .ok (.iaload, 1) := by decide +kernel
theorem dL_law_683 : decode cL_law 683 = .ok (.aload_n 0, 1) := by decide +kernel
theorem dL_law_684 : decode cL_law 684 = .ok (.iload 4, 2) := by decide +kernel
theorem dL_law_686 : decode cL_law 686 = .ok (.iconst 2, 1) := by decide +kernel
theorem dL_law_687 : decode cL_law 687 = .ok (.iadd, 1) := by decide +kernel
theorem dL_law_688 : decode cL_law 688 = .ok (.iaload, 1) := by decide +kernel
theorem dL_law_689 : decode cL_law 689 = .ok (.aload_n 0, 1) := by decide +kernel
theorem dL_law_690 : decode cL_law 690 = .ok (.iload 4, 2) := by decide +kernel
theorem dL_law_692 : decode cL_law 692 = .ok (.iconst 3, 1) := by decide +kernel
theorem dL_law_693 : decode cL_law 693 = .ok (.iadd, 1) := by decide +kernel
theorem dL_law_694 : decode cL_law 694 = .ok (.iaload, 1) := by decide +kernel
theorem dL_law_695 : decode cL_law 695 = .ok (.aload_n 3, 1) := by decide +kernel
theorem dL_law_696 : decode cL_law 696 = .ok (.invokestatic 150, 3) := by decide +kernel
theorem dL_law_699 : decode cL_law 699 = .ok (.istore 5, 2) := by decide +kernel
theorem dL_law_701 : decode cL_law 701 = .ok (.aload_n 2, 1) := by decide +kernel
theorem dL_law_702 : decode cL_law 702 = .ok (.aload_n 0, 1) := by decide +kernel
theorem dL_law_703 : decode cL_law 703 = .ok (.iload 4, 2) := by decide +kernel
theorem dL_law_705 : decode cL_law 705 = .ok (.iconst 1, 1) := by decide +kernel
theorem dL_law_706 : decode cL_law 706 = .ok (.iadd, 1) := by decide +kernel
theorem dL_law_707 : decode cL_law 707 = .ok (.iaload, 1) := by decide +kernel
theorem dL_law_708 : decode cL_law 708 = .ok (.aload_n 0, 1) := by decide +kernel
theorem dL_law_709 : decode cL_law 709 = .ok (.iload 4, 2) := by decide +kernel
theorem dL_law_711 : decode cL_law 711 = .ok (.iconst 2, 1) := by decide +kernel
theorem dL_law_712 : decode cL_law 712 = .ok (.iadd, 1) := by decide +kernel
theorem dL_law_713 : decode cL_law 713 = .ok (.iaload, 1) := by decide +kernel
theorem dL_law_714 : decode cL_law 714 = .ok (.aload_n 0, 1) := by decide +kernel
theorem dL_law_715 : decode cL_law 715 = .ok (.iload 4, 2) := by decide +kernel
theorem dL_law_717 : decode cL_law 717 = .ok (.iconst 3, 1) := by decide +kernel
theorem dL_law_718 : decode cL_law 718 = .ok (.iadd, 1) := by decide +kernel
theorem dL_law_719 : decode cL_law 719 = .ok (.iaload, 1) := by decide +kernel
theorem dL_law_720 : decode cL_law 720 = .ok (.invokevirtual 152, 3) := by decide +kernel
theorem dL_law_723 : decode cL_law 723 = .ok (.istore 6, 2) := by decide +kernel
theorem dL_law_725 : decode cL_law 725 = .ok (.goto 534, 3) := by decide +kernel
theorem dL_law_728 : decode cL_law 728 = .ok (.aload_n 1, 1) := by decide +kernel
theorem dL_law_729 : decode cL_law 729 = .ok (.aload_n 0, 1) := by decide +kernel
theorem dL_law_730 : decode cL_law 730 = .ok (.iload 4, 2) := by decide +kernel
theorem dL_law_732 : decode cL_law 732 = .ok (.iconst 1, 1) := by decide +kernel
theorem dL_law_733 : decode cL_law 733 = .ok (.iadd, 1) := by decide +kernel
theorem dL_law_734 : decode cL_law 734 = .ok (.iaload, 1) := by decide +kernel
theorem dL_law_735 : decode cL_law 735 = .ok (.aload_n 3, 1) := by decide +kernel
theorem dL_law_736 : decode cL_law 736 = .ok (.invokestatic 153, 3) := by decide +kernel
theorem dL_law_739 : decode cL_law 739 = .ok (.istore 5, 2) := by decide +kernel
theorem dL_law_741 : decode cL_law 741 = .ok (.aload_n 2, 1) := by decide +kernel
theorem dL_law_742 : decode cL_law 742 = .ok (.aload_n 0, 1) := by decide +kernel
theorem dL_law_743 : decode cL_law 743 = .ok (.iload 4, 2) := by decide +kernel
theorem dL_law_745 : decode cL_law 745 = .ok (.iconst 1, 1) := by decide +kernel
theorem dL_law_746 : decode cL_law 746 = .ok (.iadd, 1) := by decide +kernel
theorem dL_law_747 : decode cL_law 747 = .ok (.iaload, 1) := by decide +kernel
theorem dL_law_748 : decode cL_law 748 = .ok (.invokevirtual 155, 3) := by decide +kernel
theorem dL_law_751 : decode cL_law 751 = .ok (.istore 6, 2) := by decide +kernel
theorem dL_law_753 : decode cL_law 753 = .ok (.goto 506, 3) := by decide +kernel
theorem dL_law_756 : decode cL_law 756 = .ok (.aload_n 1, 1) := by decide +kernel
theorem dL_law_757 : decode cL_law 757 = .ok (.aload_n 0, 1) := by decide +kernel
theorem dL_law_758 : decode cL_law 758 = .ok (.iload 4, 2) := by decide +kernel
theorem dL_law_760 : decode cL_law 760 = .ok (.iconst 1, 1) := by decide +kernel
theorem dL_law_761 : decode cL_law 761 = .ok (.iadd, 1) := by decide +kernel
theorem dL_law_762 : decode cL_law 762 = .ok (.iaload, 1) := by decide +kernel
theorem dL_law_763 : decode cL_law 763 = .ok (.aload_n 3, 1) := by decide +kernel
theorem dL_law_764 : decode cL_law 764 = .ok (.invokestatic 156, 3) := by decide +kernel
theorem dL_law_767 : decode cL_law 767 = .ok (.istore 5, 2) := by decide +kernel
theorem dL_law_769 : decode cL_law 769 = .ok (.aload_n 2, 1) := by decide +kernel
theorem dL_law_770 : decode cL_law 770 = .ok (.aload_n 0, 1) := by decide +kernel
theorem dL_law_771 : decode cL_law 771 = .ok (.iload 4, 2) := by decide +kernel
theorem dL_law_773 : decode cL_law 773 = .ok (.iconst 1, 1) := by decide +kernel
theorem dL_law_774 : decode cL_law 774 = .ok (.iadd, 1) := by decide +kernel
theorem dL_law_775 : decode cL_law 775 = .ok (.iaload, 1) := by decide +kernel
theorem dL_law_776 : decode cL_law 776 = .ok (.invokevirtual 158, 3) := by decide +kernel
theorem dL_law_779 : decode cL_law 779 = .ok (.istore 6, 2) := by decide +kernel
theorem dL_law_781 : decode cL_law 781 = .ok (.goto 478, 3) := by decide +kernel
theorem dL_law_784 : decode cL_law 784 = .ok (.aload_n 1, 1) := by decide +kernel
theorem dL_law_785 : decode cL_law 785 = .ok (.aload_n 0, 1) := by decide +kernel
theorem dL_law_786 : decode cL_law 786 = .ok (.iload 4, 2) := by decide +kernel
theorem dL_law_788 : decode cL_law 788 = .ok (.iconst 1, 1) := by decide +kernel
theorem dL_law_789 : decode cL_law 789 = .ok (.iadd, 1) := by decide +kernel
theorem dL_law_790 : decode cL_law 790 = .ok (.iaload, 1) := by decide +kernel
theorem dL_law_791 : decode cL_law 791 = .ok (.aload_n 3, 1) := by decide +kernel
theorem dL_law_792 : decode cL_law 792 = .ok (.invokestatic 159, 3) := by decide +kernel
theorem dL_law_795 : decode cL_law 795 = .ok (.istore 5, 2) := by decide +kernel
theorem dL_law_797 : decode cL_law 797 = .ok (.aload_n 2, 1) := by decide +kernel
theorem dL_law_798 : decode cL_law 798 = .ok (.aload_n 0, 1) := by decide +kernel
theorem dL_law_799 : decode cL_law 799 = .ok (.iload 4, 2) := by decide +kernel
theorem dL_law_801 : decode cL_law 801 = .ok (.iconst 1, 1) := by decide +kernel
theorem dL_law_802 : decode cL_law 802 = .ok (.iadd, 1) := by decide +kernel
theorem dL_law_803 : decode cL_law 803 = .ok (.iaload, 1) := by decide +kernel
theorem dL_law_804 : decode cL_law 804 = .ok (.invokevirtual 161, 3) := by decide +kernel
theorem dL_law_807 : decode cL_law 807 = .ok (.istore 6, 2) := by decide +kernel
theorem dL_law_809 : decode cL_law 809 = .ok (.goto 450, 3) := by decide +kernel
theorem dL_law_812 : decode cL_law 812 = .ok (.aload_n 1, 1) := by decide +kernel
theorem dL_law_813 : decode cL_law 813 = .ok (.aload_n 0, 1) := by decide +kernel
theorem dL_law_814 : decode cL_law 814 = .ok (.iload 4, 2) := by decide +kernel
theorem dL_law_816 : decode cL_law 816 = .ok (.iconst 1, 1) := by decide +kernel
theorem dL_law_817 : decode cL_law 817 = .ok (.iadd, 1) := by decide +kernel
theorem dL_law_818 : decode cL_law 818 = .ok (.iaload, 1) := by decide +kernel
theorem dL_law_819 : decode cL_law 819 = .ok (.aload_n 3, 1) := by decide +kernel
theorem dL_law_820 : decode cL_law 820 = .ok (.invokestatic 162, 3) := by decide +kernel
theorem dL_law_823 : decode cL_law 823 = .ok (.istore 5, 2) := by decide +kernel
theorem dL_law_825 : decode cL_law 825 = .ok (.aload_n 2, 1) := by decide +kernel
theorem dL_law_826 : decode cL_law 826 = .ok (.aload_n 0, 1) := by decide +kernel
theorem dL_law_827 : decode cL_law 827 = .ok (.iload 4, 2) := by decide +kernel
theorem dL_law_829 : decode cL_law 829 = .ok (.iconst 1, 1) := by decide +kernel
theorem dL_law_830 : decode cL_law 830 = .ok (.iadd, 1) := by decide +kernel
theorem dL_law_831 : decode cL_law 831 = .ok (.iaload, 1) := by decide +kernel
theorem dL_law_832 : decode cL_law 832 = .ok (.invokevirtual 164, 3) := by decide +kernel
theorem dL_law_835 : decode cL_law 835 = .ok (.istore 6, 2) := by decide +kernel
theorem dL_law_837 : decode cL_law 837 = .ok (.goto 422, 3) := by decide +kernel
theorem dL_law_840 : decode cL_law 840 = .ok (.aload_n 1, 1) := by decide +kernel
theorem dL_law_841 : decode cL_law 841 = .ok (.aload_n 0, 1) := by decide +kernel
theorem dL_law_842 : decode cL_law 842 = .ok (.iload 4, 2) := by decide +kernel
theorem dL_law_844 : decode cL_law 844 = .ok (.iconst 1, 1) := by decide +kernel
theorem dL_law_845 : decode cL_law 845 = .ok (.iadd, 1) := by decide +kernel
theorem dL_law_846 : decode cL_law 846 = .ok (.iaload, 1) := by decide +kernel
theorem dL_law_847 : decode cL_law 847 = .ok (.aload_n 0, 1) := by decide +kernel
theorem dL_law_848 : decode cL_law 848 = .ok (.iload 4, 2) := by decide +kernel
theorem dL_law_850 : decode cL_law 850 = .ok (.iconst 2, 1) := by decide +kernel
theorem dL_law_851 : decode cL_law 851 = .ok (.iadd, 1) := by decide +kernel
theorem dL_law_852 : decode cL_law 852 = .ok (.iaload, 1) := by decide +kernel
theorem dL_law_853 : decode cL_law 853 = .ok (.aload_n 3, 1) := by decide +kernel
theorem dL_law_854 : decode cL_law 854 = .ok (.invokestatic 165, 3) := by decide +kernel
theorem dL_law_857 : decode cL_law 857 = .ok (.istore 5, 2) := by decide +kernel
theorem dL_law_859 : decode cL_law 859 = .ok (.aload_n 2, 1) := by decide +kernel
theorem dL_law_860 : decode cL_law 860 = .ok (.aload_n 0, 1) := by decide +kernel
theorem dL_law_861 : decode cL_law 861 = .ok (.iload 4, 2) := by decide +kernel
theorem dL_law_863 : decode cL_law 863 = .ok (.iconst 1, 1) := by decide +kernel
theorem dL_law_864 : decode cL_law 864 = .ok (.iadd, 1) := by decide +kernel
theorem dL_law_865 : decode cL_law 865 = .ok (.iaload, 1) := by decide +kernel
theorem dL_law_866 : decode cL_law 866 = .ok (.aload_n 0, 1) := by decide +kernel
theorem dL_law_867 : decode cL_law 867 = .ok (.iload 4, 2) := by decide +kernel
theorem dL_law_869 : decode cL_law 869 = .ok (.iconst 2, 1) := by decide +kernel
theorem dL_law_870 : decode cL_law 870 = .ok (.iadd, 1) := by decide +kernel
theorem dL_law_871 : decode cL_law 871 = .ok (.iaload, 1) := by decide +kernel
theorem dL_law_872 : decode cL_law 872 = .ok (.invokevirtual 167, 3) := by decide +kernel
theorem dL_law_875 : decode cL_law 875 = .ok (.istore 6, 2) := by decide +kernel
theorem dL_law_877 : decode cL_law 877 = .ok (.goto 382, 3) := by decide +kernel
theorem dL_law_880 : decode cL_law 880 = .ok (.aload_n 1, 1) := by decide +kernel
theorem dL_law_881 : decode cL_law 881 = .ok (.aload_n 0, 1) := by decide +kernel
theorem dL_law_882 : decode cL_law 882 = .ok (.iload 4, 2) := by decide +kernel
theorem dL_law_884 : decode cL_law 884 = .ok (.iconst 1, 1) := by decide +kernel
theorem dL_law_885 : decode cL_law 885 = .ok (.iadd, 1) := by decide +kernel
theorem dL_law_886 : decode cL_law 886 = .ok (.iaload, 1) := by decide +kernel
theorem dL_law_887 : decode cL_law 887 = .ok (.aload_n 0, 1) := by decide +kernel
theorem dL_law_888 : decode cL_law 888 = .ok (.iload 4, 2) := by decide +kernel
theorem dL_law_890 : decode cL_law 890 = .ok (.iconst 2, 1) := by decide +kernel
theorem dL_law_891 : decode cL_law 891 = .ok (.iadd, 1) := by decide +kernel
theorem dL_law_892 : decode cL_law 892 = .ok (.iaload, 1) := by decide +kernel
theorem dL_law_893 : decode cL_law 893 = .ok (.aload_n 3, 1) := by decide +kernel
theorem dL_law_894 : decode cL_law 894 = .ok (.invokestatic 168, 3) := by decide +kernel
theorem dL_law_897 : decode cL_law 897 = .ok (.istore 5, 2) := by decide +kernel
theorem dL_law_899 : decode cL_law 899 = .ok (.aload_n 2, 1) := by decide +kernel
theorem dL_law_900 : decode cL_law 900 = .ok (.aload_n 0, 1) := by decide +kernel
theorem dL_law_901 : decode cL_law 901 = .ok (.iload 4, 2) := by decide +kernel
theorem dL_law_903 : decode cL_law 903 = .ok (.iconst 1, 1) := by decide +kernel
theorem dL_law_904 : decode cL_law 904 = .ok (.iadd, 1) := by decide +kernel
theorem dL_law_905 : decode cL_law 905 = .ok (.iaload, 1) := by decide +kernel
theorem dL_law_906 : decode cL_law 906 = .ok (.aload_n 0, 1) := by decide +kernel
theorem dL_law_907 : decode cL_law 907 = .ok (.iload 4, 2) := by decide +kernel
theorem dL_law_909 : decode cL_law 909 = .ok (.iconst 2, 1) := by decide +kernel
theorem dL_law_910 : decode cL_law 910 = .ok (.iadd, 1) := by decide +kernel
theorem dL_law_911 : decode cL_law 911 = .ok (.iaload, 1) := by decide +kernel
theorem dL_law_912 : decode cL_law 912 = .ok (.invokevirtual 170, 3) := by decide +kernel
theorem dL_law_915 : decode cL_law 915 = .ok (.istore 6, 2) := by decide +kernel
theorem dL_law_917 : decode cL_law 917 = .ok (.goto 342, 3) := by decide +kernel
theorem dL_law_920 : decode cL_law 920 = .ok (.aload_n 1, 1) := by decide +kernel
theorem dL_law_921 : decode cL_law 921 = .ok (.aload_n 0, 1) := by decide +kernel
theorem dL_law_922 : decode cL_law 922 = .ok (.iload 4, 2) := by decide +kernel
theorem dL_law_924 : decode cL_law 924 = .ok (.iconst 1, 1) := by decide +kernel
theorem dL_law_925 : decode cL_law 925 = .ok (.iadd, 1) := by decide +kernel
theorem dL_law_926 : decode cL_law 926 = .ok (.iaload, 1) := by decide +kernel
theorem dL_law_927 : decode cL_law 927 = .ok (.aload_n 0, 1) := by decide +kernel
theorem dL_law_928 : decode cL_law 928 = .ok (.iload 4, 2) := by decide +kernel
theorem dL_law_930 : decode cL_law 930 = .ok (.iconst 2, 1) := by decide +kernel
theorem dL_law_931 : decode cL_law 931 = .ok (.iadd, 1) := by decide +kernel
theorem dL_law_932 : decode cL_law 932 = .ok (.iaload, 1) := by decide +kernel
theorem dL_law_933 : decode cL_law 933 = .ok (.aload_n 3, 1) := by decide +kernel
theorem dL_law_934 : decode cL_law 934 = .ok (.invokestatic 171, 3) := by decide +kernel
theorem dL_law_937 : decode cL_law 937 = .ok (.istore 5, 2) := by decide +kernel
theorem dL_law_939 : decode cL_law 939 = .ok (.aload_n 2, 1) := by decide +kernel
theorem dL_law_940 : decode cL_law 940 = .ok (.aload_n 0, 1) := by decide +kernel
theorem dL_law_941 : decode cL_law 941 = .ok (.iload 4, 2) := by decide +kernel
theorem dL_law_943 : decode cL_law 943 = .ok (.iconst 1, 1) := by decide +kernel
theorem dL_law_944 : decode cL_law 944 = .ok (.iadd, 1) := by decide +kernel
theorem dL_law_945 : decode cL_law 945 = .ok (.iaload, 1) := by decide +kernel
theorem dL_law_946 : decode cL_law 946 = .ok (.aload_n 0, 1) := by decide +kernel
theorem dL_law_947 : decode cL_law 947 = .ok (.iload 4, 2) := by decide +kernel
theorem dL_law_949 : decode cL_law 949 = .ok (.iconst 2, 1) := by decide +kernel
theorem dL_law_950 : decode cL_law 950 = .ok (.iadd, 1) := by decide +kernel
theorem dL_law_951 : decode cL_law 951 = .ok (.iaload, 1) := by decide +kernel
theorem dL_law_952 : decode cL_law 952 = .ok (.invokevirtual 173, 3) := by decide +kernel
theorem dL_law_955 : decode cL_law 955 = .ok (.istore 6, 2) := by decide +kernel
theorem dL_law_957 : decode cL_law 957 = .ok (.goto 302, 3) := by decide +kernel
theorem dL_law_960 : decode cL_law 960 = .ok (.aload_n 1, 1) := by decide +kernel
theorem dL_law_961 : decode cL_law 961 = .ok (.aload_n 0, 1) := by decide +kernel
theorem dL_law_962 : decode cL_law 962 = .ok (.iload 4, 2) := by decide +kernel
theorem dL_law_964 : decode cL_law 964 = .ok (.iconst 1, 1) := by decide +kernel
theorem dL_law_965 : decode cL_law 965 = .ok (.iadd, 1) := by decide +kernel
theorem dL_law_966 : decode cL_law 966 = .ok (.iaload, 1) := by decide +kernel
theorem dL_law_967 : decode cL_law 967 = .ok (.aload_n 0, 1) := by decide +kernel
theorem dL_law_968 : decode cL_law 968 = .ok (.iload 4, 2) := by decide +kernel
theorem dL_law_970 : decode cL_law 970 = .ok (.iconst 2, 1) := by decide +kernel
theorem dL_law_971 : decode cL_law 971 = .ok (.iadd, 1) := by decide +kernel
theorem dL_law_972 : decode cL_law 972 = .ok (.iaload, 1) := by decide +kernel
theorem dL_law_973 : decode cL_law 973 = .ok (.aload_n 3, 1) := by decide +kernel
theorem dL_law_974 : decode cL_law 974 = .ok (.invokestatic 174, 3) := by decide +kernel
theorem dL_law_977 : decode cL_law 977 = .ok (.istore 5, 2) := by decide +kernel
theorem dL_law_979 : decode cL_law 979 = .ok (.aload_n 2, 1) := by decide +kernel
theorem dL_law_980 : decode cL_law 980 = .ok (.aload_n 0, 1) := by decide +kernel
theorem dL_law_981 : decode cL_law 981 = .ok (.iload 4, 2) := by decide +kernel
theorem dL_law_983 : decode cL_law 983 = .ok (.iconst 1, 1) := by decide +kernel
theorem dL_law_984 : decode cL_law 984 = .ok (.iadd, 1) := by decide +kernel
theorem dL_law_985 : decode cL_law 985 = .ok (.iaload, 1) := by decide +kernel
theorem dL_law_986 : decode cL_law 986 = .ok (.aload_n 0, 1) := by decide +kernel
theorem dL_law_987 : decode cL_law 987 = .ok (.iload 4, 2) := by decide +kernel
theorem dL_law_989 : decode cL_law 989 = .ok (.iconst 2, 1) := by decide +kernel
theorem dL_law_990 : decode cL_law 990 = .ok (.iadd, 1) := by decide +kernel
theorem dL_law_991 : decode cL_law 991 = .ok (.iaload, 1) := by decide +kernel
theorem dL_law_992 : decode cL_law 992 = .ok (.invokevirtual 176, 3) := by decide +kernel
theorem dL_law_995 : decode cL_law 995 = .ok (.istore 6, 2) := by decide +kernel
theorem dL_law_997 : decode cL_law 997 = .ok (.goto 262, 3) := by decide +kernel
theorem dL_law_1000 : decode cL_law 1000 = .ok (.aload_n 1, 1) := by decide +kernel
theorem dL_law_1001 : decode cL_law 1001 = .ok (.aload_n 0, 1) := by decide +kernel
theorem dL_law_1002 : decode cL_law 1002 = .ok (.iload 4, 2) := by decide +kernel
theorem dL_law_1004 : decode cL_law 1004 = .ok (.iconst 1, 1) := by decide +kernel
theorem dL_law_1005 : decode cL_law 1005 = .ok (.iadd, 1) := by decide +kernel
theorem dL_law_1006 : decode cL_law 1006 = .ok (.iaload, 1) := by decide +kernel
theorem dL_law_1007 : decode cL_law 1007 = .ok (.aload_n 0, 1) := by decide +kernel
theorem dL_law_1008 : decode cL_law 1008 = .ok (.iload 4, 2) := by decide +kernel
theorem dL_law_1010 : decode cL_law 1010 = .ok (.iconst 2, 1) := by decide +kernel
theorem dL_law_1011 : decode cL_law 1011 = .ok (.iadd, 1) := by decide +kernel
theorem dL_law_1012 : decode cL_law 1012 = .ok (.iaload, 1) := by decide +kernel
theorem dL_law_1013 : decode cL_law 1013 = .ok (.aload_n 3, 1) := by decide +kernel
theorem dL_law_1014 : decode cL_law 1014 = .ok (.invokestatic 177, 3) := by decide +kernel
theorem dL_law_1017 : decode cL_law 1017 = .ok (.istore 5, 2) := by decide +kernel
theorem dL_law_1019 : decode cL_law 1019 = .ok (.aload_n 2, 1) := by decide +kernel
theorem dL_law_1020 : decode cL_law 1020 = .ok (.aload_n 0, 1) := by decide +kernel
theorem dL_law_1021 : decode cL_law 1021 = .ok (.iload 4, 2) := by decide +kernel
theorem dL_law_1023 : decode cL_law 1023 = .ok (.iconst 1, 1) := by decide +kernel
theorem dL_law_1024 : decode cL_law 1024 = .ok (.iadd, 1) := by decide +kernel
theorem dL_law_1025 : decode cL_law 1025 = .ok (.iaload, 1) := by decide +kernel
theorem dL_law_1026 : decode cL_law 1026 = .ok (.aload_n 0, 1) := by decide +kernel
theorem dL_law_1027 : decode cL_law 1027 = .ok (.iload 4, 2) := by decide +kernel
theorem dL_law_1029 : decode cL_law 1029 = .ok (.iconst 2, 1) := by decide +kernel
theorem dL_law_1030 : decode cL_law 1030 = .ok (.iadd, 1) := by decide +kernel
theorem dL_law_1031 : decode cL_law 1031 = .ok (.iaload, 1) := by decide +kernel
theorem dL_law_1032 : decode cL_law 1032 = .ok (.invokevirtual 179, 3) := by decide +kernel
theorem dL_law_1035 : decode cL_law 1035 = .ok (.istore 6, 2) := by decide +kernel
theorem dL_law_1037 : decode cL_law 1037 = .ok (.goto 222, 3) := by decide +kernel
theorem dL_law_1040 : decode cL_law 1040 = .ok (.aload_n 1, 1) := by decide +kernel
theorem dL_law_1041 : decode cL_law 1041 = .ok (.aload_n 0, 1) := by decide +kernel
theorem dL_law_1042 : decode cL_law 1042 = .ok (.iload 4, 2) := by decide +kernel
theorem dL_law_1044 : decode cL_law 1044 = .ok (.iconst 1, 1) := by decide +kernel
theorem dL_law_1045 : decode cL_law 1045 = .ok (.iadd, 1) := by decide +kernel
theorem dL_law_1046 : decode cL_law 1046 = .ok (.iaload, 1) := by decide +kernel
theorem dL_law_1047 : decode cL_law 1047 = .ok (.aload_n 3, 1) := by decide +kernel
theorem dL_law_1048 : decode cL_law 1048 = .ok (.invokestatic 180, 3) := by decide +kernel
theorem dL_law_1051 : decode cL_law 1051 = .ok (.istore 5, 2) := by decide +kernel
theorem dL_law_1053 : decode cL_law 1053 = .ok (.aload_n 2, 1) := by decide +kernel
theorem dL_law_1054 : decode cL_law 1054 = .ok (.aload_n 0, 1) := by decide +kernel
theorem dL_law_1055 : decode cL_law 1055 = .ok (.iload 4, 2) := by decide +kernel
theorem dL_law_1057 : decode cL_law 1057 = .ok (.iconst 1, 1) := by decide +kernel
theorem dL_law_1058 : decode cL_law 1058 = .ok (.iadd, 1) := by decide +kernel
theorem dL_law_1059 : decode cL_law 1059 = .ok (.iaload, 1) := by decide +kernel
theorem dL_law_1060 : decode cL_law 1060 = .ok (.invokevirtual 182, 3) := by decide +kernel
theorem dL_law_1063 : decode cL_law 1063 = .ok (.astore 6, 2) := by decide +kernel
theorem dL_law_1065 : decode cL_law 1065 = .ok (.goto 194, 3) := by decide +kernel
theorem dL_law_1068 : decode cL_law 1068 = .ok (.aload_n 1, 1) := by decide +kernel
theorem dL_law_1069 : decode cL_law 1069 = .ok (.aload_n 0, 1) := by decide +kernel
theorem dL_law_1070 : decode cL_law 1070 = .ok (.iload 4, 2) := by decide +kernel
theorem dL_law_1072 : decode cL_law 1072 = .ok (.iconst 1, 1) := by decide +kernel
theorem dL_law_1073 : decode cL_law 1073 = .ok (.iadd, 1) := by decide +kernel
theorem dL_law_1074 : decode cL_law 1074 = .ok (.iaload, 1) := by decide +kernel
theorem dL_law_1075 : decode cL_law 1075 = .ok (.aload_n 3, 1) := by decide +kernel
theorem dL_law_1076 : decode cL_law 1076 = .ok (.invokestatic 183, 3) := by decide +kernel
theorem dL_law_1079 : decode cL_law 1079 = .ok (.istore 5, 2) := by decide +kernel
theorem dL_law_1081 : decode cL_law 1081 = .ok (.aload_n 2, 1) := by decide +kernel
theorem dL_law_1082 : decode cL_law 1082 = .ok (.aload_n 0, 1) := by decide +kernel
theorem dL_law_1083 : decode cL_law 1083 = .ok (.iload 4, 2) := by decide +kernel
theorem dL_law_1085 : decode cL_law 1085 = .ok (.iconst 1, 1) := by decide +kernel
theorem dL_law_1086 : decode cL_law 1086 = .ok (.iadd, 1) := by decide +kernel
theorem dL_law_1087 : decode cL_law 1087 = .ok (.iaload, 1) := by decide +kernel
theorem dL_law_1088 : decode cL_law 1088 = .ok (.invokevirtual 185, 3) := by decide +kernel
theorem dL_law_1091 : decode cL_law 1091 = .ok (.istore 6, 2) := by decide +kernel
theorem dL_law_1093 : decode cL_law 1093 = .ok (.aload_n 2, 1) := by decide +kernel
theorem dL_law_1094 : decode cL_law 1094 = .ok (.invokevirtual 186, 3) := by decide +kernel
theorem dL_law_1097 : decode cL_law 1097 = .ok (.iload 5, 2) := by decide +kernel
theorem dL_law_1099 : decode cL_law 1099 = .ok (.if_icmp .eq 5, 3) := by decide +kernel
theorem dL_law_1102 : decode cL_law 1102 = .ok (.iconst 0, 1) := by decide +kernel
theorem dL_law_1103 : decode cL_law 1103 = .ok (.ireturn, 1) := by decide +kernel
theorem dL_law_1104 : decode cL_law 1104 = .ok (.iload 5, 2) := by decide +kernel
theorem dL_law_1106 : decode cL_law 1106 = .ok (.ifCond .ne 16, 3) := by decide +kernel
theorem dL_law_1109 : decode cL_law 1109 = .ok (.aload_n 3, 1) := by decide +kernel
theorem dL_law_1110 : decode cL_law 1110 = .ok (.getfield 13, 3) := by decide +kernel
theorem dL_law_1113 : decode cL_law 1113 = .ok (.iload 6, 2) := by decide +kernel
theorem dL_law_1115 : decode cL_law 1115 = .ok (.i2l, 1) := by decide +kernel
theorem dL_law_1116 : decode cL_law 1116 = .ok (.lcmp, 1) := by decide +kernel
theorem dL_law_1117 : decode cL_law 1117 = .ok (.ifCond .eq 5, 3) := by decide +kernel
theorem dL_law_1120 : decode cL_law 1120 = .ok (.iconst 0, 1) := by decide +kernel
theorem dL_law_1121 : decode cL_law 1121 = .ok (.ireturn, 1) := by decide +kernel
theorem dL_law_1122 : decode cL_law 1122 = .ok (.goto 137, 3) := by decide +kernel
theorem dL_law_1125 : decode cL_law 1125 = .ok (.aload_n 1, 1) := by decide +kernel
theorem dL_law_1126 : decode cL_law 1126 = .ok (.aload_n 0, 1) := by decide +kernel
theorem dL_law_1127 : decode cL_law 1127 = .ok (.iload 4, 2) := by decide +kernel
theorem dL_law_1129 : decode cL_law 1129 = .ok (.iconst 1, 1) := by decide +kernel
theorem dL_law_1130 : decode cL_law 1130 = .ok (.iadd, 1) := by decide +kernel
theorem dL_law_1131 : decode cL_law 1131 = .ok (.iaload, 1) := by decide +kernel
theorem dL_law_1132 : decode cL_law 1132 = .ok (.aload_n 0, 1) := by decide +kernel
theorem dL_law_1133 : decode cL_law 1133 = .ok (.iload 4, 2) := by decide +kernel
theorem dL_law_1135 : decode cL_law 1135 = .ok (.iconst 2, 1) := by decide +kernel
theorem dL_law_1136 : decode cL_law 1136 = .ok (.iadd, 1) := by decide +kernel
theorem dL_law_1137 : decode cL_law 1137 = .ok (.iaload, 1) := by decide +kernel
theorem dL_law_1138 : decode cL_law 1138 = .ok (.aload_n 3, 1) := by decide +kernel
theorem dL_law_1139 : decode cL_law 1139 = .ok (.invokestatic 190, 3) := by decide +kernel
theorem dL_law_1142 : decode cL_law 1142 = .ok (.istore 5, 2) := by decide +kernel
theorem dL_law_1144 : decode cL_law 1144 = .ok (.aload_n 2, 1) := by decide +kernel
theorem dL_law_1145 : decode cL_law 1145 = .ok (.aload_n 0, 1) := by decide +kernel
theorem dL_law_1146 : decode cL_law 1146 = .ok (.iload 4, 2) := by decide +kernel
theorem dL_law_1148 : decode cL_law 1148 = .ok (.iconst 1, 1) := by decide +kernel
theorem dL_law_1149 : decode cL_law 1149 = .ok (.iadd, 1) := by decide +kernel
theorem dL_law_1150 : decode cL_law 1150 = .ok (.iaload, 1) := by decide +kernel
theorem dL_law_1151 : decode cL_law 1151 = .ok (.aload_n 0, 1) := by decide +kernel
theorem dL_law_1152 : decode cL_law 1152 = .ok (.iload 4, 2) := by decide +kernel
theorem dL_law_1154 : decode cL_law 1154 = .ok (.iconst 2, 1) := by decide +kernel
theorem dL_law_1155 : decode cL_law 1155 = .ok (.iadd, 1) := by decide +kernel
theorem dL_law_1156 : decode cL_law 1156 = .ok (.iaload, 1) := by decide +kernel
theorem dL_law_1157 : decode cL_law 1157 = .ok (.invokevirtual 192, 3) := by decide +kernel
theorem dL_law_1160 : decode cL_law 1160 = .ok (.istore 6, 2) := by decide +kernel
theorem dL_law_1162 : decode cL_law 1162 = .ok (.goto 97, 3) := by decide +kernel
theorem dL_law_1165 : decode cL_law 1165 = .ok (.aload_n 1, 1) := by decide +kernel
theorem dL_law_1166 : decode cL_law 1166 = .ok (.aload_n 0, 1) := by decide +kernel
theorem dL_law_1167 : decode cL_law 1167 = .ok (.iload 4, 2) := by decide +kernel
theorem dL_law_1169 : decode cL_law 1169 = .ok (.iconst 1, 1) := by decide +kernel
theorem dL_law_1170 : decode cL_law 1170 = .ok (.iadd, 1) := by decide +kernel
theorem dL_law_1171 : decode cL_law 1171 = .ok (.iaload, 1) := by decide +kernel
theorem dL_law_1172 : decode cL_law 1172 = .ok (.aload_n 0, 1) := by decide +kernel
theorem dL_law_1173 : decode cL_law 1173 = .ok (.iload 4, 2) := by decide +kernel
theorem dL_law_1175 : decode cL_law 1175 = .ok (.iconst 2, 1) := by decide +kernel
theorem dL_law_1176 : decode cL_law 1176 = .ok (.iadd, 1) := by decide +kernel
theorem dL_law_1177 : decode cL_law 1177 = .ok (.iaload, 1) := by decide +kernel
theorem dL_law_1178 : decode cL_law 1178 = .ok (.aload_n 3, 1) := by decide +kernel
theorem dL_law_1179 : decode cL_law 1179 = .ok (.invokestatic 193, 3) := by decide +kernel
theorem dL_law_1182 : decode cL_law 1182 = .ok (.istore 5, 2) := by decide +kernel
theorem dL_law_1184 : decode cL_law 1184 = .ok (.aload_n 2, 1) := by decide +kernel
theorem dL_law_1185 : decode cL_law 1185 = .ok (.aload_n 0, 1) := by decide +kernel
theorem dL_law_1186 : decode cL_law 1186 = .ok (.iload 4, 2) := by decide +kernel
theorem dL_law_1188 : decode cL_law 1188 = .ok (.iconst 1, 1) := by decide +kernel
theorem dL_law_1189 : decode cL_law 1189 = .ok (.iadd, 1) := by decide +kernel
theorem dL_law_1190 : decode cL_law 1190 = .ok (.iaload, 1) := by decide +kernel
theorem dL_law_1191 : decode cL_law 1191 = .ok (.aload_n 0, 1) := by decide +kernel
theorem dL_law_1192 : decode cL_law 1192 = .ok (.iload 4, 2) := by decide +kernel
theorem dL_law_1194 : decode cL_law 1194 = .ok (.iconst 2, 1) := by decide +kernel
theorem dL_law_1195 : decode cL_law 1195 = .ok (.iadd, 1) := by decide +kernel
theorem dL_law_1196 : decode cL_law 1196 = .ok (.iaload, 1) := by decide +kernel
theorem dL_law_1197 : decode cL_law 1197 = .ok (.invokevirtual 195, 3) := by decide +kernel
theorem dL_law_1200 : decode cL_law 1200 = .ok (.istore 6, 2) := by decide +kernel
theorem dL_law_1202 : decode cL_law 1202 = .ok (.goto 57, 3) := by decide +kernel
theorem dL_law_1205 : decode cL_law 1205 = .ok (.aload_n 1, 1) := by decide +kernel
theorem dL_law_1206 : decode cL_law 1206 = .ok (.aload_n 0, 1) := by decide +kernel
theorem dL_law_1207 : decode cL_law 1207 = .ok (.iload 4, 2) := by decide +kernel
theorem dL_law_1209 : decode cL_law 1209 = .ok (.iconst 1, 1) := by decide +kernel
theorem dL_law_1210 : decode cL_law 1210 = .ok (.iadd, 1) := by decide +kernel
theorem dL_law_1211 : decode cL_law 1211 = .ok (.iaload, 1) := by decide +kernel
theorem dL_law_1212 : decode cL_law 1212 = .ok (.aload_n 3, 1) := by decide +kernel
theorem dL_law_1213 : decode cL_law 1213 = .ok (.invokestatic 196, 3) := by decide +kernel
theorem dL_law_1216 : decode cL_law 1216 = .ok (.istore 5, 2) := by decide +kernel
theorem dL_law_1218 : decode cL_law 1218 = .ok (.aload_n 2, 1) := by decide +kernel
theorem dL_law_1219 : decode cL_law 1219 = .ok (.aload_n 0, 1) := by decide +kernel
theorem dL_law_1220 : decode cL_law 1220 = .ok (.iload 4, 2) := by decide +kernel
theorem dL_law_1222 : decode cL_law 1222 = .ok (.iconst 1, 1) := by decide +kernel
theorem dL_law_1223 : decode cL_law 1223 = .ok (.iadd, 1) := by decide +kernel
theorem dL_law_1224 : decode cL_law 1224 = .ok (.iaload, 1) := by decide +kernel
theorem dL_law_1225 : decode cL_law 1225 = .ok (.invokevirtual 198, 3) := by decide +kernel
theorem dL_law_1228 : decode cL_law 1228 = .ok (.istore 6, 2) := by decide +kernel
theorem dL_law_1230 : decode cL_law 1230 = .ok (.goto 29, 3) := by decide +kernel
theorem dL_law_1233 : decode cL_law 1233 = .ok (.aload_n 1, 1) := by decide +kernel
theorem dL_law_1234 : decode cL_law 1234 = .ok (.invokevirtual 199, 3) := by decide +kernel
theorem dL_law_1237 : decode cL_law 1237 = .ok (.pop, 1) := by decide +kernel
theorem dL_law_1238 : decode cL_law 1238 = .ok (.aload_n 2, 1) := by decide +kernel
theorem dL_law_1239 : decode cL_law 1239 = .ok (.invokevirtual 203, 3) := by decide +kernel
theorem dL_law_1242 : decode cL_law 1242 = .ok (.pop, 1) := by decide +kernel
theorem dL_law_1243 : decode cL_law 1243 = .ok (.goto 16, 3) := by decide +kernel
theorem dL_law_1246 : decode cL_law 1246 = .ok (.aload_n 1, 1) := by decide +kernel
theorem dL_law_1247 : decode cL_law 1247 = .ok (.invokevirtual 204, 3) := by decide +kernel
theorem dL_law_1250 : decode cL_law 1250 = .ok (.pop2, 1) := by decide +kernel
theorem dL_law_1251 : decode cL_law 1251 = .ok (.aload_n 2, 1) := by decide +kernel
theorem dL_law_1252 : decode cL_law 1252 = .ok (.invokevirtual 208, 3) := by decide +kernel
theorem dL_law_1255 : decode cL_law 1255 = .ok (.pop2, 1) := by decide +kernel
theorem dL_law_1256 : decode cL_law 1256 = .ok (.goto 3, 3) := by decide +kernel
theorem dL_law_1259 : decode cL_law 1259 = .ok (.iinc 4 5, 3) := by decide +kernel
theorem dL_law_1262 : decode cL_law 1262 = .ok (.goto (-1235), 3) := by decide +kernel
theorem dL_law_1265 : decode cL_law 1265 = .ok (.iconst 1, 1) := by decide +kernel
theorem dL_law_1266 : decode cL_law 1266 = .ok (.ireturn, 1) := by decide +kernel
